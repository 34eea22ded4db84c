theorem ddX0_init_0 : decode mX0_init.2.1 0 = .ok (.aload_n 0, 1) := dX0_init_0
theorem ddX0_init_1 : decode mX0_init.2.1 1 = .ok (.invokespecial 3, 3) := dX0_init_1
theorem ddX0_init_4 : decode mX0_init.2.1 4 = .ok (.aload_n 0, 1) := dX0_init_4
theorem ddX0_init_5 : decode mX0_init.2.1 5 = .ok (.bipush 20, 2) := dX0_init_5
theorem ddX0_init_7 : decode mX0_init.2.1 7 = .ok (.newarray .int, 2) := dX0_init_7
theorem ddX0_init_9 : decode mX0_init.2.1 9 = .ok (.putfield 11, 3) := dX0_init_9
theorem ddX0_init_12 : decode mX0_init.2.1 12 = .ok (.aload_n 0, 1) := dX0_init_12
theorem ddX0_init_13 : decode mX0_init.2.1 13 = .ok (.bipush 20, 2) := dX0_init_13
theorem ddX0_init_15 : decode mX0_init.2.1 15 = .ok (.newarray .int, 2) := dX0_init_15
theorem ddX0_init_17 : decode mX0_init.2.1 17 = .ok (.putfield 15, 3) := dX0_init_17
theorem ddX0_init_20 : decode mX0_init.2.1 20 = .ok (.return_, 1) := dX0_init_20
theorem ddX0_empty_0 : decode mX0_empty.2.1 0 = .ok (.aload_n 0, 1) := dX0_empty_0
theorem ddX0_empty_1 : decode mX0_empty.2.1 1 = .ok (.iconst 0, 1) := dX0_empty_1
theorem ddX0_empty_2 : decode mX0_empty.2.1 2 = .ok (.putfield 18, 3) := dX0_empty_2
theorem ddX0_empty_5 : decode mX0_empty.2.1 5 = .ok (.return_, 1) := dX0_empty_5
theorem ddX0_addEntry_0 : decode mX0_addEntry.2.1 0 = .ok (.aload_n 0, 1) := dX0_addEntry_0
theorem ddX0_addEntry_1 : decode mX0_addEntry.2.1 1 = .ok (.getfield 18, 3) := dX0_addEntry_1
theorem ddX0_addEntry_4 : decode mX0_addEntry.2.1 4 = .ok (.bipush 20, 2) := dX0_addEntry_4
theorem ddX0_addEntry_6 : decode mX0_addEntry.2.1 6 = .ok (.if_icmp .lt 6, 3) := dX0_addEntry_6
theorem ddX0_addEntry_9 : decode mX0_addEntry.2.1 9 = .ok (.ldc 22, 2) := dX0_addEntry_9
theorem ddX0_addEntry_11 : decode mX0_addEntry.2.1 11 = .ok (.ireturn, 1) := dX0_addEntry_11
theorem ddX0_addEntry_12 : decode mX0_addEntry.2.1 12 = .ok (.aload_n 0, 1) := dX0_addEntry_12
theorem ddX0_addEntry_13 : decode mX0_addEntry.2.1 13 = .ok (.getfield 11, 3) := dX0_addEntry_13
theorem ddX0_addEntry_16 : decode mX0_addEntry.2.1 16 = .ok (.aload_n 0, 1) := dX0_addEntry_16
theorem ddX0_addEntry_17 : decode mX0_addEntry.2.1 17 = .ok (.getfield 18, 3) := dX0_addEntry_17
theorem ddX0_addEntry_20 : decode mX0_addEntry.2.1 20 = .ok (.iload_n 1, 1) := dX0_addEntry_20
theorem ddX0_addEntry_21 : decode mX0_addEntry.2.1 21 = .ok (.iastore, 1) := dX0_addEntry_21
theorem ddX0_addEntry_22 : decode mX0_addEntry.2.1 22 = .ok (.aload_n 0, 1) := dX0_addEntry_22
theorem ddX0_addEntry_23 : decode mX0_addEntry.2.1 23 = .ok (.getfield 15, 3) := dX0_addEntry_23
theorem ddX0_addEntry_26 : decode mX0_addEntry.2.1 26 = .ok (.aload_n 0, 1) := dX0_addEntry_26
theorem ddX0_addEntry_27 : decode mX0_addEntry.2.1 27 = .ok (.getfield 18, 3) := dX0_addEntry_27
theorem ddX0_addEntry_30 : decode mX0_addEntry.2.1 30 = .ok (.iload_n 2, 1) := dX0_addEntry_30
theorem ddX0_addEntry_31 : decode mX0_addEntry.2.1 31 = .ok (.iastore, 1) := dX0_addEntry_31
theorem ddX0_addEntry_32 : decode mX0_addEntry.2.1 32 = .ok (.aload_n 0, 1) := dX0_addEntry_32
theorem ddX0_addEntry_33 : decode mX0_addEntry.2.1 33 = .ok (.dup, 1) := dX0_addEntry_33
theorem ddX0_addEntry_34 : decode mX0_addEntry.2.1 34 = .ok (.getfield 18, 3) := dX0_addEntry_34
theorem ddX0_addEntry_37 : decode mX0_addEntry.2.1 37 = .ok (.iconst 1, 1) := dX0_addEntry_37
theorem ddX0_addEntry_38 : decode mX0_addEntry.2.1 38 = .ok (.iadd, 1) := dX0_addEntry_38
theorem ddX0_addEntry_39 : decode mX0_addEntry.2.1 39 = .ok (.putfield 18, 3) := dX0_addEntry_39
theorem ddX0_addEntry_42 : decode mX0_addEntry.2.1 42 = .ok (.aload_n 0, 1) := dX0_addEntry_42
theorem ddX0_addEntry_43 : decode mX0_addEntry.2.1 43 = .ok (.getfield 18, 3) := dX0_addEntry_43
theorem ddX0_addEntry_46 : decode mX0_addEntry.2.1 46 = .ok (.ireturn, 1) := dX0_addEntry_46
theorem ddX0_firstWrong_0 : decode mX0_firstWrong.2.1 0 = .ok (.iconst 0, 1) := dX0_firstWrong_0
theorem ddX0_firstWrong_1 : decode mX0_firstWrong.2.1 1 = .ok (.istore_n 3, 1) := dX0_firstWrong_1
theorem ddX0_firstWrong_2 : decode mX0_firstWrong.2.1 2 = .ok (.iload_n 3, 1) := dX0_firstWrong_2
theorem ddX0_firstWrong_3 : decode mX0_firstWrong.2.1 3 = .ok (.aload_n 0, 1) := dX0_firstWrong_3
theorem ddX0_firstWrong_4 : decode mX0_firstWrong.2.1 4 = .ok (.getfield 18, 3) := dX0_firstWrong_4
theorem ddX0_firstWrong_7 : decode mX0_firstWrong.2.1 7 = .ok (.if_icmp .ge 44, 3) := dX0_firstWrong_7
theorem ddX0_firstWrong_10 : decode mX0_firstWrong.2.1 10 = .ok (.aload_n 0, 1) := dX0_firstWrong_10
theorem ddX0_firstWrong_11 : decode mX0_firstWrong.2.1 11 = .ok (.getfield 11, 3) := dX0_firstWrong_11
theorem ddX0_firstWrong_14 : decode mX0_firstWrong.2.1 14 = .ok (.iload_n 3, 1) := dX0_firstWrong_14
theorem ddX0_firstWrong_15 : decode mX0_firstWrong.2.1 15 = .ok (.iaload, 1) := dX0_firstWrong_15
theorem ddX0_firstWrong_16 : decode mX0_firstWrong.2.1 16 = .ok (.istore 4, 2) := dX0_firstWrong_16
theorem ddX0_firstWrong_18 : decode mX0_firstWrong.2.1 18 = .ok (.aload_n 1, 1) := dX0_firstWrong_18
theorem ddX0_firstWrong_19 : decode mX0_firstWrong.2.1 19 = .ok (.iload 4, 2) := dX0_firstWrong_19
theorem ddX0_firstWrong_21 : decode mX0_firstWrong.2.1 21 = .ok (.invokevirtual 23, 3) := dX0_firstWrong_21
theorem ddX0_firstWrong_24 : decode mX0_firstWrong.2.1 24 = .ok (.ifCond .eq 19, 3) := dX0_firstWrong_24
theorem ddX0_firstWrong_27 : decode mX0_firstWrong.2.1 27 = .ok (.aload_n 2, 1) := dX0_firstWrong_27
theorem ddX0_firstWrong_28 : decode mX0_firstWrong.2.1 28 = .ok (.getfield 29, 3) := dX0_firstWrong_28
theorem ddX0_firstWrong_31 : decode mX0_firstWrong.2.1 31 = .ok (.iload 4, 2) := dX0_firstWrong_31
theorem ddX0_firstWrong_33 : decode mX0_firstWrong.2.1 33 = .ok (.iaload, 1) := dX0_firstWrong_33
theorem ddX0_firstWrong_34 : decode mX0_firstWrong.2.1 34 = .ok (.aload_n 0, 1) := dX0_firstWrong_34
theorem ddX0_firstWrong_35 : decode mX0_firstWrong.2.1 35 = .ok (.getfield 15, 3) := dX0_firstWrong_35
theorem ddX0_firstWrong_38 : decode mX0_firstWrong.2.1 38 = .ok (.iload_n 3, 1) := dX0_firstWrong_38
theorem ddX0_firstWrong_39 : decode mX0_firstWrong.2.1 39 = .ok (.iaload, 1) := dX0_firstWrong_39
theorem ddX0_firstWrong_40 : decode mX0_firstWrong.2.1 40 = .ok (.if_icmp .eq 5, 3) := dX0_firstWrong_40
theorem ddX0_firstWrong_43 : decode mX0_firstWrong.2.1 43 = .ok (.iload_n 3, 1) := dX0_firstWrong_43
theorem ddX0_firstWrong_44 : decode mX0_firstWrong.2.1 44 = .ok (.ireturn, 1) := dX0_firstWrong_44
theorem ddX0_firstWrong_45 : decode mX0_firstWrong.2.1 45 = .ok (.iinc 3 1, 3) := dX0_firstWrong_45
theorem ddX0_firstWrong_48 : decode mX0_firstWrong.2.1 48 = .ok (.goto (-46), 3) := dX0_firstWrong_48
theorem ddX0_firstWrong_51 : decode mX0_firstWrong.2.1 51 = .ok (.iconst (-1), 1) := dX0_firstWrong_51
theorem ddX0_firstWrong_52 : decode mX0_firstWrong.2.1 52 = .ok (.ireturn, 1) := dX0_firstWrong_52
theorem ddX1_init_0 : decode mX1_init.2.1 0 = .ok (.aload_n 0, 1) := dX1_init_0
theorem ddX1_init_1 : decode mX1_init.2.1 1 = .ok (.invokespecial 1, 3) := dX1_init_1
theorem ddX1_init_4 : decode mX1_init.2.1 4 = .ok (.return_, 1) := dX1_init_4
theorem ddX1_draw_0 : decode mX1_draw.2.1 0 = .ok (.aload_n 0, 1) := dX1_draw_0
theorem ddX1_draw_1 : decode mX1_draw.2.1 1 = .ok (.aload_n 0, 1) := dX1_draw_1
theorem ddX1_draw_2 : decode mX1_draw.2.1 2 = .ok (.getfield 7, 3) := dX1_draw_2
theorem ddX1_draw_5 : decode mX1_draw.2.1 5 = .ok (.i2l, 1) := dX1_draw_5
theorem ddX1_draw_6 : decode mX1_draw.2.1 6 = .ok (.ldc2_w 13, 3) := dX1_draw_6
theorem ddX1_draw_9 : decode mX1_draw.2.1 9 = .ok (.lmul, 1) := dX1_draw_9
theorem ddX1_draw_10 : decode mX1_draw.2.1 10 = .ok (.ldc2_w 15, 3) := dX1_draw_10
theorem ddX1_draw_13 : decode mX1_draw.2.1 13 = .ok (.ladd, 1) := dX1_draw_13
theorem ddX1_draw_14 : decode mX1_draw.2.1 14 = .ok (.ldc2_w 17, 3) := dX1_draw_14
theorem ddX1_draw_17 : decode mX1_draw.2.1 17 = .ok (.land, 1) := dX1_draw_17
theorem ddX1_draw_18 : decode mX1_draw.2.1 18 = .ok (.l2i, 1) := dX1_draw_18
theorem ddX1_draw_19 : decode mX1_draw.2.1 19 = .ok (.putfield 7, 3) := dX1_draw_19
theorem ddX1_draw_22 : decode mX1_draw.2.1 22 = .ok (.iload_n 1, 1) := dX1_draw_22
theorem ddX1_draw_23 : decode mX1_draw.2.1 23 = .ok (.ifCond .le 15, 3) := dX1_draw_23
theorem ddX1_draw_26 : decode mX1_draw.2.1 26 = .ok (.aload_n 0, 1) := dX1_draw_26
theorem ddX1_draw_27 : decode mX1_draw.2.1 27 = .ok (.getfield 7, 3) := dX1_draw_27
theorem ddX1_draw_30 : decode mX1_draw.2.1 30 = .ok (.ldc 19, 2) := dX1_draw_30
theorem ddX1_draw_32 : decode mX1_draw.2.1 32 = .ok (.idiv, 1) := dX1_draw_32
theorem ddX1_draw_33 : decode mX1_draw.2.1 33 = .ok (.iload_n 1, 1) := dX1_draw_33
theorem ddX1_draw_34 : decode mX1_draw.2.1 34 = .ok (.irem, 1) := dX1_draw_34
theorem ddX1_draw_35 : decode mX1_draw.2.1 35 = .ok (.goto 4, 3) := dX1_draw_35
theorem ddX1_draw_38 : decode mX1_draw.2.1 38 = .ok (.iconst 0, 1) := dX1_draw_38
theorem ddX1_draw_39 : decode mX1_draw.2.1 39 = .ok (.ireturn, 1) := dX1_draw_39
theorem ddX2_init_0 : decode mX2_init.2.1 0 = .ok (.aload_n 0, 1) := dX2_init_0
theorem ddX2_init_1 : decode mX2_init.2.1 1 = .ok (.invokespecial 1, 3) := dX2_init_1
theorem ddX2_init_4 : decode mX2_init.2.1 4 = .ok (.aload_n 0, 1) := dX2_init_4
theorem ddX2_init_5 : decode mX2_init.2.1 5 = .ok (.new 7, 3) := dX2_init_5
theorem ddX2_init_8 : decode mX2_init.2.1 8 = .ok (.dup, 1) := dX2_init_8
theorem ddX2_init_9 : decode mX2_init.2.1 9 = .ok (.invokespecial 9, 3) := dX2_init_9
theorem ddX2_init_12 : decode mX2_init.2.1 12 = .ok (.putfield 10, 3) := dX2_init_12
theorem ddX2_init_15 : decode mX2_init.2.1 15 = .ok (.return_, 1) := dX2_init_15
theorem ddX2_forget_0 : decode mX2_forget.2.1 0 = .ok (.aload_n 0, 1) := dX2_forget_0
theorem ddX2_forget_1 : decode mX2_forget.2.1 1 = .ok (.iconst 0, 1) := dX2_forget_1
theorem ddX2_forget_2 : decode mX2_forget.2.1 2 = .ok (.putfield 16, 3) := dX2_forget_2
theorem ddX2_forget_5 : decode mX2_forget.2.1 5 = .ok (.return_, 1) := dX2_forget_5
theorem ddX2_take_0 : decode mX2_take.2.1 0 = .ok (.aload_n 0, 1) := dX2_take_0
theorem ddX2_take_1 : decode mX2_take.2.1 1 = .ok (.getfield 10, 3) := dX2_take_1
theorem ddX2_take_4 : decode mX2_take.2.1 4 = .ok (.aload_n 1, 1) := dX2_take_4
theorem ddX2_take_5 : decode mX2_take.2.1 5 = .ok (.invokevirtual 20, 3) := dX2_take_5
theorem ddX2_take_8 : decode mX2_take.2.1 8 = .ok (.aload_n 0, 1) := dX2_take_8
theorem ddX2_take_9 : decode mX2_take.2.1 9 = .ok (.aload_n 2, 1) := dX2_take_9
theorem ddX2_take_10 : decode mX2_take.2.1 10 = .ok (.getfield 24, 3) := dX2_take_10
theorem ddX2_take_13 : decode mX2_take.2.1 13 = .ok (.putfield 30, 3) := dX2_take_13
theorem ddX2_take_16 : decode mX2_take.2.1 16 = .ok (.aload_n 0, 1) := dX2_take_16
theorem ddX2_take_17 : decode mX2_take.2.1 17 = .ok (.iconst 1, 1) := dX2_take_17
theorem ddX2_take_18 : decode mX2_take.2.1 18 = .ok (.putfield 16, 3) := dX2_take_18
theorem ddX2_take_21 : decode mX2_take.2.1 21 = .ok (.return_, 1) := dX2_take_21
theorem ddX2_give_0 : decode mX2_give.2.1 0 = .ok (.aload_n 1, 1) := dX2_give_0
theorem ddX2_give_1 : decode mX2_give.2.1 1 = .ok (.aload_n 0, 1) := dX2_give_1
theorem ddX2_give_2 : decode mX2_give.2.1 2 = .ok (.getfield 10, 3) := dX2_give_2
theorem ddX2_give_5 : decode mX2_give.2.1 5 = .ok (.invokevirtual 20, 3) := dX2_give_5
theorem ddX2_give_8 : decode mX2_give.2.1 8 = .ok (.aload_n 2, 1) := dX2_give_8
theorem ddX2_give_9 : decode mX2_give.2.1 9 = .ok (.aload_n 0, 1) := dX2_give_9
theorem ddX2_give_10 : decode mX2_give.2.1 10 = .ok (.getfield 30, 3) := dX2_give_10
theorem ddX2_give_13 : decode mX2_give.2.1 13 = .ok (.putfield 24, 3) := dX2_give_13
theorem ddX2_give_16 : decode mX2_give.2.1 16 = .ok (.return_, 1) := dX2_give_16
theorem ddX3_isLevel_0 : decode mX3_isLevel.2.1 0 = .ok (.iload_n 0, 1) := dX3_isLevel_0
theorem ddX3_isLevel_1 : decode mX3_isLevel.2.1 1 = .ok (.ifCond .lt 12, 3) := dX3_isLevel_1
theorem ddX3_isLevel_4 : decode mX3_isLevel.2.1 4 = .ok (.iload_n 0, 1) := dX3_isLevel_4
theorem ddX3_isLevel_5 : decode mX3_isLevel.2.1 5 = .ok (.iconst 3, 1) := dX3_isLevel_5
theorem ddX3_isLevel_6 : decode mX3_isLevel.2.1 6 = .ok (.if_icmp .gt 7, 3) := dX3_isLevel_6
theorem ddX3_isLevel_9 : decode mX3_isLevel.2.1 9 = .ok (.iconst 1, 1) := dX3_isLevel_9
theorem ddX3_isLevel_10 : decode mX3_isLevel.2.1 10 = .ok (.goto 4, 3) := dX3_isLevel_10
theorem ddX3_isLevel_13 : decode mX3_isLevel.2.1 13 = .ok (.iconst 0, 1) := dX3_isLevel_13
theorem ddX3_isLevel_14 : decode mX3_isLevel.2.1 14 = .ok (.ireturn, 1) := dX3_isLevel_14
theorem ddX3_join_0 : decode mX3_join.2.1 0 = .ok (.iload_n 0, 1) := dX3_join_0
theorem ddX3_join_1 : decode mX3_join.2.1 1 = .ok (.iconst 2, 1) := dX3_join_1
theorem ddX3_join_2 : decode mX3_join.2.1 2 = .ok (.if_icmp .eq 8, 3) := dX3_join_2
theorem ddX3_join_5 : decode mX3_join.2.1 5 = .ok (.iload_n 0, 1) := dX3_join_5
theorem ddX3_join_6 : decode mX3_join.2.1 6 = .ok (.iload_n 1, 1) := dX3_join_6
theorem ddX3_join_7 : decode mX3_join.2.1 7 = .ok (.if_icmp .ne 5, 3) := dX3_join_7
theorem ddX3_join_10 : decode mX3_join.2.1 10 = .ok (.iload_n 1, 1) := dX3_join_10
theorem ddX3_join_11 : decode mX3_join.2.1 11 = .ok (.ireturn, 1) := dX3_join_11
theorem ddX3_join_12 : decode mX3_join.2.1 12 = .ok (.iload_n 1, 1) := dX3_join_12
theorem ddX3_join_13 : decode mX3_join.2.1 13 = .ok (.iconst 2, 1) := dX3_join_13
theorem ddX3_join_14 : decode mX3_join.2.1 14 = .ok (.if_icmp .ne 7, 3) := dX3_join_14
theorem ddX3_join_17 : decode mX3_join.2.1 17 = .ok (.iload_n 0, 1) := dX3_join_17
theorem ddX3_join_18 : decode mX3_join.2.1 18 = .ok (.goto 4, 3) := dX3_join_18
theorem ddX3_join_21 : decode mX3_join.2.1 21 = .ok (.iconst 3, 1) := dX3_join_21
theorem ddX3_join_22 : decode mX3_join.2.1 22 = .ok (.ireturn, 1) := dX3_join_22
theorem ddX3_outcome_0 : decode mX3_outcome.2.1 0 = .ok (.iload_n 1, 1) := dX3_outcome_0
theorem ddX3_outcome_1 : decode mX3_outcome.2.1 1 = .ok (.iconst 2, 1) := dX3_outcome_1
theorem ddX3_outcome_2 : decode mX3_outcome.2.1 2 = .ok (.if_icmp .ne 7, 3) := dX3_outcome_2
theorem ddX3_outcome_5 : decode mX3_outcome.2.1 5 = .ok (.iconst 3, 1) := dX3_outcome_5
theorem ddX3_outcome_6 : decode mX3_outcome.2.1 6 = .ok (.goto 4, 3) := dX3_outcome_6
theorem ddX3_outcome_9 : decode mX3_outcome.2.1 9 = .ok (.iload_n 1, 1) := dX3_outcome_9
theorem ddX3_outcome_10 : decode mX3_outcome.2.1 10 = .ok (.istore 4, 2) := dX3_outcome_10
theorem ddX3_outcome_12 : decode mX3_outcome.2.1 12 = .ok (.iload_n 2, 1) := dX3_outcome_12
theorem ddX3_outcome_13 : decode mX3_outcome.2.1 13 = .ok (.iconst 2, 1) := dX3_outcome_13
theorem ddX3_outcome_14 : decode mX3_outcome.2.1 14 = .ok (.if_icmp .ne 7, 3) := dX3_outcome_14
theorem ddX3_outcome_17 : decode mX3_outcome.2.1 17 = .ok (.iconst 3, 1) := dX3_outcome_17
theorem ddX3_outcome_18 : decode mX3_outcome.2.1 18 = .ok (.goto 4, 3) := dX3_outcome_18
theorem ddX3_outcome_21 : decode mX3_outcome.2.1 21 = .ok (.iload_n 2, 1) := dX3_outcome_21
theorem ddX3_outcome_22 : decode mX3_outcome.2.1 22 = .ok (.istore 5, 2) := dX3_outcome_22
theorem ddX3_outcome_24 : decode mX3_outcome.2.1 24 = .ok (.iload 4, 2) := dX3_outcome_24
theorem ddX3_outcome_26 : decode mX3_outcome.2.1 26 = .ok (.iconst 3, 1) := dX3_outcome_26
theorem ddX3_outcome_27 : decode mX3_outcome.2.1 27 = .ok (.if_icmp .eq 9, 3) := dX3_outcome_27
theorem ddX3_outcome_30 : decode mX3_outcome.2.1 30 = .ok (.iload 5, 2) := dX3_outcome_30
theorem ddX3_outcome_32 : decode mX3_outcome.2.1 32 = .ok (.iconst 3, 1) := dX3_outcome_32
theorem ddX3_outcome_33 : decode mX3_outcome.2.1 33 = .ok (.if_icmp .ne 7, 3) := dX3_outcome_33
theorem ddX3_outcome_36 : decode mX3_outcome.2.1 36 = .ok (.iconst 1, 1) := dX3_outcome_36
theorem ddX3_outcome_37 : decode mX3_outcome.2.1 37 = .ok (.goto 4, 3) := dX3_outcome_37
theorem ddX3_outcome_40 : decode mX3_outcome.2.1 40 = .ok (.iconst 0, 1) := dX3_outcome_40
theorem ddX3_outcome_41 : decode mX3_outcome.2.1 41 = .ok (.istore 6, 2) := dX3_outcome_41
theorem ddX3_outcome_43 : decode mX3_outcome.2.1 43 = .ok (.iload_n 0, 1) := dX3_outcome_43
theorem ddX3_outcome_44 : decode mX3_outcome.2.1 44 = .ok (.tableswitch 140 0 4 #[36, 51, 76, 103, 118], 36) := dX3_outcome_44
theorem ddX3_outcome_80 : decode mX3_outcome.2.1 80 = .ok (.iload 4, 2) := dX3_outcome_80
theorem ddX3_outcome_82 : decode mX3_outcome.2.1 82 = .ok (.iconst 3, 1) := dX3_outcome_82
theorem ddX3_outcome_83 : decode mX3_outcome.2.1 83 = .ok (.if_icmp .ne 7, 3) := dX3_outcome_83
theorem ddX3_outcome_86 : decode mX3_outcome.2.1 86 = .ok (.iconst 3, 1) := dX3_outcome_86
theorem ddX3_outcome_87 : decode mX3_outcome.2.1 87 = .ok (.goto 7, 3) := dX3_outcome_87
theorem ddX3_outcome_90 : decode mX3_outcome.2.1 90 = .ok (.iconst 1, 1) := dX3_outcome_90
theorem ddX3_outcome_91 : decode mX3_outcome.2.1 91 = .ok (.iload 4, 2) := dX3_outcome_91
theorem ddX3_outcome_93 : decode mX3_outcome.2.1 93 = .ok (.isub, 1) := dX3_outcome_93
theorem ddX3_outcome_94 : decode mX3_outcome.2.1 94 = .ok (.ireturn, 1) := dX3_outcome_94
theorem ddX3_outcome_95 : decode mX3_outcome.2.1 95 = .ok (.iload 4, 2) := dX3_outcome_95
theorem ddX3_outcome_97 : decode mX3_outcome.2.1 97 = .ok (.ifCond .eq 8, 3) := dX3_outcome_97
theorem ddX3_outcome_100 : decode mX3_outcome.2.1 100 = .ok (.iload 5, 2) := dX3_outcome_100
theorem ddX3_outcome_102 : decode mX3_outcome.2.1 102 = .ok (.ifCond .ne 7, 3) := dX3_outcome_102
theorem ddX3_outcome_105 : decode mX3_outcome.2.1 105 = .ok (.iconst 0, 1) := dX3_outcome_105
theorem ddX3_outcome_106 : decode mX3_outcome.2.1 106 = .ok (.goto 13, 3) := dX3_outcome_106
theorem ddX3_outcome_109 : decode mX3_outcome.2.1 109 = .ok (.iload 6, 2) := dX3_outcome_109
theorem ddX3_outcome_111 : decode mX3_outcome.2.1 111 = .ok (.ifCond .eq 7, 3) := dX3_outcome_111
theorem ddX3_outcome_114 : decode mX3_outcome.2.1 114 = .ok (.iconst 3, 1) := dX3_outcome_114
theorem ddX3_outcome_115 : decode mX3_outcome.2.1 115 = .ok (.goto 4, 3) := dX3_outcome_115
theorem ddX3_outcome_118 : decode mX3_outcome.2.1 118 = .ok (.iconst 1, 1) := dX3_outcome_118
theorem ddX3_outcome_119 : decode mX3_outcome.2.1 119 = .ok (.ireturn, 1) := dX3_outcome_119
theorem ddX3_outcome_120 : decode mX3_outcome.2.1 120 = .ok (.iload 4, 2) := dX3_outcome_120
theorem ddX3_outcome_122 : decode mX3_outcome.2.1 122 = .ok (.iconst 1, 1) := dX3_outcome_122
theorem ddX3_outcome_123 : decode mX3_outcome.2.1 123 = .ok (.if_icmp .eq 9, 3) := dX3_outcome_123
theorem ddX3_outcome_126 : decode mX3_outcome.2.1 126 = .ok (.iload 5, 2) := dX3_outcome_126
theorem ddX3_outcome_128 : decode mX3_outcome.2.1 128 = .ok (.iconst 1, 1) := dX3_outcome_128
theorem ddX3_outcome_129 : decode mX3_outcome.2.1 129 = .ok (.if_icmp .ne 7, 3) := dX3_outcome_129
theorem ddX3_outcome_132 : decode mX3_outcome.2.1 132 = .ok (.iconst 1, 1) := dX3_outcome_132
theorem ddX3_outcome_133 : decode mX3_outcome.2.1 133 = .ok (.goto 13, 3) := dX3_outcome_133
theorem ddX3_outcome_136 : decode mX3_outcome.2.1 136 = .ok (.iload 6, 2) := dX3_outcome_136
theorem ddX3_outcome_138 : decode mX3_outcome.2.1 138 = .ok (.ifCond .eq 7, 3) := dX3_outcome_138
theorem ddX3_outcome_141 : decode mX3_outcome.2.1 141 = .ok (.iconst 3, 1) := dX3_outcome_141
theorem ddX3_outcome_142 : decode mX3_outcome.2.1 142 = .ok (.goto 4, 3) := dX3_outcome_142
theorem ddX3_outcome_145 : decode mX3_outcome.2.1 145 = .ok (.iconst 0, 1) := dX3_outcome_145
theorem ddX3_outcome_146 : decode mX3_outcome.2.1 146 = .ok (.ireturn, 1) := dX3_outcome_146
theorem ddX3_outcome_147 : decode mX3_outcome.2.1 147 = .ok (.iload 6, 2) := dX3_outcome_147
theorem ddX3_outcome_149 : decode mX3_outcome.2.1 149 = .ok (.ifCond .eq 7, 3) := dX3_outcome_149
theorem ddX3_outcome_152 : decode mX3_outcome.2.1 152 = .ok (.iconst 3, 1) := dX3_outcome_152
theorem ddX3_outcome_153 : decode mX3_outcome.2.1 153 = .ok (.goto 8, 3) := dX3_outcome_153
theorem ddX3_outcome_156 : decode mX3_outcome.2.1 156 = .ok (.iload 4, 2) := dX3_outcome_156
theorem ddX3_outcome_158 : decode mX3_outcome.2.1 158 = .ok (.iload 5, 2) := dX3_outcome_158
theorem ddX3_outcome_160 : decode mX3_outcome.2.1 160 = .ok (.ixor, 1) := dX3_outcome_160
theorem ddX3_outcome_161 : decode mX3_outcome.2.1 161 = .ok (.ireturn, 1) := dX3_outcome_161
theorem ddX3_outcome_162 : decode mX3_outcome.2.1 162 = .ok (.iload 5, 2) := dX3_outcome_162
theorem ddX3_outcome_164 : decode mX3_outcome.2.1 164 = .ok (.ifCond .ne 7, 3) := dX3_outcome_164
theorem ddX3_outcome_167 : decode mX3_outcome.2.1 167 = .ok (.iconst 2, 1) := dX3_outcome_167
theorem ddX3_outcome_168 : decode mX3_outcome.2.1 168 = .ok (.goto 15, 3) := dX3_outcome_168
theorem ddX3_outcome_171 : decode mX3_outcome.2.1 171 = .ok (.iload 5, 2) := dX3_outcome_171
theorem ddX3_outcome_173 : decode mX3_outcome.2.1 173 = .ok (.iconst 1, 1) := dX3_outcome_173
theorem ddX3_outcome_174 : decode mX3_outcome.2.1 174 = .ok (.if_icmp .ne 8, 3) := dX3_outcome_174
theorem ddX3_outcome_177 : decode mX3_outcome.2.1 177 = .ok (.iload 4, 2) := dX3_outcome_177
theorem ddX3_outcome_179 : decode mX3_outcome.2.1 179 = .ok (.goto 4, 3) := dX3_outcome_179
theorem ddX3_outcome_182 : decode mX3_outcome.2.1 182 = .ok (.iconst 3, 1) := dX3_outcome_182
theorem ddX3_outcome_183 : decode mX3_outcome.2.1 183 = .ok (.ireturn, 1) := dX3_outcome_183
theorem ddX3_outcome_184 : decode mX3_outcome.2.1 184 = .ok (.iload 5, 2) := dX3_outcome_184
theorem ddX3_outcome_186 : decode mX3_outcome.2.1 186 = .ok (.iconst 1, 1) := dX3_outcome_186
theorem ddX3_outcome_187 : decode mX3_outcome.2.1 187 = .ok (.if_icmp .ne 8, 3) := dX3_outcome_187
theorem ddX3_outcome_190 : decode mX3_outcome.2.1 190 = .ok (.iload 4, 2) := dX3_outcome_190
theorem ddX3_outcome_192 : decode mX3_outcome.2.1 192 = .ok (.goto 4, 3) := dX3_outcome_192
theorem ddX3_outcome_195 : decode mX3_outcome.2.1 195 = .ok (.iload_n 3, 1) := dX3_outcome_195
theorem ddX3_outcome_196 : decode mX3_outcome.2.1 196 = .ok (.ireturn, 1) := dX3_outcome_196
theorem ddX4_init_0 : decode mX4_init.2.1 0 = .ok (.aload_n 0, 1) := dX4_init_0
theorem ddX4_init_1 : decode mX4_init.2.1 1 = .ok (.invokespecial 3, 3) := dX4_init_1
theorem ddX4_init_4 : decode mX4_init.2.1 4 = .ok (.aload_n 0, 1) := dX4_init_4
theorem ddX4_init_5 : decode mX4_init.2.1 5 = .ok (.bipush 8, 2) := dX4_init_5
theorem ddX4_init_7 : decode mX4_init.2.1 7 = .ok (.newarray .int, 2) := dX4_init_7
theorem ddX4_init_9 : decode mX4_init.2.1 9 = .ok (.putfield 9, 3) := dX4_init_9
theorem ddX4_init_12 : decode mX4_init.2.1 12 = .ok (.aload_n 0, 1) := dX4_init_12
theorem ddX4_init_13 : decode mX4_init.2.1 13 = .ok (.bipush 8, 2) := dX4_init_13
theorem ddX4_init_15 : decode mX4_init.2.1 15 = .ok (.newarray .int, 2) := dX4_init_15
theorem ddX4_init_17 : decode mX4_init.2.1 17 = .ok (.putfield 15, 3) := dX4_init_17
theorem ddX4_init_20 : decode mX4_init.2.1 20 = .ok (.aload_n 0, 1) := dX4_init_20
theorem ddX4_init_21 : decode mX4_init.2.1 21 = .ok (.bipush 8, 2) := dX4_init_21
theorem ddX4_init_23 : decode mX4_init.2.1 23 = .ok (.newarray .int, 2) := dX4_init_23
theorem ddX4_init_25 : decode mX4_init.2.1 25 = .ok (.putfield 18, 3) := dX4_init_25
theorem ddX4_init_28 : decode mX4_init.2.1 28 = .ok (.aload_n 0, 1) := dX4_init_28
theorem ddX4_init_29 : decode mX4_init.2.1 29 = .ok (.bipush 8, 2) := dX4_init_29
theorem ddX4_init_31 : decode mX4_init.2.1 31 = .ok (.newarray .int, 2) := dX4_init_31
theorem ddX4_init_33 : decode mX4_init.2.1 33 = .ok (.putfield 21, 3) := dX4_init_33
theorem ddX4_init_36 : decode mX4_init.2.1 36 = .ok (.aload_n 0, 1) := dX4_init_36
theorem ddX4_init_37 : decode mX4_init.2.1 37 = .ok (.bipush 64, 2) := dX4_init_37
theorem ddX4_init_39 : decode mX4_init.2.1 39 = .ok (.newarray .int, 2) := dX4_init_39
theorem ddX4_init_41 : decode mX4_init.2.1 41 = .ok (.putfield 24, 3) := dX4_init_41
theorem ddX4_init_44 : decode mX4_init.2.1 44 = .ok (.aload_n 0, 1) := dX4_init_44
theorem ddX4_init_45 : decode mX4_init.2.1 45 = .ok (.bipush 64, 2) := dX4_init_45
theorem ddX4_init_47 : decode mX4_init.2.1 47 = .ok (.newarray .int, 2) := dX4_init_47
theorem ddX4_init_49 : decode mX4_init.2.1 49 = .ok (.putfield 27, 3) := dX4_init_49
theorem ddX4_init_52 : decode mX4_init.2.1 52 = .ok (.aload_n 0, 1) := dX4_init_52
theorem ddX4_init_53 : decode mX4_init.2.1 53 = .ok (.bipush 8, 2) := dX4_init_53
theorem ddX4_init_55 : decode mX4_init.2.1 55 = .ok (.newarray .int, 2) := dX4_init_55
theorem ddX4_init_57 : decode mX4_init.2.1 57 = .ok (.putfield 30, 3) := dX4_init_57
theorem ddX4_init_60 : decode mX4_init.2.1 60 = .ok (.aload_n 0, 1) := dX4_init_60
theorem ddX4_init_61 : decode mX4_init.2.1 61 = .ok (.bipush 8, 2) := dX4_init_61
theorem ddX4_init_63 : decode mX4_init.2.1 63 = .ok (.newarray .int, 2) := dX4_init_63
theorem ddX4_init_65 : decode mX4_init.2.1 65 = .ok (.putfield 33, 3) := dX4_init_65
theorem ddX4_init_68 : decode mX4_init.2.1 68 = .ok (.aload_n 0, 1) := dX4_init_68
theorem ddX4_init_69 : decode mX4_init.2.1 69 = .ok (.bipush 64, 2) := dX4_init_69
theorem ddX4_init_71 : decode mX4_init.2.1 71 = .ok (.newarray .int, 2) := dX4_init_71
theorem ddX4_init_73 : decode mX4_init.2.1 73 = .ok (.putfield 36, 3) := dX4_init_73
theorem ddX4_init_76 : decode mX4_init.2.1 76 = .ok (.aload_n 0, 1) := dX4_init_76
theorem ddX4_init_77 : decode mX4_init.2.1 77 = .ok (.bipush 64, 2) := dX4_init_77
theorem ddX4_init_79 : decode mX4_init.2.1 79 = .ok (.newarray .int, 2) := dX4_init_79
theorem ddX4_init_81 : decode mX4_init.2.1 81 = .ok (.putfield 39, 3) := dX4_init_81
theorem ddX4_init_84 : decode mX4_init.2.1 84 = .ok (.aload_n 0, 1) := dX4_init_84
theorem ddX4_init_85 : decode mX4_init.2.1 85 = .ok (.bipush 8, 2) := dX4_init_85
theorem ddX4_init_87 : decode mX4_init.2.1 87 = .ok (.newarray .int, 2) := dX4_init_87
theorem ddX4_init_89 : decode mX4_init.2.1 89 = .ok (.putfield 42, 3) := dX4_init_89
theorem ddX4_init_92 : decode mX4_init.2.1 92 = .ok (.aload_n 0, 1) := dX4_init_92
theorem ddX4_init_93 : decode mX4_init.2.1 93 = .ok (.bipush 8, 2) := dX4_init_93
theorem ddX4_init_95 : decode mX4_init.2.1 95 = .ok (.newarray .int, 2) := dX4_init_95
theorem ddX4_init_97 : decode mX4_init.2.1 97 = .ok (.putfield 45, 3) := dX4_init_97
theorem ddX4_init_100 : decode mX4_init.2.1 100 = .ok (.aload_n 0, 1) := dX4_init_100
theorem ddX4_init_101 : decode mX4_init.2.1 101 = .ok (.bipush 8, 2) := dX4_init_101
theorem ddX4_init_103 : decode mX4_init.2.1 103 = .ok (.newarray .int, 2) := dX4_init_103
theorem ddX4_init_105 : decode mX4_init.2.1 105 = .ok (.putfield 48, 3) := dX4_init_105
theorem ddX4_init_108 : decode mX4_init.2.1 108 = .ok (.return_, 1) := dX4_init_108
theorem ddX4_copyFrom_0 : decode mX4_copyFrom.2.1 0 = .ok (.aload_n 0, 1) := dX4_copyFrom_0
theorem ddX4_copyFrom_1 : decode mX4_copyFrom.2.1 1 = .ok (.aload_n 1, 1) := dX4_copyFrom_1
theorem ddX4_copyFrom_2 : decode mX4_copyFrom.2.1 2 = .ok (.getfield 51, 3) := dX4_copyFrom_2
theorem ddX4_copyFrom_5 : decode mX4_copyFrom.2.1 5 = .ok (.putfield 51, 3) := dX4_copyFrom_5
theorem ddX4_copyFrom_8 : decode mX4_copyFrom.2.1 8 = .ok (.aload_n 0, 1) := dX4_copyFrom_8
theorem ddX4_copyFrom_9 : decode mX4_copyFrom.2.1 9 = .ok (.aload_n 1, 1) := dX4_copyFrom_9
theorem ddX4_copyFrom_10 : decode mX4_copyFrom.2.1 10 = .ok (.getfield 55, 3) := dX4_copyFrom_10
theorem ddX4_copyFrom_13 : decode mX4_copyFrom.2.1 13 = .ok (.putfield 55, 3) := dX4_copyFrom_13
theorem ddX4_copyFrom_16 : decode mX4_copyFrom.2.1 16 = .ok (.aload_n 0, 1) := dX4_copyFrom_16
theorem ddX4_copyFrom_17 : decode mX4_copyFrom.2.1 17 = .ok (.aload_n 1, 1) := dX4_copyFrom_17
theorem ddX4_copyFrom_18 : decode mX4_copyFrom.2.1 18 = .ok (.getfield 58, 3) := dX4_copyFrom_18
theorem ddX4_copyFrom_21 : decode mX4_copyFrom.2.1 21 = .ok (.putfield 58, 3) := dX4_copyFrom_21
theorem ddX4_copyFrom_24 : decode mX4_copyFrom.2.1 24 = .ok (.aload_n 0, 1) := dX4_copyFrom_24
theorem ddX4_copyFrom_25 : decode mX4_copyFrom.2.1 25 = .ok (.aload_n 1, 1) := dX4_copyFrom_25
theorem ddX4_copyFrom_26 : decode mX4_copyFrom.2.1 26 = .ok (.getfield 62, 3) := dX4_copyFrom_26
theorem ddX4_copyFrom_29 : decode mX4_copyFrom.2.1 29 = .ok (.putfield 62, 3) := dX4_copyFrom_29
theorem ddX4_copyFrom_32 : decode mX4_copyFrom.2.1 32 = .ok (.aload_n 0, 1) := dX4_copyFrom_32
theorem ddX4_copyFrom_33 : decode mX4_copyFrom.2.1 33 = .ok (.aload_n 1, 1) := dX4_copyFrom_33
theorem ddX4_copyFrom_34 : decode mX4_copyFrom.2.1 34 = .ok (.getfield 65, 3) := dX4_copyFrom_34
theorem ddX4_copyFrom_37 : decode mX4_copyFrom.2.1 37 = .ok (.putfield 65, 3) := dX4_copyFrom_37
theorem ddX4_copyFrom_40 : decode mX4_copyFrom.2.1 40 = .ok (.aload_n 1, 1) := dX4_copyFrom_40
theorem ddX4_copyFrom_41 : decode mX4_copyFrom.2.1 41 = .ok (.getfield 9, 3) := dX4_copyFrom_41
theorem ddX4_copyFrom_44 : decode mX4_copyFrom.2.1 44 = .ok (.aload_n 0, 1) := dX4_copyFrom_44
theorem ddX4_copyFrom_45 : decode mX4_copyFrom.2.1 45 = .ok (.getfield 9, 3) := dX4_copyFrom_45
theorem ddX4_copyFrom_48 : decode mX4_copyFrom.2.1 48 = .ok (.invokestatic 68, 3) := dX4_copyFrom_48
theorem ddX4_copyFrom_51 : decode mX4_copyFrom.2.1 51 = .ok (.aload_n 1, 1) := dX4_copyFrom_51
theorem ddX4_copyFrom_52 : decode mX4_copyFrom.2.1 52 = .ok (.getfield 15, 3) := dX4_copyFrom_52
theorem ddX4_copyFrom_55 : decode mX4_copyFrom.2.1 55 = .ok (.aload_n 0, 1) := dX4_copyFrom_55
theorem ddX4_copyFrom_56 : decode mX4_copyFrom.2.1 56 = .ok (.getfield 15, 3) := dX4_copyFrom_56
theorem ddX4_copyFrom_59 : decode mX4_copyFrom.2.1 59 = .ok (.invokestatic 68, 3) := dX4_copyFrom_59
theorem ddX4_copyFrom_62 : decode mX4_copyFrom.2.1 62 = .ok (.aload_n 1, 1) := dX4_copyFrom_62
theorem ddX4_copyFrom_63 : decode mX4_copyFrom.2.1 63 = .ok (.getfield 18, 3) := dX4_copyFrom_63
theorem ddX4_copyFrom_66 : decode mX4_copyFrom.2.1 66 = .ok (.aload_n 0, 1) := dX4_copyFrom_66
theorem ddX4_copyFrom_67 : decode mX4_copyFrom.2.1 67 = .ok (.getfield 18, 3) := dX4_copyFrom_67
theorem ddX4_copyFrom_70 : decode mX4_copyFrom.2.1 70 = .ok (.invokestatic 68, 3) := dX4_copyFrom_70
theorem ddX4_copyFrom_73 : decode mX4_copyFrom.2.1 73 = .ok (.aload_n 1, 1) := dX4_copyFrom_73
theorem ddX4_copyFrom_74 : decode mX4_copyFrom.2.1 74 = .ok (.getfield 21, 3) := dX4_copyFrom_74
theorem ddX4_copyFrom_77 : decode mX4_copyFrom.2.1 77 = .ok (.aload_n 0, 1) := dX4_copyFrom_77
theorem ddX4_copyFrom_78 : decode mX4_copyFrom.2.1 78 = .ok (.getfield 21, 3) := dX4_copyFrom_78
theorem ddX4_copyFrom_81 : decode mX4_copyFrom.2.1 81 = .ok (.invokestatic 68, 3) := dX4_copyFrom_81
theorem ddX4_copyFrom_84 : decode mX4_copyFrom.2.1 84 = .ok (.aload_n 1, 1) := dX4_copyFrom_84
theorem ddX4_copyFrom_85 : decode mX4_copyFrom.2.1 85 = .ok (.getfield 24, 3) := dX4_copyFrom_85
theorem ddX4_copyFrom_88 : decode mX4_copyFrom.2.1 88 = .ok (.aload_n 0, 1) := dX4_copyFrom_88
theorem ddX4_copyFrom_89 : decode mX4_copyFrom.2.1 89 = .ok (.getfield 24, 3) := dX4_copyFrom_89
theorem ddX4_copyFrom_92 : decode mX4_copyFrom.2.1 92 = .ok (.invokestatic 68, 3) := dX4_copyFrom_92
theorem ddX4_copyFrom_95 : decode mX4_copyFrom.2.1 95 = .ok (.aload_n 1, 1) := dX4_copyFrom_95
theorem ddX4_copyFrom_96 : decode mX4_copyFrom.2.1 96 = .ok (.getfield 27, 3) := dX4_copyFrom_96
theorem ddX4_copyFrom_99 : decode mX4_copyFrom.2.1 99 = .ok (.aload_n 0, 1) := dX4_copyFrom_99
theorem ddX4_copyFrom_100 : decode mX4_copyFrom.2.1 100 = .ok (.getfield 27, 3) := dX4_copyFrom_100
theorem ddX4_copyFrom_103 : decode mX4_copyFrom.2.1 103 = .ok (.invokestatic 68, 3) := dX4_copyFrom_103
theorem ddX4_copyFrom_106 : decode mX4_copyFrom.2.1 106 = .ok (.aload_n 1, 1) := dX4_copyFrom_106
theorem ddX4_copyFrom_107 : decode mX4_copyFrom.2.1 107 = .ok (.getfield 30, 3) := dX4_copyFrom_107
theorem ddX4_copyFrom_110 : decode mX4_copyFrom.2.1 110 = .ok (.aload_n 0, 1) := dX4_copyFrom_110
theorem ddX4_copyFrom_111 : decode mX4_copyFrom.2.1 111 = .ok (.getfield 30, 3) := dX4_copyFrom_111
theorem ddX4_copyFrom_114 : decode mX4_copyFrom.2.1 114 = .ok (.invokestatic 68, 3) := dX4_copyFrom_114
theorem ddX4_copyFrom_117 : decode mX4_copyFrom.2.1 117 = .ok (.aload_n 1, 1) := dX4_copyFrom_117
theorem ddX4_copyFrom_118 : decode mX4_copyFrom.2.1 118 = .ok (.getfield 33, 3) := dX4_copyFrom_118
theorem ddX4_copyFrom_121 : decode mX4_copyFrom.2.1 121 = .ok (.aload_n 0, 1) := dX4_copyFrom_121
theorem ddX4_copyFrom_122 : decode mX4_copyFrom.2.1 122 = .ok (.getfield 33, 3) := dX4_copyFrom_122
theorem ddX4_copyFrom_125 : decode mX4_copyFrom.2.1 125 = .ok (.invokestatic 68, 3) := dX4_copyFrom_125
theorem ddX4_copyFrom_128 : decode mX4_copyFrom.2.1 128 = .ok (.aload_n 1, 1) := dX4_copyFrom_128
theorem ddX4_copyFrom_129 : decode mX4_copyFrom.2.1 129 = .ok (.getfield 36, 3) := dX4_copyFrom_129
theorem ddX4_copyFrom_132 : decode mX4_copyFrom.2.1 132 = .ok (.aload_n 0, 1) := dX4_copyFrom_132
theorem ddX4_copyFrom_133 : decode mX4_copyFrom.2.1 133 = .ok (.getfield 36, 3) := dX4_copyFrom_133
theorem ddX4_copyFrom_136 : decode mX4_copyFrom.2.1 136 = .ok (.invokestatic 68, 3) := dX4_copyFrom_136
theorem ddX4_copyFrom_139 : decode mX4_copyFrom.2.1 139 = .ok (.aload_n 1, 1) := dX4_copyFrom_139
theorem ddX4_copyFrom_140 : decode mX4_copyFrom.2.1 140 = .ok (.getfield 39, 3) := dX4_copyFrom_140
theorem ddX4_copyFrom_143 : decode mX4_copyFrom.2.1 143 = .ok (.aload_n 0, 1) := dX4_copyFrom_143
theorem ddX4_copyFrom_144 : decode mX4_copyFrom.2.1 144 = .ok (.getfield 39, 3) := dX4_copyFrom_144
theorem ddX4_copyFrom_147 : decode mX4_copyFrom.2.1 147 = .ok (.invokestatic 68, 3) := dX4_copyFrom_147
theorem ddX4_copyFrom_150 : decode mX4_copyFrom.2.1 150 = .ok (.aload_n 1, 1) := dX4_copyFrom_150
theorem ddX4_copyFrom_151 : decode mX4_copyFrom.2.1 151 = .ok (.getfield 42, 3) := dX4_copyFrom_151
theorem ddX4_copyFrom_154 : decode mX4_copyFrom.2.1 154 = .ok (.aload_n 0, 1) := dX4_copyFrom_154
theorem ddX4_copyFrom_155 : decode mX4_copyFrom.2.1 155 = .ok (.getfield 42, 3) := dX4_copyFrom_155
theorem ddX4_copyFrom_158 : decode mX4_copyFrom.2.1 158 = .ok (.invokestatic 68, 3) := dX4_copyFrom_158
theorem ddX4_copyFrom_161 : decode mX4_copyFrom.2.1 161 = .ok (.aload_n 1, 1) := dX4_copyFrom_161
theorem ddX4_copyFrom_162 : decode mX4_copyFrom.2.1 162 = .ok (.getfield 45, 3) := dX4_copyFrom_162
theorem ddX4_copyFrom_165 : decode mX4_copyFrom.2.1 165 = .ok (.aload_n 0, 1) := dX4_copyFrom_165
theorem ddX4_copyFrom_166 : decode mX4_copyFrom.2.1 166 = .ok (.getfield 45, 3) := dX4_copyFrom_166
theorem ddX4_copyFrom_169 : decode mX4_copyFrom.2.1 169 = .ok (.invokestatic 68, 3) := dX4_copyFrom_169
theorem ddX4_copyFrom_172 : decode mX4_copyFrom.2.1 172 = .ok (.aload_n 1, 1) := dX4_copyFrom_172
theorem ddX4_copyFrom_173 : decode mX4_copyFrom.2.1 173 = .ok (.getfield 48, 3) := dX4_copyFrom_173
theorem ddX4_copyFrom_176 : decode mX4_copyFrom.2.1 176 = .ok (.aload_n 0, 1) := dX4_copyFrom_176
theorem ddX4_copyFrom_177 : decode mX4_copyFrom.2.1 177 = .ok (.getfield 48, 3) := dX4_copyFrom_177
theorem ddX4_copyFrom_180 : decode mX4_copyFrom.2.1 180 = .ok (.invokestatic 68, 3) := dX4_copyFrom_180
theorem ddX4_copyFrom_183 : decode mX4_copyFrom.2.1 183 = .ok (.return_, 1) := dX4_copyFrom_183
theorem ddX4_copyRow_0 : decode mX4_copyRow.2.1 0 = .ok (.aload_n 0, 1) := dX4_copyRow_0
theorem ddX4_copyRow_1 : decode mX4_copyRow.2.1 1 = .ok (.iconst 0, 1) := dX4_copyRow_1
theorem ddX4_copyRow_2 : decode mX4_copyRow.2.1 2 = .ok (.aload_n 1, 1) := dX4_copyRow_2
theorem ddX4_copyRow_3 : decode mX4_copyRow.2.1 3 = .ok (.iconst 0, 1) := dX4_copyRow_3
theorem ddX4_copyRow_4 : decode mX4_copyRow.2.1 4 = .ok (.aload_n 0, 1) := dX4_copyRow_4
theorem ddX4_copyRow_5 : decode mX4_copyRow.2.1 5 = .ok (.arraylength, 1) := dX4_copyRow_5
theorem ddX4_copyRow_6 : decode mX4_copyRow.2.1 6 = .ok (.aload_n 1, 1) := dX4_copyRow_6
theorem ddX4_copyRow_7 : decode mX4_copyRow.2.1 7 = .ok (.arraylength, 1) := dX4_copyRow_7
theorem ddX4_copyRow_8 : decode mX4_copyRow.2.1 8 = .ok (.invokestatic 72, 3) := dX4_copyRow_8
theorem ddX4_copyRow_11 : decode mX4_copyRow.2.1 11 = .ok (.invokestatic 78, 3) := dX4_copyRow_11
theorem ddX4_copyRow_14 : decode mX4_copyRow.2.1 14 = .ok (.return_, 1) := dX4_copyRow_14
theorem ddX4_begin_0 : decode mX4_begin.2.1 0 = .ok (.aload_n 0, 1) := dX4_begin_0
theorem ddX4_begin_1 : decode mX4_begin.2.1 1 = .ok (.iconst 0, 1) := dX4_begin_1
theorem ddX4_begin_2 : decode mX4_begin.2.1 2 = .ok (.putfield 51, 3) := dX4_begin_2
theorem ddX4_begin_5 : decode mX4_begin.2.1 5 = .ok (.aload_n 0, 1) := dX4_begin_5
theorem ddX4_begin_6 : decode mX4_begin.2.1 6 = .ok (.iconst 0, 1) := dX4_begin_6
theorem ddX4_begin_7 : decode mX4_begin.2.1 7 = .ok (.putfield 55, 3) := dX4_begin_7
theorem ddX4_begin_10 : decode mX4_begin.2.1 10 = .ok (.aload_n 0, 1) := dX4_begin_10
theorem ddX4_begin_11 : decode mX4_begin.2.1 11 = .ok (.iconst 0, 1) := dX4_begin_11
theorem ddX4_begin_12 : decode mX4_begin.2.1 12 = .ok (.putfield 58, 3) := dX4_begin_12
theorem ddX4_begin_15 : decode mX4_begin.2.1 15 = .ok (.aload_n 0, 1) := dX4_begin_15
theorem ddX4_begin_16 : decode mX4_begin.2.1 16 = .ok (.iconst 0, 1) := dX4_begin_16
theorem ddX4_begin_17 : decode mX4_begin.2.1 17 = .ok (.putfield 62, 3) := dX4_begin_17
theorem ddX4_begin_20 : decode mX4_begin.2.1 20 = .ok (.aload_n 0, 1) := dX4_begin_20
theorem ddX4_begin_21 : decode mX4_begin.2.1 21 = .ok (.invokevirtual 84, 3) := dX4_begin_21
theorem ddX4_begin_24 : decode mX4_begin.2.1 24 = .ok (.iconst 0, 1) := dX4_begin_24
theorem ddX4_begin_25 : decode mX4_begin.2.1 25 = .ok (.istore_n 2, 1) := dX4_begin_25
theorem ddX4_begin_26 : decode mX4_begin.2.1 26 = .ok (.iload_n 2, 1) := dX4_begin_26
theorem ddX4_begin_27 : decode mX4_begin.2.1 27 = .ok (.bipush 8, 2) := dX4_begin_27
theorem ddX4_begin_29 : decode mX4_begin.2.1 29 = .ok (.if_icmp .ge 42, 3) := dX4_begin_29
theorem ddX4_begin_32 : decode mX4_begin.2.1 32 = .ok (.aload_n 0, 1) := dX4_begin_32
theorem ddX4_begin_33 : decode mX4_begin.2.1 33 = .ok (.getfield 9, 3) := dX4_begin_33
theorem ddX4_begin_36 : decode mX4_begin.2.1 36 = .ok (.iload_n 2, 1) := dX4_begin_36
theorem ddX4_begin_37 : decode mX4_begin.2.1 37 = .ok (.aload_n 1, 1) := dX4_begin_37
theorem ddX4_begin_38 : decode mX4_begin.2.1 38 = .ok (.getfield 87, 3) := dX4_begin_38
theorem ddX4_begin_41 : decode mX4_begin.2.1 41 = .ok (.iload_n 2, 1) := dX4_begin_41
theorem ddX4_begin_42 : decode mX4_begin.2.1 42 = .ok (.iaload, 1) := dX4_begin_42
theorem ddX4_begin_43 : decode mX4_begin.2.1 43 = .ok (.iastore, 1) := dX4_begin_43
theorem ddX4_begin_44 : decode mX4_begin.2.1 44 = .ok (.aload_n 0, 1) := dX4_begin_44
theorem ddX4_begin_45 : decode mX4_begin.2.1 45 = .ok (.getfield 15, 3) := dX4_begin_45
theorem ddX4_begin_48 : decode mX4_begin.2.1 48 = .ok (.iload_n 2, 1) := dX4_begin_48
theorem ddX4_begin_49 : decode mX4_begin.2.1 49 = .ok (.iconst 0, 1) := dX4_begin_49
theorem ddX4_begin_50 : decode mX4_begin.2.1 50 = .ok (.iastore, 1) := dX4_begin_50
theorem ddX4_begin_51 : decode mX4_begin.2.1 51 = .ok (.aload_n 0, 1) := dX4_begin_51
theorem ddX4_begin_52 : decode mX4_begin.2.1 52 = .ok (.getfield 18, 3) := dX4_begin_52
theorem ddX4_begin_55 : decode mX4_begin.2.1 55 = .ok (.iload_n 2, 1) := dX4_begin_55
theorem ddX4_begin_56 : decode mX4_begin.2.1 56 = .ok (.iconst (-1), 1) := dX4_begin_56
theorem ddX4_begin_57 : decode mX4_begin.2.1 57 = .ok (.iastore, 1) := dX4_begin_57
theorem ddX4_begin_58 : decode mX4_begin.2.1 58 = .ok (.aload_n 0, 1) := dX4_begin_58
theorem ddX4_begin_59 : decode mX4_begin.2.1 59 = .ok (.getfield 21, 3) := dX4_begin_59
theorem ddX4_begin_62 : decode mX4_begin.2.1 62 = .ok (.iload_n 2, 1) := dX4_begin_62
theorem ddX4_begin_63 : decode mX4_begin.2.1 63 = .ok (.iconst 0, 1) := dX4_begin_63
theorem ddX4_begin_64 : decode mX4_begin.2.1 64 = .ok (.iastore, 1) := dX4_begin_64
theorem ddX4_begin_65 : decode mX4_begin.2.1 65 = .ok (.iinc 2 1, 3) := dX4_begin_65
theorem ddX4_begin_68 : decode mX4_begin.2.1 68 = .ok (.goto (-42), 3) := dX4_begin_68
theorem ddX4_begin_71 : decode mX4_begin.2.1 71 = .ok (.iconst 0, 1) := dX4_begin_71
theorem ddX4_begin_72 : decode mX4_begin.2.1 72 = .ok (.istore_n 2, 1) := dX4_begin_72
theorem ddX4_begin_73 : decode mX4_begin.2.1 73 = .ok (.iload_n 2, 1) := dX4_begin_73
theorem ddX4_begin_74 : decode mX4_begin.2.1 74 = .ok (.aload_n 1, 1) := dX4_begin_74
theorem ddX4_begin_75 : decode mX4_begin.2.1 75 = .ok (.getfield 92, 3) := dX4_begin_75
theorem ddX4_begin_78 : decode mX4_begin.2.1 78 = .ok (.if_icmp .ge 26, 3) := dX4_begin_78
theorem ddX4_begin_81 : decode mX4_begin.2.1 81 = .ok (.aload_n 0, 1) := dX4_begin_81
theorem ddX4_begin_82 : decode mX4_begin.2.1 82 = .ok (.getfield 30, 3) := dX4_begin_82
theorem ddX4_begin_85 : decode mX4_begin.2.1 85 = .ok (.iload_n 2, 1) := dX4_begin_85
theorem ddX4_begin_86 : decode mX4_begin.2.1 86 = .ok (.aload_n 1, 1) := dX4_begin_86
theorem ddX4_begin_87 : decode mX4_begin.2.1 87 = .ok (.getfield 87, 3) := dX4_begin_87
theorem ddX4_begin_90 : decode mX4_begin.2.1 90 = .ok (.aload_n 1, 1) := dX4_begin_90
theorem ddX4_begin_91 : decode mX4_begin.2.1 91 = .ok (.getfield 95, 3) := dX4_begin_91
theorem ddX4_begin_94 : decode mX4_begin.2.1 94 = .ok (.iload_n 2, 1) := dX4_begin_94
theorem ddX4_begin_95 : decode mX4_begin.2.1 95 = .ok (.iaload, 1) := dX4_begin_95
theorem ddX4_begin_96 : decode mX4_begin.2.1 96 = .ok (.iaload, 1) := dX4_begin_96
theorem ddX4_begin_97 : decode mX4_begin.2.1 97 = .ok (.iastore, 1) := dX4_begin_97
theorem ddX4_begin_98 : decode mX4_begin.2.1 98 = .ok (.iinc 2 1, 3) := dX4_begin_98
theorem ddX4_begin_101 : decode mX4_begin.2.1 101 = .ok (.goto (-28), 3) := dX4_begin_101
theorem ddX4_begin_104 : decode mX4_begin.2.1 104 = .ok (.aload_n 0, 1) := dX4_begin_104
theorem ddX4_begin_105 : decode mX4_begin.2.1 105 = .ok (.aload_n 1, 1) := dX4_begin_105
theorem ddX4_begin_106 : decode mX4_begin.2.1 106 = .ok (.invokevirtual 98, 3) := dX4_begin_106
theorem ddX4_begin_109 : decode mX4_begin.2.1 109 = .ok (.return_, 1) := dX4_begin_109
theorem ddX4_isStill_0 : decode mX4_isStill.2.1 0 = .ok (.aload_n 0, 1) := dX4_isStill_0
theorem ddX4_isStill_1 : decode mX4_isStill.2.1 1 = .ok (.invokevirtual 102, 3) := dX4_isStill_1
theorem ddX4_isStill_4 : decode mX4_isStill.2.1 4 = .ok (.ldc 106, 2) := dX4_isStill_4
theorem ddX4_isStill_6 : decode mX4_isStill.2.1 6 = .ok (.if_icmp .ne 7, 3) := dX4_isStill_6
theorem ddX4_isStill_9 : decode mX4_isStill.2.1 9 = .ok (.iconst 1, 1) := dX4_isStill_9
theorem ddX4_isStill_10 : decode mX4_isStill.2.1 10 = .ok (.goto 4, 3) := dX4_isStill_10
theorem ddX4_isStill_13 : decode mX4_isStill.2.1 13 = .ok (.iconst 0, 1) := dX4_isStill_13
theorem ddX4_isStill_14 : decode mX4_isStill.2.1 14 = .ok (.ireturn, 1) := dX4_isStill_14
theorem ddX4_earliest_0 : decode mX4_earliest.2.1 0 = .ok (.aload_n 0, 1) := dX4_earliest_0
theorem ddX4_earliest_1 : decode mX4_earliest.2.1 1 = .ok (.getfield 65, 3) := dX4_earliest_1
theorem ddX4_earliest_4 : decode mX4_earliest.2.1 4 = .ok (.ifCond .le 12, 3) := dX4_earliest_4
theorem ddX4_earliest_7 : decode mX4_earliest.2.1 7 = .ok (.aload_n 0, 1) := dX4_earliest_7
theorem ddX4_earliest_8 : decode mX4_earliest.2.1 8 = .ok (.getfield 42, 3) := dX4_earliest_8
theorem ddX4_earliest_11 : decode mX4_earliest.2.1 11 = .ok (.iconst 0, 1) := dX4_earliest_11
theorem ddX4_earliest_12 : decode mX4_earliest.2.1 12 = .ok (.iaload, 1) := dX4_earliest_12
theorem ddX4_earliest_13 : decode mX4_earliest.2.1 13 = .ok (.goto 5, 3) := dX4_earliest_13
theorem ddX4_earliest_16 : decode mX4_earliest.2.1 16 = .ok (.ldc 106, 2) := dX4_earliest_16
theorem ddX4_earliest_18 : decode mX4_earliest.2.1 18 = .ok (.istore_n 1, 1) := dX4_earliest_18
theorem ddX4_earliest_19 : decode mX4_earliest.2.1 19 = .ok (.iconst 0, 1) := dX4_earliest_19
theorem ddX4_earliest_20 : decode mX4_earliest.2.1 20 = .ok (.istore_n 2, 1) := dX4_earliest_20
theorem ddX4_earliest_21 : decode mX4_earliest.2.1 21 = .ok (.iload_n 2, 1) := dX4_earliest_21
theorem ddX4_earliest_22 : decode mX4_earliest.2.1 22 = .ok (.bipush 8, 2) := dX4_earliest_22
theorem ddX4_earliest_24 : decode mX4_earliest.2.1 24 = .ok (.if_icmp .ge 32, 3) := dX4_earliest_24
theorem ddX4_earliest_27 : decode mX4_earliest.2.1 27 = .ok (.aload_n 0, 1) := dX4_earliest_27
theorem ddX4_earliest_28 : decode mX4_earliest.2.1 28 = .ok (.getfield 33, 3) := dX4_earliest_28
theorem ddX4_earliest_31 : decode mX4_earliest.2.1 31 = .ok (.iload_n 2, 1) := dX4_earliest_31
theorem ddX4_earliest_32 : decode mX4_earliest.2.1 32 = .ok (.iaload, 1) := dX4_earliest_32
theorem ddX4_earliest_33 : decode mX4_earliest.2.1 33 = .ok (.ifCond .le 17, 3) := dX4_earliest_33
theorem ddX4_earliest_36 : decode mX4_earliest.2.1 36 = .ok (.iload_n 1, 1) := dX4_earliest_36
theorem ddX4_earliest_37 : decode mX4_earliest.2.1 37 = .ok (.aload_n 0, 1) := dX4_earliest_37
theorem ddX4_earliest_38 : decode mX4_earliest.2.1 38 = .ok (.getfield 36, 3) := dX4_earliest_38
theorem ddX4_earliest_41 : decode mX4_earliest.2.1 41 = .ok (.iload_n 2, 1) := dX4_earliest_41
theorem ddX4_earliest_42 : decode mX4_earliest.2.1 42 = .ok (.bipush 8, 2) := dX4_earliest_42
theorem ddX4_earliest_44 : decode mX4_earliest.2.1 44 = .ok (.imul, 1) := dX4_earliest_44
theorem ddX4_earliest_45 : decode mX4_earliest.2.1 45 = .ok (.iaload, 1) := dX4_earliest_45
theorem ddX4_earliest_46 : decode mX4_earliest.2.1 46 = .ok (.invokestatic 72, 3) := dX4_earliest_46
theorem ddX4_earliest_49 : decode mX4_earliest.2.1 49 = .ok (.istore_n 1, 1) := dX4_earliest_49
theorem ddX4_earliest_50 : decode mX4_earliest.2.1 50 = .ok (.iinc 2 1, 3) := dX4_earliest_50
theorem ddX4_earliest_53 : decode mX4_earliest.2.1 53 = .ok (.goto (-32), 3) := dX4_earliest_53
theorem ddX4_earliest_56 : decode mX4_earliest.2.1 56 = .ok (.iload_n 1, 1) := dX4_earliest_56
theorem ddX4_earliest_57 : decode mX4_earliest.2.1 57 = .ok (.ireturn, 1) := dX4_earliest_57
theorem ddX4_outcomeOf_0 : decode mX4_outcomeOf.2.1 0 = .ok (.aload_n 1, 1) := dX4_outcomeOf_0
theorem ddX4_outcomeOf_1 : decode mX4_outcomeOf.2.1 1 = .ok (.getfield 107, 3) := dX4_outcomeOf_1
theorem ddX4_outcomeOf_4 : decode mX4_outcomeOf.2.1 4 = .ok (.iload_n 2, 1) := dX4_outcomeOf_4
theorem ddX4_outcomeOf_5 : decode mX4_outcomeOf.2.1 5 = .ok (.iaload, 1) := dX4_outcomeOf_5
theorem ddX4_outcomeOf_6 : decode mX4_outcomeOf.2.1 6 = .ok (.aload_n 0, 1) := dX4_outcomeOf_6
theorem ddX4_outcomeOf_7 : decode mX4_outcomeOf.2.1 7 = .ok (.getfield 9, 3) := dX4_outcomeOf_7
theorem ddX4_outcomeOf_10 : decode mX4_outcomeOf.2.1 10 = .ok (.aload_n 1, 1) := dX4_outcomeOf_10
theorem ddX4_outcomeOf_11 : decode mX4_outcomeOf.2.1 11 = .ok (.getfield 110, 3) := dX4_outcomeOf_11
theorem ddX4_outcomeOf_14 : decode mX4_outcomeOf.2.1 14 = .ok (.iload_n 2, 1) := dX4_outcomeOf_14
theorem ddX4_outcomeOf_15 : decode mX4_outcomeOf.2.1 15 = .ok (.iaload, 1) := dX4_outcomeOf_15
theorem ddX4_outcomeOf_16 : decode mX4_outcomeOf.2.1 16 = .ok (.iaload, 1) := dX4_outcomeOf_16
theorem ddX4_outcomeOf_17 : decode mX4_outcomeOf.2.1 17 = .ok (.aload_n 0, 1) := dX4_outcomeOf_17
theorem ddX4_outcomeOf_18 : decode mX4_outcomeOf.2.1 18 = .ok (.getfield 9, 3) := dX4_outcomeOf_18
theorem ddX4_outcomeOf_21 : decode mX4_outcomeOf.2.1 21 = .ok (.aload_n 1, 1) := dX4_outcomeOf_21
theorem ddX4_outcomeOf_22 : decode mX4_outcomeOf.2.1 22 = .ok (.getfield 113, 3) := dX4_outcomeOf_22
theorem ddX4_outcomeOf_25 : decode mX4_outcomeOf.2.1 25 = .ok (.iload_n 2, 1) := dX4_outcomeOf_25
theorem ddX4_outcomeOf_26 : decode mX4_outcomeOf.2.1 26 = .ok (.iaload, 1) := dX4_outcomeOf_26
theorem ddX4_outcomeOf_27 : decode mX4_outcomeOf.2.1 27 = .ok (.iaload, 1) := dX4_outcomeOf_27
theorem ddX4_outcomeOf_28 : decode mX4_outcomeOf.2.1 28 = .ok (.aload_n 0, 1) := dX4_outcomeOf_28
theorem ddX4_outcomeOf_29 : decode mX4_outcomeOf.2.1 29 = .ok (.getfield 30, 3) := dX4_outcomeOf_29
theorem ddX4_outcomeOf_32 : decode mX4_outcomeOf.2.1 32 = .ok (.iload_n 2, 1) := dX4_outcomeOf_32
theorem ddX4_outcomeOf_33 : decode mX4_outcomeOf.2.1 33 = .ok (.iaload, 1) := dX4_outcomeOf_33
theorem ddX4_outcomeOf_34 : decode mX4_outcomeOf.2.1 34 = .ok (.invokestatic 116, 3) := dX4_outcomeOf_34
theorem ddX4_outcomeOf_37 : decode mX4_outcomeOf.2.1 37 = .ok (.ireturn, 1) := dX4_outcomeOf_37
theorem ddX4_drivenLevel_0 : decode mX4_drivenLevel.2.1 0 = .ok (.iconst 2, 1) := dX4_drivenLevel_0
theorem ddX4_drivenLevel_1 : decode mX4_drivenLevel.2.1 1 = .ok (.istore 4, 2) := dX4_drivenLevel_1
theorem ddX4_drivenLevel_3 : decode mX4_drivenLevel.2.1 3 = .ok (.iconst 0, 1) := dX4_drivenLevel_3
theorem ddX4_drivenLevel_4 : decode mX4_drivenLevel.2.1 4 = .ok (.istore 5, 2) := dX4_drivenLevel_4
theorem ddX4_drivenLevel_6 : decode mX4_drivenLevel.2.1 6 = .ok (.iload 5, 2) := dX4_drivenLevel_6
theorem ddX4_drivenLevel_8 : decode mX4_drivenLevel.2.1 8 = .ok (.aload_n 1, 1) := dX4_drivenLevel_8
theorem ddX4_drivenLevel_9 : decode mX4_drivenLevel.2.1 9 = .ok (.getfield 92, 3) := dX4_drivenLevel_9
theorem ddX4_drivenLevel_12 : decode mX4_drivenLevel.2.1 12 = .ok (.if_icmp .ge 40, 3) := dX4_drivenLevel_12
theorem ddX4_drivenLevel_15 : decode mX4_drivenLevel.2.1 15 = .ok (.aload_n 1, 1) := dX4_drivenLevel_15
theorem ddX4_drivenLevel_16 : decode mX4_drivenLevel.2.1 16 = .ok (.getfield 95, 3) := dX4_drivenLevel_16
theorem ddX4_drivenLevel_19 : decode mX4_drivenLevel.2.1 19 = .ok (.iload 5, 2) := dX4_drivenLevel_19
theorem ddX4_drivenLevel_21 : decode mX4_drivenLevel.2.1 21 = .ok (.iaload, 1) := dX4_drivenLevel_21
theorem ddX4_drivenLevel_22 : decode mX4_drivenLevel.2.1 22 = .ok (.iload_n 2, 1) := dX4_drivenLevel_22
theorem ddX4_drivenLevel_23 : decode mX4_drivenLevel.2.1 23 = .ok (.if_icmp .ne 23, 3) := dX4_drivenLevel_23
theorem ddX4_drivenLevel_26 : decode mX4_drivenLevel.2.1 26 = .ok (.iload 5, 2) := dX4_drivenLevel_26
theorem ddX4_drivenLevel_28 : decode mX4_drivenLevel.2.1 28 = .ok (.iload_n 3, 1) := dX4_drivenLevel_28
theorem ddX4_drivenLevel_29 : decode mX4_drivenLevel.2.1 29 = .ok (.if_icmp .eq 17, 3) := dX4_drivenLevel_29
theorem ddX4_drivenLevel_32 : decode mX4_drivenLevel.2.1 32 = .ok (.iload 4, 2) := dX4_drivenLevel_32
theorem ddX4_drivenLevel_34 : decode mX4_drivenLevel.2.1 34 = .ok (.aload_n 0, 1) := dX4_drivenLevel_34
theorem ddX4_drivenLevel_35 : decode mX4_drivenLevel.2.1 35 = .ok (.getfield 30, 3) := dX4_drivenLevel_35
theorem ddX4_drivenLevel_38 : decode mX4_drivenLevel.2.1 38 = .ok (.iload 5, 2) := dX4_drivenLevel_38
theorem ddX4_drivenLevel_40 : decode mX4_drivenLevel.2.1 40 = .ok (.iaload, 1) := dX4_drivenLevel_40
theorem ddX4_drivenLevel_41 : decode mX4_drivenLevel.2.1 41 = .ok (.invokestatic 122, 3) := dX4_drivenLevel_41
theorem ddX4_drivenLevel_44 : decode mX4_drivenLevel.2.1 44 = .ok (.istore 4, 2) := dX4_drivenLevel_44
theorem ddX4_drivenLevel_46 : decode mX4_drivenLevel.2.1 46 = .ok (.iinc 5 1, 3) := dX4_drivenLevel_46
theorem ddX4_drivenLevel_49 : decode mX4_drivenLevel.2.1 49 = .ok (.goto (-43), 3) := dX4_drivenLevel_49
theorem ddX4_drivenLevel_52 : decode mX4_drivenLevel.2.1 52 = .ok (.iload 4, 2) := dX4_drivenLevel_52
theorem ddX4_drivenLevel_54 : decode mX4_drivenLevel.2.1 54 = .ok (.ireturn, 1) := dX4_drivenLevel_54
theorem ddX4_holdingGates_0 : decode mX4_holdingGates.2.1 0 = .ok (.iconst 0, 1) := dX4_holdingGates_0
theorem ddX4_holdingGates_1 : decode mX4_holdingGates.2.1 1 = .ok (.istore_n 2, 1) := dX4_holdingGates_1
theorem ddX4_holdingGates_2 : decode mX4_holdingGates.2.1 2 = .ok (.iconst 0, 1) := dX4_holdingGates_2
theorem ddX4_holdingGates_3 : decode mX4_holdingGates.2.1 3 = .ok (.istore_n 3, 1) := dX4_holdingGates_3
theorem ddX4_holdingGates_4 : decode mX4_holdingGates.2.1 4 = .ok (.iload_n 3, 1) := dX4_holdingGates_4
theorem ddX4_holdingGates_5 : decode mX4_holdingGates.2.1 5 = .ok (.aload_n 1, 1) := dX4_holdingGates_5
theorem ddX4_holdingGates_6 : decode mX4_holdingGates.2.1 6 = .ok (.getfield 92, 3) := dX4_holdingGates_6
theorem ddX4_holdingGates_9 : decode mX4_holdingGates.2.1 9 = .ok (.if_icmp .ge 30, 3) := dX4_holdingGates_9
theorem ddX4_holdingGates_12 : decode mX4_holdingGates.2.1 12 = .ok (.aload_n 0, 1) := dX4_holdingGates_12
theorem ddX4_holdingGates_13 : decode mX4_holdingGates.2.1 13 = .ok (.getfield 30, 3) := dX4_holdingGates_13
theorem ddX4_holdingGates_16 : decode mX4_holdingGates.2.1 16 = .ok (.iload_n 3, 1) := dX4_holdingGates_16
theorem ddX4_holdingGates_17 : decode mX4_holdingGates.2.1 17 = .ok (.iaload, 1) := dX4_holdingGates_17
theorem ddX4_holdingGates_18 : decode mX4_holdingGates.2.1 18 = .ok (.aload_n 0, 1) := dX4_holdingGates_18
theorem ddX4_holdingGates_19 : decode mX4_holdingGates.2.1 19 = .ok (.aload_n 1, 1) := dX4_holdingGates_19
theorem ddX4_holdingGates_20 : decode mX4_holdingGates.2.1 20 = .ok (.iload_n 3, 1) := dX4_holdingGates_20
theorem ddX4_holdingGates_21 : decode mX4_holdingGates.2.1 21 = .ok (.invokevirtual 125, 3) := dX4_holdingGates_21
theorem ddX4_holdingGates_24 : decode mX4_holdingGates.2.1 24 = .ok (.if_icmp .ne 9, 3) := dX4_holdingGates_24
theorem ddX4_holdingGates_27 : decode mX4_holdingGates.2.1 27 = .ok (.iload_n 2, 1) := dX4_holdingGates_27
theorem ddX4_holdingGates_28 : decode mX4_holdingGates.2.1 28 = .ok (.iconst 1, 1) := dX4_holdingGates_28
theorem ddX4_holdingGates_29 : decode mX4_holdingGates.2.1 29 = .ok (.iload_n 3, 1) := dX4_holdingGates_29
theorem ddX4_holdingGates_30 : decode mX4_holdingGates.2.1 30 = .ok (.ishl, 1) := dX4_holdingGates_30
theorem ddX4_holdingGates_31 : decode mX4_holdingGates.2.1 31 = .ok (.ior, 1) := dX4_holdingGates_31
theorem ddX4_holdingGates_32 : decode mX4_holdingGates.2.1 32 = .ok (.istore_n 2, 1) := dX4_holdingGates_32
theorem ddX4_holdingGates_33 : decode mX4_holdingGates.2.1 33 = .ok (.iinc 3 1, 3) := dX4_holdingGates_33
theorem ddX4_holdingGates_36 : decode mX4_holdingGates.2.1 36 = .ok (.goto (-32), 3) := dX4_holdingGates_36
theorem ddX4_holdingGates_39 : decode mX4_holdingGates.2.1 39 = .ok (.iload_n 2, 1) := dX4_holdingGates_39
theorem ddX4_holdingGates_40 : decode mX4_holdingGates.2.1 40 = .ok (.ireturn, 1) := dX4_holdingGates_40
theorem ddX4_changeTime_0 : decode mX4_changeTime.2.1 0 = .ok (.aload_n 0, 1) := dX4_changeTime_0
theorem ddX4_changeTime_1 : decode mX4_changeTime.2.1 1 = .ok (.iload_n 1, 1) := dX4_changeTime_1
theorem ddX4_changeTime_2 : decode mX4_changeTime.2.1 2 = .ok (.iload_n 2, 1) := dX4_changeTime_2
theorem ddX4_changeTime_3 : decode mX4_changeTime.2.1 3 = .ok (.invokevirtual 129, 3) := dX4_changeTime_3
theorem ddX4_changeTime_6 : decode mX4_changeTime.2.1 6 = .ok (.ifCond .eq 17, 3) := dX4_changeTime_6
theorem ddX4_changeTime_9 : decode mX4_changeTime.2.1 9 = .ok (.aload_n 0, 1) := dX4_changeTime_9
theorem ddX4_changeTime_10 : decode mX4_changeTime.2.1 10 = .ok (.getfield 24, 3) := dX4_changeTime_10
theorem ddX4_changeTime_13 : decode mX4_changeTime.2.1 13 = .ok (.aload_n 0, 1) := dX4_changeTime_13
theorem ddX4_changeTime_14 : decode mX4_changeTime.2.1 14 = .ok (.iload_n 1, 1) := dX4_changeTime_14
theorem ddX4_changeTime_15 : decode mX4_changeTime.2.1 15 = .ok (.iload_n 2, 1) := dX4_changeTime_15
theorem ddX4_changeTime_16 : decode mX4_changeTime.2.1 16 = .ok (.invokevirtual 133, 3) := dX4_changeTime_16
theorem ddX4_changeTime_19 : decode mX4_changeTime.2.1 19 = .ok (.iaload, 1) := dX4_changeTime_19
theorem ddX4_changeTime_20 : decode mX4_changeTime.2.1 20 = .ok (.goto 4, 3) := dX4_changeTime_20
theorem ddX4_changeTime_23 : decode mX4_changeTime.2.1 23 = .ok (.iconst (-1), 1) := dX4_changeTime_23
theorem ddX4_changeTime_24 : decode mX4_changeTime.2.1 24 = .ok (.ireturn, 1) := dX4_changeTime_24
theorem ddX4_changeLevel_0 : decode mX4_changeLevel.2.1 0 = .ok (.aload_n 0, 1) := dX4_changeLevel_0
theorem ddX4_changeLevel_1 : decode mX4_changeLevel.2.1 1 = .ok (.iload_n 1, 1) := dX4_changeLevel_1
theorem ddX4_changeLevel_2 : decode mX4_changeLevel.2.1 2 = .ok (.iload_n 2, 1) := dX4_changeLevel_2
theorem ddX4_changeLevel_3 : decode mX4_changeLevel.2.1 3 = .ok (.invokevirtual 129, 3) := dX4_changeLevel_3
theorem ddX4_changeLevel_6 : decode mX4_changeLevel.2.1 6 = .ok (.ifCond .eq 17, 3) := dX4_changeLevel_6
theorem ddX4_changeLevel_9 : decode mX4_changeLevel.2.1 9 = .ok (.aload_n 0, 1) := dX4_changeLevel_9
theorem ddX4_changeLevel_10 : decode mX4_changeLevel.2.1 10 = .ok (.getfield 27, 3) := dX4_changeLevel_10
theorem ddX4_changeLevel_13 : decode mX4_changeLevel.2.1 13 = .ok (.aload_n 0, 1) := dX4_changeLevel_13
theorem ddX4_changeLevel_14 : decode mX4_changeLevel.2.1 14 = .ok (.iload_n 1, 1) := dX4_changeLevel_14
theorem ddX4_changeLevel_15 : decode mX4_changeLevel.2.1 15 = .ok (.iload_n 2, 1) := dX4_changeLevel_15
theorem ddX4_changeLevel_16 : decode mX4_changeLevel.2.1 16 = .ok (.invokevirtual 133, 3) := dX4_changeLevel_16
theorem ddX4_changeLevel_19 : decode mX4_changeLevel.2.1 19 = .ok (.iaload, 1) := dX4_changeLevel_19
theorem ddX4_changeLevel_20 : decode mX4_changeLevel.2.1 20 = .ok (.goto 4, 3) := dX4_changeLevel_20
theorem ddX4_changeLevel_23 : decode mX4_changeLevel.2.1 23 = .ok (.iconst (-1), 1) := dX4_changeLevel_23
theorem ddX4_changeLevel_24 : decode mX4_changeLevel.2.1 24 = .ok (.ireturn, 1) := dX4_changeLevel_24
theorem ddX4_hasChange_0 : decode mX4_hasChange.2.1 0 = .ok (.iload_n 2, 1) := dX4_hasChange_0
theorem ddX4_hasChange_1 : decode mX4_hasChange.2.1 1 = .ok (.ifCond .lt 22, 3) := dX4_hasChange_1
theorem ddX4_hasChange_4 : decode mX4_hasChange.2.1 4 = .ok (.iload_n 2, 1) := dX4_hasChange_4
theorem ddX4_hasChange_5 : decode mX4_hasChange.2.1 5 = .ok (.aload_n 0, 1) := dX4_hasChange_5
theorem ddX4_hasChange_6 : decode mX4_hasChange.2.1 6 = .ok (.getfield 15, 3) := dX4_hasChange_6
theorem ddX4_hasChange_9 : decode mX4_hasChange.2.1 9 = .ok (.iload_n 1, 1) := dX4_hasChange_9
theorem ddX4_hasChange_10 : decode mX4_hasChange.2.1 10 = .ok (.iaload, 1) := dX4_hasChange_10
theorem ddX4_hasChange_11 : decode mX4_hasChange.2.1 11 = .ok (.bipush 8, 2) := dX4_hasChange_11
theorem ddX4_hasChange_13 : decode mX4_hasChange.2.1 13 = .ok (.invokestatic 72, 3) := dX4_hasChange_13
theorem ddX4_hasChange_16 : decode mX4_hasChange.2.1 16 = .ok (.if_icmp .ge 7, 3) := dX4_hasChange_16
theorem ddX4_hasChange_19 : decode mX4_hasChange.2.1 19 = .ok (.iconst 1, 1) := dX4_hasChange_19
theorem ddX4_hasChange_20 : decode mX4_hasChange.2.1 20 = .ok (.goto 4, 3) := dX4_hasChange_20
theorem ddX4_hasChange_23 : decode mX4_hasChange.2.1 23 = .ok (.iconst 0, 1) := dX4_hasChange_23
theorem ddX4_hasChange_24 : decode mX4_hasChange.2.1 24 = .ok (.ireturn, 1) := dX4_hasChange_24
theorem ddX4_wavePlace_0 : decode mX4_wavePlace.2.1 0 = .ok (.iload_n 1, 1) := dX4_wavePlace_0
theorem ddX4_wavePlace_1 : decode mX4_wavePlace.2.1 1 = .ok (.bipush 8, 2) := dX4_wavePlace_1
theorem ddX4_wavePlace_3 : decode mX4_wavePlace.2.1 3 = .ok (.imul, 1) := dX4_wavePlace_3
theorem ddX4_wavePlace_4 : decode mX4_wavePlace.2.1 4 = .ok (.aload_n 0, 1) := dX4_wavePlace_4
theorem ddX4_wavePlace_5 : decode mX4_wavePlace.2.1 5 = .ok (.getfield 21, 3) := dX4_wavePlace_5
theorem ddX4_wavePlace_8 : decode mX4_wavePlace.2.1 8 = .ok (.iload_n 1, 1) := dX4_wavePlace_8
theorem ddX4_wavePlace_9 : decode mX4_wavePlace.2.1 9 = .ok (.iaload, 1) := dX4_wavePlace_9
theorem ddX4_wavePlace_10 : decode mX4_wavePlace.2.1 10 = .ok (.iconst 1, 1) := dX4_wavePlace_10
theorem ddX4_wavePlace_11 : decode mX4_wavePlace.2.1 11 = .ok (.isub, 1) := dX4_wavePlace_11
theorem ddX4_wavePlace_12 : decode mX4_wavePlace.2.1 12 = .ok (.iload_n 2, 1) := dX4_wavePlace_12
theorem ddX4_wavePlace_13 : decode mX4_wavePlace.2.1 13 = .ok (.isub, 1) := dX4_wavePlace_13
theorem ddX4_wavePlace_14 : decode mX4_wavePlace.2.1 14 = .ok (.bipush 8, 2) := dX4_wavePlace_14
theorem ddX4_wavePlace_16 : decode mX4_wavePlace.2.1 16 = .ok (.invokestatic 136, 3) := dX4_wavePlace_16
theorem ddX4_wavePlace_19 : decode mX4_wavePlace.2.1 19 = .ok (.iadd, 1) := dX4_wavePlace_19
theorem ddX4_wavePlace_20 : decode mX4_wavePlace.2.1 20 = .ok (.ireturn, 1) := dX4_wavePlace_20
theorem ddX4_waitingTime_0 : decode mX4_waitingTime.2.1 0 = .ok (.aload_n 0, 1) := dX4_waitingTime_0
theorem ddX4_waitingTime_1 : decode mX4_waitingTime.2.1 1 = .ok (.iload_n 1, 1) := dX4_waitingTime_1
theorem ddX4_waitingTime_2 : decode mX4_waitingTime.2.1 2 = .ok (.iload_n 2, 1) := dX4_waitingTime_2
theorem ddX4_waitingTime_3 : decode mX4_waitingTime.2.1 3 = .ok (.invokevirtual 139, 3) := dX4_waitingTime_3
theorem ddX4_waitingTime_6 : decode mX4_waitingTime.2.1 6 = .ok (.ifCond .eq 17, 3) := dX4_waitingTime_6
theorem ddX4_waitingTime_9 : decode mX4_waitingTime.2.1 9 = .ok (.aload_n 0, 1) := dX4_waitingTime_9
theorem ddX4_waitingTime_10 : decode mX4_waitingTime.2.1 10 = .ok (.getfield 36, 3) := dX4_waitingTime_10
theorem ddX4_waitingTime_13 : decode mX4_waitingTime.2.1 13 = .ok (.iload_n 1, 1) := dX4_waitingTime_13
theorem ddX4_waitingTime_14 : decode mX4_waitingTime.2.1 14 = .ok (.bipush 8, 2) := dX4_waitingTime_14
theorem ddX4_waitingTime_16 : decode mX4_waitingTime.2.1 16 = .ok (.imul, 1) := dX4_waitingTime_16
theorem ddX4_waitingTime_17 : decode mX4_waitingTime.2.1 17 = .ok (.iload_n 2, 1) := dX4_waitingTime_17
theorem ddX4_waitingTime_18 : decode mX4_waitingTime.2.1 18 = .ok (.iadd, 1) := dX4_waitingTime_18
theorem ddX4_waitingTime_19 : decode mX4_waitingTime.2.1 19 = .ok (.iaload, 1) := dX4_waitingTime_19
theorem ddX4_waitingTime_20 : decode mX4_waitingTime.2.1 20 = .ok (.goto 4, 3) := dX4_waitingTime_20
theorem ddX4_waitingTime_23 : decode mX4_waitingTime.2.1 23 = .ok (.iconst (-1), 1) := dX4_waitingTime_23
theorem ddX4_waitingTime_24 : decode mX4_waitingTime.2.1 24 = .ok (.ireturn, 1) := dX4_waitingTime_24
theorem ddX4_waitingLevel_0 : decode mX4_waitingLevel.2.1 0 = .ok (.aload_n 0, 1) := dX4_waitingLevel_0
theorem ddX4_waitingLevel_1 : decode mX4_waitingLevel.2.1 1 = .ok (.iload_n 1, 1) := dX4_waitingLevel_1
theorem ddX4_waitingLevel_2 : decode mX4_waitingLevel.2.1 2 = .ok (.iload_n 2, 1) := dX4_waitingLevel_2
theorem ddX4_waitingLevel_3 : decode mX4_waitingLevel.2.1 3 = .ok (.invokevirtual 139, 3) := dX4_waitingLevel_3
theorem ddX4_waitingLevel_6 : decode mX4_waitingLevel.2.1 6 = .ok (.ifCond .eq 17, 3) := dX4_waitingLevel_6
theorem ddX4_waitingLevel_9 : decode mX4_waitingLevel.2.1 9 = .ok (.aload_n 0, 1) := dX4_waitingLevel_9
theorem ddX4_waitingLevel_10 : decode mX4_waitingLevel.2.1 10 = .ok (.getfield 39, 3) := dX4_waitingLevel_10
theorem ddX4_waitingLevel_13 : decode mX4_waitingLevel.2.1 13 = .ok (.iload_n 1, 1) := dX4_waitingLevel_13
theorem ddX4_waitingLevel_14 : decode mX4_waitingLevel.2.1 14 = .ok (.bipush 8, 2) := dX4_waitingLevel_14
theorem ddX4_waitingLevel_16 : decode mX4_waitingLevel.2.1 16 = .ok (.imul, 1) := dX4_waitingLevel_16
theorem ddX4_waitingLevel_17 : decode mX4_waitingLevel.2.1 17 = .ok (.iload_n 2, 1) := dX4_waitingLevel_17
theorem ddX4_waitingLevel_18 : decode mX4_waitingLevel.2.1 18 = .ok (.iadd, 1) := dX4_waitingLevel_18
theorem ddX4_waitingLevel_19 : decode mX4_waitingLevel.2.1 19 = .ok (.iaload, 1) := dX4_waitingLevel_19
theorem ddX4_waitingLevel_20 : decode mX4_waitingLevel.2.1 20 = .ok (.goto 4, 3) := dX4_waitingLevel_20
theorem ddX4_waitingLevel_23 : decode mX4_waitingLevel.2.1 23 = .ok (.iconst (-1), 1) := dX4_waitingLevel_23
theorem ddX4_waitingLevel_24 : decode mX4_waitingLevel.2.1 24 = .ok (.ireturn, 1) := dX4_waitingLevel_24
theorem ddX4_hasWaiting_0 : decode mX4_hasWaiting.2.1 0 = .ok (.iload_n 2, 1) := dX4_hasWaiting_0
theorem ddX4_hasWaiting_1 : decode mX4_hasWaiting.2.1 1 = .ok (.ifCond .lt 17, 3) := dX4_hasWaiting_1
theorem ddX4_hasWaiting_4 : decode mX4_hasWaiting.2.1 4 = .ok (.iload_n 2, 1) := dX4_hasWaiting_4
theorem ddX4_hasWaiting_5 : decode mX4_hasWaiting.2.1 5 = .ok (.aload_n 0, 1) := dX4_hasWaiting_5
theorem ddX4_hasWaiting_6 : decode mX4_hasWaiting.2.1 6 = .ok (.getfield 33, 3) := dX4_hasWaiting_6
theorem ddX4_hasWaiting_9 : decode mX4_hasWaiting.2.1 9 = .ok (.iload_n 1, 1) := dX4_hasWaiting_9
theorem ddX4_hasWaiting_10 : decode mX4_hasWaiting.2.1 10 = .ok (.iaload, 1) := dX4_hasWaiting_10
theorem ddX4_hasWaiting_11 : decode mX4_hasWaiting.2.1 11 = .ok (.if_icmp .ge 7, 3) := dX4_hasWaiting_11
theorem ddX4_hasWaiting_14 : decode mX4_hasWaiting.2.1 14 = .ok (.iconst 1, 1) := dX4_hasWaiting_14
theorem ddX4_hasWaiting_15 : decode mX4_hasWaiting.2.1 15 = .ok (.goto 4, 3) := dX4_hasWaiting_15
theorem ddX4_hasWaiting_18 : decode mX4_hasWaiting.2.1 18 = .ok (.iconst 0, 1) := dX4_hasWaiting_18
theorem ddX4_hasWaiting_19 : decode mX4_hasWaiting.2.1 19 = .ok (.ireturn, 1) := dX4_hasWaiting_19
theorem ddX4_handIsFull_0 : decode mX4_handIsFull.2.1 0 = .ok (.aload_n 0, 1) := dX4_handIsFull_0
theorem ddX4_handIsFull_1 : decode mX4_handIsFull.2.1 1 = .ok (.getfield 65, 3) := dX4_handIsFull_1
theorem ddX4_handIsFull_4 : decode mX4_handIsFull.2.1 4 = .ok (.bipush 8, 2) := dX4_handIsFull_4
theorem ddX4_handIsFull_6 : decode mX4_handIsFull.2.1 6 = .ok (.if_icmp .lt 7, 3) := dX4_handIsFull_6
theorem ddX4_handIsFull_9 : decode mX4_handIsFull.2.1 9 = .ok (.iconst 1, 1) := dX4_handIsFull_9
theorem ddX4_handIsFull_10 : decode mX4_handIsFull.2.1 10 = .ok (.goto 4, 3) := dX4_handIsFull_10
theorem ddX4_handIsFull_13 : decode mX4_handIsFull.2.1 13 = .ok (.iconst 0, 1) := dX4_handIsFull_13
theorem ddX4_handIsFull_14 : decode mX4_handIsFull.2.1 14 = .ok (.ireturn, 1) := dX4_handIsFull_14
theorem ddX4_addByHand_0 : decode mX4_addByHand.2.1 0 = .ok (.aload_n 0, 1) := dX4_addByHand_0
theorem ddX4_addByHand_1 : decode mX4_addByHand.2.1 1 = .ok (.invokevirtual 142, 3) := dX4_addByHand_1
theorem ddX4_addByHand_4 : decode mX4_addByHand.2.1 4 = .ok (.ifCond .eq 4, 3) := dX4_addByHand_4
theorem ddX4_addByHand_7 : decode mX4_addByHand.2.1 7 = .ok (.return_, 1) := dX4_addByHand_7
theorem ddX4_addByHand_8 : decode mX4_addByHand.2.1 8 = .ok (.aload_n 0, 1) := dX4_addByHand_8
theorem ddX4_addByHand_9 : decode mX4_addByHand.2.1 9 = .ok (.getfield 65, 3) := dX4_addByHand_9
theorem ddX4_addByHand_12 : decode mX4_addByHand.2.1 12 = .ok (.istore 4, 2) := dX4_addByHand_12
theorem ddX4_addByHand_14 : decode mX4_addByHand.2.1 14 = .ok (.iload 4, 2) := dX4_addByHand_14
theorem ddX4_addByHand_16 : decode mX4_addByHand.2.1 16 = .ok (.ifCond .le 70, 3) := dX4_addByHand_16
theorem ddX4_addByHand_19 : decode mX4_addByHand.2.1 19 = .ok (.aload_n 0, 1) := dX4_addByHand_19
theorem ddX4_addByHand_20 : decode mX4_addByHand.2.1 20 = .ok (.getfield 42, 3) := dX4_addByHand_20
theorem ddX4_addByHand_23 : decode mX4_addByHand.2.1 23 = .ok (.iload 4, 2) := dX4_addByHand_23
theorem ddX4_addByHand_25 : decode mX4_addByHand.2.1 25 = .ok (.iconst 1, 1) := dX4_addByHand_25
theorem ddX4_addByHand_26 : decode mX4_addByHand.2.1 26 = .ok (.isub, 1) := dX4_addByHand_26
theorem ddX4_addByHand_27 : decode mX4_addByHand.2.1 27 = .ok (.iaload, 1) := dX4_addByHand_27
theorem ddX4_addByHand_28 : decode mX4_addByHand.2.1 28 = .ok (.iload_n 3, 1) := dX4_addByHand_28
theorem ddX4_addByHand_29 : decode mX4_addByHand.2.1 29 = .ok (.if_icmp .le 57, 3) := dX4_addByHand_29
theorem ddX4_addByHand_32 : decode mX4_addByHand.2.1 32 = .ok (.aload_n 0, 1) := dX4_addByHand_32
theorem ddX4_addByHand_33 : decode mX4_addByHand.2.1 33 = .ok (.getfield 42, 3) := dX4_addByHand_33
theorem ddX4_addByHand_36 : decode mX4_addByHand.2.1 36 = .ok (.iload 4, 2) := dX4_addByHand_36
theorem ddX4_addByHand_38 : decode mX4_addByHand.2.1 38 = .ok (.aload_n 0, 1) := dX4_addByHand_38
theorem ddX4_addByHand_39 : decode mX4_addByHand.2.1 39 = .ok (.getfield 42, 3) := dX4_addByHand_39
theorem ddX4_addByHand_42 : decode mX4_addByHand.2.1 42 = .ok (.iload 4, 2) := dX4_addByHand_42
theorem ddX4_addByHand_44 : decode mX4_addByHand.2.1 44 = .ok (.iconst 1, 1) := dX4_addByHand_44
theorem ddX4_addByHand_45 : decode mX4_addByHand.2.1 45 = .ok (.isub, 1) := dX4_addByHand_45
theorem ddX4_addByHand_46 : decode mX4_addByHand.2.1 46 = .ok (.iaload, 1) := dX4_addByHand_46
theorem ddX4_addByHand_47 : decode mX4_addByHand.2.1 47 = .ok (.iastore, 1) := dX4_addByHand_47
theorem ddX4_addByHand_48 : decode mX4_addByHand.2.1 48 = .ok (.aload_n 0, 1) := dX4_addByHand_48
theorem ddX4_addByHand_49 : decode mX4_addByHand.2.1 49 = .ok (.getfield 45, 3) := dX4_addByHand_49
theorem ddX4_addByHand_52 : decode mX4_addByHand.2.1 52 = .ok (.iload 4, 2) := dX4_addByHand_52
theorem ddX4_addByHand_54 : decode mX4_addByHand.2.1 54 = .ok (.aload_n 0, 1) := dX4_addByHand_54
theorem ddX4_addByHand_55 : decode mX4_addByHand.2.1 55 = .ok (.getfield 45, 3) := dX4_addByHand_55
theorem ddX4_addByHand_58 : decode mX4_addByHand.2.1 58 = .ok (.iload 4, 2) := dX4_addByHand_58
theorem ddX4_addByHand_60 : decode mX4_addByHand.2.1 60 = .ok (.iconst 1, 1) := dX4_addByHand_60
theorem ddX4_addByHand_61 : decode mX4_addByHand.2.1 61 = .ok (.isub, 1) := dX4_addByHand_61
theorem ddX4_addByHand_62 : decode mX4_addByHand.2.1 62 = .ok (.iaload, 1) := dX4_addByHand_62
theorem ddX4_addByHand_63 : decode mX4_addByHand.2.1 63 = .ok (.iastore, 1) := dX4_addByHand_63
theorem ddX4_addByHand_64 : decode mX4_addByHand.2.1 64 = .ok (.aload_n 0, 1) := dX4_addByHand_64
theorem ddX4_addByHand_65 : decode mX4_addByHand.2.1 65 = .ok (.getfield 48, 3) := dX4_addByHand_65
theorem ddX4_addByHand_68 : decode mX4_addByHand.2.1 68 = .ok (.iload 4, 2) := dX4_addByHand_68
theorem ddX4_addByHand_70 : decode mX4_addByHand.2.1 70 = .ok (.aload_n 0, 1) := dX4_addByHand_70
theorem ddX4_addByHand_71 : decode mX4_addByHand.2.1 71 = .ok (.getfield 48, 3) := dX4_addByHand_71
theorem ddX4_addByHand_74 : decode mX4_addByHand.2.1 74 = .ok (.iload 4, 2) := dX4_addByHand_74
theorem ddX4_addByHand_76 : decode mX4_addByHand.2.1 76 = .ok (.iconst 1, 1) := dX4_addByHand_76
theorem ddX4_addByHand_77 : decode mX4_addByHand.2.1 77 = .ok (.isub, 1) := dX4_addByHand_77
theorem ddX4_addByHand_78 : decode mX4_addByHand.2.1 78 = .ok (.iaload, 1) := dX4_addByHand_78
theorem ddX4_addByHand_79 : decode mX4_addByHand.2.1 79 = .ok (.iastore, 1) := dX4_addByHand_79
theorem ddX4_addByHand_80 : decode mX4_addByHand.2.1 80 = .ok (.iinc 4 (-1), 3) := dX4_addByHand_80
theorem ddX4_addByHand_83 : decode mX4_addByHand.2.1 83 = .ok (.goto (-69), 3) := dX4_addByHand_83
theorem ddX4_addByHand_86 : decode mX4_addByHand.2.1 86 = .ok (.aload_n 0, 1) := dX4_addByHand_86
theorem ddX4_addByHand_87 : decode mX4_addByHand.2.1 87 = .ok (.getfield 42, 3) := dX4_addByHand_87
theorem ddX4_addByHand_90 : decode mX4_addByHand.2.1 90 = .ok (.iload 4, 2) := dX4_addByHand_90
theorem ddX4_addByHand_92 : decode mX4_addByHand.2.1 92 = .ok (.iload_n 3, 1) := dX4_addByHand_92
theorem ddX4_addByHand_93 : decode mX4_addByHand.2.1 93 = .ok (.iastore, 1) := dX4_addByHand_93
theorem ddX4_addByHand_94 : decode mX4_addByHand.2.1 94 = .ok (.aload_n 0, 1) := dX4_addByHand_94
theorem ddX4_addByHand_95 : decode mX4_addByHand.2.1 95 = .ok (.getfield 45, 3) := dX4_addByHand_95
theorem ddX4_addByHand_98 : decode mX4_addByHand.2.1 98 = .ok (.iload 4, 2) := dX4_addByHand_98
theorem ddX4_addByHand_100 : decode mX4_addByHand.2.1 100 = .ok (.iload_n 1, 1) := dX4_addByHand_100
theorem ddX4_addByHand_101 : decode mX4_addByHand.2.1 101 = .ok (.iastore, 1) := dX4_addByHand_101
theorem ddX4_addByHand_102 : decode mX4_addByHand.2.1 102 = .ok (.aload_n 0, 1) := dX4_addByHand_102
theorem ddX4_addByHand_103 : decode mX4_addByHand.2.1 103 = .ok (.getfield 48, 3) := dX4_addByHand_103
theorem ddX4_addByHand_106 : decode mX4_addByHand.2.1 106 = .ok (.iload 4, 2) := dX4_addByHand_106
theorem ddX4_addByHand_108 : decode mX4_addByHand.2.1 108 = .ok (.iload_n 2, 1) := dX4_addByHand_108
theorem ddX4_addByHand_109 : decode mX4_addByHand.2.1 109 = .ok (.iastore, 1) := dX4_addByHand_109
theorem ddX4_addByHand_110 : decode mX4_addByHand.2.1 110 = .ok (.aload_n 0, 1) := dX4_addByHand_110
theorem ddX4_addByHand_111 : decode mX4_addByHand.2.1 111 = .ok (.dup, 1) := dX4_addByHand_111
theorem ddX4_addByHand_112 : decode mX4_addByHand.2.1 112 = .ok (.getfield 65, 3) := dX4_addByHand_112
theorem ddX4_addByHand_115 : decode mX4_addByHand.2.1 115 = .ok (.iconst 1, 1) := dX4_addByHand_115
theorem ddX4_addByHand_116 : decode mX4_addByHand.2.1 116 = .ok (.iadd, 1) := dX4_addByHand_116
theorem ddX4_addByHand_117 : decode mX4_addByHand.2.1 117 = .ok (.putfield 65, 3) := dX4_addByHand_117
theorem ddX4_addByHand_120 : decode mX4_addByHand.2.1 120 = .ok (.return_, 1) := dX4_addByHand_120
theorem ddX4_tellAll_0 : decode mX4_tellAll.2.1 0 = .ok (.iconst 0, 1) := dX4_tellAll_0
theorem ddX4_tellAll_1 : decode mX4_tellAll.2.1 1 = .ok (.istore_n 2, 1) := dX4_tellAll_1
theorem ddX4_tellAll_2 : decode mX4_tellAll.2.1 2 = .ok (.iload_n 2, 1) := dX4_tellAll_2
theorem ddX4_tellAll_3 : decode mX4_tellAll.2.1 3 = .ok (.aload_n 1, 1) := dX4_tellAll_3
theorem ddX4_tellAll_4 : decode mX4_tellAll.2.1 4 = .ok (.getfield 92, 3) := dX4_tellAll_4
theorem ddX4_tellAll_7 : decode mX4_tellAll.2.1 7 = .ok (.if_icmp .ge 21, 3) := dX4_tellAll_7
theorem ddX4_tellAll_10 : decode mX4_tellAll.2.1 10 = .ok (.aload_n 0, 1) := dX4_tellAll_10
theorem ddX4_tellAll_11 : decode mX4_tellAll.2.1 11 = .ok (.aload_n 1, 1) := dX4_tellAll_11
theorem ddX4_tellAll_12 : decode mX4_tellAll.2.1 12 = .ok (.iload_n 2, 1) := dX4_tellAll_12
theorem ddX4_tellAll_13 : decode mX4_tellAll.2.1 13 = .ok (.aload_n 0, 1) := dX4_tellAll_13
theorem ddX4_tellAll_14 : decode mX4_tellAll.2.1 14 = .ok (.aload_n 1, 1) := dX4_tellAll_14
theorem ddX4_tellAll_15 : decode mX4_tellAll.2.1 15 = .ok (.iload_n 2, 1) := dX4_tellAll_15
theorem ddX4_tellAll_16 : decode mX4_tellAll.2.1 16 = .ok (.invokevirtual 125, 3) := dX4_tellAll_16
theorem ddX4_tellAll_19 : decode mX4_tellAll.2.1 19 = .ok (.invokevirtual 146, 3) := dX4_tellAll_19
theorem ddX4_tellAll_22 : decode mX4_tellAll.2.1 22 = .ok (.iinc 2 1, 3) := dX4_tellAll_22
theorem ddX4_tellAll_25 : decode mX4_tellAll.2.1 25 = .ok (.goto (-23), 3) := dX4_tellAll_25
theorem ddX4_tellAll_28 : decode mX4_tellAll.2.1 28 = .ok (.return_, 1) := dX4_tellAll_28
theorem ddX4_tellLookers_0 : decode mX4_tellLookers.2.1 0 = .ok (.iconst 0, 1) := dX4_tellLookers_0
theorem ddX4_tellLookers_1 : decode mX4_tellLookers.2.1 1 = .ok (.istore_n 3, 1) := dX4_tellLookers_1
theorem ddX4_tellLookers_2 : decode mX4_tellLookers.2.1 2 = .ok (.iload_n 3, 1) := dX4_tellLookers_2
theorem ddX4_tellLookers_3 : decode mX4_tellLookers.2.1 3 = .ok (.aload_n 1, 1) := dX4_tellLookers_3
theorem ddX4_tellLookers_4 : decode mX4_tellLookers.2.1 4 = .ok (.getfield 92, 3) := dX4_tellLookers_4
theorem ddX4_tellLookers_7 : decode mX4_tellLookers.2.1 7 = .ok (.if_icmp .ge 31, 3) := dX4_tellLookers_7
theorem ddX4_tellLookers_10 : decode mX4_tellLookers.2.1 10 = .ok (.aload_n 1, 1) := dX4_tellLookers_10
theorem ddX4_tellLookers_11 : decode mX4_tellLookers.2.1 11 = .ok (.iload_n 3, 1) := dX4_tellLookers_11
theorem ddX4_tellLookers_12 : decode mX4_tellLookers.2.1 12 = .ok (.invokevirtual 150, 3) := dX4_tellLookers_12
theorem ddX4_tellLookers_15 : decode mX4_tellLookers.2.1 15 = .ok (.iload_n 2, 1) := dX4_tellLookers_15
theorem ddX4_tellLookers_16 : decode mX4_tellLookers.2.1 16 = .ok (.iand, 1) := dX4_tellLookers_16
theorem ddX4_tellLookers_17 : decode mX4_tellLookers.2.1 17 = .ok (.ifCond .eq 15, 3) := dX4_tellLookers_17
theorem ddX4_tellLookers_20 : decode mX4_tellLookers.2.1 20 = .ok (.aload_n 0, 1) := dX4_tellLookers_20
theorem ddX4_tellLookers_21 : decode mX4_tellLookers.2.1 21 = .ok (.aload_n 1, 1) := dX4_tellLookers_21
theorem ddX4_tellLookers_22 : decode mX4_tellLookers.2.1 22 = .ok (.iload_n 3, 1) := dX4_tellLookers_22
theorem ddX4_tellLookers_23 : decode mX4_tellLookers.2.1 23 = .ok (.aload_n 0, 1) := dX4_tellLookers_23
theorem ddX4_tellLookers_24 : decode mX4_tellLookers.2.1 24 = .ok (.aload_n 1, 1) := dX4_tellLookers_24
theorem ddX4_tellLookers_25 : decode mX4_tellLookers.2.1 25 = .ok (.iload_n 3, 1) := dX4_tellLookers_25
theorem ddX4_tellLookers_26 : decode mX4_tellLookers.2.1 26 = .ok (.invokevirtual 125, 3) := dX4_tellLookers_26
theorem ddX4_tellLookers_29 : decode mX4_tellLookers.2.1 29 = .ok (.invokevirtual 146, 3) := dX4_tellLookers_29
theorem ddX4_tellLookers_32 : decode mX4_tellLookers.2.1 32 = .ok (.iinc 3 1, 3) := dX4_tellLookers_32
theorem ddX4_tellLookers_35 : decode mX4_tellLookers.2.1 35 = .ok (.goto (-33), 3) := dX4_tellLookers_35
theorem ddX4_tellLookers_38 : decode mX4_tellLookers.2.1 38 = .ok (.return_, 1) := dX4_tellLookers_38
theorem ddX4_tellGate_0 : decode mX4_tellGate.2.1 0 = .ok (.aload_n 0, 1) := dX4_tellGate_0
theorem ddX4_tellGate_1 : decode mX4_tellGate.2.1 1 = .ok (.getfield 51, 3) := dX4_tellGate_1
theorem ddX4_tellGate_4 : decode mX4_tellGate.2.1 4 = .ok (.aload_n 1, 1) := dX4_tellGate_4
theorem ddX4_tellGate_5 : decode mX4_tellGate.2.1 5 = .ok (.getfield 154, 3) := dX4_tellGate_5
theorem ddX4_tellGate_8 : decode mX4_tellGate.2.1 8 = .ok (.iload_n 2, 1) := dX4_tellGate_8
theorem ddX4_tellGate_9 : decode mX4_tellGate.2.1 9 = .ok (.iaload, 1) := dX4_tellGate_9
theorem ddX4_tellGate_10 : decode mX4_tellGate.2.1 10 = .ok (.iadd, 1) := dX4_tellGate_10
theorem ddX4_tellGate_11 : decode mX4_tellGate.2.1 11 = .ok (.istore 4, 2) := dX4_tellGate_11
theorem ddX4_tellGate_13 : decode mX4_tellGate.2.1 13 = .ok (.iload_n 2, 1) := dX4_tellGate_13
theorem ddX4_tellGate_14 : decode mX4_tellGate.2.1 14 = .ok (.bipush 8, 2) := dX4_tellGate_14
theorem ddX4_tellGate_16 : decode mX4_tellGate.2.1 16 = .ok (.imul, 1) := dX4_tellGate_16
theorem ddX4_tellGate_17 : decode mX4_tellGate.2.1 17 = .ok (.istore 5, 2) := dX4_tellGate_17
theorem ddX4_tellGate_19 : decode mX4_tellGate.2.1 19 = .ok (.aload_n 0, 1) := dX4_tellGate_19
theorem ddX4_tellGate_20 : decode mX4_tellGate.2.1 20 = .ok (.getfield 33, 3) := dX4_tellGate_20
theorem ddX4_tellGate_23 : decode mX4_tellGate.2.1 23 = .ok (.iload_n 2, 1) := dX4_tellGate_23
theorem ddX4_tellGate_24 : decode mX4_tellGate.2.1 24 = .ok (.iaload, 1) := dX4_tellGate_24
theorem ddX4_tellGate_25 : decode mX4_tellGate.2.1 25 = .ok (.ifCond .le 37, 3) := dX4_tellGate_25
theorem ddX4_tellGate_28 : decode mX4_tellGate.2.1 28 = .ok (.aload_n 0, 1) := dX4_tellGate_28
theorem ddX4_tellGate_29 : decode mX4_tellGate.2.1 29 = .ok (.getfield 36, 3) := dX4_tellGate_29
theorem ddX4_tellGate_32 : decode mX4_tellGate.2.1 32 = .ok (.iload 5, 2) := dX4_tellGate_32
theorem ddX4_tellGate_34 : decode mX4_tellGate.2.1 34 = .ok (.aload_n 0, 1) := dX4_tellGate_34
theorem ddX4_tellGate_35 : decode mX4_tellGate.2.1 35 = .ok (.getfield 33, 3) := dX4_tellGate_35
theorem ddX4_tellGate_38 : decode mX4_tellGate.2.1 38 = .ok (.iload_n 2, 1) := dX4_tellGate_38
theorem ddX4_tellGate_39 : decode mX4_tellGate.2.1 39 = .ok (.iaload, 1) := dX4_tellGate_39
theorem ddX4_tellGate_40 : decode mX4_tellGate.2.1 40 = .ok (.iadd, 1) := dX4_tellGate_40
theorem ddX4_tellGate_41 : decode mX4_tellGate.2.1 41 = .ok (.iconst 1, 1) := dX4_tellGate_41
theorem ddX4_tellGate_42 : decode mX4_tellGate.2.1 42 = .ok (.isub, 1) := dX4_tellGate_42
theorem ddX4_tellGate_43 : decode mX4_tellGate.2.1 43 = .ok (.iaload, 1) := dX4_tellGate_43
theorem ddX4_tellGate_44 : decode mX4_tellGate.2.1 44 = .ok (.iload 4, 2) := dX4_tellGate_44
theorem ddX4_tellGate_46 : decode mX4_tellGate.2.1 46 = .ok (.if_icmp .lt 16, 3) := dX4_tellGate_46
theorem ddX4_tellGate_49 : decode mX4_tellGate.2.1 49 = .ok (.aload_n 0, 1) := dX4_tellGate_49
theorem ddX4_tellGate_50 : decode mX4_tellGate.2.1 50 = .ok (.getfield 33, 3) := dX4_tellGate_50
theorem ddX4_tellGate_53 : decode mX4_tellGate.2.1 53 = .ok (.iload_n 2, 1) := dX4_tellGate_53
theorem ddX4_tellGate_54 : decode mX4_tellGate.2.1 54 = .ok (.dup2, 1) := dX4_tellGate_54
theorem ddX4_tellGate_55 : decode mX4_tellGate.2.1 55 = .ok (.iaload, 1) := dX4_tellGate_55
theorem ddX4_tellGate_56 : decode mX4_tellGate.2.1 56 = .ok (.iconst 1, 1) := dX4_tellGate_56
theorem ddX4_tellGate_57 : decode mX4_tellGate.2.1 57 = .ok (.isub, 1) := dX4_tellGate_57
theorem ddX4_tellGate_58 : decode mX4_tellGate.2.1 58 = .ok (.iastore, 1) := dX4_tellGate_58
theorem ddX4_tellGate_59 : decode mX4_tellGate.2.1 59 = .ok (.goto (-40), 3) := dX4_tellGate_59
theorem ddX4_tellGate_62 : decode mX4_tellGate.2.1 62 = .ok (.aload_n 1, 1) := dX4_tellGate_62
theorem ddX4_tellGate_63 : decode mX4_tellGate.2.1 63 = .ok (.getfield 157, 3) := dX4_tellGate_63
theorem ddX4_tellGate_66 : decode mX4_tellGate.2.1 66 = .ok (.iload_n 2, 1) := dX4_tellGate_66
theorem ddX4_tellGate_67 : decode mX4_tellGate.2.1 67 = .ok (.iaload, 1) := dX4_tellGate_67
theorem ddX4_tellGate_68 : decode mX4_tellGate.2.1 68 = .ok (.iconst 1, 1) := dX4_tellGate_68
theorem ddX4_tellGate_69 : decode mX4_tellGate.2.1 69 = .ok (.if_icmp .ne 21, 3) := dX4_tellGate_69
theorem ddX4_tellGate_72 : decode mX4_tellGate.2.1 72 = .ok (.aload_n 0, 1) := dX4_tellGate_72
theorem ddX4_tellGate_73 : decode mX4_tellGate.2.1 73 = .ok (.iload_n 2, 1) := dX4_tellGate_73
theorem ddX4_tellGate_74 : decode mX4_tellGate.2.1 74 = .ok (.aload_n 0, 1) := dX4_tellGate_74
theorem ddX4_tellGate_75 : decode mX4_tellGate.2.1 75 = .ok (.getfield 33, 3) := dX4_tellGate_75
theorem ddX4_tellGate_78 : decode mX4_tellGate.2.1 78 = .ok (.iload_n 2, 1) := dX4_tellGate_78
theorem ddX4_tellGate_79 : decode mX4_tellGate.2.1 79 = .ok (.iaload, 1) := dX4_tellGate_79
theorem ddX4_tellGate_80 : decode mX4_tellGate.2.1 80 = .ok (.aload_n 0, 1) := dX4_tellGate_80
theorem ddX4_tellGate_81 : decode mX4_tellGate.2.1 81 = .ok (.iload_n 2, 1) := dX4_tellGate_81
theorem ddX4_tellGate_82 : decode mX4_tellGate.2.1 82 = .ok (.iload_n 3, 1) := dX4_tellGate_82
theorem ddX4_tellGate_83 : decode mX4_tellGate.2.1 83 = .ok (.invokevirtual 160, 3) := dX4_tellGate_83
theorem ddX4_tellGate_86 : decode mX4_tellGate.2.1 86 = .ok (.isub, 1) := dX4_tellGate_86
theorem ddX4_tellGate_87 : decode mX4_tellGate.2.1 87 = .ok (.invokevirtual 163, 3) := dX4_tellGate_87
theorem ddX4_tellGate_90 : decode mX4_tellGate.2.1 90 = .ok (.aload_n 0, 1) := dX4_tellGate_90
theorem ddX4_tellGate_91 : decode mX4_tellGate.2.1 91 = .ok (.getfield 33, 3) := dX4_tellGate_91
theorem ddX4_tellGate_94 : decode mX4_tellGate.2.1 94 = .ok (.iload_n 2, 1) := dX4_tellGate_94
theorem ddX4_tellGate_95 : decode mX4_tellGate.2.1 95 = .ok (.iaload, 1) := dX4_tellGate_95
theorem ddX4_tellGate_96 : decode mX4_tellGate.2.1 96 = .ok (.bipush 8, 2) := dX4_tellGate_96
theorem ddX4_tellGate_98 : decode mX4_tellGate.2.1 98 = .ok (.if_icmp .lt 9, 3) := dX4_tellGate_98
theorem ddX4_tellGate_101 : decode mX4_tellGate.2.1 101 = .ok (.aload_n 0, 1) := dX4_tellGate_101
theorem ddX4_tellGate_102 : decode mX4_tellGate.2.1 102 = .ok (.iload_n 2, 1) := dX4_tellGate_102
theorem ddX4_tellGate_103 : decode mX4_tellGate.2.1 103 = .ok (.iconst 1, 1) := dX4_tellGate_103
theorem ddX4_tellGate_104 : decode mX4_tellGate.2.1 104 = .ok (.invokevirtual 163, 3) := dX4_tellGate_104
theorem ddX4_tellGate_107 : decode mX4_tellGate.2.1 107 = .ok (.aload_n 0, 1) := dX4_tellGate_107
theorem ddX4_tellGate_108 : decode mX4_tellGate.2.1 108 = .ok (.getfield 36, 3) := dX4_tellGate_108
theorem ddX4_tellGate_111 : decode mX4_tellGate.2.1 111 = .ok (.iload 5, 2) := dX4_tellGate_111
theorem ddX4_tellGate_113 : decode mX4_tellGate.2.1 113 = .ok (.aload_n 0, 1) := dX4_tellGate_113
theorem ddX4_tellGate_114 : decode mX4_tellGate.2.1 114 = .ok (.getfield 33, 3) := dX4_tellGate_114
theorem ddX4_tellGate_117 : decode mX4_tellGate.2.1 117 = .ok (.iload_n 2, 1) := dX4_tellGate_117
theorem ddX4_tellGate_118 : decode mX4_tellGate.2.1 118 = .ok (.iaload, 1) := dX4_tellGate_118
theorem ddX4_tellGate_119 : decode mX4_tellGate.2.1 119 = .ok (.iadd, 1) := dX4_tellGate_119
theorem ddX4_tellGate_120 : decode mX4_tellGate.2.1 120 = .ok (.iload 4, 2) := dX4_tellGate_120
theorem ddX4_tellGate_122 : decode mX4_tellGate.2.1 122 = .ok (.iastore, 1) := dX4_tellGate_122
theorem ddX4_tellGate_123 : decode mX4_tellGate.2.1 123 = .ok (.aload_n 0, 1) := dX4_tellGate_123
theorem ddX4_tellGate_124 : decode mX4_tellGate.2.1 124 = .ok (.getfield 39, 3) := dX4_tellGate_124
theorem ddX4_tellGate_127 : decode mX4_tellGate.2.1 127 = .ok (.iload 5, 2) := dX4_tellGate_127
theorem ddX4_tellGate_129 : decode mX4_tellGate.2.1 129 = .ok (.aload_n 0, 1) := dX4_tellGate_129
theorem ddX4_tellGate_130 : decode mX4_tellGate.2.1 130 = .ok (.getfield 33, 3) := dX4_tellGate_130
theorem ddX4_tellGate_133 : decode mX4_tellGate.2.1 133 = .ok (.iload_n 2, 1) := dX4_tellGate_133
theorem ddX4_tellGate_134 : decode mX4_tellGate.2.1 134 = .ok (.iaload, 1) := dX4_tellGate_134
theorem ddX4_tellGate_135 : decode mX4_tellGate.2.1 135 = .ok (.iadd, 1) := dX4_tellGate_135
theorem ddX4_tellGate_136 : decode mX4_tellGate.2.1 136 = .ok (.iload_n 3, 1) := dX4_tellGate_136
theorem ddX4_tellGate_137 : decode mX4_tellGate.2.1 137 = .ok (.iastore, 1) := dX4_tellGate_137
theorem ddX4_tellGate_138 : decode mX4_tellGate.2.1 138 = .ok (.aload_n 0, 1) := dX4_tellGate_138
theorem ddX4_tellGate_139 : decode mX4_tellGate.2.1 139 = .ok (.getfield 33, 3) := dX4_tellGate_139
theorem ddX4_tellGate_142 : decode mX4_tellGate.2.1 142 = .ok (.iload_n 2, 1) := dX4_tellGate_142
theorem ddX4_tellGate_143 : decode mX4_tellGate.2.1 143 = .ok (.dup2, 1) := dX4_tellGate_143
theorem ddX4_tellGate_144 : decode mX4_tellGate.2.1 144 = .ok (.iaload, 1) := dX4_tellGate_144
theorem ddX4_tellGate_145 : decode mX4_tellGate.2.1 145 = .ok (.iconst 1, 1) := dX4_tellGate_145
theorem ddX4_tellGate_146 : decode mX4_tellGate.2.1 146 = .ok (.iadd, 1) := dX4_tellGate_146
theorem ddX4_tellGate_147 : decode mX4_tellGate.2.1 147 = .ok (.iastore, 1) := dX4_tellGate_147
theorem ddX4_tellGate_148 : decode mX4_tellGate.2.1 148 = .ok (.return_, 1) := dX4_tellGate_148
theorem ddX4_alikeAtEnd_0 : decode mX4_alikeAtEnd.2.1 0 = .ok (.iload_n 1, 1) := dX4_alikeAtEnd_0
theorem ddX4_alikeAtEnd_1 : decode mX4_alikeAtEnd.2.1 1 = .ok (.bipush 8, 2) := dX4_alikeAtEnd_1
theorem ddX4_alikeAtEnd_3 : decode mX4_alikeAtEnd.2.1 3 = .ok (.imul, 1) := dX4_alikeAtEnd_3
theorem ddX4_alikeAtEnd_4 : decode mX4_alikeAtEnd.2.1 4 = .ok (.istore_n 3, 1) := dX4_alikeAtEnd_4
theorem ddX4_alikeAtEnd_5 : decode mX4_alikeAtEnd.2.1 5 = .ok (.iconst 0, 1) := dX4_alikeAtEnd_5
theorem ddX4_alikeAtEnd_6 : decode mX4_alikeAtEnd.2.1 6 = .ok (.istore 4, 2) := dX4_alikeAtEnd_6
theorem ddX4_alikeAtEnd_8 : decode mX4_alikeAtEnd.2.1 8 = .ok (.iload 4, 2) := dX4_alikeAtEnd_8
theorem ddX4_alikeAtEnd_10 : decode mX4_alikeAtEnd.2.1 10 = .ok (.aload_n 0, 1) := dX4_alikeAtEnd_10
theorem ddX4_alikeAtEnd_11 : decode mX4_alikeAtEnd.2.1 11 = .ok (.getfield 33, 3) := dX4_alikeAtEnd_11
theorem ddX4_alikeAtEnd_14 : decode mX4_alikeAtEnd.2.1 14 = .ok (.iload_n 1, 1) := dX4_alikeAtEnd_14
theorem ddX4_alikeAtEnd_15 : decode mX4_alikeAtEnd.2.1 15 = .ok (.iaload, 1) := dX4_alikeAtEnd_15
theorem ddX4_alikeAtEnd_16 : decode mX4_alikeAtEnd.2.1 16 = .ok (.if_icmp .ge 31, 3) := dX4_alikeAtEnd_16
theorem ddX4_alikeAtEnd_19 : decode mX4_alikeAtEnd.2.1 19 = .ok (.aload_n 0, 1) := dX4_alikeAtEnd_19
theorem ddX4_alikeAtEnd_20 : decode mX4_alikeAtEnd.2.1 20 = .ok (.getfield 39, 3) := dX4_alikeAtEnd_20
theorem ddX4_alikeAtEnd_23 : decode mX4_alikeAtEnd.2.1 23 = .ok (.iload_n 3, 1) := dX4_alikeAtEnd_23
theorem ddX4_alikeAtEnd_24 : decode mX4_alikeAtEnd.2.1 24 = .ok (.aload_n 0, 1) := dX4_alikeAtEnd_24
theorem ddX4_alikeAtEnd_25 : decode mX4_alikeAtEnd.2.1 25 = .ok (.getfield 33, 3) := dX4_alikeAtEnd_25
theorem ddX4_alikeAtEnd_28 : decode mX4_alikeAtEnd.2.1 28 = .ok (.iload_n 1, 1) := dX4_alikeAtEnd_28
theorem ddX4_alikeAtEnd_29 : decode mX4_alikeAtEnd.2.1 29 = .ok (.iaload, 1) := dX4_alikeAtEnd_29
theorem ddX4_alikeAtEnd_30 : decode mX4_alikeAtEnd.2.1 30 = .ok (.iadd, 1) := dX4_alikeAtEnd_30
theorem ddX4_alikeAtEnd_31 : decode mX4_alikeAtEnd.2.1 31 = .ok (.iconst 1, 1) := dX4_alikeAtEnd_31
theorem ddX4_alikeAtEnd_32 : decode mX4_alikeAtEnd.2.1 32 = .ok (.isub, 1) := dX4_alikeAtEnd_32
theorem ddX4_alikeAtEnd_33 : decode mX4_alikeAtEnd.2.1 33 = .ok (.iload 4, 2) := dX4_alikeAtEnd_33
theorem ddX4_alikeAtEnd_35 : decode mX4_alikeAtEnd.2.1 35 = .ok (.isub, 1) := dX4_alikeAtEnd_35
theorem ddX4_alikeAtEnd_36 : decode mX4_alikeAtEnd.2.1 36 = .ok (.iaload, 1) := dX4_alikeAtEnd_36
theorem ddX4_alikeAtEnd_37 : decode mX4_alikeAtEnd.2.1 37 = .ok (.iload_n 2, 1) := dX4_alikeAtEnd_37
theorem ddX4_alikeAtEnd_38 : decode mX4_alikeAtEnd.2.1 38 = .ok (.if_icmp .ne 9, 3) := dX4_alikeAtEnd_38
theorem ddX4_alikeAtEnd_41 : decode mX4_alikeAtEnd.2.1 41 = .ok (.iinc 4 1, 3) := dX4_alikeAtEnd_41
theorem ddX4_alikeAtEnd_44 : decode mX4_alikeAtEnd.2.1 44 = .ok (.goto (-36), 3) := dX4_alikeAtEnd_44
theorem ddX4_alikeAtEnd_47 : decode mX4_alikeAtEnd.2.1 47 = .ok (.iload 4, 2) := dX4_alikeAtEnd_47
theorem ddX4_alikeAtEnd_49 : decode mX4_alikeAtEnd.2.1 49 = .ok (.ireturn, 1) := dX4_alikeAtEnd_49
theorem ddX4_dropFirst_0 : decode mX4_dropFirst.2.1 0 = .ok (.iload_n 1, 1) := dX4_dropFirst_0
theorem ddX4_dropFirst_1 : decode mX4_dropFirst.2.1 1 = .ok (.bipush 8, 2) := dX4_dropFirst_1
theorem ddX4_dropFirst_3 : decode mX4_dropFirst.2.1 3 = .ok (.imul, 1) := dX4_dropFirst_3
theorem ddX4_dropFirst_4 : decode mX4_dropFirst.2.1 4 = .ok (.istore_n 3, 1) := dX4_dropFirst_4
theorem ddX4_dropFirst_5 : decode mX4_dropFirst.2.1 5 = .ok (.aload_n 0, 1) := dX4_dropFirst_5
theorem ddX4_dropFirst_6 : decode mX4_dropFirst.2.1 6 = .ok (.getfield 33, 3) := dX4_dropFirst_6
theorem ddX4_dropFirst_9 : decode mX4_dropFirst.2.1 9 = .ok (.iload_n 1, 1) := dX4_dropFirst_9
theorem ddX4_dropFirst_10 : decode mX4_dropFirst.2.1 10 = .ok (.iaload, 1) := dX4_dropFirst_10
theorem ddX4_dropFirst_11 : decode mX4_dropFirst.2.1 11 = .ok (.iload_n 2, 1) := dX4_dropFirst_11
theorem ddX4_dropFirst_12 : decode mX4_dropFirst.2.1 12 = .ok (.isub, 1) := dX4_dropFirst_12
theorem ddX4_dropFirst_13 : decode mX4_dropFirst.2.1 13 = .ok (.istore 4, 2) := dX4_dropFirst_13
theorem ddX4_dropFirst_15 : decode mX4_dropFirst.2.1 15 = .ok (.iconst 0, 1) := dX4_dropFirst_15
theorem ddX4_dropFirst_16 : decode mX4_dropFirst.2.1 16 = .ok (.istore 5, 2) := dX4_dropFirst_16
theorem ddX4_dropFirst_18 : decode mX4_dropFirst.2.1 18 = .ok (.iload 5, 2) := dX4_dropFirst_18
theorem ddX4_dropFirst_20 : decode mX4_dropFirst.2.1 20 = .ok (.iload 4, 2) := dX4_dropFirst_20
theorem ddX4_dropFirst_22 : decode mX4_dropFirst.2.1 22 = .ok (.if_icmp .ge 49, 3) := dX4_dropFirst_22
theorem ddX4_dropFirst_25 : decode mX4_dropFirst.2.1 25 = .ok (.aload_n 0, 1) := dX4_dropFirst_25
theorem ddX4_dropFirst_26 : decode mX4_dropFirst.2.1 26 = .ok (.getfield 36, 3) := dX4_dropFirst_26
theorem ddX4_dropFirst_29 : decode mX4_dropFirst.2.1 29 = .ok (.iload_n 3, 1) := dX4_dropFirst_29
theorem ddX4_dropFirst_30 : decode mX4_dropFirst.2.1 30 = .ok (.iload 5, 2) := dX4_dropFirst_30
theorem ddX4_dropFirst_32 : decode mX4_dropFirst.2.1 32 = .ok (.iadd, 1) := dX4_dropFirst_32
theorem ddX4_dropFirst_33 : decode mX4_dropFirst.2.1 33 = .ok (.aload_n 0, 1) := dX4_dropFirst_33
theorem ddX4_dropFirst_34 : decode mX4_dropFirst.2.1 34 = .ok (.getfield 36, 3) := dX4_dropFirst_34
theorem ddX4_dropFirst_37 : decode mX4_dropFirst.2.1 37 = .ok (.iload_n 3, 1) := dX4_dropFirst_37
theorem ddX4_dropFirst_38 : decode mX4_dropFirst.2.1 38 = .ok (.iload 5, 2) := dX4_dropFirst_38
theorem ddX4_dropFirst_40 : decode mX4_dropFirst.2.1 40 = .ok (.iadd, 1) := dX4_dropFirst_40
theorem ddX4_dropFirst_41 : decode mX4_dropFirst.2.1 41 = .ok (.iload_n 2, 1) := dX4_dropFirst_41
theorem ddX4_dropFirst_42 : decode mX4_dropFirst.2.1 42 = .ok (.iadd, 1) := dX4_dropFirst_42
theorem ddX4_dropFirst_43 : decode mX4_dropFirst.2.1 43 = .ok (.iaload, 1) := dX4_dropFirst_43
theorem ddX4_dropFirst_44 : decode mX4_dropFirst.2.1 44 = .ok (.iastore, 1) := dX4_dropFirst_44
theorem ddX4_dropFirst_45 : decode mX4_dropFirst.2.1 45 = .ok (.aload_n 0, 1) := dX4_dropFirst_45
theorem ddX4_dropFirst_46 : decode mX4_dropFirst.2.1 46 = .ok (.getfield 39, 3) := dX4_dropFirst_46
theorem ddX4_dropFirst_49 : decode mX4_dropFirst.2.1 49 = .ok (.iload_n 3, 1) := dX4_dropFirst_49
theorem ddX4_dropFirst_50 : decode mX4_dropFirst.2.1 50 = .ok (.iload 5, 2) := dX4_dropFirst_50
theorem ddX4_dropFirst_52 : decode mX4_dropFirst.2.1 52 = .ok (.iadd, 1) := dX4_dropFirst_52
theorem ddX4_dropFirst_53 : decode mX4_dropFirst.2.1 53 = .ok (.aload_n 0, 1) := dX4_dropFirst_53
theorem ddX4_dropFirst_54 : decode mX4_dropFirst.2.1 54 = .ok (.getfield 39, 3) := dX4_dropFirst_54
theorem ddX4_dropFirst_57 : decode mX4_dropFirst.2.1 57 = .ok (.iload_n 3, 1) := dX4_dropFirst_57
theorem ddX4_dropFirst_58 : decode mX4_dropFirst.2.1 58 = .ok (.iload 5, 2) := dX4_dropFirst_58
theorem ddX4_dropFirst_60 : decode mX4_dropFirst.2.1 60 = .ok (.iadd, 1) := dX4_dropFirst_60
theorem ddX4_dropFirst_61 : decode mX4_dropFirst.2.1 61 = .ok (.iload_n 2, 1) := dX4_dropFirst_61
theorem ddX4_dropFirst_62 : decode mX4_dropFirst.2.1 62 = .ok (.iadd, 1) := dX4_dropFirst_62
theorem ddX4_dropFirst_63 : decode mX4_dropFirst.2.1 63 = .ok (.iaload, 1) := dX4_dropFirst_63
theorem ddX4_dropFirst_64 : decode mX4_dropFirst.2.1 64 = .ok (.iastore, 1) := dX4_dropFirst_64
theorem ddX4_dropFirst_65 : decode mX4_dropFirst.2.1 65 = .ok (.iinc 5 1, 3) := dX4_dropFirst_65
theorem ddX4_dropFirst_68 : decode mX4_dropFirst.2.1 68 = .ok (.goto (-50), 3) := dX4_dropFirst_68
theorem ddX4_dropFirst_71 : decode mX4_dropFirst.2.1 71 = .ok (.aload_n 0, 1) := dX4_dropFirst_71
theorem ddX4_dropFirst_72 : decode mX4_dropFirst.2.1 72 = .ok (.getfield 33, 3) := dX4_dropFirst_72
theorem ddX4_dropFirst_75 : decode mX4_dropFirst.2.1 75 = .ok (.iload_n 1, 1) := dX4_dropFirst_75
theorem ddX4_dropFirst_76 : decode mX4_dropFirst.2.1 76 = .ok (.iload 4, 2) := dX4_dropFirst_76
theorem ddX4_dropFirst_78 : decode mX4_dropFirst.2.1 78 = .ok (.iastore, 1) := dX4_dropFirst_78
theorem ddX4_dropFirst_79 : decode mX4_dropFirst.2.1 79 = .ok (.return_, 1) := dX4_dropFirst_79
theorem ddX4_emptyQueues_0 : decode mX4_emptyQueues.2.1 0 = .ok (.iconst 0, 1) := dX4_emptyQueues_0
theorem ddX4_emptyQueues_1 : decode mX4_emptyQueues.2.1 1 = .ok (.istore_n 1, 1) := dX4_emptyQueues_1
theorem ddX4_emptyQueues_2 : decode mX4_emptyQueues.2.1 2 = .ok (.iload_n 1, 1) := dX4_emptyQueues_2
theorem ddX4_emptyQueues_3 : decode mX4_emptyQueues.2.1 3 = .ok (.bipush 8, 2) := dX4_emptyQueues_3
theorem ddX4_emptyQueues_5 : decode mX4_emptyQueues.2.1 5 = .ok (.if_icmp .ge 16, 3) := dX4_emptyQueues_5
theorem ddX4_emptyQueues_8 : decode mX4_emptyQueues.2.1 8 = .ok (.aload_n 0, 1) := dX4_emptyQueues_8
theorem ddX4_emptyQueues_9 : decode mX4_emptyQueues.2.1 9 = .ok (.getfield 33, 3) := dX4_emptyQueues_9
theorem ddX4_emptyQueues_12 : decode mX4_emptyQueues.2.1 12 = .ok (.iload_n 1, 1) := dX4_emptyQueues_12
theorem ddX4_emptyQueues_13 : decode mX4_emptyQueues.2.1 13 = .ok (.iconst 0, 1) := dX4_emptyQueues_13
theorem ddX4_emptyQueues_14 : decode mX4_emptyQueues.2.1 14 = .ok (.iastore, 1) := dX4_emptyQueues_14
theorem ddX4_emptyQueues_15 : decode mX4_emptyQueues.2.1 15 = .ok (.iinc 1 1, 3) := dX4_emptyQueues_15
theorem ddX4_emptyQueues_18 : decode mX4_emptyQueues.2.1 18 = .ok (.goto (-16), 3) := dX4_emptyQueues_18
theorem ddX4_emptyQueues_21 : decode mX4_emptyQueues.2.1 21 = .ok (.aload_n 0, 1) := dX4_emptyQueues_21
theorem ddX4_emptyQueues_22 : decode mX4_emptyQueues.2.1 22 = .ok (.iconst 0, 1) := dX4_emptyQueues_22
theorem ddX4_emptyQueues_23 : decode mX4_emptyQueues.2.1 23 = .ok (.putfield 65, 3) := dX4_emptyQueues_23
theorem ddX4_emptyQueues_26 : decode mX4_emptyQueues.2.1 26 = .ok (.return_, 1) := dX4_emptyQueues_26
theorem ddX4_advanceTo_0 : decode mX4_advanceTo.2.1 0 = .ok (.iconst 0, 1) := dX4_advanceTo_0
theorem ddX4_advanceTo_1 : decode mX4_advanceTo.2.1 1 = .ok (.istore_n 3, 1) := dX4_advanceTo_1
theorem ddX4_advanceTo_2 : decode mX4_advanceTo.2.1 2 = .ok (.iload_n 3, 1) := dX4_advanceTo_2
theorem ddX4_advanceTo_3 : decode mX4_advanceTo.2.1 3 = .ok (.sipush 200, 3) := dX4_advanceTo_3
theorem ddX4_advanceTo_6 : decode mX4_advanceTo.2.1 6 = .ok (.if_icmp .gt 29, 3) := dX4_advanceTo_6
theorem ddX4_advanceTo_9 : decode mX4_advanceTo.2.1 9 = .ok (.aload_n 0, 1) := dX4_advanceTo_9
theorem ddX4_advanceTo_10 : decode mX4_advanceTo.2.1 10 = .ok (.getfield 58, 3) := dX4_advanceTo_10
theorem ddX4_advanceTo_13 : decode mX4_advanceTo.2.1 13 = .ok (.ifCond .ne 22, 3) := dX4_advanceTo_13
theorem ddX4_advanceTo_16 : decode mX4_advanceTo.2.1 16 = .ok (.aload_n 0, 1) := dX4_advanceTo_16
theorem ddX4_advanceTo_17 : decode mX4_advanceTo.2.1 17 = .ok (.invokevirtual 102, 3) := dX4_advanceTo_17
theorem ddX4_advanceTo_20 : decode mX4_advanceTo.2.1 20 = .ok (.iload_n 2, 1) := dX4_advanceTo_20
theorem ddX4_advanceTo_21 : decode mX4_advanceTo.2.1 21 = .ok (.if_icmp .gt 14, 3) := dX4_advanceTo_21
theorem ddX4_advanceTo_24 : decode mX4_advanceTo.2.1 24 = .ok (.aload_n 0, 1) := dX4_advanceTo_24
theorem ddX4_advanceTo_25 : decode mX4_advanceTo.2.1 25 = .ok (.aload_n 1, 1) := dX4_advanceTo_25
theorem ddX4_advanceTo_26 : decode mX4_advanceTo.2.1 26 = .ok (.invokevirtual 167, 3) := dX4_advanceTo_26
theorem ddX4_advanceTo_29 : decode mX4_advanceTo.2.1 29 = .ok (.iinc 3 1, 3) := dX4_advanceTo_29
theorem ddX4_advanceTo_32 : decode mX4_advanceTo.2.1 32 = .ok (.goto (-30), 3) := dX4_advanceTo_32
theorem ddX4_advanceTo_35 : decode mX4_advanceTo.2.1 35 = .ok (.aload_n 0, 1) := dX4_advanceTo_35
theorem ddX4_advanceTo_36 : decode mX4_advanceTo.2.1 36 = .ok (.getfield 58, 3) := dX4_advanceTo_36
theorem ddX4_advanceTo_39 : decode mX4_advanceTo.2.1 39 = .ok (.ifCond .ne 8, 3) := dX4_advanceTo_39
theorem ddX4_advanceTo_42 : decode mX4_advanceTo.2.1 42 = .ok (.aload_n 0, 1) := dX4_advanceTo_42
theorem ddX4_advanceTo_43 : decode mX4_advanceTo.2.1 43 = .ok (.iload_n 2, 1) := dX4_advanceTo_43
theorem ddX4_advanceTo_44 : decode mX4_advanceTo.2.1 44 = .ok (.putfield 51, 3) := dX4_advanceTo_44
theorem ddX4_advanceTo_47 : decode mX4_advanceTo.2.1 47 = .ok (.iload_n 3, 1) := dX4_advanceTo_47
theorem ddX4_advanceTo_48 : decode mX4_advanceTo.2.1 48 = .ok (.ireturn, 1) := dX4_advanceTo_48
theorem ddX4_advance_0 : decode mX4_advance.2.1 0 = .ok (.aload_n 0, 1) := dX4_advance_0
theorem ddX4_advance_1 : decode mX4_advance.2.1 1 = .ok (.aload_n 0, 1) := dX4_advance_1
theorem ddX4_advance_2 : decode mX4_advance.2.1 2 = .ok (.getfield 51, 3) := dX4_advance_2
theorem ddX4_advance_5 : decode mX4_advance.2.1 5 = .ok (.aload_n 0, 1) := dX4_advance_5
theorem ddX4_advance_6 : decode mX4_advance.2.1 6 = .ok (.invokevirtual 102, 3) := dX4_advance_6
theorem ddX4_advance_9 : decode mX4_advance.2.1 9 = .ok (.invokestatic 170, 3) := dX4_advance_9
theorem ddX4_advance_12 : decode mX4_advance.2.1 12 = .ok (.putfield 51, 3) := dX4_advance_12
theorem ddX4_advance_15 : decode mX4_advance.2.1 15 = .ok (.iconst 0, 1) := dX4_advance_15
theorem ddX4_advance_16 : decode mX4_advance.2.1 16 = .ok (.istore_n 2, 1) := dX4_advance_16
theorem ddX4_advance_17 : decode mX4_advance.2.1 17 = .ok (.iconst 0, 1) := dX4_advance_17
theorem ddX4_advance_18 : decode mX4_advance.2.1 18 = .ok (.istore_n 3, 1) := dX4_advance_18
theorem ddX4_advance_19 : decode mX4_advance.2.1 19 = .ok (.iload_n 3, 1) := dX4_advance_19
theorem ddX4_advance_20 : decode mX4_advance.2.1 20 = .ok (.sipush 1000, 3) := dX4_advance_20
theorem ddX4_advance_23 : decode mX4_advance.2.1 23 = .ok (.if_icmp .ge 53, 3) := dX4_advance_23
theorem ddX4_advance_26 : decode mX4_advance.2.1 26 = .ok (.aload_n 0, 1) := dX4_advance_26
theorem ddX4_advance_27 : decode mX4_advance.2.1 27 = .ok (.getfield 58, 3) := dX4_advance_27
theorem ddX4_advance_30 : decode mX4_advance.2.1 30 = .ok (.ifCond .ne 46, 3) := dX4_advance_30
theorem ddX4_advance_33 : decode mX4_advance.2.1 33 = .ok (.aload_n 0, 1) := dX4_advance_33
theorem ddX4_advance_34 : decode mX4_advance.2.1 34 = .ok (.invokevirtual 102, 3) := dX4_advance_34
theorem ddX4_advance_37 : decode mX4_advance.2.1 37 = .ok (.aload_n 0, 1) := dX4_advance_37
theorem ddX4_advance_38 : decode mX4_advance.2.1 38 = .ok (.getfield 51, 3) := dX4_advance_38
theorem ddX4_advance_41 : decode mX4_advance.2.1 41 = .ok (.if_icmp .gt 35, 3) := dX4_advance_41
theorem ddX4_advance_44 : decode mX4_advance.2.1 44 = .ok (.aload_n 0, 1) := dX4_advance_44
theorem ddX4_advance_45 : decode mX4_advance.2.1 45 = .ok (.aload_n 1, 1) := dX4_advance_45
theorem ddX4_advance_46 : decode mX4_advance.2.1 46 = .ok (.invokevirtual 173, 3) := dX4_advance_46
theorem ddX4_advance_49 : decode mX4_advance.2.1 49 = .ok (.ifCond .eq 6, 3) := dX4_advance_49
theorem ddX4_advance_52 : decode mX4_advance.2.1 52 = .ok (.iinc 2 1, 3) := dX4_advance_52
theorem ddX4_advance_55 : decode mX4_advance.2.1 55 = .ok (.iload_n 2, 1) := dX4_advance_55
theorem ddX4_advance_56 : decode mX4_advance.2.1 56 = .ok (.bipush 40, 2) := dX4_advance_56
theorem ddX4_advance_58 : decode mX4_advance.2.1 58 = .ok (.if_icmp .lt 12, 3) := dX4_advance_58
theorem ddX4_advance_61 : decode mX4_advance.2.1 61 = .ok (.aload_n 0, 1) := dX4_advance_61
theorem ddX4_advance_62 : decode mX4_advance.2.1 62 = .ok (.iconst 1, 1) := dX4_advance_62
theorem ddX4_advance_63 : decode mX4_advance.2.1 63 = .ok (.putfield 58, 3) := dX4_advance_63
theorem ddX4_advance_66 : decode mX4_advance.2.1 66 = .ok (.aload_n 0, 1) := dX4_advance_66
theorem ddX4_advance_67 : decode mX4_advance.2.1 67 = .ok (.invokevirtual 84, 3) := dX4_advance_67
theorem ddX4_advance_70 : decode mX4_advance.2.1 70 = .ok (.iinc 3 1, 3) := dX4_advance_70
theorem ddX4_advance_73 : decode mX4_advance.2.1 73 = .ok (.goto (-54), 3) := dX4_advance_73
theorem ddX4_advance_76 : decode mX4_advance.2.1 76 = .ok (.return_, 1) := dX4_advance_76
theorem ddX4_makeCycle_0 : decode mX4_makeCycle.2.1 0 = .ok (.aload_n 0, 1) := dX4_makeCycle_0
theorem ddX4_makeCycle_1 : decode mX4_makeCycle.2.1 1 = .ok (.aload_n 1, 1) := dX4_makeCycle_1
theorem ddX4_makeCycle_2 : decode mX4_makeCycle.2.1 2 = .ok (.invokevirtual 177, 3) := dX4_makeCycle_2
theorem ddX4_makeCycle_5 : decode mX4_makeCycle.2.1 5 = .ok (.istore_n 2, 1) := dX4_makeCycle_5
theorem ddX4_makeCycle_6 : decode mX4_makeCycle.2.1 6 = .ok (.aload_n 0, 1) := dX4_makeCycle_6
theorem ddX4_makeCycle_7 : decode mX4_makeCycle.2.1 7 = .ok (.invokevirtual 181, 3) := dX4_makeCycle_7
theorem ddX4_makeCycle_10 : decode mX4_makeCycle.2.1 10 = .ok (.istore_n 3, 1) := dX4_makeCycle_10
theorem ddX4_makeCycle_11 : decode mX4_makeCycle.2.1 11 = .ok (.iconst 0, 1) := dX4_makeCycle_11
theorem ddX4_makeCycle_12 : decode mX4_makeCycle.2.1 12 = .ok (.istore 4, 2) := dX4_makeCycle_12
theorem ddX4_makeCycle_14 : decode mX4_makeCycle.2.1 14 = .ok (.iload 4, 2) := dX4_makeCycle_14
theorem ddX4_makeCycle_16 : decode mX4_makeCycle.2.1 16 = .ok (.aload_n 1, 1) := dX4_makeCycle_16
theorem ddX4_makeCycle_17 : decode mX4_makeCycle.2.1 17 = .ok (.getfield 184, 3) := dX4_makeCycle_17
theorem ddX4_makeCycle_20 : decode mX4_makeCycle.2.1 20 = .ok (.if_icmp .ge 36, 3) := dX4_makeCycle_20
theorem ddX4_makeCycle_23 : decode mX4_makeCycle.2.1 23 = .ok (.iload_n 2, 1) := dX4_makeCycle_23
theorem ddX4_makeCycle_24 : decode mX4_makeCycle.2.1 24 = .ok (.iload 4, 2) := dX4_makeCycle_24
theorem ddX4_makeCycle_26 : decode mX4_makeCycle.2.1 26 = .ok (.ishr, 1) := dX4_makeCycle_26
theorem ddX4_makeCycle_27 : decode mX4_makeCycle.2.1 27 = .ok (.iconst 1, 1) := dX4_makeCycle_27
theorem ddX4_makeCycle_28 : decode mX4_makeCycle.2.1 28 = .ok (.iand, 1) := dX4_makeCycle_28
theorem ddX4_makeCycle_29 : decode mX4_makeCycle.2.1 29 = .ok (.iconst 1, 1) := dX4_makeCycle_29
theorem ddX4_makeCycle_30 : decode mX4_makeCycle.2.1 30 = .ok (.if_icmp .ne 20, 3) := dX4_makeCycle_30
theorem ddX4_makeCycle_33 : decode mX4_makeCycle.2.1 33 = .ok (.iload_n 3, 1) := dX4_makeCycle_33
theorem ddX4_makeCycle_34 : decode mX4_makeCycle.2.1 34 = .ok (.aload_n 0, 1) := dX4_makeCycle_34
theorem ddX4_makeCycle_35 : decode mX4_makeCycle.2.1 35 = .ok (.iload 4, 2) := dX4_makeCycle_35
theorem ddX4_makeCycle_37 : decode mX4_makeCycle.2.1 37 = .ok (.aload_n 0, 1) := dX4_makeCycle_37
theorem ddX4_makeCycle_38 : decode mX4_makeCycle.2.1 38 = .ok (.aload_n 1, 1) := dX4_makeCycle_38
theorem ddX4_makeCycle_39 : decode mX4_makeCycle.2.1 39 = .ok (.iload 4, 2) := dX4_makeCycle_39
theorem ddX4_makeCycle_41 : decode mX4_makeCycle.2.1 41 = .ok (.iconst (-1), 1) := dX4_makeCycle_41
theorem ddX4_makeCycle_42 : decode mX4_makeCycle.2.1 42 = .ok (.invokevirtual 187, 3) := dX4_makeCycle_42
theorem ddX4_makeCycle_45 : decode mX4_makeCycle.2.1 45 = .ok (.invokevirtual 191, 3) := dX4_makeCycle_45
theorem ddX4_makeCycle_48 : decode mX4_makeCycle.2.1 48 = .ok (.ior, 1) := dX4_makeCycle_48
theorem ddX4_makeCycle_49 : decode mX4_makeCycle.2.1 49 = .ok (.istore_n 3, 1) := dX4_makeCycle_49
theorem ddX4_makeCycle_50 : decode mX4_makeCycle.2.1 50 = .ok (.iinc 4 1, 3) := dX4_makeCycle_50
theorem ddX4_makeCycle_53 : decode mX4_makeCycle.2.1 53 = .ok (.goto (-39), 3) := dX4_makeCycle_53
theorem ddX4_makeCycle_56 : decode mX4_makeCycle.2.1 56 = .ok (.aload_n 0, 1) := dX4_makeCycle_56
theorem ddX4_makeCycle_57 : decode mX4_makeCycle.2.1 57 = .ok (.aload_n 0, 1) := dX4_makeCycle_57
theorem ddX4_makeCycle_58 : decode mX4_makeCycle.2.1 58 = .ok (.getfield 55, 3) := dX4_makeCycle_58
theorem ddX4_makeCycle_61 : decode mX4_makeCycle.2.1 61 = .ok (.iconst 1, 1) := dX4_makeCycle_61
theorem ddX4_makeCycle_62 : decode mX4_makeCycle.2.1 62 = .ok (.iadd, 1) := dX4_makeCycle_62
theorem ddX4_makeCycle_63 : decode mX4_makeCycle.2.1 63 = .ok (.ldc 194, 2) := dX4_makeCycle_63
theorem ddX4_makeCycle_65 : decode mX4_makeCycle.2.1 65 = .ok (.invokestatic 72, 3) := dX4_makeCycle_65
theorem ddX4_makeCycle_68 : decode mX4_makeCycle.2.1 68 = .ok (.putfield 55, 3) := dX4_makeCycle_68
theorem ddX4_makeCycle_71 : decode mX4_makeCycle.2.1 71 = .ok (.aload_n 0, 1) := dX4_makeCycle_71
theorem ddX4_makeCycle_72 : decode mX4_makeCycle.2.1 72 = .ok (.aload_n 1, 1) := dX4_makeCycle_72
theorem ddX4_makeCycle_73 : decode mX4_makeCycle.2.1 73 = .ok (.iload_n 3, 1) := dX4_makeCycle_73
theorem ddX4_makeCycle_74 : decode mX4_makeCycle.2.1 74 = .ok (.invokevirtual 195, 3) := dX4_makeCycle_74
theorem ddX4_makeCycle_77 : decode mX4_makeCycle.2.1 77 = .ok (.iload_n 3, 1) := dX4_makeCycle_77
theorem ddX4_makeCycle_78 : decode mX4_makeCycle.2.1 78 = .ok (.ifCond .eq 7, 3) := dX4_makeCycle_78
theorem ddX4_makeCycle_81 : decode mX4_makeCycle.2.1 81 = .ok (.iconst 1, 1) := dX4_makeCycle_81
theorem ddX4_makeCycle_82 : decode mX4_makeCycle.2.1 82 = .ok (.goto 4, 3) := dX4_makeCycle_82
theorem ddX4_makeCycle_85 : decode mX4_makeCycle.2.1 85 = .ok (.iconst 0, 1) := dX4_makeCycle_85
theorem ddX4_makeCycle_86 : decode mX4_makeCycle.2.1 86 = .ok (.ireturn, 1) := dX4_makeCycle_86
theorem ddX4_takeFromQueues_0 : decode mX4_takeFromQueues.2.1 0 = .ok (.iconst 0, 1) := dX4_takeFromQueues_0
theorem ddX4_takeFromQueues_1 : decode mX4_takeFromQueues.2.1 1 = .ok (.istore_n 2, 1) := dX4_takeFromQueues_1
theorem ddX4_takeFromQueues_2 : decode mX4_takeFromQueues.2.1 2 = .ok (.iconst 0, 1) := dX4_takeFromQueues_2
theorem ddX4_takeFromQueues_3 : decode mX4_takeFromQueues.2.1 3 = .ok (.istore_n 3, 1) := dX4_takeFromQueues_3
theorem ddX4_takeFromQueues_4 : decode mX4_takeFromQueues.2.1 4 = .ok (.iload_n 3, 1) := dX4_takeFromQueues_4
theorem ddX4_takeFromQueues_5 : decode mX4_takeFromQueues.2.1 5 = .ok (.aload_n 1, 1) := dX4_takeFromQueues_5
theorem ddX4_takeFromQueues_6 : decode mX4_takeFromQueues.2.1 6 = .ok (.getfield 92, 3) := dX4_takeFromQueues_6
theorem ddX4_takeFromQueues_9 : decode mX4_takeFromQueues.2.1 9 = .ok (.if_icmp .ge 66, 3) := dX4_takeFromQueues_9
theorem ddX4_takeFromQueues_12 : decode mX4_takeFromQueues.2.1 12 = .ok (.aload_n 0, 1) := dX4_takeFromQueues_12
theorem ddX4_takeFromQueues_13 : decode mX4_takeFromQueues.2.1 13 = .ok (.getfield 33, 3) := dX4_takeFromQueues_13
theorem ddX4_takeFromQueues_16 : decode mX4_takeFromQueues.2.1 16 = .ok (.iload_n 3, 1) := dX4_takeFromQueues_16
theorem ddX4_takeFromQueues_17 : decode mX4_takeFromQueues.2.1 17 = .ok (.iaload, 1) := dX4_takeFromQueues_17
theorem ddX4_takeFromQueues_18 : decode mX4_takeFromQueues.2.1 18 = .ok (.ifCond .le 51, 3) := dX4_takeFromQueues_18
theorem ddX4_takeFromQueues_21 : decode mX4_takeFromQueues.2.1 21 = .ok (.aload_n 0, 1) := dX4_takeFromQueues_21
theorem ddX4_takeFromQueues_22 : decode mX4_takeFromQueues.2.1 22 = .ok (.getfield 36, 3) := dX4_takeFromQueues_22
theorem ddX4_takeFromQueues_25 : decode mX4_takeFromQueues.2.1 25 = .ok (.iload_n 3, 1) := dX4_takeFromQueues_25
theorem ddX4_takeFromQueues_26 : decode mX4_takeFromQueues.2.1 26 = .ok (.bipush 8, 2) := dX4_takeFromQueues_26
theorem ddX4_takeFromQueues_28 : decode mX4_takeFromQueues.2.1 28 = .ok (.imul, 1) := dX4_takeFromQueues_28
theorem ddX4_takeFromQueues_29 : decode mX4_takeFromQueues.2.1 29 = .ok (.iaload, 1) := dX4_takeFromQueues_29
theorem ddX4_takeFromQueues_30 : decode mX4_takeFromQueues.2.1 30 = .ok (.aload_n 0, 1) := dX4_takeFromQueues_30
theorem ddX4_takeFromQueues_31 : decode mX4_takeFromQueues.2.1 31 = .ok (.getfield 51, 3) := dX4_takeFromQueues_31
theorem ddX4_takeFromQueues_34 : decode mX4_takeFromQueues.2.1 34 = .ok (.if_icmp .gt 35, 3) := dX4_takeFromQueues_34
theorem ddX4_takeFromQueues_37 : decode mX4_takeFromQueues.2.1 37 = .ok (.aload_n 0, 1) := dX4_takeFromQueues_37
theorem ddX4_takeFromQueues_38 : decode mX4_takeFromQueues.2.1 38 = .ok (.getfield 30, 3) := dX4_takeFromQueues_38
theorem ddX4_takeFromQueues_41 : decode mX4_takeFromQueues.2.1 41 = .ok (.iload_n 3, 1) := dX4_takeFromQueues_41
theorem ddX4_takeFromQueues_42 : decode mX4_takeFromQueues.2.1 42 = .ok (.aload_n 0, 1) := dX4_takeFromQueues_42
theorem ddX4_takeFromQueues_43 : decode mX4_takeFromQueues.2.1 43 = .ok (.getfield 39, 3) := dX4_takeFromQueues_43
theorem ddX4_takeFromQueues_46 : decode mX4_takeFromQueues.2.1 46 = .ok (.iload_n 3, 1) := dX4_takeFromQueues_46
theorem ddX4_takeFromQueues_47 : decode mX4_takeFromQueues.2.1 47 = .ok (.bipush 8, 2) := dX4_takeFromQueues_47
theorem ddX4_takeFromQueues_49 : decode mX4_takeFromQueues.2.1 49 = .ok (.imul, 1) := dX4_takeFromQueues_49
theorem ddX4_takeFromQueues_50 : decode mX4_takeFromQueues.2.1 50 = .ok (.iaload, 1) := dX4_takeFromQueues_50
theorem ddX4_takeFromQueues_51 : decode mX4_takeFromQueues.2.1 51 = .ok (.iastore, 1) := dX4_takeFromQueues_51
theorem ddX4_takeFromQueues_52 : decode mX4_takeFromQueues.2.1 52 = .ok (.aload_n 0, 1) := dX4_takeFromQueues_52
theorem ddX4_takeFromQueues_53 : decode mX4_takeFromQueues.2.1 53 = .ok (.iload_n 3, 1) := dX4_takeFromQueues_53
theorem ddX4_takeFromQueues_54 : decode mX4_takeFromQueues.2.1 54 = .ok (.iconst 1, 1) := dX4_takeFromQueues_54
theorem ddX4_takeFromQueues_55 : decode mX4_takeFromQueues.2.1 55 = .ok (.invokevirtual 163, 3) := dX4_takeFromQueues_55
theorem ddX4_takeFromQueues_58 : decode mX4_takeFromQueues.2.1 58 = .ok (.iload_n 2, 1) := dX4_takeFromQueues_58
theorem ddX4_takeFromQueues_59 : decode mX4_takeFromQueues.2.1 59 = .ok (.iconst 1, 1) := dX4_takeFromQueues_59
theorem ddX4_takeFromQueues_60 : decode mX4_takeFromQueues.2.1 60 = .ok (.aload_n 1, 1) := dX4_takeFromQueues_60
theorem ddX4_takeFromQueues_61 : decode mX4_takeFromQueues.2.1 61 = .ok (.getfield 95, 3) := dX4_takeFromQueues_61
theorem ddX4_takeFromQueues_64 : decode mX4_takeFromQueues.2.1 64 = .ok (.iload_n 3, 1) := dX4_takeFromQueues_64
theorem ddX4_takeFromQueues_65 : decode mX4_takeFromQueues.2.1 65 = .ok (.iaload, 1) := dX4_takeFromQueues_65
theorem ddX4_takeFromQueues_66 : decode mX4_takeFromQueues.2.1 66 = .ok (.ishl, 1) := dX4_takeFromQueues_66
theorem ddX4_takeFromQueues_67 : decode mX4_takeFromQueues.2.1 67 = .ok (.ior, 1) := dX4_takeFromQueues_67
theorem ddX4_takeFromQueues_68 : decode mX4_takeFromQueues.2.1 68 = .ok (.istore_n 2, 1) := dX4_takeFromQueues_68
theorem ddX4_takeFromQueues_69 : decode mX4_takeFromQueues.2.1 69 = .ok (.iinc 3 1, 3) := dX4_takeFromQueues_69
theorem ddX4_takeFromQueues_72 : decode mX4_takeFromQueues.2.1 72 = .ok (.goto (-68), 3) := dX4_takeFromQueues_72
theorem ddX4_takeFromQueues_75 : decode mX4_takeFromQueues.2.1 75 = .ok (.iload_n 2, 1) := dX4_takeFromQueues_75
theorem ddX4_takeFromQueues_76 : decode mX4_takeFromQueues.2.1 76 = .ok (.ireturn, 1) := dX4_takeFromQueues_76
theorem ddX4_takeByHand_0 : decode mX4_takeByHand.2.1 0 = .ok (.aload_n 0, 1) := dX4_takeByHand_0
theorem ddX4_takeByHand_1 : decode mX4_takeByHand.2.1 1 = .ok (.getfield 65, 3) := dX4_takeByHand_1
theorem ddX4_takeByHand_4 : decode mX4_takeByHand.2.1 4 = .ok (.ifCond .eq 16, 3) := dX4_takeByHand_4
theorem ddX4_takeByHand_7 : decode mX4_takeByHand.2.1 7 = .ok (.aload_n 0, 1) := dX4_takeByHand_7
theorem ddX4_takeByHand_8 : decode mX4_takeByHand.2.1 8 = .ok (.getfield 42, 3) := dX4_takeByHand_8
theorem ddX4_takeByHand_11 : decode mX4_takeByHand.2.1 11 = .ok (.iconst 0, 1) := dX4_takeByHand_11
theorem ddX4_takeByHand_12 : decode mX4_takeByHand.2.1 12 = .ok (.iaload, 1) := dX4_takeByHand_12
theorem ddX4_takeByHand_13 : decode mX4_takeByHand.2.1 13 = .ok (.aload_n 0, 1) := dX4_takeByHand_13
theorem ddX4_takeByHand_14 : decode mX4_takeByHand.2.1 14 = .ok (.getfield 51, 3) := dX4_takeByHand_14
theorem ddX4_takeByHand_17 : decode mX4_takeByHand.2.1 17 = .ok (.if_icmp .le 5, 3) := dX4_takeByHand_17
theorem ddX4_takeByHand_20 : decode mX4_takeByHand.2.1 20 = .ok (.iconst 0, 1) := dX4_takeByHand_20
theorem ddX4_takeByHand_21 : decode mX4_takeByHand.2.1 21 = .ok (.ireturn, 1) := dX4_takeByHand_21
theorem ddX4_takeByHand_22 : decode mX4_takeByHand.2.1 22 = .ok (.aload_n 0, 1) := dX4_takeByHand_22
theorem ddX4_takeByHand_23 : decode mX4_takeByHand.2.1 23 = .ok (.getfield 45, 3) := dX4_takeByHand_23
theorem ddX4_takeByHand_26 : decode mX4_takeByHand.2.1 26 = .ok (.iconst 0, 1) := dX4_takeByHand_26
theorem ddX4_takeByHand_27 : decode mX4_takeByHand.2.1 27 = .ok (.iaload, 1) := dX4_takeByHand_27
theorem ddX4_takeByHand_28 : decode mX4_takeByHand.2.1 28 = .ok (.istore_n 1, 1) := dX4_takeByHand_28
theorem ddX4_takeByHand_29 : decode mX4_takeByHand.2.1 29 = .ok (.aload_n 0, 1) := dX4_takeByHand_29
theorem ddX4_takeByHand_30 : decode mX4_takeByHand.2.1 30 = .ok (.getfield 48, 3) := dX4_takeByHand_30
theorem ddX4_takeByHand_33 : decode mX4_takeByHand.2.1 33 = .ok (.iconst 0, 1) := dX4_takeByHand_33
theorem ddX4_takeByHand_34 : decode mX4_takeByHand.2.1 34 = .ok (.iaload, 1) := dX4_takeByHand_34
theorem ddX4_takeByHand_35 : decode mX4_takeByHand.2.1 35 = .ok (.istore_n 2, 1) := dX4_takeByHand_35
theorem ddX4_takeByHand_36 : decode mX4_takeByHand.2.1 36 = .ok (.aload_n 0, 1) := dX4_takeByHand_36
theorem ddX4_takeByHand_37 : decode mX4_takeByHand.2.1 37 = .ok (.dup, 1) := dX4_takeByHand_37
theorem ddX4_takeByHand_38 : decode mX4_takeByHand.2.1 38 = .ok (.getfield 65, 3) := dX4_takeByHand_38
theorem ddX4_takeByHand_41 : decode mX4_takeByHand.2.1 41 = .ok (.iconst 1, 1) := dX4_takeByHand_41
theorem ddX4_takeByHand_42 : decode mX4_takeByHand.2.1 42 = .ok (.isub, 1) := dX4_takeByHand_42
theorem ddX4_takeByHand_43 : decode mX4_takeByHand.2.1 43 = .ok (.putfield 65, 3) := dX4_takeByHand_43
theorem ddX4_takeByHand_46 : decode mX4_takeByHand.2.1 46 = .ok (.iconst 0, 1) := dX4_takeByHand_46
theorem ddX4_takeByHand_47 : decode mX4_takeByHand.2.1 47 = .ok (.istore_n 3, 1) := dX4_takeByHand_47
theorem ddX4_takeByHand_48 : decode mX4_takeByHand.2.1 48 = .ok (.iload_n 3, 1) := dX4_takeByHand_48
theorem ddX4_takeByHand_49 : decode mX4_takeByHand.2.1 49 = .ok (.aload_n 0, 1) := dX4_takeByHand_49
theorem ddX4_takeByHand_50 : decode mX4_takeByHand.2.1 50 = .ok (.getfield 65, 3) := dX4_takeByHand_50
theorem ddX4_takeByHand_53 : decode mX4_takeByHand.2.1 53 = .ok (.if_icmp .ge 51, 3) := dX4_takeByHand_53
theorem ddX4_takeByHand_56 : decode mX4_takeByHand.2.1 56 = .ok (.aload_n 0, 1) := dX4_takeByHand_56
theorem ddX4_takeByHand_57 : decode mX4_takeByHand.2.1 57 = .ok (.getfield 42, 3) := dX4_takeByHand_57
theorem ddX4_takeByHand_60 : decode mX4_takeByHand.2.1 60 = .ok (.iload_n 3, 1) := dX4_takeByHand_60
theorem ddX4_takeByHand_61 : decode mX4_takeByHand.2.1 61 = .ok (.aload_n 0, 1) := dX4_takeByHand_61
theorem ddX4_takeByHand_62 : decode mX4_takeByHand.2.1 62 = .ok (.getfield 42, 3) := dX4_takeByHand_62
theorem ddX4_takeByHand_65 : decode mX4_takeByHand.2.1 65 = .ok (.iload_n 3, 1) := dX4_takeByHand_65
theorem ddX4_takeByHand_66 : decode mX4_takeByHand.2.1 66 = .ok (.iconst 1, 1) := dX4_takeByHand_66
theorem ddX4_takeByHand_67 : decode mX4_takeByHand.2.1 67 = .ok (.iadd, 1) := dX4_takeByHand_67
theorem ddX4_takeByHand_68 : decode mX4_takeByHand.2.1 68 = .ok (.iaload, 1) := dX4_takeByHand_68
theorem ddX4_takeByHand_69 : decode mX4_takeByHand.2.1 69 = .ok (.iastore, 1) := dX4_takeByHand_69
theorem ddX4_takeByHand_70 : decode mX4_takeByHand.2.1 70 = .ok (.aload_n 0, 1) := dX4_takeByHand_70
theorem ddX4_takeByHand_71 : decode mX4_takeByHand.2.1 71 = .ok (.getfield 45, 3) := dX4_takeByHand_71
theorem ddX4_takeByHand_74 : decode mX4_takeByHand.2.1 74 = .ok (.iload_n 3, 1) := dX4_takeByHand_74
theorem ddX4_takeByHand_75 : decode mX4_takeByHand.2.1 75 = .ok (.aload_n 0, 1) := dX4_takeByHand_75
theorem ddX4_takeByHand_76 : decode mX4_takeByHand.2.1 76 = .ok (.getfield 45, 3) := dX4_takeByHand_76
theorem ddX4_takeByHand_79 : decode mX4_takeByHand.2.1 79 = .ok (.iload_n 3, 1) := dX4_takeByHand_79
theorem ddX4_takeByHand_80 : decode mX4_takeByHand.2.1 80 = .ok (.iconst 1, 1) := dX4_takeByHand_80
theorem ddX4_takeByHand_81 : decode mX4_takeByHand.2.1 81 = .ok (.iadd, 1) := dX4_takeByHand_81
theorem ddX4_takeByHand_82 : decode mX4_takeByHand.2.1 82 = .ok (.iaload, 1) := dX4_takeByHand_82
theorem ddX4_takeByHand_83 : decode mX4_takeByHand.2.1 83 = .ok (.iastore, 1) := dX4_takeByHand_83
theorem ddX4_takeByHand_84 : decode mX4_takeByHand.2.1 84 = .ok (.aload_n 0, 1) := dX4_takeByHand_84
theorem ddX4_takeByHand_85 : decode mX4_takeByHand.2.1 85 = .ok (.getfield 48, 3) := dX4_takeByHand_85
theorem ddX4_takeByHand_88 : decode mX4_takeByHand.2.1 88 = .ok (.iload_n 3, 1) := dX4_takeByHand_88
theorem ddX4_takeByHand_89 : decode mX4_takeByHand.2.1 89 = .ok (.aload_n 0, 1) := dX4_takeByHand_89
theorem ddX4_takeByHand_90 : decode mX4_takeByHand.2.1 90 = .ok (.getfield 48, 3) := dX4_takeByHand_90
theorem ddX4_takeByHand_93 : decode mX4_takeByHand.2.1 93 = .ok (.iload_n 3, 1) := dX4_takeByHand_93
theorem ddX4_takeByHand_94 : decode mX4_takeByHand.2.1 94 = .ok (.iconst 1, 1) := dX4_takeByHand_94
theorem ddX4_takeByHand_95 : decode mX4_takeByHand.2.1 95 = .ok (.iadd, 1) := dX4_takeByHand_95
theorem ddX4_takeByHand_96 : decode mX4_takeByHand.2.1 96 = .ok (.iaload, 1) := dX4_takeByHand_96
theorem ddX4_takeByHand_97 : decode mX4_takeByHand.2.1 97 = .ok (.iastore, 1) := dX4_takeByHand_97
theorem ddX4_takeByHand_98 : decode mX4_takeByHand.2.1 98 = .ok (.iinc 3 1, 3) := dX4_takeByHand_98
theorem ddX4_takeByHand_101 : decode mX4_takeByHand.2.1 101 = .ok (.goto (-53), 3) := dX4_takeByHand_101
theorem ddX4_takeByHand_104 : decode mX4_takeByHand.2.1 104 = .ok (.aload_n 0, 1) := dX4_takeByHand_104
theorem ddX4_takeByHand_105 : decode mX4_takeByHand.2.1 105 = .ok (.iload_n 1, 1) := dX4_takeByHand_105
theorem ddX4_takeByHand_106 : decode mX4_takeByHand.2.1 106 = .ok (.iload_n 2, 1) := dX4_takeByHand_106
theorem ddX4_takeByHand_107 : decode mX4_takeByHand.2.1 107 = .ok (.invokevirtual 191, 3) := dX4_takeByHand_107
theorem ddX4_takeByHand_110 : decode mX4_takeByHand.2.1 110 = .ok (.ireturn, 1) := dX4_takeByHand_110
theorem ddX4_changeWire_0 : decode mX4_changeWire.2.1 0 = .ok (.aload_n 0, 1) := dX4_changeWire_0
theorem ddX4_changeWire_1 : decode mX4_changeWire.2.1 1 = .ok (.getfield 9, 3) := dX4_changeWire_1
theorem ddX4_changeWire_4 : decode mX4_changeWire.2.1 4 = .ok (.iload_n 1, 1) := dX4_changeWire_4
theorem ddX4_changeWire_5 : decode mX4_changeWire.2.1 5 = .ok (.iaload, 1) := dX4_changeWire_5
theorem ddX4_changeWire_6 : decode mX4_changeWire.2.1 6 = .ok (.iload_n 2, 1) := dX4_changeWire_6
theorem ddX4_changeWire_7 : decode mX4_changeWire.2.1 7 = .ok (.if_icmp .ne 5, 3) := dX4_changeWire_7
theorem ddX4_changeWire_10 : decode mX4_changeWire.2.1 10 = .ok (.iconst 0, 1) := dX4_changeWire_10
theorem ddX4_changeWire_11 : decode mX4_changeWire.2.1 11 = .ok (.ireturn, 1) := dX4_changeWire_11
theorem ddX4_changeWire_12 : decode mX4_changeWire.2.1 12 = .ok (.aload_n 0, 1) := dX4_changeWire_12
theorem ddX4_changeWire_13 : decode mX4_changeWire.2.1 13 = .ok (.getfield 18, 3) := dX4_changeWire_13
theorem ddX4_changeWire_16 : decode mX4_changeWire.2.1 16 = .ok (.iload_n 1, 1) := dX4_changeWire_16
theorem ddX4_changeWire_17 : decode mX4_changeWire.2.1 17 = .ok (.iaload, 1) := dX4_changeWire_17
theorem ddX4_changeWire_18 : decode mX4_changeWire.2.1 18 = .ok (.aload_n 0, 1) := dX4_changeWire_18
theorem ddX4_changeWire_19 : decode mX4_changeWire.2.1 19 = .ok (.getfield 51, 3) := dX4_changeWire_19
theorem ddX4_changeWire_22 : decode mX4_changeWire.2.1 22 = .ok (.if_icmp .ne 15, 3) := dX4_changeWire_22
theorem ddX4_changeWire_25 : decode mX4_changeWire.2.1 25 = .ok (.aload_n 0, 1) := dX4_changeWire_25
theorem ddX4_changeWire_26 : decode mX4_changeWire.2.1 26 = .ok (.dup, 1) := dX4_changeWire_26
theorem ddX4_changeWire_27 : decode mX4_changeWire.2.1 27 = .ok (.getfield 62, 3) := dX4_changeWire_27
theorem ddX4_changeWire_30 : decode mX4_changeWire.2.1 30 = .ok (.iconst 1, 1) := dX4_changeWire_30
theorem ddX4_changeWire_31 : decode mX4_changeWire.2.1 31 = .ok (.iload_n 1, 1) := dX4_changeWire_31
theorem ddX4_changeWire_32 : decode mX4_changeWire.2.1 32 = .ok (.ishl, 1) := dX4_changeWire_32
theorem ddX4_changeWire_33 : decode mX4_changeWire.2.1 33 = .ok (.ior, 1) := dX4_changeWire_33
theorem ddX4_changeWire_34 : decode mX4_changeWire.2.1 34 = .ok (.putfield 62, 3) := dX4_changeWire_34
theorem ddX4_changeWire_37 : decode mX4_changeWire.2.1 37 = .ok (.aload_n 0, 1) := dX4_changeWire_37
theorem ddX4_changeWire_38 : decode mX4_changeWire.2.1 38 = .ok (.getfield 18, 3) := dX4_changeWire_38
theorem ddX4_changeWire_41 : decode mX4_changeWire.2.1 41 = .ok (.iload_n 1, 1) := dX4_changeWire_41
theorem ddX4_changeWire_42 : decode mX4_changeWire.2.1 42 = .ok (.aload_n 0, 1) := dX4_changeWire_42
theorem ddX4_changeWire_43 : decode mX4_changeWire.2.1 43 = .ok (.getfield 51, 3) := dX4_changeWire_43
theorem ddX4_changeWire_46 : decode mX4_changeWire.2.1 46 = .ok (.iastore, 1) := dX4_changeWire_46
theorem ddX4_changeWire_47 : decode mX4_changeWire.2.1 47 = .ok (.aload_n 0, 1) := dX4_changeWire_47
theorem ddX4_changeWire_48 : decode mX4_changeWire.2.1 48 = .ok (.getfield 9, 3) := dX4_changeWire_48
theorem ddX4_changeWire_51 : decode mX4_changeWire.2.1 51 = .ok (.iload_n 1, 1) := dX4_changeWire_51
theorem ddX4_changeWire_52 : decode mX4_changeWire.2.1 52 = .ok (.iload_n 2, 1) := dX4_changeWire_52
theorem ddX4_changeWire_53 : decode mX4_changeWire.2.1 53 = .ok (.iastore, 1) := dX4_changeWire_53
theorem ddX4_changeWire_54 : decode mX4_changeWire.2.1 54 = .ok (.aload_n 0, 1) := dX4_changeWire_54
theorem ddX4_changeWire_55 : decode mX4_changeWire.2.1 55 = .ok (.getfield 15, 3) := dX4_changeWire_55
theorem ddX4_changeWire_58 : decode mX4_changeWire.2.1 58 = .ok (.iload_n 1, 1) := dX4_changeWire_58
theorem ddX4_changeWire_59 : decode mX4_changeWire.2.1 59 = .ok (.aload_n 0, 1) := dX4_changeWire_59
theorem ddX4_changeWire_60 : decode mX4_changeWire.2.1 60 = .ok (.getfield 15, 3) := dX4_changeWire_60
theorem ddX4_changeWire_63 : decode mX4_changeWire.2.1 63 = .ok (.iload_n 1, 1) := dX4_changeWire_63
theorem ddX4_changeWire_64 : decode mX4_changeWire.2.1 64 = .ok (.iaload, 1) := dX4_changeWire_64
theorem ddX4_changeWire_65 : decode mX4_changeWire.2.1 65 = .ok (.iconst 1, 1) := dX4_changeWire_65
theorem ddX4_changeWire_66 : decode mX4_changeWire.2.1 66 = .ok (.iadd, 1) := dX4_changeWire_66
theorem ddX4_changeWire_67 : decode mX4_changeWire.2.1 67 = .ok (.sipush 9999, 3) := dX4_changeWire_67
theorem ddX4_changeWire_70 : decode mX4_changeWire.2.1 70 = .ok (.invokestatic 72, 3) := dX4_changeWire_70
theorem ddX4_changeWire_73 : decode mX4_changeWire.2.1 73 = .ok (.iastore, 1) := dX4_changeWire_73
theorem ddX4_changeWire_74 : decode mX4_changeWire.2.1 74 = .ok (.aload_n 0, 1) := dX4_changeWire_74
theorem ddX4_changeWire_75 : decode mX4_changeWire.2.1 75 = .ok (.getfield 24, 3) := dX4_changeWire_75
theorem ddX4_changeWire_78 : decode mX4_changeWire.2.1 78 = .ok (.iload_n 1, 1) := dX4_changeWire_78
theorem ddX4_changeWire_79 : decode mX4_changeWire.2.1 79 = .ok (.bipush 8, 2) := dX4_changeWire_79
theorem ddX4_changeWire_81 : decode mX4_changeWire.2.1 81 = .ok (.imul, 1) := dX4_changeWire_81
theorem ddX4_changeWire_82 : decode mX4_changeWire.2.1 82 = .ok (.aload_n 0, 1) := dX4_changeWire_82
theorem ddX4_changeWire_83 : decode mX4_changeWire.2.1 83 = .ok (.getfield 21, 3) := dX4_changeWire_83
theorem ddX4_changeWire_86 : decode mX4_changeWire.2.1 86 = .ok (.iload_n 1, 1) := dX4_changeWire_86
theorem ddX4_changeWire_87 : decode mX4_changeWire.2.1 87 = .ok (.iaload, 1) := dX4_changeWire_87
theorem ddX4_changeWire_88 : decode mX4_changeWire.2.1 88 = .ok (.iadd, 1) := dX4_changeWire_88
theorem ddX4_changeWire_89 : decode mX4_changeWire.2.1 89 = .ok (.aload_n 0, 1) := dX4_changeWire_89
theorem ddX4_changeWire_90 : decode mX4_changeWire.2.1 90 = .ok (.getfield 51, 3) := dX4_changeWire_90
theorem ddX4_changeWire_93 : decode mX4_changeWire.2.1 93 = .ok (.iastore, 1) := dX4_changeWire_93
theorem ddX4_changeWire_94 : decode mX4_changeWire.2.1 94 = .ok (.aload_n 0, 1) := dX4_changeWire_94
theorem ddX4_changeWire_95 : decode mX4_changeWire.2.1 95 = .ok (.getfield 27, 3) := dX4_changeWire_95
theorem ddX4_changeWire_98 : decode mX4_changeWire.2.1 98 = .ok (.iload_n 1, 1) := dX4_changeWire_98
theorem ddX4_changeWire_99 : decode mX4_changeWire.2.1 99 = .ok (.bipush 8, 2) := dX4_changeWire_99
theorem ddX4_changeWire_101 : decode mX4_changeWire.2.1 101 = .ok (.imul, 1) := dX4_changeWire_101
theorem ddX4_changeWire_102 : decode mX4_changeWire.2.1 102 = .ok (.aload_n 0, 1) := dX4_changeWire_102
theorem ddX4_changeWire_103 : decode mX4_changeWire.2.1 103 = .ok (.getfield 21, 3) := dX4_changeWire_103
theorem ddX4_changeWire_106 : decode mX4_changeWire.2.1 106 = .ok (.iload_n 1, 1) := dX4_changeWire_106
theorem ddX4_changeWire_107 : decode mX4_changeWire.2.1 107 = .ok (.iaload, 1) := dX4_changeWire_107
theorem ddX4_changeWire_108 : decode mX4_changeWire.2.1 108 = .ok (.iadd, 1) := dX4_changeWire_108
theorem ddX4_changeWire_109 : decode mX4_changeWire.2.1 109 = .ok (.iload_n 2, 1) := dX4_changeWire_109
theorem ddX4_changeWire_110 : decode mX4_changeWire.2.1 110 = .ok (.iastore, 1) := dX4_changeWire_110
theorem ddX4_changeWire_111 : decode mX4_changeWire.2.1 111 = .ok (.aload_n 0, 1) := dX4_changeWire_111
theorem ddX4_changeWire_112 : decode mX4_changeWire.2.1 112 = .ok (.getfield 21, 3) := dX4_changeWire_112
theorem ddX4_changeWire_115 : decode mX4_changeWire.2.1 115 = .ok (.iload_n 1, 1) := dX4_changeWire_115
theorem ddX4_changeWire_116 : decode mX4_changeWire.2.1 116 = .ok (.aload_n 0, 1) := dX4_changeWire_116
theorem ddX4_changeWire_117 : decode mX4_changeWire.2.1 117 = .ok (.getfield 21, 3) := dX4_changeWire_117
theorem ddX4_changeWire_120 : decode mX4_changeWire.2.1 120 = .ok (.iload_n 1, 1) := dX4_changeWire_120
theorem ddX4_changeWire_121 : decode mX4_changeWire.2.1 121 = .ok (.iaload, 1) := dX4_changeWire_121
theorem ddX4_changeWire_122 : decode mX4_changeWire.2.1 122 = .ok (.iconst 1, 1) := dX4_changeWire_122
theorem ddX4_changeWire_123 : decode mX4_changeWire.2.1 123 = .ok (.iadd, 1) := dX4_changeWire_123
theorem ddX4_changeWire_124 : decode mX4_changeWire.2.1 124 = .ok (.bipush 8, 2) := dX4_changeWire_124
theorem ddX4_changeWire_126 : decode mX4_changeWire.2.1 126 = .ok (.irem, 1) := dX4_changeWire_126
theorem ddX4_changeWire_127 : decode mX4_changeWire.2.1 127 = .ok (.iastore, 1) := dX4_changeWire_127
theorem ddX4_changeWire_128 : decode mX4_changeWire.2.1 128 = .ok (.iconst 1, 1) := dX4_changeWire_128
theorem ddX4_changeWire_129 : decode mX4_changeWire.2.1 129 = .ok (.iload_n 1, 1) := dX4_changeWire_129
theorem ddX4_changeWire_130 : decode mX4_changeWire.2.1 130 = .ok (.ishl, 1) := dX4_changeWire_130
theorem ddX4_changeWire_131 : decode mX4_changeWire.2.1 131 = .ok (.ireturn, 1) := dX4_changeWire_131
theorem ddX5_init_0 : decode mX5_init.2.1 0 = .ok (.aload_n 0, 1) := dX5_init_0
theorem ddX5_init_1 : decode mX5_init.2.1 1 = .ok (.invokespecial 3, 3) := dX5_init_1
theorem ddX5_init_4 : decode mX5_init.2.1 4 = .ok (.aload_n 0, 1) := dX5_init_4
theorem ddX5_init_5 : decode mX5_init.2.1 5 = .ok (.bipush 16, 2) := dX5_init_5
theorem ddX5_init_7 : decode mX5_init.2.1 7 = .ok (.anewarray 9, 3) := dX5_init_7
theorem ddX5_init_10 : decode mX5_init.2.1 10 = .ok (.putfield 11, 3) := dX5_init_10
theorem ddX5_init_13 : decode mX5_init.2.1 13 = .ok (.iconst 0, 1) := dX5_init_13
theorem ddX5_init_14 : decode mX5_init.2.1 14 = .ok (.istore_n 1, 1) := dX5_init_14
theorem ddX5_init_15 : decode mX5_init.2.1 15 = .ok (.iload_n 1, 1) := dX5_init_15
theorem ddX5_init_16 : decode mX5_init.2.1 16 = .ok (.bipush 16, 2) := dX5_init_16
theorem ddX5_init_18 : decode mX5_init.2.1 18 = .ok (.if_icmp .ge 22, 3) := dX5_init_18
theorem ddX5_init_21 : decode mX5_init.2.1 21 = .ok (.aload_n 0, 1) := dX5_init_21
theorem ddX5_init_22 : decode mX5_init.2.1 22 = .ok (.getfield 11, 3) := dX5_init_22
theorem ddX5_init_25 : decode mX5_init.2.1 25 = .ok (.iload_n 1, 1) := dX5_init_25
theorem ddX5_init_26 : decode mX5_init.2.1 26 = .ok (.new 9, 3) := dX5_init_26
theorem ddX5_init_29 : decode mX5_init.2.1 29 = .ok (.dup, 1) := dX5_init_29
theorem ddX5_init_30 : decode mX5_init.2.1 30 = .ok (.invokespecial 17, 3) := dX5_init_30
theorem ddX5_init_33 : decode mX5_init.2.1 33 = .ok (.aastore, 1) := dX5_init_33
theorem ddX5_init_34 : decode mX5_init.2.1 34 = .ok (.iinc 1 1, 3) := dX5_init_34
theorem ddX5_init_37 : decode mX5_init.2.1 37 = .ok (.goto (-22), 3) := dX5_init_37
theorem ddX5_init_40 : decode mX5_init.2.1 40 = .ok (.return_, 1) := dX5_init_40
theorem ddX5_forget_0 : decode mX5_forget.2.1 0 = .ok (.aload_n 0, 1) := dX5_forget_0
theorem ddX5_forget_1 : decode mX5_forget.2.1 1 = .ok (.iconst 0, 1) := dX5_forget_1
theorem ddX5_forget_2 : decode mX5_forget.2.1 2 = .ok (.putfield 18, 3) := dX5_forget_2
theorem ddX5_forget_5 : decode mX5_forget.2.1 5 = .ok (.return_, 1) := dX5_forget_5
theorem ddX5_remember_0 : decode mX5_remember.2.1 0 = .ok (.aload_n 0, 1) := dX5_remember_0
theorem ddX5_remember_1 : decode mX5_remember.2.1 1 = .ok (.getfield 11, 3) := dX5_remember_1
theorem ddX5_remember_4 : decode mX5_remember.2.1 4 = .ok (.aload_n 0, 1) := dX5_remember_4
theorem ddX5_remember_5 : decode mX5_remember.2.1 5 = .ok (.getfield 22, 3) := dX5_remember_5
theorem ddX5_remember_8 : decode mX5_remember.2.1 8 = .ok (.aaload, 1) := dX5_remember_8
theorem ddX5_remember_9 : decode mX5_remember.2.1 9 = .ok (.astore_n 2, 1) := dX5_remember_9
theorem ddX5_remember_10 : decode mX5_remember.2.1 10 = .ok (.aload_n 2, 1) := dX5_remember_10
theorem ddX5_remember_11 : decode mX5_remember.2.1 11 = .ok (.ifnull 8, 3) := dX5_remember_11
theorem ddX5_remember_14 : decode mX5_remember.2.1 14 = .ok (.aload_n 2, 1) := dX5_remember_14
theorem ddX5_remember_15 : decode mX5_remember.2.1 15 = .ok (.aload_n 1, 1) := dX5_remember_15
theorem ddX5_remember_16 : decode mX5_remember.2.1 16 = .ok (.invokevirtual 25, 3) := dX5_remember_16
theorem ddX5_remember_19 : decode mX5_remember.2.1 19 = .ok (.aload_n 0, 1) := dX5_remember_19
theorem ddX5_remember_20 : decode mX5_remember.2.1 20 = .ok (.aload_n 0, 1) := dX5_remember_20
theorem ddX5_remember_21 : decode mX5_remember.2.1 21 = .ok (.getfield 22, 3) := dX5_remember_21
theorem ddX5_remember_24 : decode mX5_remember.2.1 24 = .ok (.iconst 1, 1) := dX5_remember_24
theorem ddX5_remember_25 : decode mX5_remember.2.1 25 = .ok (.iadd, 1) := dX5_remember_25
theorem ddX5_remember_26 : decode mX5_remember.2.1 26 = .ok (.bipush 16, 2) := dX5_remember_26
theorem ddX5_remember_28 : decode mX5_remember.2.1 28 = .ok (.irem, 1) := dX5_remember_28
theorem ddX5_remember_29 : decode mX5_remember.2.1 29 = .ok (.putfield 22, 3) := dX5_remember_29
theorem ddX5_remember_32 : decode mX5_remember.2.1 32 = .ok (.aload_n 0, 1) := dX5_remember_32
theorem ddX5_remember_33 : decode mX5_remember.2.1 33 = .ok (.aload_n 0, 1) := dX5_remember_33
theorem ddX5_remember_34 : decode mX5_remember.2.1 34 = .ok (.getfield 18, 3) := dX5_remember_34
theorem ddX5_remember_37 : decode mX5_remember.2.1 37 = .ok (.iconst 1, 1) := dX5_remember_37
theorem ddX5_remember_38 : decode mX5_remember.2.1 38 = .ok (.iadd, 1) := dX5_remember_38
theorem ddX5_remember_39 : decode mX5_remember.2.1 39 = .ok (.bipush 16, 2) := dX5_remember_39
theorem ddX5_remember_41 : decode mX5_remember.2.1 41 = .ok (.invokestatic 29, 3) := dX5_remember_41
theorem ddX5_remember_44 : decode mX5_remember.2.1 44 = .ok (.putfield 18, 3) := dX5_remember_44
theorem ddX5_remember_47 : decode mX5_remember.2.1 47 = .ok (.return_, 1) := dX5_remember_47
theorem ddX5_bringBack_0 : decode mX5_bringBack.2.1 0 = .ok (.aload_n 0, 1) := dX5_bringBack_0
theorem ddX5_bringBack_1 : decode mX5_bringBack.2.1 1 = .ok (.aload_n 0, 1) := dX5_bringBack_1
theorem ddX5_bringBack_2 : decode mX5_bringBack.2.1 2 = .ok (.getfield 22, 3) := dX5_bringBack_2
theorem ddX5_bringBack_5 : decode mX5_bringBack.2.1 5 = .ok (.iload_n 1, 1) := dX5_bringBack_5
theorem ddX5_bringBack_6 : decode mX5_bringBack.2.1 6 = .ok (.isub, 1) := dX5_bringBack_6
theorem ddX5_bringBack_7 : decode mX5_bringBack.2.1 7 = .ok (.bipush 16, 2) := dX5_bringBack_7
theorem ddX5_bringBack_9 : decode mX5_bringBack.2.1 9 = .ok (.invokestatic 35, 3) := dX5_bringBack_9
theorem ddX5_bringBack_12 : decode mX5_bringBack.2.1 12 = .ok (.putfield 22, 3) := dX5_bringBack_12
theorem ddX5_bringBack_15 : decode mX5_bringBack.2.1 15 = .ok (.aload_n 0, 1) := dX5_bringBack_15
theorem ddX5_bringBack_16 : decode mX5_bringBack.2.1 16 = .ok (.dup, 1) := dX5_bringBack_16
theorem ddX5_bringBack_17 : decode mX5_bringBack.2.1 17 = .ok (.getfield 18, 3) := dX5_bringBack_17
theorem ddX5_bringBack_20 : decode mX5_bringBack.2.1 20 = .ok (.iload_n 1, 1) := dX5_bringBack_20
theorem ddX5_bringBack_21 : decode mX5_bringBack.2.1 21 = .ok (.isub, 1) := dX5_bringBack_21
theorem ddX5_bringBack_22 : decode mX5_bringBack.2.1 22 = .ok (.putfield 18, 3) := dX5_bringBack_22
theorem ddX5_bringBack_25 : decode mX5_bringBack.2.1 25 = .ok (.aload_n 0, 1) := dX5_bringBack_25
theorem ddX5_bringBack_26 : decode mX5_bringBack.2.1 26 = .ok (.getfield 11, 3) := dX5_bringBack_26
theorem ddX5_bringBack_29 : decode mX5_bringBack.2.1 29 = .ok (.aload_n 0, 1) := dX5_bringBack_29
theorem ddX5_bringBack_30 : decode mX5_bringBack.2.1 30 = .ok (.getfield 22, 3) := dX5_bringBack_30
theorem ddX5_bringBack_33 : decode mX5_bringBack.2.1 33 = .ok (.aaload, 1) := dX5_bringBack_33
theorem ddX5_bringBack_34 : decode mX5_bringBack.2.1 34 = .ok (.astore_n 3, 1) := dX5_bringBack_34
theorem ddX5_bringBack_35 : decode mX5_bringBack.2.1 35 = .ok (.aload_n 3, 1) := dX5_bringBack_35
theorem ddX5_bringBack_36 : decode mX5_bringBack.2.1 36 = .ok (.ifnull 8, 3) := dX5_bringBack_36
theorem ddX5_bringBack_39 : decode mX5_bringBack.2.1 39 = .ok (.aload_n 2, 1) := dX5_bringBack_39
theorem ddX5_bringBack_40 : decode mX5_bringBack.2.1 40 = .ok (.aload_n 3, 1) := dX5_bringBack_40
theorem ddX5_bringBack_41 : decode mX5_bringBack.2.1 41 = .ok (.invokevirtual 25, 3) := dX5_bringBack_41
theorem ddX5_bringBack_44 : decode mX5_bringBack.2.1 44 = .ok (.return_, 1) := dX5_bringBack_44
theorem ddX6_init_0 : decode mX6_init.2.1 0 = .ok (.aload_n 0, 1) := dX6_init_0
theorem ddX6_init_1 : decode mX6_init.2.1 1 = .ok (.invokespecial 3, 3) := dX6_init_1
theorem ddX6_init_4 : decode mX6_init.2.1 4 = .ok (.aload_n 0, 1) := dX6_init_4
theorem ddX6_init_5 : decode mX6_init.2.1 5 = .ok (.bipush 8, 2) := dX6_init_5
theorem ddX6_init_7 : decode mX6_init.2.1 7 = .ok (.newarray .int, 2) := dX6_init_7
theorem ddX6_init_9 : decode mX6_init.2.1 9 = .ok (.putfield 9, 3) := dX6_init_9
theorem ddX6_init_12 : decode mX6_init.2.1 12 = .ok (.aload_n 0, 1) := dX6_init_12
theorem ddX6_init_13 : decode mX6_init.2.1 13 = .ok (.bipush 8, 2) := dX6_init_13
theorem ddX6_init_15 : decode mX6_init.2.1 15 = .ok (.newarray .int, 2) := dX6_init_15
theorem ddX6_init_17 : decode mX6_init.2.1 17 = .ok (.putfield 15, 3) := dX6_init_17
theorem ddX6_init_20 : decode mX6_init.2.1 20 = .ok (.aload_n 0, 1) := dX6_init_20
theorem ddX6_init_21 : decode mX6_init.2.1 21 = .ok (.bipush 8, 2) := dX6_init_21
theorem ddX6_init_23 : decode mX6_init.2.1 23 = .ok (.newarray .int, 2) := dX6_init_23
theorem ddX6_init_25 : decode mX6_init.2.1 25 = .ok (.putfield 18, 3) := dX6_init_25
theorem ddX6_init_28 : decode mX6_init.2.1 28 = .ok (.aload_n 0, 1) := dX6_init_28
theorem ddX6_init_29 : decode mX6_init.2.1 29 = .ok (.bipush 8, 2) := dX6_init_29
theorem ddX6_init_31 : decode mX6_init.2.1 31 = .ok (.newarray .int, 2) := dX6_init_31
theorem ddX6_init_33 : decode mX6_init.2.1 33 = .ok (.putfield 21, 3) := dX6_init_33
theorem ddX6_init_36 : decode mX6_init.2.1 36 = .ok (.aload_n 0, 1) := dX6_init_36
theorem ddX6_init_37 : decode mX6_init.2.1 37 = .ok (.bipush 8, 2) := dX6_init_37
theorem ddX6_init_39 : decode mX6_init.2.1 39 = .ok (.newarray .int, 2) := dX6_init_39
theorem ddX6_init_41 : decode mX6_init.2.1 41 = .ok (.putfield 24, 3) := dX6_init_41
theorem ddX6_init_44 : decode mX6_init.2.1 44 = .ok (.aload_n 0, 1) := dX6_init_44
theorem ddX6_init_45 : decode mX6_init.2.1 45 = .ok (.bipush 8, 2) := dX6_init_45
theorem ddX6_init_47 : decode mX6_init.2.1 47 = .ok (.newarray .int, 2) := dX6_init_47
theorem ddX6_init_49 : decode mX6_init.2.1 49 = .ok (.putfield 27, 3) := dX6_init_49
theorem ddX6_init_52 : decode mX6_init.2.1 52 = .ok (.aload_n 0, 1) := dX6_init_52
theorem ddX6_init_53 : decode mX6_init.2.1 53 = .ok (.bipush 8, 2) := dX6_init_53
theorem ddX6_init_55 : decode mX6_init.2.1 55 = .ok (.newarray .int, 2) := dX6_init_55
theorem ddX6_init_57 : decode mX6_init.2.1 57 = .ok (.putfield 30, 3) := dX6_init_57
theorem ddX6_init_60 : decode mX6_init.2.1 60 = .ok (.return_, 1) := dX6_init_60
theorem ddX6_empty_0 : decode mX6_empty.2.1 0 = .ok (.aload_n 0, 1) := dX6_empty_0
theorem ddX6_empty_1 : decode mX6_empty.2.1 1 = .ok (.iconst 0, 1) := dX6_empty_1
theorem ddX6_empty_2 : decode mX6_empty.2.1 2 = .ok (.putfield 33, 3) := dX6_empty_2
theorem ddX6_empty_5 : decode mX6_empty.2.1 5 = .ok (.aload_n 0, 1) := dX6_empty_5
theorem ddX6_empty_6 : decode mX6_empty.2.1 6 = .ok (.iconst 0, 1) := dX6_empty_6
theorem ddX6_empty_7 : decode mX6_empty.2.1 7 = .ok (.putfield 37, 3) := dX6_empty_7
theorem ddX6_empty_10 : decode mX6_empty.2.1 10 = .ok (.return_, 1) := dX6_empty_10
theorem ddX6_hasWire_0 : decode mX6_hasWire.2.1 0 = .ok (.iload_n 1, 1) := dX6_hasWire_0
theorem ddX6_hasWire_1 : decode mX6_hasWire.2.1 1 = .ok (.ifCond .lt 15, 3) := dX6_hasWire_1
theorem ddX6_hasWire_4 : decode mX6_hasWire.2.1 4 = .ok (.iload_n 1, 1) := dX6_hasWire_4
theorem ddX6_hasWire_5 : decode mX6_hasWire.2.1 5 = .ok (.aload_n 0, 1) := dX6_hasWire_5
theorem ddX6_hasWire_6 : decode mX6_hasWire.2.1 6 = .ok (.getfield 33, 3) := dX6_hasWire_6
theorem ddX6_hasWire_9 : decode mX6_hasWire.2.1 9 = .ok (.if_icmp .ge 7, 3) := dX6_hasWire_9
theorem ddX6_hasWire_12 : decode mX6_hasWire.2.1 12 = .ok (.iconst 1, 1) := dX6_hasWire_12
theorem ddX6_hasWire_13 : decode mX6_hasWire.2.1 13 = .ok (.goto 4, 3) := dX6_hasWire_13
theorem ddX6_hasWire_16 : decode mX6_hasWire.2.1 16 = .ok (.iconst 0, 1) := dX6_hasWire_16
theorem ddX6_hasWire_17 : decode mX6_hasWire.2.1 17 = .ok (.ireturn, 1) := dX6_hasWire_17
theorem ddX6_hasGate_0 : decode mX6_hasGate.2.1 0 = .ok (.iload_n 1, 1) := dX6_hasGate_0
theorem ddX6_hasGate_1 : decode mX6_hasGate.2.1 1 = .ok (.ifCond .lt 15, 3) := dX6_hasGate_1
theorem ddX6_hasGate_4 : decode mX6_hasGate.2.1 4 = .ok (.iload_n 1, 1) := dX6_hasGate_4
theorem ddX6_hasGate_5 : decode mX6_hasGate.2.1 5 = .ok (.aload_n 0, 1) := dX6_hasGate_5
theorem ddX6_hasGate_6 : decode mX6_hasGate.2.1 6 = .ok (.getfield 37, 3) := dX6_hasGate_6
theorem ddX6_hasGate_9 : decode mX6_hasGate.2.1 9 = .ok (.if_icmp .ge 7, 3) := dX6_hasGate_9
theorem ddX6_hasGate_12 : decode mX6_hasGate.2.1 12 = .ok (.iconst 1, 1) := dX6_hasGate_12
theorem ddX6_hasGate_13 : decode mX6_hasGate.2.1 13 = .ok (.goto 4, 3) := dX6_hasGate_13
theorem ddX6_hasGate_16 : decode mX6_hasGate.2.1 16 = .ok (.iconst 0, 1) := dX6_hasGate_16
theorem ddX6_hasGate_17 : decode mX6_hasGate.2.1 17 = .ok (.ireturn, 1) := dX6_hasGate_17
theorem ddX6_addWire_0 : decode mX6_addWire.2.1 0 = .ok (.aload_n 0, 1) := dX6_addWire_0
theorem ddX6_addWire_1 : decode mX6_addWire.2.1 1 = .ok (.getfield 33, 3) := dX6_addWire_1
theorem ddX6_addWire_4 : decode mX6_addWire.2.1 4 = .ok (.bipush 8, 2) := dX6_addWire_4
theorem ddX6_addWire_6 : decode mX6_addWire.2.1 6 = .ok (.if_icmp .ge 23, 3) := dX6_addWire_6
theorem ddX6_addWire_9 : decode mX6_addWire.2.1 9 = .ok (.aload_n 0, 1) := dX6_addWire_9
theorem ddX6_addWire_10 : decode mX6_addWire.2.1 10 = .ok (.getfield 9, 3) := dX6_addWire_10
theorem ddX6_addWire_13 : decode mX6_addWire.2.1 13 = .ok (.aload_n 0, 1) := dX6_addWire_13
theorem ddX6_addWire_14 : decode mX6_addWire.2.1 14 = .ok (.getfield 33, 3) := dX6_addWire_14
theorem ddX6_addWire_17 : decode mX6_addWire.2.1 17 = .ok (.iload_n 1, 1) := dX6_addWire_17
theorem ddX6_addWire_18 : decode mX6_addWire.2.1 18 = .ok (.iastore, 1) := dX6_addWire_18
theorem ddX6_addWire_19 : decode mX6_addWire.2.1 19 = .ok (.aload_n 0, 1) := dX6_addWire_19
theorem ddX6_addWire_20 : decode mX6_addWire.2.1 20 = .ok (.dup, 1) := dX6_addWire_20
theorem ddX6_addWire_21 : decode mX6_addWire.2.1 21 = .ok (.getfield 33, 3) := dX6_addWire_21
theorem ddX6_addWire_24 : decode mX6_addWire.2.1 24 = .ok (.iconst 1, 1) := dX6_addWire_24
theorem ddX6_addWire_25 : decode mX6_addWire.2.1 25 = .ok (.iadd, 1) := dX6_addWire_25
theorem ddX6_addWire_26 : decode mX6_addWire.2.1 26 = .ok (.putfield 33, 3) := dX6_addWire_26
theorem ddX6_addWire_29 : decode mX6_addWire.2.1 29 = .ok (.return_, 1) := dX6_addWire_29
theorem ddX6_looks_0 : decode mX6_looks.2.1 0 = .ok (.iconst 1, 1) := dX6_looks_0
theorem ddX6_looks_1 : decode mX6_looks.2.1 1 = .ok (.aload_n 0, 1) := dX6_looks_1
theorem ddX6_looks_2 : decode mX6_looks.2.1 2 = .ok (.getfield 18, 3) := dX6_looks_2
theorem ddX6_looks_5 : decode mX6_looks.2.1 5 = .ok (.iload_n 1, 1) := dX6_looks_5
theorem ddX6_looks_6 : decode mX6_looks.2.1 6 = .ok (.iaload, 1) := dX6_looks_6
theorem ddX6_looks_7 : decode mX6_looks.2.1 7 = .ok (.ishl, 1) := dX6_looks_7
theorem ddX6_looks_8 : decode mX6_looks.2.1 8 = .ok (.istore_n 2, 1) := dX6_looks_8
theorem ddX6_looks_9 : decode mX6_looks.2.1 9 = .ok (.aload_n 0, 1) := dX6_looks_9
theorem ddX6_looks_10 : decode mX6_looks.2.1 10 = .ok (.getfield 15, 3) := dX6_looks_10
theorem ddX6_looks_13 : decode mX6_looks.2.1 13 = .ok (.iload_n 1, 1) := dX6_looks_13
theorem ddX6_looks_14 : decode mX6_looks.2.1 14 = .ok (.iaload, 1) := dX6_looks_14
theorem ddX6_looks_15 : decode mX6_looks.2.1 15 = .ok (.ifCond .ne 7, 3) := dX6_looks_15
theorem ddX6_looks_18 : decode mX6_looks.2.1 18 = .ok (.iload_n 2, 1) := dX6_looks_18
theorem ddX6_looks_19 : decode mX6_looks.2.1 19 = .ok (.goto 13, 3) := dX6_looks_19
theorem ddX6_looks_22 : decode mX6_looks.2.1 22 = .ok (.iload_n 2, 1) := dX6_looks_22
theorem ddX6_looks_23 : decode mX6_looks.2.1 23 = .ok (.iconst 1, 1) := dX6_looks_23
theorem ddX6_looks_24 : decode mX6_looks.2.1 24 = .ok (.aload_n 0, 1) := dX6_looks_24
theorem ddX6_looks_25 : decode mX6_looks.2.1 25 = .ok (.getfield 21, 3) := dX6_looks_25
theorem ddX6_looks_28 : decode mX6_looks.2.1 28 = .ok (.iload_n 1, 1) := dX6_looks_28
theorem ddX6_looks_29 : decode mX6_looks.2.1 29 = .ok (.iaload, 1) := dX6_looks_29
theorem ddX6_looks_30 : decode mX6_looks.2.1 30 = .ok (.ishl, 1) := dX6_looks_30
theorem ddX6_looks_31 : decode mX6_looks.2.1 31 = .ok (.ior, 1) := dX6_looks_31
theorem ddX6_looks_32 : decode mX6_looks.2.1 32 = .ok (.ireturn, 1) := dX6_looks_32
theorem ddX6_driversOf_0 : decode mX6_driversOf.2.1 0 = .ok (.iconst 0, 1) := dX6_driversOf_0
theorem ddX6_driversOf_1 : decode mX6_driversOf.2.1 1 = .ok (.istore_n 2, 1) := dX6_driversOf_1
theorem ddX6_driversOf_2 : decode mX6_driversOf.2.1 2 = .ok (.iconst 0, 1) := dX6_driversOf_2
theorem ddX6_driversOf_3 : decode mX6_driversOf.2.1 3 = .ok (.istore_n 3, 1) := dX6_driversOf_3
theorem ddX6_driversOf_4 : decode mX6_driversOf.2.1 4 = .ok (.iload_n 3, 1) := dX6_driversOf_4
theorem ddX6_driversOf_5 : decode mX6_driversOf.2.1 5 = .ok (.aload_n 0, 1) := dX6_driversOf_5
theorem ddX6_driversOf_6 : decode mX6_driversOf.2.1 6 = .ok (.getfield 37, 3) := dX6_driversOf_6
theorem ddX6_driversOf_9 : decode mX6_driversOf.2.1 9 = .ok (.if_icmp .ge 22, 3) := dX6_driversOf_9
theorem ddX6_driversOf_12 : decode mX6_driversOf.2.1 12 = .ok (.aload_n 0, 1) := dX6_driversOf_12
theorem ddX6_driversOf_13 : decode mX6_driversOf.2.1 13 = .ok (.getfield 24, 3) := dX6_driversOf_13
theorem ddX6_driversOf_16 : decode mX6_driversOf.2.1 16 = .ok (.iload_n 3, 1) := dX6_driversOf_16
theorem ddX6_driversOf_17 : decode mX6_driversOf.2.1 17 = .ok (.iaload, 1) := dX6_driversOf_17
theorem ddX6_driversOf_18 : decode mX6_driversOf.2.1 18 = .ok (.iload_n 1, 1) := dX6_driversOf_18
theorem ddX6_driversOf_19 : decode mX6_driversOf.2.1 19 = .ok (.if_icmp .ne 6, 3) := dX6_driversOf_19
theorem ddX6_driversOf_22 : decode mX6_driversOf.2.1 22 = .ok (.iinc 2 1, 3) := dX6_driversOf_22
theorem ddX6_driversOf_25 : decode mX6_driversOf.2.1 25 = .ok (.iinc 3 1, 3) := dX6_driversOf_25
theorem ddX6_driversOf_28 : decode mX6_driversOf.2.1 28 = .ok (.goto (-24), 3) := dX6_driversOf_28
theorem ddX6_driversOf_31 : decode mX6_driversOf.2.1 31 = .ok (.iload_n 2, 1) := dX6_driversOf_31
theorem ddX6_driversOf_32 : decode mX6_driversOf.2.1 32 = .ok (.ireturn, 1) := dX6_driversOf_32
theorem ddX6_lookersAt_0 : decode mX6_lookersAt.2.1 0 = .ok (.iconst 0, 1) := dX6_lookersAt_0
theorem ddX6_lookersAt_1 : decode mX6_lookersAt.2.1 1 = .ok (.istore_n 2, 1) := dX6_lookersAt_1
theorem ddX6_lookersAt_2 : decode mX6_lookersAt.2.1 2 = .ok (.iconst 0, 1) := dX6_lookersAt_2
theorem ddX6_lookersAt_3 : decode mX6_lookersAt.2.1 3 = .ok (.istore_n 3, 1) := dX6_lookersAt_3
theorem ddX6_lookersAt_4 : decode mX6_lookersAt.2.1 4 = .ok (.iload_n 3, 1) := dX6_lookersAt_4
theorem ddX6_lookersAt_5 : decode mX6_lookersAt.2.1 5 = .ok (.aload_n 0, 1) := dX6_lookersAt_5
theorem ddX6_lookersAt_6 : decode mX6_lookersAt.2.1 6 = .ok (.getfield 37, 3) := dX6_lookersAt_6
theorem ddX6_lookersAt_9 : decode mX6_lookersAt.2.1 9 = .ok (.if_icmp .ge 25, 3) := dX6_lookersAt_9
theorem ddX6_lookersAt_12 : decode mX6_lookersAt.2.1 12 = .ok (.aload_n 0, 1) := dX6_lookersAt_12
theorem ddX6_lookersAt_13 : decode mX6_lookersAt.2.1 13 = .ok (.iload_n 3, 1) := dX6_lookersAt_13
theorem ddX6_lookersAt_14 : decode mX6_lookersAt.2.1 14 = .ok (.invokevirtual 40, 3) := dX6_lookersAt_14
theorem ddX6_lookersAt_17 : decode mX6_lookersAt.2.1 17 = .ok (.iload_n 1, 1) := dX6_lookersAt_17
theorem ddX6_lookersAt_18 : decode mX6_lookersAt.2.1 18 = .ok (.ishr, 1) := dX6_lookersAt_18
theorem ddX6_lookersAt_19 : decode mX6_lookersAt.2.1 19 = .ok (.iconst 1, 1) := dX6_lookersAt_19
theorem ddX6_lookersAt_20 : decode mX6_lookersAt.2.1 20 = .ok (.iand, 1) := dX6_lookersAt_20
theorem ddX6_lookersAt_21 : decode mX6_lookersAt.2.1 21 = .ok (.iconst 1, 1) := dX6_lookersAt_21
theorem ddX6_lookersAt_22 : decode mX6_lookersAt.2.1 22 = .ok (.if_icmp .ne 6, 3) := dX6_lookersAt_22
theorem ddX6_lookersAt_25 : decode mX6_lookersAt.2.1 25 = .ok (.iinc 2 1, 3) := dX6_lookersAt_25
theorem ddX6_lookersAt_28 : decode mX6_lookersAt.2.1 28 = .ok (.iinc 3 1, 3) := dX6_lookersAt_28
theorem ddX6_lookersAt_31 : decode mX6_lookersAt.2.1 31 = .ok (.goto (-27), 3) := dX6_lookersAt_31
theorem ddX6_lookersAt_34 : decode mX6_lookersAt.2.1 34 = .ok (.iload_n 2, 1) := dX6_lookersAt_34
theorem ddX6_lookersAt_35 : decode mX6_lookersAt.2.1 35 = .ok (.ireturn, 1) := dX6_lookersAt_35
theorem ddX7_init_0 : decode mX7_init.2.1 0 = .ok (.aload_n 0, 1) := dX7_init_0
theorem ddX7_init_1 : decode mX7_init.2.1 1 = .ok (.invokespecial 3, 3) := dX7_init_1
theorem ddX7_init_4 : decode mX7_init.2.1 4 = .ok (.aload_n 0, 1) := dX7_init_4
theorem ddX7_init_5 : decode mX7_init.2.1 5 = .ok (.sipush 200, 3) := dX7_init_5
theorem ddX7_init_8 : decode mX7_init.2.1 8 = .ok (.newarray .int, 2) := dX7_init_8
theorem ddX7_init_10 : decode mX7_init.2.1 10 = .ok (.putfield 11, 3) := dX7_init_10
theorem ddX7_init_13 : decode mX7_init.2.1 13 = .ok (.aload_n 0, 1) := dX7_init_13
theorem ddX7_init_14 : decode mX7_init.2.1 14 = .ok (.iconst (-1), 1) := dX7_init_14
theorem ddX7_init_15 : decode mX7_init.2.1 15 = .ok (.putfield 15, 3) := dX7_init_15
theorem ddX7_init_18 : decode mX7_init.2.1 18 = .ok (.return_, 1) := dX7_init_18
theorem ddX7_addLetter_0 : decode mX7_addLetter.2.1 0 = .ok (.aload_n 0, 1) := dX7_addLetter_0
theorem ddX7_addLetter_1 : decode mX7_addLetter.2.1 1 = .ok (.getfield 19, 3) := dX7_addLetter_1
theorem ddX7_addLetter_4 : decode mX7_addLetter.2.1 4 = .ok (.sipush 200, 3) := dX7_addLetter_4
theorem ddX7_addLetter_7 : decode mX7_addLetter.2.1 7 = .ok (.if_icmp .lt 6, 3) := dX7_addLetter_7
theorem ddX7_addLetter_10 : decode mX7_addLetter.2.1 10 = .ok (.ldc 22, 2) := dX7_addLetter_10
theorem ddX7_addLetter_12 : decode mX7_addLetter.2.1 12 = .ok (.ireturn, 1) := dX7_addLetter_12
theorem ddX7_addLetter_13 : decode mX7_addLetter.2.1 13 = .ok (.aload_n 0, 1) := dX7_addLetter_13
theorem ddX7_addLetter_14 : decode mX7_addLetter.2.1 14 = .ok (.getfield 11, 3) := dX7_addLetter_14
theorem ddX7_addLetter_17 : decode mX7_addLetter.2.1 17 = .ok (.aload_n 0, 1) := dX7_addLetter_17
theorem ddX7_addLetter_18 : decode mX7_addLetter.2.1 18 = .ok (.getfield 19, 3) := dX7_addLetter_18
theorem ddX7_addLetter_21 : decode mX7_addLetter.2.1 21 = .ok (.iload_n 1, 1) := dX7_addLetter_21
theorem ddX7_addLetter_22 : decode mX7_addLetter.2.1 22 = .ok (.iastore, 1) := dX7_addLetter_22
theorem ddX7_addLetter_23 : decode mX7_addLetter.2.1 23 = .ok (.aload_n 0, 1) := dX7_addLetter_23
theorem ddX7_addLetter_24 : decode mX7_addLetter.2.1 24 = .ok (.dup, 1) := dX7_addLetter_24
theorem ddX7_addLetter_25 : decode mX7_addLetter.2.1 25 = .ok (.getfield 19, 3) := dX7_addLetter_25
theorem ddX7_addLetter_28 : decode mX7_addLetter.2.1 28 = .ok (.iconst 1, 1) := dX7_addLetter_28
theorem ddX7_addLetter_29 : decode mX7_addLetter.2.1 29 = .ok (.iadd, 1) := dX7_addLetter_29
theorem ddX7_addLetter_30 : decode mX7_addLetter.2.1 30 = .ok (.putfield 19, 3) := dX7_addLetter_30
theorem ddX7_addLetter_33 : decode mX7_addLetter.2.1 33 = .ok (.aload_n 0, 1) := dX7_addLetter_33
theorem ddX7_addLetter_34 : decode mX7_addLetter.2.1 34 = .ok (.getfield 19, 3) := dX7_addLetter_34
theorem ddX7_addLetter_37 : decode mX7_addLetter.2.1 37 = .ok (.ireturn, 1) := dX7_addLetter_37
theorem ddX7_dropText_0 : decode mX7_dropText.2.1 0 = .ok (.aload_n 0, 1) := dX7_dropText_0
theorem ddX7_dropText_1 : decode mX7_dropText.2.1 1 = .ok (.iconst 0, 1) := dX7_dropText_1
theorem ddX7_dropText_2 : decode mX7_dropText.2.1 2 = .ok (.putfield 19, 3) := dX7_dropText_2
theorem ddX7_dropText_5 : decode mX7_dropText.2.1 5 = .ok (.return_, 1) := dX7_dropText_5
theorem ddX7_readInto_0 : decode mX7_readInto.2.1 0 = .ok (.aload_n 1, 1) := dX7_readInto_0
theorem ddX7_readInto_1 : decode mX7_readInto.2.1 1 = .ok (.invokevirtual 23, 3) := dX7_readInto_1
theorem ddX7_readInto_4 : decode mX7_readInto.2.1 4 = .ok (.aload_n 0, 1) := dX7_readInto_4
theorem ddX7_readInto_5 : decode mX7_readInto.2.1 5 = .ok (.iconst 0, 1) := dX7_readInto_5
theorem ddX7_readInto_6 : decode mX7_readInto.2.1 6 = .ok (.putfield 28, 3) := dX7_readInto_6
theorem ddX7_readInto_9 : decode mX7_readInto.2.1 9 = .ok (.aload_n 0, 1) := dX7_readInto_9
theorem ddX7_readInto_10 : decode mX7_readInto.2.1 10 = .ok (.iconst (-1), 1) := dX7_readInto_10
theorem ddX7_readInto_11 : decode mX7_readInto.2.1 11 = .ok (.putfield 15, 3) := dX7_readInto_11
theorem ddX7_readInto_14 : decode mX7_readInto.2.1 14 = .ok (.aload_n 0, 1) := dX7_readInto_14
theorem ddX7_readInto_15 : decode mX7_readInto.2.1 15 = .ok (.iconst 0, 1) := dX7_readInto_15
theorem ddX7_readInto_16 : decode mX7_readInto.2.1 16 = .ok (.putfield 31, 3) := dX7_readInto_16
theorem ddX7_readInto_19 : decode mX7_readInto.2.1 19 = .ok (.aload_n 0, 1) := dX7_readInto_19
theorem ddX7_readInto_20 : decode mX7_readInto.2.1 20 = .ok (.invokevirtual 34, 3) := dX7_readInto_20
theorem ddX7_readInto_23 : decode mX7_readInto.2.1 23 = .ok (.iconst 0, 1) := dX7_readInto_23
theorem ddX7_readInto_24 : decode mX7_readInto.2.1 24 = .ok (.istore_n 2, 1) := dX7_readInto_24
theorem ddX7_readInto_25 : decode mX7_readInto.2.1 25 = .ok (.iload_n 2, 1) := dX7_readInto_25
theorem ddX7_readInto_26 : decode mX7_readInto.2.1 26 = .ok (.sipush 200, 3) := dX7_readInto_26
theorem ddX7_readInto_29 : decode mX7_readInto.2.1 29 = .ok (.if_icmp .ge 36, 3) := dX7_readInto_29
theorem ddX7_readInto_32 : decode mX7_readInto.2.1 32 = .ok (.aload_n 0, 1) := dX7_readInto_32
theorem ddX7_readInto_33 : decode mX7_readInto.2.1 33 = .ok (.getfield 31, 3) := dX7_readInto_33
theorem ddX7_readInto_36 : decode mX7_readInto.2.1 36 = .ok (.aload_n 0, 1) := dX7_readInto_36
theorem ddX7_readInto_37 : decode mX7_readInto.2.1 37 = .ok (.getfield 19, 3) := dX7_readInto_37
theorem ddX7_readInto_40 : decode mX7_readInto.2.1 40 = .ok (.if_icmp .ge 25, 3) := dX7_readInto_40
theorem ddX7_readInto_43 : decode mX7_readInto.2.1 43 = .ok (.aload_n 0, 1) := dX7_readInto_43
theorem ddX7_readInto_44 : decode mX7_readInto.2.1 44 = .ok (.getfield 28, 3) := dX7_readInto_44
theorem ddX7_readInto_47 : decode mX7_readInto.2.1 47 = .ok (.ifCond .ne 18, 3) := dX7_readInto_47
theorem ddX7_readInto_50 : decode mX7_readInto.2.1 50 = .ok (.aload_n 0, 1) := dX7_readInto_50
theorem ddX7_readInto_51 : decode mX7_readInto.2.1 51 = .ok (.aload_n 1, 1) := dX7_readInto_51
theorem ddX7_readInto_52 : decode mX7_readInto.2.1 52 = .ok (.invokevirtual 37, 3) := dX7_readInto_52
theorem ddX7_readInto_55 : decode mX7_readInto.2.1 55 = .ok (.aload_n 0, 1) := dX7_readInto_55
theorem ddX7_readInto_56 : decode mX7_readInto.2.1 56 = .ok (.invokevirtual 34, 3) := dX7_readInto_56
theorem ddX7_readInto_59 : decode mX7_readInto.2.1 59 = .ok (.iinc 2 1, 3) := dX7_readInto_59
theorem ddX7_readInto_62 : decode mX7_readInto.2.1 62 = .ok (.goto (-37), 3) := dX7_readInto_62
theorem ddX7_readInto_65 : decode mX7_readInto.2.1 65 = .ok (.aload_n 0, 1) := dX7_readInto_65
theorem ddX7_readInto_66 : decode mX7_readInto.2.1 66 = .ok (.getfield 28, 3) := dX7_readInto_66
theorem ddX7_readInto_69 : decode mX7_readInto.2.1 69 = .ok (.ireturn, 1) := dX7_readInto_69
theorem ddX7_readClause_0 : decode mX7_readClause.2.1 0 = .ok (.aload_n 0, 1) := dX7_readClause_0
theorem ddX7_readClause_1 : decode mX7_readClause.2.1 1 = .ok (.invokevirtual 41, 3) := dX7_readClause_1
theorem ddX7_readClause_4 : decode mX7_readClause.2.1 4 = .ok (.bipush 119, 2) := dX7_readClause_4
theorem ddX7_readClause_6 : decode mX7_readClause.2.1 6 = .ok (.if_icmp .ne 11, 3) := dX7_readClause_6
theorem ddX7_readClause_9 : decode mX7_readClause.2.1 9 = .ok (.aload_n 0, 1) := dX7_readClause_9
theorem ddX7_readClause_10 : decode mX7_readClause.2.1 10 = .ok (.aload_n 1, 1) := dX7_readClause_10
theorem ddX7_readClause_11 : decode mX7_readClause.2.1 11 = .ok (.invokevirtual 45, 3) := dX7_readClause_11
theorem ddX7_readClause_14 : decode mX7_readClause.2.1 14 = .ok (.goto 29, 3) := dX7_readClause_14
theorem ddX7_readClause_17 : decode mX7_readClause.2.1 17 = .ok (.aload_n 0, 1) := dX7_readClause_17
theorem ddX7_readClause_18 : decode mX7_readClause.2.1 18 = .ok (.invokevirtual 41, 3) := dX7_readClause_18
theorem ddX7_readClause_21 : decode mX7_readClause.2.1 21 = .ok (.bipush 103, 2) := dX7_readClause_21
theorem ddX7_readClause_23 : decode mX7_readClause.2.1 23 = .ok (.if_icmp .ne 11, 3) := dX7_readClause_23
theorem ddX7_readClause_26 : decode mX7_readClause.2.1 26 = .ok (.aload_n 0, 1) := dX7_readClause_26
theorem ddX7_readClause_27 : decode mX7_readClause.2.1 27 = .ok (.aload_n 1, 1) := dX7_readClause_27
theorem ddX7_readClause_28 : decode mX7_readClause.2.1 28 = .ok (.invokevirtual 48, 3) := dX7_readClause_28
theorem ddX7_readClause_31 : decode mX7_readClause.2.1 31 = .ok (.goto 12, 3) := dX7_readClause_31
theorem ddX7_readClause_34 : decode mX7_readClause.2.1 34 = .ok (.aload_n 0, 1) := dX7_readClause_34
theorem ddX7_readClause_35 : decode mX7_readClause.2.1 35 = .ok (.iconst 1, 1) := dX7_readClause_35
theorem ddX7_readClause_36 : decode mX7_readClause.2.1 36 = .ok (.aload_n 0, 1) := dX7_readClause_36
theorem ddX7_readClause_37 : decode mX7_readClause.2.1 37 = .ok (.getfield 31, 3) := dX7_readClause_37
theorem ddX7_readClause_40 : decode mX7_readClause.2.1 40 = .ok (.invokevirtual 51, 3) := dX7_readClause_40
theorem ddX7_readClause_43 : decode mX7_readClause.2.1 43 = .ok (.return_, 1) := dX7_readClause_43
theorem ddX7_readWire_0 : decode mX7_readWire.2.1 0 = .ok (.aload_n 1, 1) := dX7_readWire_0
theorem ddX7_readWire_1 : decode mX7_readWire.2.1 1 = .ok (.getfield 55, 3) := dX7_readWire_1
theorem ddX7_readWire_4 : decode mX7_readWire.2.1 4 = .ok (.bipush 8, 2) := dX7_readWire_4
theorem ddX7_readWire_6 : decode mX7_readWire.2.1 6 = .ok (.if_icmp .lt 13, 3) := dX7_readWire_6
theorem ddX7_readWire_9 : decode mX7_readWire.2.1 9 = .ok (.aload_n 0, 1) := dX7_readWire_9
theorem ddX7_readWire_10 : decode mX7_readWire.2.1 10 = .ok (.iconst 3, 1) := dX7_readWire_10
theorem ddX7_readWire_11 : decode mX7_readWire.2.1 11 = .ok (.aload_n 0, 1) := dX7_readWire_11
theorem ddX7_readWire_12 : decode mX7_readWire.2.1 12 = .ok (.getfield 31, 3) := dX7_readWire_12
theorem ddX7_readWire_15 : decode mX7_readWire.2.1 15 = .ok (.invokevirtual 51, 3) := dX7_readWire_15
theorem ddX7_readWire_18 : decode mX7_readWire.2.1 18 = .ok (.return_, 1) := dX7_readWire_18
theorem ddX7_readWire_19 : decode mX7_readWire.2.1 19 = .ok (.aload_n 0, 1) := dX7_readWire_19
theorem ddX7_readWire_20 : decode mX7_readWire.2.1 20 = .ok (.dup, 1) := dX7_readWire_20
theorem ddX7_readWire_21 : decode mX7_readWire.2.1 21 = .ok (.getfield 31, 3) := dX7_readWire_21
theorem ddX7_readWire_24 : decode mX7_readWire.2.1 24 = .ok (.iconst 1, 1) := dX7_readWire_24
theorem ddX7_readWire_25 : decode mX7_readWire.2.1 25 = .ok (.iadd, 1) := dX7_readWire_25
theorem ddX7_readWire_26 : decode mX7_readWire.2.1 26 = .ok (.putfield 31, 3) := dX7_readWire_26
theorem ddX7_readWire_29 : decode mX7_readWire.2.1 29 = .ok (.aload_n 0, 1) := dX7_readWire_29
theorem ddX7_readWire_30 : decode mX7_readWire.2.1 30 = .ok (.iconst 3, 1) := dX7_readWire_30
theorem ddX7_readWire_31 : decode mX7_readWire.2.1 31 = .ok (.invokevirtual 58, 3) := dX7_readWire_31
theorem ddX7_readWire_34 : decode mX7_readWire.2.1 34 = .ok (.istore_n 2, 1) := dX7_readWire_34
theorem ddX7_readWire_35 : decode mX7_readWire.2.1 35 = .ok (.aload_n 0, 1) := dX7_readWire_35
theorem ddX7_readWire_36 : decode mX7_readWire.2.1 36 = .ok (.invokevirtual 62, 3) := dX7_readWire_36
theorem ddX7_readWire_39 : decode mX7_readWire.2.1 39 = .ok (.aload_n 0, 1) := dX7_readWire_39
theorem ddX7_readWire_40 : decode mX7_readWire.2.1 40 = .ok (.getfield 28, 3) := dX7_readWire_40
theorem ddX7_readWire_43 : decode mX7_readWire.2.1 43 = .ok (.ifCond .ne 8, 3) := dX7_readWire_43
theorem ddX7_readWire_46 : decode mX7_readWire.2.1 46 = .ok (.aload_n 1, 1) := dX7_readWire_46
theorem ddX7_readWire_47 : decode mX7_readWire.2.1 47 = .ok (.iload_n 2, 1) := dX7_readWire_47
theorem ddX7_readWire_48 : decode mX7_readWire.2.1 48 = .ok (.invokevirtual 65, 3) := dX7_readWire_48
theorem ddX7_readWire_51 : decode mX7_readWire.2.1 51 = .ok (.return_, 1) := dX7_readWire_51
theorem ddX7_readGate_0 : decode mX7_readGate.2.1 0 = .ok (.aload_n 1, 1) := dX7_readGate_0
theorem ddX7_readGate_1 : decode mX7_readGate.2.1 1 = .ok (.getfield 69, 3) := dX7_readGate_1
theorem ddX7_readGate_4 : decode mX7_readGate.2.1 4 = .ok (.istore_n 2, 1) := dX7_readGate_4
theorem ddX7_readGate_5 : decode mX7_readGate.2.1 5 = .ok (.iload_n 2, 1) := dX7_readGate_5
theorem ddX7_readGate_6 : decode mX7_readGate.2.1 6 = .ok (.bipush 8, 2) := dX7_readGate_6
theorem ddX7_readGate_8 : decode mX7_readGate.2.1 8 = .ok (.if_icmp .lt 13, 3) := dX7_readGate_8
theorem ddX7_readGate_11 : decode mX7_readGate.2.1 11 = .ok (.aload_n 0, 1) := dX7_readGate_11
theorem ddX7_readGate_12 : decode mX7_readGate.2.1 12 = .ok (.iconst 3, 1) := dX7_readGate_12
theorem ddX7_readGate_13 : decode mX7_readGate.2.1 13 = .ok (.aload_n 0, 1) := dX7_readGate_13
theorem ddX7_readGate_14 : decode mX7_readGate.2.1 14 = .ok (.getfield 31, 3) := dX7_readGate_14
theorem ddX7_readGate_17 : decode mX7_readGate.2.1 17 = .ok (.invokevirtual 51, 3) := dX7_readGate_17
theorem ddX7_readGate_20 : decode mX7_readGate.2.1 20 = .ok (.return_, 1) := dX7_readGate_20
theorem ddX7_readGate_21 : decode mX7_readGate.2.1 21 = .ok (.aload_n 0, 1) := dX7_readGate_21
theorem ddX7_readGate_22 : decode mX7_readGate.2.1 22 = .ok (.dup, 1) := dX7_readGate_22
theorem ddX7_readGate_23 : decode mX7_readGate.2.1 23 = .ok (.getfield 31, 3) := dX7_readGate_23
theorem ddX7_readGate_26 : decode mX7_readGate.2.1 26 = .ok (.iconst 1, 1) := dX7_readGate_26
theorem ddX7_readGate_27 : decode mX7_readGate.2.1 27 = .ok (.iadd, 1) := dX7_readGate_27
theorem ddX7_readGate_28 : decode mX7_readGate.2.1 28 = .ok (.putfield 31, 3) := dX7_readGate_28
theorem ddX7_readGate_31 : decode mX7_readGate.2.1 31 = .ok (.aload_n 1, 1) := dX7_readGate_31
theorem ddX7_readGate_32 : decode mX7_readGate.2.1 32 = .ok (.getfield 55, 3) := dX7_readGate_32
theorem ddX7_readGate_35 : decode mX7_readGate.2.1 35 = .ok (.iconst 1, 1) := dX7_readGate_35
theorem ddX7_readGate_36 : decode mX7_readGate.2.1 36 = .ok (.isub, 1) := dX7_readGate_36
theorem ddX7_readGate_37 : decode mX7_readGate.2.1 37 = .ok (.istore_n 3, 1) := dX7_readGate_37
theorem ddX7_readGate_38 : decode mX7_readGate.2.1 38 = .ok (.aload_n 1, 1) := dX7_readGate_38
theorem ddX7_readGate_39 : decode mX7_readGate.2.1 39 = .ok (.getfield 72, 3) := dX7_readGate_39
theorem ddX7_readGate_42 : decode mX7_readGate.2.1 42 = .ok (.iload_n 2, 1) := dX7_readGate_42
theorem ddX7_readGate_43 : decode mX7_readGate.2.1 43 = .ok (.aload_n 0, 1) := dX7_readGate_43
theorem ddX7_readGate_44 : decode mX7_readGate.2.1 44 = .ok (.iconst 5, 1) := dX7_readGate_44
theorem ddX7_readGate_45 : decode mX7_readGate.2.1 45 = .ok (.invokevirtual 58, 3) := dX7_readGate_45
theorem ddX7_readGate_48 : decode mX7_readGate.2.1 48 = .ok (.iastore, 1) := dX7_readGate_48
theorem ddX7_readGate_49 : decode mX7_readGate.2.1 49 = .ok (.aload_n 1, 1) := dX7_readGate_49
theorem ddX7_readGate_50 : decode mX7_readGate.2.1 50 = .ok (.getfield 77, 3) := dX7_readGate_50
theorem ddX7_readGate_53 : decode mX7_readGate.2.1 53 = .ok (.iload_n 2, 1) := dX7_readGate_53
theorem ddX7_readGate_54 : decode mX7_readGate.2.1 54 = .ok (.aload_n 0, 1) := dX7_readGate_54
theorem ddX7_readGate_55 : decode mX7_readGate.2.1 55 = .ok (.iload_n 3, 1) := dX7_readGate_55
theorem ddX7_readGate_56 : decode mX7_readGate.2.1 56 = .ok (.invokevirtual 58, 3) := dX7_readGate_56
theorem ddX7_readGate_59 : decode mX7_readGate.2.1 59 = .ok (.iastore, 1) := dX7_readGate_59
theorem ddX7_readGate_60 : decode mX7_readGate.2.1 60 = .ok (.aload_n 1, 1) := dX7_readGate_60
theorem ddX7_readGate_61 : decode mX7_readGate.2.1 61 = .ok (.getfield 80, 3) := dX7_readGate_61
theorem ddX7_readGate_64 : decode mX7_readGate.2.1 64 = .ok (.iload_n 2, 1) := dX7_readGate_64
theorem ddX7_readGate_65 : decode mX7_readGate.2.1 65 = .ok (.aload_n 0, 1) := dX7_readGate_65
theorem ddX7_readGate_66 : decode mX7_readGate.2.1 66 = .ok (.iload_n 3, 1) := dX7_readGate_66
theorem ddX7_readGate_67 : decode mX7_readGate.2.1 67 = .ok (.invokevirtual 58, 3) := dX7_readGate_67
theorem ddX7_readGate_70 : decode mX7_readGate.2.1 70 = .ok (.iastore, 1) := dX7_readGate_70
theorem ddX7_readGate_71 : decode mX7_readGate.2.1 71 = .ok (.aload_n 1, 1) := dX7_readGate_71
theorem ddX7_readGate_72 : decode mX7_readGate.2.1 72 = .ok (.getfield 83, 3) := dX7_readGate_72
theorem ddX7_readGate_75 : decode mX7_readGate.2.1 75 = .ok (.iload_n 2, 1) := dX7_readGate_75
theorem ddX7_readGate_76 : decode mX7_readGate.2.1 76 = .ok (.aload_n 0, 1) := dX7_readGate_76
theorem ddX7_readGate_77 : decode mX7_readGate.2.1 77 = .ok (.iload_n 3, 1) := dX7_readGate_77
theorem ddX7_readGate_78 : decode mX7_readGate.2.1 78 = .ok (.invokevirtual 58, 3) := dX7_readGate_78
theorem ddX7_readGate_81 : decode mX7_readGate.2.1 81 = .ok (.iastore, 1) := dX7_readGate_81
theorem ddX7_readGate_82 : decode mX7_readGate.2.1 82 = .ok (.aload_n 1, 1) := dX7_readGate_82
theorem ddX7_readGate_83 : decode mX7_readGate.2.1 83 = .ok (.getfield 86, 3) := dX7_readGate_83
theorem ddX7_readGate_86 : decode mX7_readGate.2.1 86 = .ok (.iload_n 2, 1) := dX7_readGate_86
theorem ddX7_readGate_87 : decode mX7_readGate.2.1 87 = .ok (.aload_n 0, 1) := dX7_readGate_87
theorem ddX7_readGate_88 : decode mX7_readGate.2.1 88 = .ok (.bipush 20, 2) := dX7_readGate_88
theorem ddX7_readGate_90 : decode mX7_readGate.2.1 90 = .ok (.invokevirtual 58, 3) := dX7_readGate_90
theorem ddX7_readGate_93 : decode mX7_readGate.2.1 93 = .ok (.iastore, 1) := dX7_readGate_93
theorem ddX7_readGate_94 : decode mX7_readGate.2.1 94 = .ok (.aload_n 1, 1) := dX7_readGate_94
theorem ddX7_readGate_95 : decode mX7_readGate.2.1 95 = .ok (.getfield 86, 3) := dX7_readGate_95
theorem ddX7_readGate_98 : decode mX7_readGate.2.1 98 = .ok (.iload_n 2, 1) := dX7_readGate_98
theorem ddX7_readGate_99 : decode mX7_readGate.2.1 99 = .ok (.iaload, 1) := dX7_readGate_99
theorem ddX7_readGate_100 : decode mX7_readGate.2.1 100 = .ok (.ifCond .ne 30, 3) := dX7_readGate_100
theorem ddX7_readGate_103 : decode mX7_readGate.2.1 103 = .ok (.aload_n 1, 1) := dX7_readGate_103
theorem ddX7_readGate_104 : decode mX7_readGate.2.1 104 = .ok (.iload_n 2, 1) := dX7_readGate_104
theorem ddX7_readGate_105 : decode mX7_readGate.2.1 105 = .ok (.invokevirtual 89, 3) := dX7_readGate_105
theorem ddX7_readGate_108 : decode mX7_readGate.2.1 108 = .ok (.aload_n 1, 1) := dX7_readGate_108
theorem ddX7_readGate_109 : decode mX7_readGate.2.1 109 = .ok (.getfield 83, 3) := dX7_readGate_109
theorem ddX7_readGate_112 : decode mX7_readGate.2.1 112 = .ok (.iload_n 2, 1) := dX7_readGate_112
theorem ddX7_readGate_113 : decode mX7_readGate.2.1 113 = .ok (.iaload, 1) := dX7_readGate_113
theorem ddX7_readGate_114 : decode mX7_readGate.2.1 114 = .ok (.ishr, 1) := dX7_readGate_114
theorem ddX7_readGate_115 : decode mX7_readGate.2.1 115 = .ok (.iconst 1, 1) := dX7_readGate_115
theorem ddX7_readGate_116 : decode mX7_readGate.2.1 116 = .ok (.iand, 1) := dX7_readGate_116
theorem ddX7_readGate_117 : decode mX7_readGate.2.1 117 = .ok (.iconst 1, 1) := dX7_readGate_117
theorem ddX7_readGate_118 : decode mX7_readGate.2.1 118 = .ok (.if_icmp .ne 12, 3) := dX7_readGate_118
theorem ddX7_readGate_121 : decode mX7_readGate.2.1 121 = .ok (.aload_n 0, 1) := dX7_readGate_121
theorem ddX7_readGate_122 : decode mX7_readGate.2.1 122 = .ok (.iconst 4, 1) := dX7_readGate_122
theorem ddX7_readGate_123 : decode mX7_readGate.2.1 123 = .ok (.aload_n 0, 1) := dX7_readGate_123
theorem ddX7_readGate_124 : decode mX7_readGate.2.1 124 = .ok (.getfield 92, 3) := dX7_readGate_124
theorem ddX7_readGate_127 : decode mX7_readGate.2.1 127 = .ok (.invokevirtual 51, 3) := dX7_readGate_127
theorem ddX7_readGate_130 : decode mX7_readGate.2.1 130 = .ok (.aload_n 1, 1) := dX7_readGate_130
theorem ddX7_readGate_131 : decode mX7_readGate.2.1 131 = .ok (.getfield 95, 3) := dX7_readGate_131
theorem ddX7_readGate_134 : decode mX7_readGate.2.1 134 = .ok (.iload_n 2, 1) := dX7_readGate_134
theorem ddX7_readGate_135 : decode mX7_readGate.2.1 135 = .ok (.aload_n 0, 1) := dX7_readGate_135
theorem ddX7_readGate_136 : decode mX7_readGate.2.1 136 = .ok (.iconst 1, 1) := dX7_readGate_136
theorem ddX7_readGate_137 : decode mX7_readGate.2.1 137 = .ok (.invokevirtual 58, 3) := dX7_readGate_137
theorem ddX7_readGate_140 : decode mX7_readGate.2.1 140 = .ok (.iastore, 1) := dX7_readGate_140
theorem ddX7_readGate_141 : decode mX7_readGate.2.1 141 = .ok (.aload_n 0, 1) := dX7_readGate_141
theorem ddX7_readGate_142 : decode mX7_readGate.2.1 142 = .ok (.invokevirtual 62, 3) := dX7_readGate_142
theorem ddX7_readGate_145 : decode mX7_readGate.2.1 145 = .ok (.aload_n 0, 1) := dX7_readGate_145
theorem ddX7_readGate_146 : decode mX7_readGate.2.1 146 = .ok (.getfield 28, 3) := dX7_readGate_146
theorem ddX7_readGate_149 : decode mX7_readGate.2.1 149 = .ok (.ifCond .ne 13, 3) := dX7_readGate_149
theorem ddX7_readGate_152 : decode mX7_readGate.2.1 152 = .ok (.aload_n 1, 1) := dX7_readGate_152
theorem ddX7_readGate_153 : decode mX7_readGate.2.1 153 = .ok (.dup, 1) := dX7_readGate_153
theorem ddX7_readGate_154 : decode mX7_readGate.2.1 154 = .ok (.getfield 69, 3) := dX7_readGate_154
theorem ddX7_readGate_157 : decode mX7_readGate.2.1 157 = .ok (.iconst 1, 1) := dX7_readGate_157
theorem ddX7_readGate_158 : decode mX7_readGate.2.1 158 = .ok (.iadd, 1) := dX7_readGate_158
theorem ddX7_readGate_159 : decode mX7_readGate.2.1 159 = .ok (.putfield 69, 3) := dX7_readGate_159
theorem ddX7_readGate_162 : decode mX7_readGate.2.1 162 = .ok (.return_, 1) := dX7_readGate_162
theorem ddX7_readNumber_0 : decode mX7_readNumber.2.1 0 = .ok (.aload_n 0, 1) := dX7_readNumber_0
theorem ddX7_readNumber_1 : decode mX7_readNumber.2.1 1 = .ok (.invokevirtual 34, 3) := dX7_readNumber_1
theorem ddX7_readNumber_4 : decode mX7_readNumber.2.1 4 = .ok (.aload_n 0, 1) := dX7_readNumber_4
theorem ddX7_readNumber_5 : decode mX7_readNumber.2.1 5 = .ok (.aload_n 0, 1) := dX7_readNumber_5
theorem ddX7_readNumber_6 : decode mX7_readNumber.2.1 6 = .ok (.getfield 31, 3) := dX7_readNumber_6
theorem ddX7_readNumber_9 : decode mX7_readNumber.2.1 9 = .ok (.putfield 92, 3) := dX7_readNumber_9
theorem ddX7_readNumber_12 : decode mX7_readNumber.2.1 12 = .ok (.aload_n 0, 1) := dX7_readNumber_12
theorem ddX7_readNumber_13 : decode mX7_readNumber.2.1 13 = .ok (.invokevirtual 41, 3) := dX7_readNumber_13
theorem ddX7_readNumber_16 : decode mX7_readNumber.2.1 16 = .ok (.invokestatic 98, 3) := dX7_readNumber_16
theorem ddX7_readNumber_19 : decode mX7_readNumber.2.1 19 = .ok (.ifCond .ne 14, 3) := dX7_readNumber_19
theorem ddX7_readNumber_22 : decode mX7_readNumber.2.1 22 = .ok (.aload_n 0, 1) := dX7_readNumber_22
theorem ddX7_readNumber_23 : decode mX7_readNumber.2.1 23 = .ok (.iconst 1, 1) := dX7_readNumber_23
theorem ddX7_readNumber_24 : decode mX7_readNumber.2.1 24 = .ok (.aload_n 0, 1) := dX7_readNumber_24
theorem ddX7_readNumber_25 : decode mX7_readNumber.2.1 25 = .ok (.getfield 31, 3) := dX7_readNumber_25
theorem ddX7_readNumber_28 : decode mX7_readNumber.2.1 28 = .ok (.invokevirtual 51, 3) := dX7_readNumber_28
theorem ddX7_readNumber_31 : decode mX7_readNumber.2.1 31 = .ok (.iconst 0, 1) := dX7_readNumber_31
theorem ddX7_readNumber_32 : decode mX7_readNumber.2.1 32 = .ok (.ireturn, 1) := dX7_readNumber_32
theorem ddX7_readNumber_33 : decode mX7_readNumber.2.1 33 = .ok (.iconst 0, 1) := dX7_readNumber_33
theorem ddX7_readNumber_34 : decode mX7_readNumber.2.1 34 = .ok (.istore_n 2, 1) := dX7_readNumber_34
theorem ddX7_readNumber_35 : decode mX7_readNumber.2.1 35 = .ok (.iconst 0, 1) := dX7_readNumber_35
theorem ddX7_readNumber_36 : decode mX7_readNumber.2.1 36 = .ok (.istore_n 3, 1) := dX7_readNumber_36
theorem ddX7_readNumber_37 : decode mX7_readNumber.2.1 37 = .ok (.aload_n 0, 1) := dX7_readNumber_37
theorem ddX7_readNumber_38 : decode mX7_readNumber.2.1 38 = .ok (.getfield 31, 3) := dX7_readNumber_38
theorem ddX7_readNumber_41 : decode mX7_readNumber.2.1 41 = .ok (.aload_n 0, 1) := dX7_readNumber_41
theorem ddX7_readNumber_42 : decode mX7_readNumber.2.1 42 = .ok (.getfield 19, 3) := dX7_readNumber_42
theorem ddX7_readNumber_45 : decode mX7_readNumber.2.1 45 = .ok (.if_icmp .ge 51, 3) := dX7_readNumber_45
theorem ddX7_readNumber_48 : decode mX7_readNumber.2.1 48 = .ok (.aload_n 0, 1) := dX7_readNumber_48
theorem ddX7_readNumber_49 : decode mX7_readNumber.2.1 49 = .ok (.invokevirtual 41, 3) := dX7_readNumber_49
theorem ddX7_readNumber_52 : decode mX7_readNumber.2.1 52 = .ok (.invokestatic 98, 3) := dX7_readNumber_52
theorem ddX7_readNumber_55 : decode mX7_readNumber.2.1 55 = .ok (.ifCond .eq 41, 3) := dX7_readNumber_55
theorem ddX7_readNumber_58 : decode mX7_readNumber.2.1 58 = .ok (.iload_n 3, 1) := dX7_readNumber_58
theorem ddX7_readNumber_59 : decode mX7_readNumber.2.1 59 = .ok (.iconst 2, 1) := dX7_readNumber_59
theorem ddX7_readNumber_60 : decode mX7_readNumber.2.1 60 = .ok (.if_icmp .ge 18, 3) := dX7_readNumber_60
theorem ddX7_readNumber_63 : decode mX7_readNumber.2.1 63 = .ok (.iload_n 2, 1) := dX7_readNumber_63
theorem ddX7_readNumber_64 : decode mX7_readNumber.2.1 64 = .ok (.bipush 10, 2) := dX7_readNumber_64
theorem ddX7_readNumber_66 : decode mX7_readNumber.2.1 66 = .ok (.imul, 1) := dX7_readNumber_66
theorem ddX7_readNumber_67 : decode mX7_readNumber.2.1 67 = .ok (.aload_n 0, 1) := dX7_readNumber_67
theorem ddX7_readNumber_68 : decode mX7_readNumber.2.1 68 = .ok (.invokevirtual 41, 3) := dX7_readNumber_68
theorem ddX7_readNumber_71 : decode mX7_readNumber.2.1 71 = .ok (.iadd, 1) := dX7_readNumber_71
theorem ddX7_readNumber_72 : decode mX7_readNumber.2.1 72 = .ok (.bipush 48, 2) := dX7_readNumber_72
theorem ddX7_readNumber_74 : decode mX7_readNumber.2.1 74 = .ok (.isub, 1) := dX7_readNumber_74
theorem ddX7_readNumber_75 : decode mX7_readNumber.2.1 75 = .ok (.goto 4, 3) := dX7_readNumber_75
theorem ddX7_readNumber_78 : decode mX7_readNumber.2.1 78 = .ok (.iload_n 2, 1) := dX7_readNumber_78
theorem ddX7_readNumber_79 : decode mX7_readNumber.2.1 79 = .ok (.istore_n 2, 1) := dX7_readNumber_79
theorem ddX7_readNumber_80 : decode mX7_readNumber.2.1 80 = .ok (.iinc 3 1, 3) := dX7_readNumber_80
theorem ddX7_readNumber_83 : decode mX7_readNumber.2.1 83 = .ok (.aload_n 0, 1) := dX7_readNumber_83
theorem ddX7_readNumber_84 : decode mX7_readNumber.2.1 84 = .ok (.dup, 1) := dX7_readNumber_84
theorem ddX7_readNumber_85 : decode mX7_readNumber.2.1 85 = .ok (.getfield 31, 3) := dX7_readNumber_85
theorem ddX7_readNumber_88 : decode mX7_readNumber.2.1 88 = .ok (.iconst 1, 1) := dX7_readNumber_88
theorem ddX7_readNumber_89 : decode mX7_readNumber.2.1 89 = .ok (.iadd, 1) := dX7_readNumber_89
theorem ddX7_readNumber_90 : decode mX7_readNumber.2.1 90 = .ok (.putfield 31, 3) := dX7_readNumber_90
theorem ddX7_readNumber_93 : decode mX7_readNumber.2.1 93 = .ok (.goto (-56), 3) := dX7_readNumber_93
theorem ddX7_readNumber_96 : decode mX7_readNumber.2.1 96 = .ok (.iload_n 3, 1) := dX7_readNumber_96
theorem ddX7_readNumber_97 : decode mX7_readNumber.2.1 97 = .ok (.iconst 2, 1) := dX7_readNumber_97
theorem ddX7_readNumber_98 : decode mX7_readNumber.2.1 98 = .ok (.if_icmp .gt 8, 3) := dX7_readNumber_98
theorem ddX7_readNumber_101 : decode mX7_readNumber.2.1 101 = .ok (.iload_n 2, 1) := dX7_readNumber_101
theorem ddX7_readNumber_102 : decode mX7_readNumber.2.1 102 = .ok (.iload_n 1, 1) := dX7_readNumber_102
theorem ddX7_readNumber_103 : decode mX7_readNumber.2.1 103 = .ok (.if_icmp .le 14, 3) := dX7_readNumber_103
theorem ddX7_readNumber_106 : decode mX7_readNumber.2.1 106 = .ok (.aload_n 0, 1) := dX7_readNumber_106
theorem ddX7_readNumber_107 : decode mX7_readNumber.2.1 107 = .ok (.iconst 2, 1) := dX7_readNumber_107
theorem ddX7_readNumber_108 : decode mX7_readNumber.2.1 108 = .ok (.aload_n 0, 1) := dX7_readNumber_108
theorem ddX7_readNumber_109 : decode mX7_readNumber.2.1 109 = .ok (.getfield 92, 3) := dX7_readNumber_109
theorem ddX7_readNumber_112 : decode mX7_readNumber.2.1 112 = .ok (.invokevirtual 51, 3) := dX7_readNumber_112
theorem ddX7_readNumber_115 : decode mX7_readNumber.2.1 115 = .ok (.iconst 0, 1) := dX7_readNumber_115
theorem ddX7_readNumber_116 : decode mX7_readNumber.2.1 116 = .ok (.ireturn, 1) := dX7_readNumber_116
theorem ddX7_readNumber_117 : decode mX7_readNumber.2.1 117 = .ok (.iload_n 2, 1) := dX7_readNumber_117
theorem ddX7_readNumber_118 : decode mX7_readNumber.2.1 118 = .ok (.ireturn, 1) := dX7_readNumber_118
theorem ddX7_readEnd_0 : decode mX7_readEnd.2.1 0 = .ok (.aload_n 0, 1) := dX7_readEnd_0
theorem ddX7_readEnd_1 : decode mX7_readEnd.2.1 1 = .ok (.invokevirtual 34, 3) := dX7_readEnd_1
theorem ddX7_readEnd_4 : decode mX7_readEnd.2.1 4 = .ok (.aload_n 0, 1) := dX7_readEnd_4
theorem ddX7_readEnd_5 : decode mX7_readEnd.2.1 5 = .ok (.invokevirtual 41, 3) := dX7_readEnd_5
theorem ddX7_readEnd_8 : decode mX7_readEnd.2.1 8 = .ok (.bipush 59, 2) := dX7_readEnd_8
theorem ddX7_readEnd_10 : decode mX7_readEnd.2.1 10 = .ok (.if_icmp .eq 12, 3) := dX7_readEnd_10
theorem ddX7_readEnd_13 : decode mX7_readEnd.2.1 13 = .ok (.aload_n 0, 1) := dX7_readEnd_13
theorem ddX7_readEnd_14 : decode mX7_readEnd.2.1 14 = .ok (.iconst 1, 1) := dX7_readEnd_14
theorem ddX7_readEnd_15 : decode mX7_readEnd.2.1 15 = .ok (.aload_n 0, 1) := dX7_readEnd_15
theorem ddX7_readEnd_16 : decode mX7_readEnd.2.1 16 = .ok (.getfield 31, 3) := dX7_readEnd_16
theorem ddX7_readEnd_19 : decode mX7_readEnd.2.1 19 = .ok (.invokevirtual 51, 3) := dX7_readEnd_19
theorem ddX7_readEnd_22 : decode mX7_readEnd.2.1 22 = .ok (.aload_n 0, 1) := dX7_readEnd_22
theorem ddX7_readEnd_23 : decode mX7_readEnd.2.1 23 = .ok (.dup, 1) := dX7_readEnd_23
theorem ddX7_readEnd_24 : decode mX7_readEnd.2.1 24 = .ok (.getfield 31, 3) := dX7_readEnd_24
theorem ddX7_readEnd_27 : decode mX7_readEnd.2.1 27 = .ok (.iconst 1, 1) := dX7_readEnd_27
theorem ddX7_readEnd_28 : decode mX7_readEnd.2.1 28 = .ok (.iadd, 1) := dX7_readEnd_28
theorem ddX7_readEnd_29 : decode mX7_readEnd.2.1 29 = .ok (.putfield 31, 3) := dX7_readEnd_29
theorem ddX7_readEnd_32 : decode mX7_readEnd.2.1 32 = .ok (.return_, 1) := dX7_readEnd_32
theorem ddX7_skipBlanks_0 : decode mX7_skipBlanks.2.1 0 = .ok (.aload_n 0, 1) := dX7_skipBlanks_0
theorem ddX7_skipBlanks_1 : decode mX7_skipBlanks.2.1 1 = .ok (.getfield 31, 3) := dX7_skipBlanks_1
theorem ddX7_skipBlanks_4 : decode mX7_skipBlanks.2.1 4 = .ok (.aload_n 0, 1) := dX7_skipBlanks_4
theorem ddX7_skipBlanks_5 : decode mX7_skipBlanks.2.1 5 = .ok (.getfield 19, 3) := dX7_skipBlanks_5
theorem ddX7_skipBlanks_8 : decode mX7_skipBlanks.2.1 8 = .ok (.if_icmp .ge 25, 3) := dX7_skipBlanks_8
theorem ddX7_skipBlanks_11 : decode mX7_skipBlanks.2.1 11 = .ok (.aload_n 0, 1) := dX7_skipBlanks_11
theorem ddX7_skipBlanks_12 : decode mX7_skipBlanks.2.1 12 = .ok (.invokevirtual 41, 3) := dX7_skipBlanks_12
theorem ddX7_skipBlanks_15 : decode mX7_skipBlanks.2.1 15 = .ok (.bipush 32, 2) := dX7_skipBlanks_15
theorem ddX7_skipBlanks_17 : decode mX7_skipBlanks.2.1 17 = .ok (.if_icmp .ne 16, 3) := dX7_skipBlanks_17
theorem ddX7_skipBlanks_20 : decode mX7_skipBlanks.2.1 20 = .ok (.aload_n 0, 1) := dX7_skipBlanks_20
theorem ddX7_skipBlanks_21 : decode mX7_skipBlanks.2.1 21 = .ok (.dup, 1) := dX7_skipBlanks_21
theorem ddX7_skipBlanks_22 : decode mX7_skipBlanks.2.1 22 = .ok (.getfield 31, 3) := dX7_skipBlanks_22
theorem ddX7_skipBlanks_25 : decode mX7_skipBlanks.2.1 25 = .ok (.iconst 1, 1) := dX7_skipBlanks_25
theorem ddX7_skipBlanks_26 : decode mX7_skipBlanks.2.1 26 = .ok (.iadd, 1) := dX7_skipBlanks_26
theorem ddX7_skipBlanks_27 : decode mX7_skipBlanks.2.1 27 = .ok (.putfield 31, 3) := dX7_skipBlanks_27
theorem ddX7_skipBlanks_30 : decode mX7_skipBlanks.2.1 30 = .ok (.goto (-30), 3) := dX7_skipBlanks_30
theorem ddX7_skipBlanks_33 : decode mX7_skipBlanks.2.1 33 = .ok (.return_, 1) := dX7_skipBlanks_33
theorem ddX7_letterHere_0 : decode mX7_letterHere.2.1 0 = .ok (.aload_n 0, 1) := dX7_letterHere_0
theorem ddX7_letterHere_1 : decode mX7_letterHere.2.1 1 = .ok (.getfield 31, 3) := dX7_letterHere_1
theorem ddX7_letterHere_4 : decode mX7_letterHere.2.1 4 = .ok (.ifCond .lt 26, 3) := dX7_letterHere_4
theorem ddX7_letterHere_7 : decode mX7_letterHere.2.1 7 = .ok (.aload_n 0, 1) := dX7_letterHere_7
theorem ddX7_letterHere_8 : decode mX7_letterHere.2.1 8 = .ok (.getfield 31, 3) := dX7_letterHere_8
theorem ddX7_letterHere_11 : decode mX7_letterHere.2.1 11 = .ok (.aload_n 0, 1) := dX7_letterHere_11
theorem ddX7_letterHere_12 : decode mX7_letterHere.2.1 12 = .ok (.getfield 19, 3) := dX7_letterHere_12
theorem ddX7_letterHere_15 : decode mX7_letterHere.2.1 15 = .ok (.if_icmp .ge 15, 3) := dX7_letterHere_15
theorem ddX7_letterHere_18 : decode mX7_letterHere.2.1 18 = .ok (.aload_n 0, 1) := dX7_letterHere_18
theorem ddX7_letterHere_19 : decode mX7_letterHere.2.1 19 = .ok (.getfield 11, 3) := dX7_letterHere_19
theorem ddX7_letterHere_22 : decode mX7_letterHere.2.1 22 = .ok (.aload_n 0, 1) := dX7_letterHere_22
theorem ddX7_letterHere_23 : decode mX7_letterHere.2.1 23 = .ok (.getfield 31, 3) := dX7_letterHere_23
theorem ddX7_letterHere_26 : decode mX7_letterHere.2.1 26 = .ok (.iaload, 1) := dX7_letterHere_26
theorem ddX7_letterHere_27 : decode mX7_letterHere.2.1 27 = .ok (.goto 4, 3) := dX7_letterHere_27
theorem ddX7_letterHere_30 : decode mX7_letterHere.2.1 30 = .ok (.iconst (-1), 1) := dX7_letterHere_30
theorem ddX7_letterHere_31 : decode mX7_letterHere.2.1 31 = .ok (.ireturn, 1) := dX7_letterHere_31
theorem ddX7_isFigure_0 : decode mX7_isFigure.2.1 0 = .ok (.iload_n 0, 1) := dX7_isFigure_0
theorem ddX7_isFigure_1 : decode mX7_isFigure.2.1 1 = .ok (.bipush 48, 2) := dX7_isFigure_1
theorem ddX7_isFigure_3 : decode mX7_isFigure.2.1 3 = .ok (.if_icmp .lt 13, 3) := dX7_isFigure_3
theorem ddX7_isFigure_6 : decode mX7_isFigure.2.1 6 = .ok (.iload_n 0, 1) := dX7_isFigure_6
theorem ddX7_isFigure_7 : decode mX7_isFigure.2.1 7 = .ok (.bipush 57, 2) := dX7_isFigure_7
theorem ddX7_isFigure_9 : decode mX7_isFigure.2.1 9 = .ok (.if_icmp .gt 7, 3) := dX7_isFigure_9
theorem ddX7_isFigure_12 : decode mX7_isFigure.2.1 12 = .ok (.iconst 1, 1) := dX7_isFigure_12
theorem ddX7_isFigure_13 : decode mX7_isFigure.2.1 13 = .ok (.goto 4, 3) := dX7_isFigure_13
theorem ddX7_isFigure_16 : decode mX7_isFigure.2.1 16 = .ok (.iconst 0, 1) := dX7_isFigure_16
theorem ddX7_isFigure_17 : decode mX7_isFigure.2.1 17 = .ok (.ireturn, 1) := dX7_isFigure_17
theorem ddX7_findFault_0 : decode mX7_findFault.2.1 0 = .ok (.aload_n 0, 1) := dX7_findFault_0
theorem ddX7_findFault_1 : decode mX7_findFault.2.1 1 = .ok (.getfield 28, 3) := dX7_findFault_1
theorem ddX7_findFault_4 : decode mX7_findFault.2.1 4 = .ok (.ifCond .ne 13, 3) := dX7_findFault_4
theorem ddX7_findFault_7 : decode mX7_findFault.2.1 7 = .ok (.aload_n 0, 1) := dX7_findFault_7
theorem ddX7_findFault_8 : decode mX7_findFault.2.1 8 = .ok (.iload_n 1, 1) := dX7_findFault_8
theorem ddX7_findFault_9 : decode mX7_findFault.2.1 9 = .ok (.putfield 28, 3) := dX7_findFault_9
theorem ddX7_findFault_12 : decode mX7_findFault.2.1 12 = .ok (.aload_n 0, 1) := dX7_findFault_12
theorem ddX7_findFault_13 : decode mX7_findFault.2.1 13 = .ok (.iload_n 2, 1) := dX7_findFault_13
theorem ddX7_findFault_14 : decode mX7_findFault.2.1 14 = .ok (.putfield 15, 3) := dX7_findFault_14
theorem ddX7_findFault_17 : decode mX7_findFault.2.1 17 = .ok (.return_, 1) := dX7_findFault_17
theorem ddX8_init_0 : decode mX8_init.2.1 0 = .ok (.aload_n 0, 1) := dX8_init_0
theorem ddX8_init_1 : decode mX8_init.2.1 1 = .ok (.invokespecial 1, 3) := dX8_init_1
theorem ddX8_init_4 : decode mX8_init.2.1 4 = .ok (.aload_n 0, 1) := dX8_init_4
theorem ddX8_init_5 : decode mX8_init.2.1 5 = .ok (.new 7, 3) := dX8_init_5
theorem ddX8_init_8 : decode mX8_init.2.1 8 = .ok (.dup, 1) := dX8_init_8
theorem ddX8_init_9 : decode mX8_init.2.1 9 = .ok (.invokespecial 9, 3) := dX8_init_9
theorem ddX8_init_12 : decode mX8_init.2.1 12 = .ok (.putfield 10, 3) := dX8_init_12
theorem ddX8_init_15 : decode mX8_init.2.1 15 = .ok (.aload_n 0, 1) := dX8_init_15
theorem ddX8_init_16 : decode mX8_init.2.1 16 = .ok (.new 16, 3) := dX8_init_16
theorem ddX8_init_19 : decode mX8_init.2.1 19 = .ok (.dup, 1) := dX8_init_19
theorem ddX8_init_20 : decode mX8_init.2.1 20 = .ok (.invokespecial 18, 3) := dX8_init_20
theorem ddX8_init_23 : decode mX8_init.2.1 23 = .ok (.putfield 19, 3) := dX8_init_23
theorem ddX8_init_26 : decode mX8_init.2.1 26 = .ok (.aload_n 0, 1) := dX8_init_26
theorem ddX8_init_27 : decode mX8_init.2.1 27 = .ok (.new 16, 3) := dX8_init_27
theorem ddX8_init_30 : decode mX8_init.2.1 30 = .ok (.dup, 1) := dX8_init_30
theorem ddX8_init_31 : decode mX8_init.2.1 31 = .ok (.invokespecial 18, 3) := dX8_init_31
theorem ddX8_init_34 : decode mX8_init.2.1 34 = .ok (.putfield 23, 3) := dX8_init_34
theorem ddX8_init_37 : decode mX8_init.2.1 37 = .ok (.aload_n 0, 1) := dX8_init_37
theorem ddX8_init_38 : decode mX8_init.2.1 38 = .ok (.new 26, 3) := dX8_init_38
theorem ddX8_init_41 : decode mX8_init.2.1 41 = .ok (.dup, 1) := dX8_init_41
theorem ddX8_init_42 : decode mX8_init.2.1 42 = .ok (.invokespecial 28, 3) := dX8_init_42
theorem ddX8_init_45 : decode mX8_init.2.1 45 = .ok (.putfield 29, 3) := dX8_init_45
theorem ddX8_init_48 : decode mX8_init.2.1 48 = .ok (.aload_n 0, 1) := dX8_init_48
theorem ddX8_init_49 : decode mX8_init.2.1 49 = .ok (.new 26, 3) := dX8_init_49
theorem ddX8_init_52 : decode mX8_init.2.1 52 = .ok (.dup, 1) := dX8_init_52
theorem ddX8_init_53 : decode mX8_init.2.1 53 = .ok (.invokespecial 28, 3) := dX8_init_53
theorem ddX8_init_56 : decode mX8_init.2.1 56 = .ok (.putfield 33, 3) := dX8_init_56
theorem ddX8_init_59 : decode mX8_init.2.1 59 = .ok (.aload_n 0, 1) := dX8_init_59
theorem ddX8_init_60 : decode mX8_init.2.1 60 = .ok (.new 36, 3) := dX8_init_60
theorem ddX8_init_63 : decode mX8_init.2.1 63 = .ok (.dup, 1) := dX8_init_63
theorem ddX8_init_64 : decode mX8_init.2.1 64 = .ok (.invokespecial 38, 3) := dX8_init_64
theorem ddX8_init_67 : decode mX8_init.2.1 67 = .ok (.putfield 39, 3) := dX8_init_67
theorem ddX8_init_70 : decode mX8_init.2.1 70 = .ok (.aload_n 0, 1) := dX8_init_70
theorem ddX8_init_71 : decode mX8_init.2.1 71 = .ok (.new 43, 3) := dX8_init_71
theorem ddX8_init_74 : decode mX8_init.2.1 74 = .ok (.dup, 1) := dX8_init_74
theorem ddX8_init_75 : decode mX8_init.2.1 75 = .ok (.invokespecial 45, 3) := dX8_init_75
theorem ddX8_init_78 : decode mX8_init.2.1 78 = .ok (.putfield 46, 3) := dX8_init_78
theorem ddX8_init_81 : decode mX8_init.2.1 81 = .ok (.aload_n 0, 1) := dX8_init_81
theorem ddX8_init_82 : decode mX8_init.2.1 82 = .ok (.new 43, 3) := dX8_init_82
theorem ddX8_init_85 : decode mX8_init.2.1 85 = .ok (.dup, 1) := dX8_init_85
theorem ddX8_init_86 : decode mX8_init.2.1 86 = .ok (.invokespecial 45, 3) := dX8_init_86
theorem ddX8_init_89 : decode mX8_init.2.1 89 = .ok (.putfield 50, 3) := dX8_init_89
theorem ddX8_init_92 : decode mX8_init.2.1 92 = .ok (.aload_n 0, 1) := dX8_init_92
theorem ddX8_init_93 : decode mX8_init.2.1 93 = .ok (.new 53, 3) := dX8_init_93
theorem ddX8_init_96 : decode mX8_init.2.1 96 = .ok (.dup, 1) := dX8_init_96
theorem ddX8_init_97 : decode mX8_init.2.1 97 = .ok (.invokespecial 55, 3) := dX8_init_97
theorem ddX8_init_100 : decode mX8_init.2.1 100 = .ok (.putfield 56, 3) := dX8_init_100
theorem ddX8_init_103 : decode mX8_init.2.1 103 = .ok (.aload_n 0, 1) := dX8_init_103
theorem ddX8_init_104 : decode mX8_init.2.1 104 = .ok (.new 60, 3) := dX8_init_104
theorem ddX8_init_107 : decode mX8_init.2.1 107 = .ok (.dup, 1) := dX8_init_107
theorem ddX8_init_108 : decode mX8_init.2.1 108 = .ok (.invokespecial 62, 3) := dX8_init_108
theorem ddX8_init_111 : decode mX8_init.2.1 111 = .ok (.putfield 63, 3) := dX8_init_111
theorem ddX8_init_114 : decode mX8_init.2.1 114 = .ok (.return_, 1) := dX8_init_114
theorem ddX8_feed_0 : decode mX8_feed.2.1 0 = .ok (.iload_n 1, 1) := dX8_feed_0
theorem ddX8_feed_1 : decode mX8_feed.2.1 1 = .ok (.ifCond .lt 10, 3) := dX8_feed_1
theorem ddX8_feed_4 : decode mX8_feed.2.1 4 = .ok (.iload_n 1, 1) := dX8_feed_4
theorem ddX8_feed_5 : decode mX8_feed.2.1 5 = .ok (.sipush 255, 3) := dX8_feed_5
theorem ddX8_feed_8 : decode mX8_feed.2.1 8 = .ok (.if_icmp .le 6, 3) := dX8_feed_8
theorem ddX8_feed_11 : decode mX8_feed.2.1 11 = .ok (.ldc 67, 2) := dX8_feed_11
theorem ddX8_feed_13 : decode mX8_feed.2.1 13 = .ok (.ireturn, 1) := dX8_feed_13
theorem ddX8_feed_14 : decode mX8_feed.2.1 14 = .ok (.aload_n 0, 1) := dX8_feed_14
theorem ddX8_feed_15 : decode mX8_feed.2.1 15 = .ok (.getfield 10, 3) := dX8_feed_15
theorem ddX8_feed_18 : decode mX8_feed.2.1 18 = .ok (.iload_n 1, 1) := dX8_feed_18
theorem ddX8_feed_19 : decode mX8_feed.2.1 19 = .ok (.invokevirtual 68, 3) := dX8_feed_19
theorem ddX8_feed_22 : decode mX8_feed.2.1 22 = .ok (.ireturn, 1) := dX8_feed_22
theorem ddX8_wires_0 : decode mX8_wires.2.1 0 = .ok (.aload_n 0, 1) := dX8_wires_0
theorem ddX8_wires_1 : decode mX8_wires.2.1 1 = .ok (.getfield 10, 3) := dX8_wires_1
theorem ddX8_wires_4 : decode mX8_wires.2.1 4 = .ok (.aload_n 0, 1) := dX8_wires_4
theorem ddX8_wires_5 : decode mX8_wires.2.1 5 = .ok (.getfield 23, 3) := dX8_wires_5
theorem ddX8_wires_8 : decode mX8_wires.2.1 8 = .ok (.invokevirtual 72, 3) := dX8_wires_8
theorem ddX8_wires_11 : decode mX8_wires.2.1 11 = .ok (.istore_n 1, 1) := dX8_wires_11
theorem ddX8_wires_12 : decode mX8_wires.2.1 12 = .ok (.aload_n 0, 1) := dX8_wires_12
theorem ddX8_wires_13 : decode mX8_wires.2.1 13 = .ok (.getfield 10, 3) := dX8_wires_13
theorem ddX8_wires_16 : decode mX8_wires.2.1 16 = .ok (.invokevirtual 76, 3) := dX8_wires_16
theorem ddX8_wires_19 : decode mX8_wires.2.1 19 = .ok (.iload_n 1, 1) := dX8_wires_19
theorem ddX8_wires_20 : decode mX8_wires.2.1 20 = .ok (.ifCond .eq 8, 3) := dX8_wires_20
theorem ddX8_wires_23 : decode mX8_wires.2.1 23 = .ok (.bipush (-10), 2) := dX8_wires_23
theorem ddX8_wires_25 : decode mX8_wires.2.1 25 = .ok (.iload_n 1, 1) := dX8_wires_25
theorem ddX8_wires_26 : decode mX8_wires.2.1 26 = .ok (.isub, 1) := dX8_wires_26
theorem ddX8_wires_27 : decode mX8_wires.2.1 27 = .ok (.ireturn, 1) := dX8_wires_27
theorem ddX8_wires_28 : decode mX8_wires.2.1 28 = .ok (.aload_n 0, 1) := dX8_wires_28
theorem ddX8_wires_29 : decode mX8_wires.2.1 29 = .ok (.getfield 23, 3) := dX8_wires_29
theorem ddX8_wires_32 : decode mX8_wires.2.1 32 = .ok (.astore_n 2, 1) := dX8_wires_32
theorem ddX8_wires_33 : decode mX8_wires.2.1 33 = .ok (.aload_n 0, 1) := dX8_wires_33
theorem ddX8_wires_34 : decode mX8_wires.2.1 34 = .ok (.aload_n 0, 1) := dX8_wires_34
theorem ddX8_wires_35 : decode mX8_wires.2.1 35 = .ok (.getfield 19, 3) := dX8_wires_35
theorem ddX8_wires_38 : decode mX8_wires.2.1 38 = .ok (.putfield 23, 3) := dX8_wires_38
theorem ddX8_wires_41 : decode mX8_wires.2.1 41 = .ok (.aload_n 0, 1) := dX8_wires_41
theorem ddX8_wires_42 : decode mX8_wires.2.1 42 = .ok (.aload_n 2, 1) := dX8_wires_42
theorem ddX8_wires_43 : decode mX8_wires.2.1 43 = .ok (.putfield 19, 3) := dX8_wires_43
theorem ddX8_wires_46 : decode mX8_wires.2.1 46 = .ok (.aload_n 0, 1) := dX8_wires_46
theorem ddX8_wires_47 : decode mX8_wires.2.1 47 = .ok (.getfield 29, 3) := dX8_wires_47
theorem ddX8_wires_50 : decode mX8_wires.2.1 50 = .ok (.aload_n 0, 1) := dX8_wires_50
theorem ddX8_wires_51 : decode mX8_wires.2.1 51 = .ok (.getfield 19, 3) := dX8_wires_51
theorem ddX8_wires_54 : decode mX8_wires.2.1 54 = .ok (.invokevirtual 79, 3) := dX8_wires_54
theorem ddX8_wires_57 : decode mX8_wires.2.1 57 = .ok (.aload_n 0, 1) := dX8_wires_57
theorem ddX8_wires_58 : decode mX8_wires.2.1 58 = .ok (.getfield 39, 3) := dX8_wires_58
theorem ddX8_wires_61 : decode mX8_wires.2.1 61 = .ok (.invokevirtual 83, 3) := dX8_wires_61
theorem ddX8_wires_64 : decode mX8_wires.2.1 64 = .ok (.aload_n 0, 1) := dX8_wires_64
theorem ddX8_wires_65 : decode mX8_wires.2.1 65 = .ok (.getfield 46, 3) := dX8_wires_65
theorem ddX8_wires_68 : decode mX8_wires.2.1 68 = .ok (.invokevirtual 86, 3) := dX8_wires_68
theorem ddX8_wires_71 : decode mX8_wires.2.1 71 = .ok (.aload_n 0, 1) := dX8_wires_71
theorem ddX8_wires_72 : decode mX8_wires.2.1 72 = .ok (.getfield 50, 3) := dX8_wires_72
theorem ddX8_wires_75 : decode mX8_wires.2.1 75 = .ok (.invokevirtual 86, 3) := dX8_wires_75
theorem ddX8_wires_78 : decode mX8_wires.2.1 78 = .ok (.aload_n 0, 1) := dX8_wires_78
theorem ddX8_wires_79 : decode mX8_wires.2.1 79 = .ok (.getfield 56, 3) := dX8_wires_79
theorem ddX8_wires_82 : decode mX8_wires.2.1 82 = .ok (.invokevirtual 87, 3) := dX8_wires_82
theorem ddX8_wires_85 : decode mX8_wires.2.1 85 = .ok (.aload_n 0, 1) := dX8_wires_85
theorem ddX8_wires_86 : decode mX8_wires.2.1 86 = .ok (.getfield 19, 3) := dX8_wires_86
theorem ddX8_wires_89 : decode mX8_wires.2.1 89 = .ok (.getfield 90, 3) := dX8_wires_89
theorem ddX8_wires_92 : decode mX8_wires.2.1 92 = .ok (.ireturn, 1) := dX8_wires_92
theorem ddX8_fault_0 : decode mX8_fault.2.1 0 = .ok (.aload_n 0, 1) := dX8_fault_0
theorem ddX8_fault_1 : decode mX8_fault.2.1 1 = .ok (.getfield 10, 3) := dX8_fault_1
theorem ddX8_fault_4 : decode mX8_fault.2.1 4 = .ok (.getfield 94, 3) := dX8_fault_4
theorem ddX8_fault_7 : decode mX8_fault.2.1 7 = .ok (.ireturn, 1) := dX8_fault_7
theorem ddX8_told_0 : decode mX8_told.2.1 0 = .ok (.iload_n 1, 1) := dX8_told_0
theorem ddX8_told_1 : decode mX8_told.2.1 1 = .ok (.tableswitch 208 0 13 #[71, 79, 87, 95, 103, 111, 127, 143, 155, 163, 168, 176, 184, 200], 71) := dX8_told_1
theorem ddX8_told_72 : decode mX8_told.2.1 72 = .ok (.aload_n 0, 1) := dX8_told_72
theorem ddX8_told_73 : decode mX8_told.2.1 73 = .ok (.getfield 19, 3) := dX8_told_73
theorem ddX8_told_76 : decode mX8_told.2.1 76 = .ok (.getfield 90, 3) := dX8_told_76
theorem ddX8_told_79 : decode mX8_told.2.1 79 = .ok (.ireturn, 1) := dX8_told_79
theorem ddX8_told_80 : decode mX8_told.2.1 80 = .ok (.aload_n 0, 1) := dX8_told_80
theorem ddX8_told_81 : decode mX8_told.2.1 81 = .ok (.getfield 19, 3) := dX8_told_81
theorem ddX8_told_84 : decode mX8_told.2.1 84 = .ok (.getfield 97, 3) := dX8_told_84
theorem ddX8_told_87 : decode mX8_told.2.1 87 = .ok (.ireturn, 1) := dX8_told_87
theorem ddX8_told_88 : decode mX8_told.2.1 88 = .ok (.aload_n 0, 1) := dX8_told_88
theorem ddX8_told_89 : decode mX8_told.2.1 89 = .ok (.getfield 10, 3) := dX8_told_89
theorem ddX8_told_92 : decode mX8_told.2.1 92 = .ok (.getfield 100, 3) := dX8_told_92
theorem ddX8_told_95 : decode mX8_told.2.1 95 = .ok (.ireturn, 1) := dX8_told_95
theorem ddX8_told_96 : decode mX8_told.2.1 96 = .ok (.aload_n 0, 1) := dX8_told_96
theorem ddX8_told_97 : decode mX8_told.2.1 97 = .ok (.getfield 29, 3) := dX8_told_97
theorem ddX8_told_100 : decode mX8_told.2.1 100 = .ok (.getfield 103, 3) := dX8_told_100
theorem ddX8_told_103 : decode mX8_told.2.1 103 = .ok (.ireturn, 1) := dX8_told_103
theorem ddX8_told_104 : decode mX8_told.2.1 104 = .ok (.aload_n 0, 1) := dX8_told_104
theorem ddX8_told_105 : decode mX8_told.2.1 105 = .ok (.getfield 29, 3) := dX8_told_105
theorem ddX8_told_108 : decode mX8_told.2.1 108 = .ok (.getfield 106, 3) := dX8_told_108
theorem ddX8_told_111 : decode mX8_told.2.1 111 = .ok (.ireturn, 1) := dX8_told_111
theorem ddX8_told_112 : decode mX8_told.2.1 112 = .ok (.aload_n 0, 1) := dX8_told_112
theorem ddX8_told_113 : decode mX8_told.2.1 113 = .ok (.getfield 29, 3) := dX8_told_113
theorem ddX8_told_116 : decode mX8_told.2.1 116 = .ok (.getfield 109, 3) := dX8_told_116
theorem ddX8_told_119 : decode mX8_told.2.1 119 = .ok (.ifCond .eq 7, 3) := dX8_told_119
theorem ddX8_told_122 : decode mX8_told.2.1 122 = .ok (.iconst 1, 1) := dX8_told_122
theorem ddX8_told_123 : decode mX8_told.2.1 123 = .ok (.goto 4, 3) := dX8_told_123
theorem ddX8_told_126 : decode mX8_told.2.1 126 = .ok (.iconst 0, 1) := dX8_told_126
theorem ddX8_told_127 : decode mX8_told.2.1 127 = .ok (.ireturn, 1) := dX8_told_127
theorem ddX8_told_128 : decode mX8_told.2.1 128 = .ok (.aload_n 0, 1) := dX8_told_128
theorem ddX8_told_129 : decode mX8_told.2.1 129 = .ok (.getfield 29, 3) := dX8_told_129
theorem ddX8_told_132 : decode mX8_told.2.1 132 = .ok (.invokevirtual 113, 3) := dX8_told_132
theorem ddX8_told_135 : decode mX8_told.2.1 135 = .ok (.ifCond .eq 7, 3) := dX8_told_135
theorem ddX8_told_138 : decode mX8_told.2.1 138 = .ok (.iconst 1, 1) := dX8_told_138
theorem ddX8_told_139 : decode mX8_told.2.1 139 = .ok (.goto 4, 3) := dX8_told_139
theorem ddX8_told_142 : decode mX8_told.2.1 142 = .ok (.iconst 0, 1) := dX8_told_142
theorem ddX8_told_143 : decode mX8_told.2.1 143 = .ok (.ireturn, 1) := dX8_told_143
theorem ddX8_told_144 : decode mX8_told.2.1 144 = .ok (.aload_n 0, 1) := dX8_told_144
theorem ddX8_told_145 : decode mX8_told.2.1 145 = .ok (.getfield 29, 3) := dX8_told_145
theorem ddX8_told_148 : decode mX8_told.2.1 148 = .ok (.aload_n 0, 1) := dX8_told_148
theorem ddX8_told_149 : decode mX8_told.2.1 149 = .ok (.getfield 19, 3) := dX8_told_149
theorem ddX8_told_152 : decode mX8_told.2.1 152 = .ok (.invokevirtual 117, 3) := dX8_told_152
theorem ddX8_told_155 : decode mX8_told.2.1 155 = .ok (.ireturn, 1) := dX8_told_155
theorem ddX8_told_156 : decode mX8_told.2.1 156 = .ok (.aload_n 0, 1) := dX8_told_156
theorem ddX8_told_157 : decode mX8_told.2.1 157 = .ok (.getfield 29, 3) := dX8_told_157
theorem ddX8_told_160 : decode mX8_told.2.1 160 = .ok (.getfield 120, 3) := dX8_told_160
theorem ddX8_told_163 : decode mX8_told.2.1 163 = .ok (.ireturn, 1) := dX8_told_163
theorem ddX8_told_164 : decode mX8_told.2.1 164 = .ok (.aload_n 0, 1) := dX8_told_164
theorem ddX8_told_165 : decode mX8_told.2.1 165 = .ok (.invokevirtual 123, 3) := dX8_told_165
theorem ddX8_told_168 : decode mX8_told.2.1 168 = .ok (.ireturn, 1) := dX8_told_168
theorem ddX8_told_169 : decode mX8_told.2.1 169 = .ok (.aload_n 0, 1) := dX8_told_169
theorem ddX8_told_170 : decode mX8_told.2.1 170 = .ok (.getfield 29, 3) := dX8_told_170
theorem ddX8_told_173 : decode mX8_told.2.1 173 = .ok (.getfield 127, 3) := dX8_told_173
theorem ddX8_told_176 : decode mX8_told.2.1 176 = .ok (.ireturn, 1) := dX8_told_176
theorem ddX8_told_177 : decode mX8_told.2.1 177 = .ok (.aload_n 0, 1) := dX8_told_177
theorem ddX8_told_178 : decode mX8_told.2.1 178 = .ok (.getfield 56, 3) := dX8_told_178
theorem ddX8_told_181 : decode mX8_told.2.1 181 = .ok (.getfield 130, 3) := dX8_told_181
theorem ddX8_told_184 : decode mX8_told.2.1 184 = .ok (.ireturn, 1) := dX8_told_184
theorem ddX8_told_185 : decode mX8_told.2.1 185 = .ok (.aload_n 0, 1) := dX8_told_185
theorem ddX8_told_186 : decode mX8_told.2.1 186 = .ok (.getfield 56, 3) := dX8_told_186
theorem ddX8_told_189 : decode mX8_told.2.1 189 = .ok (.aload_n 0, 1) := dX8_told_189
theorem ddX8_told_190 : decode mX8_told.2.1 190 = .ok (.getfield 19, 3) := dX8_told_190
theorem ddX8_told_193 : decode mX8_told.2.1 193 = .ok (.aload_n 0, 1) := dX8_told_193
theorem ddX8_told_194 : decode mX8_told.2.1 194 = .ok (.getfield 29, 3) := dX8_told_194
theorem ddX8_told_197 : decode mX8_told.2.1 197 = .ok (.invokevirtual 133, 3) := dX8_told_197
theorem ddX8_told_200 : decode mX8_told.2.1 200 = .ok (.ireturn, 1) := dX8_told_200
theorem ddX8_told_201 : decode mX8_told.2.1 201 = .ok (.aload_n 0, 1) := dX8_told_201
theorem ddX8_told_202 : decode mX8_told.2.1 202 = .ok (.getfield 39, 3) := dX8_told_202
theorem ddX8_told_205 : decode mX8_told.2.1 205 = .ok (.getfield 137, 3) := dX8_told_205
theorem ddX8_told_208 : decode mX8_told.2.1 208 = .ok (.ireturn, 1) := dX8_told_208
theorem ddX8_told_209 : decode mX8_told.2.1 209 = .ok (.ldc 67, 2) := dX8_told_209
theorem ddX8_told_211 : decode mX8_told.2.1 211 = .ok (.ireturn, 1) := dX8_told_211
theorem ddX8_wire_0 : decode mX8_wire.2.1 0 = .ok (.aload_n 0, 1) := dX8_wire_0
theorem ddX8_wire_1 : decode mX8_wire.2.1 1 = .ok (.getfield 19, 3) := dX8_wire_1
theorem ddX8_wire_4 : decode mX8_wire.2.1 4 = .ok (.iload_n 1, 1) := dX8_wire_4
theorem ddX8_wire_5 : decode mX8_wire.2.1 5 = .ok (.invokevirtual 138, 3) := dX8_wire_5
theorem ddX8_wire_8 : decode mX8_wire.2.1 8 = .ok (.ifCond .ne 6, 3) := dX8_wire_8
theorem ddX8_wire_11 : decode mX8_wire.2.1 11 = .ok (.ldc 142, 2) := dX8_wire_11
theorem ddX8_wire_13 : decode mX8_wire.2.1 13 = .ok (.ireturn, 1) := dX8_wire_13
theorem ddX8_wire_14 : decode mX8_wire.2.1 14 = .ok (.iload_n 2, 1) := dX8_wire_14
theorem ddX8_wire_15 : decode mX8_wire.2.1 15 = .ok (.tableswitch 81 0 4 #[33, 43, 52, 62, 72], 33) := dX8_wire_15
theorem ddX8_wire_48 : decode mX8_wire.2.1 48 = .ok (.aload_n 0, 1) := dX8_wire_48
theorem ddX8_wire_49 : decode mX8_wire.2.1 49 = .ok (.getfield 29, 3) := dX8_wire_49
theorem ddX8_wire_52 : decode mX8_wire.2.1 52 = .ok (.getfield 143, 3) := dX8_wire_52
theorem ddX8_wire_55 : decode mX8_wire.2.1 55 = .ok (.iload_n 1, 1) := dX8_wire_55
theorem ddX8_wire_56 : decode mX8_wire.2.1 56 = .ok (.iaload, 1) := dX8_wire_56
theorem ddX8_wire_57 : decode mX8_wire.2.1 57 = .ok (.ireturn, 1) := dX8_wire_57
theorem ddX8_wire_58 : decode mX8_wire.2.1 58 = .ok (.aload_n 0, 1) := dX8_wire_58
theorem ddX8_wire_59 : decode mX8_wire.2.1 59 = .ok (.getfield 19, 3) := dX8_wire_59
theorem ddX8_wire_62 : decode mX8_wire.2.1 62 = .ok (.iload_n 1, 1) := dX8_wire_62
theorem ddX8_wire_63 : decode mX8_wire.2.1 63 = .ok (.invokevirtual 147, 3) := dX8_wire_63
theorem ddX8_wire_66 : decode mX8_wire.2.1 66 = .ok (.ireturn, 1) := dX8_wire_66
theorem ddX8_wire_67 : decode mX8_wire.2.1 67 = .ok (.aload_n 0, 1) := dX8_wire_67
theorem ddX8_wire_68 : decode mX8_wire.2.1 68 = .ok (.getfield 29, 3) := dX8_wire_68
theorem ddX8_wire_71 : decode mX8_wire.2.1 71 = .ok (.getfield 150, 3) := dX8_wire_71
theorem ddX8_wire_74 : decode mX8_wire.2.1 74 = .ok (.iload_n 1, 1) := dX8_wire_74
theorem ddX8_wire_75 : decode mX8_wire.2.1 75 = .ok (.iaload, 1) := dX8_wire_75
theorem ddX8_wire_76 : decode mX8_wire.2.1 76 = .ok (.ireturn, 1) := dX8_wire_76
theorem ddX8_wire_77 : decode mX8_wire.2.1 77 = .ok (.aload_n 0, 1) := dX8_wire_77
theorem ddX8_wire_78 : decode mX8_wire.2.1 78 = .ok (.getfield 29, 3) := dX8_wire_78
theorem ddX8_wire_81 : decode mX8_wire.2.1 81 = .ok (.getfield 153, 3) := dX8_wire_81
theorem ddX8_wire_84 : decode mX8_wire.2.1 84 = .ok (.iload_n 1, 1) := dX8_wire_84
theorem ddX8_wire_85 : decode mX8_wire.2.1 85 = .ok (.iaload, 1) := dX8_wire_85
theorem ddX8_wire_86 : decode mX8_wire.2.1 86 = .ok (.ireturn, 1) := dX8_wire_86
theorem ddX8_wire_87 : decode mX8_wire.2.1 87 = .ok (.aload_n 0, 1) := dX8_wire_87
theorem ddX8_wire_88 : decode mX8_wire.2.1 88 = .ok (.getfield 19, 3) := dX8_wire_88
theorem ddX8_wire_91 : decode mX8_wire.2.1 91 = .ok (.iload_n 1, 1) := dX8_wire_91
theorem ddX8_wire_92 : decode mX8_wire.2.1 92 = .ok (.invokevirtual 156, 3) := dX8_wire_92
theorem ddX8_wire_95 : decode mX8_wire.2.1 95 = .ok (.ireturn, 1) := dX8_wire_95
theorem ddX8_wire_96 : decode mX8_wire.2.1 96 = .ok (.ldc 67, 2) := dX8_wire_96
theorem ddX8_wire_98 : decode mX8_wire.2.1 98 = .ok (.ireturn, 1) := dX8_wire_98
theorem ddX8_wave_0 : decode mX8_wave.2.1 0 = .ok (.aload_n 0, 1) := dX8_wave_0
theorem ddX8_wave_1 : decode mX8_wave.2.1 1 = .ok (.getfield 19, 3) := dX8_wave_1
theorem ddX8_wave_4 : decode mX8_wave.2.1 4 = .ok (.iload_n 1, 1) := dX8_wave_4
theorem ddX8_wave_5 : decode mX8_wave.2.1 5 = .ok (.invokevirtual 138, 3) := dX8_wave_5
theorem ddX8_wave_8 : decode mX8_wave.2.1 8 = .ok (.ifCond .ne 6, 3) := dX8_wave_8
theorem ddX8_wave_11 : decode mX8_wave.2.1 11 = .ok (.ldc 142, 2) := dX8_wave_11
theorem ddX8_wave_13 : decode mX8_wave.2.1 13 = .ok (.ireturn, 1) := dX8_wave_13
theorem ddX8_wave_14 : decode mX8_wave.2.1 14 = .ok (.iload_n 3, 1) := dX8_wave_14
theorem ddX8_wave_15 : decode mX8_wave.2.1 15 = .ok (.lookupswitch 45 #[(0, 25), (1, 35)], 25) := dX8_wave_15
theorem ddX8_wave_40 : decode mX8_wave.2.1 40 = .ok (.aload_n 0, 1) := dX8_wave_40
theorem ddX8_wave_41 : decode mX8_wave.2.1 41 = .ok (.getfield 29, 3) := dX8_wave_41
theorem ddX8_wave_44 : decode mX8_wave.2.1 44 = .ok (.iload_n 1, 1) := dX8_wave_44
theorem ddX8_wave_45 : decode mX8_wave.2.1 45 = .ok (.iload_n 2, 1) := dX8_wave_45
theorem ddX8_wave_46 : decode mX8_wave.2.1 46 = .ok (.invokevirtual 159, 3) := dX8_wave_46
theorem ddX8_wave_49 : decode mX8_wave.2.1 49 = .ok (.ireturn, 1) := dX8_wave_49
theorem ddX8_wave_50 : decode mX8_wave.2.1 50 = .ok (.aload_n 0, 1) := dX8_wave_50
theorem ddX8_wave_51 : decode mX8_wave.2.1 51 = .ok (.getfield 29, 3) := dX8_wave_51
theorem ddX8_wave_54 : decode mX8_wave.2.1 54 = .ok (.iload_n 1, 1) := dX8_wave_54
theorem ddX8_wave_55 : decode mX8_wave.2.1 55 = .ok (.iload_n 2, 1) := dX8_wave_55
theorem ddX8_wave_56 : decode mX8_wave.2.1 56 = .ok (.invokevirtual 163, 3) := dX8_wave_56
theorem ddX8_wave_59 : decode mX8_wave.2.1 59 = .ok (.ireturn, 1) := dX8_wave_59
theorem ddX8_wave_60 : decode mX8_wave.2.1 60 = .ok (.ldc 67, 2) := dX8_wave_60
theorem ddX8_wave_62 : decode mX8_wave.2.1 62 = .ok (.ireturn, 1) := dX8_wave_62
theorem ddX8_gate_0 : decode mX8_gate.2.1 0 = .ok (.aload_n 0, 1) := dX8_gate_0
theorem ddX8_gate_1 : decode mX8_gate.2.1 1 = .ok (.getfield 19, 3) := dX8_gate_1
theorem ddX8_gate_4 : decode mX8_gate.2.1 4 = .ok (.iload_n 1, 1) := dX8_gate_4
theorem ddX8_gate_5 : decode mX8_gate.2.1 5 = .ok (.invokevirtual 166, 3) := dX8_gate_5
theorem ddX8_gate_8 : decode mX8_gate.2.1 8 = .ok (.ifCond .ne 6, 3) := dX8_gate_8
theorem ddX8_gate_11 : decode mX8_gate.2.1 11 = .ok (.ldc 142, 2) := dX8_gate_11
theorem ddX8_gate_13 : decode mX8_gate.2.1 13 = .ok (.ireturn, 1) := dX8_gate_13
theorem ddX8_gate_14 : decode mX8_gate.2.1 14 = .ok (.iload_n 2, 1) := dX8_gate_14
theorem ddX8_gate_15 : decode mX8_gate.2.1 15 = .ok (.tableswitch 168 0 9 #[53, 63, 73, 83, 93, 103, 113, 123, 136, 146], 53) := dX8_gate_15
theorem ddX8_gate_68 : decode mX8_gate.2.1 68 = .ok (.aload_n 0, 1) := dX8_gate_68
theorem ddX8_gate_69 : decode mX8_gate.2.1 69 = .ok (.getfield 19, 3) := dX8_gate_69
theorem ddX8_gate_72 : decode mX8_gate.2.1 72 = .ok (.getfield 169, 3) := dX8_gate_72
theorem ddX8_gate_75 : decode mX8_gate.2.1 75 = .ok (.iload_n 1, 1) := dX8_gate_75
theorem ddX8_gate_76 : decode mX8_gate.2.1 76 = .ok (.iaload, 1) := dX8_gate_76
theorem ddX8_gate_77 : decode mX8_gate.2.1 77 = .ok (.ireturn, 1) := dX8_gate_77
theorem ddX8_gate_78 : decode mX8_gate.2.1 78 = .ok (.aload_n 0, 1) := dX8_gate_78
theorem ddX8_gate_79 : decode mX8_gate.2.1 79 = .ok (.getfield 19, 3) := dX8_gate_79
theorem ddX8_gate_82 : decode mX8_gate.2.1 82 = .ok (.getfield 172, 3) := dX8_gate_82
theorem ddX8_gate_85 : decode mX8_gate.2.1 85 = .ok (.iload_n 1, 1) := dX8_gate_85
theorem ddX8_gate_86 : decode mX8_gate.2.1 86 = .ok (.iaload, 1) := dX8_gate_86
theorem ddX8_gate_87 : decode mX8_gate.2.1 87 = .ok (.ireturn, 1) := dX8_gate_87
theorem ddX8_gate_88 : decode mX8_gate.2.1 88 = .ok (.aload_n 0, 1) := dX8_gate_88
theorem ddX8_gate_89 : decode mX8_gate.2.1 89 = .ok (.getfield 19, 3) := dX8_gate_89
theorem ddX8_gate_92 : decode mX8_gate.2.1 92 = .ok (.getfield 175, 3) := dX8_gate_92
theorem ddX8_gate_95 : decode mX8_gate.2.1 95 = .ok (.iload_n 1, 1) := dX8_gate_95
theorem ddX8_gate_96 : decode mX8_gate.2.1 96 = .ok (.iaload, 1) := dX8_gate_96
theorem ddX8_gate_97 : decode mX8_gate.2.1 97 = .ok (.ireturn, 1) := dX8_gate_97
theorem ddX8_gate_98 : decode mX8_gate.2.1 98 = .ok (.aload_n 0, 1) := dX8_gate_98
theorem ddX8_gate_99 : decode mX8_gate.2.1 99 = .ok (.getfield 19, 3) := dX8_gate_99
theorem ddX8_gate_102 : decode mX8_gate.2.1 102 = .ok (.getfield 178, 3) := dX8_gate_102
theorem ddX8_gate_105 : decode mX8_gate.2.1 105 = .ok (.iload_n 1, 1) := dX8_gate_105
theorem ddX8_gate_106 : decode mX8_gate.2.1 106 = .ok (.iaload, 1) := dX8_gate_106
theorem ddX8_gate_107 : decode mX8_gate.2.1 107 = .ok (.ireturn, 1) := dX8_gate_107
theorem ddX8_gate_108 : decode mX8_gate.2.1 108 = .ok (.aload_n 0, 1) := dX8_gate_108
theorem ddX8_gate_109 : decode mX8_gate.2.1 109 = .ok (.getfield 19, 3) := dX8_gate_109
theorem ddX8_gate_112 : decode mX8_gate.2.1 112 = .ok (.getfield 181, 3) := dX8_gate_112
theorem ddX8_gate_115 : decode mX8_gate.2.1 115 = .ok (.iload_n 1, 1) := dX8_gate_115
theorem ddX8_gate_116 : decode mX8_gate.2.1 116 = .ok (.iaload, 1) := dX8_gate_116
theorem ddX8_gate_117 : decode mX8_gate.2.1 117 = .ok (.ireturn, 1) := dX8_gate_117
theorem ddX8_gate_118 : decode mX8_gate.2.1 118 = .ok (.aload_n 0, 1) := dX8_gate_118
theorem ddX8_gate_119 : decode mX8_gate.2.1 119 = .ok (.getfield 19, 3) := dX8_gate_119
theorem ddX8_gate_122 : decode mX8_gate.2.1 122 = .ok (.getfield 184, 3) := dX8_gate_122
theorem ddX8_gate_125 : decode mX8_gate.2.1 125 = .ok (.iload_n 1, 1) := dX8_gate_125
theorem ddX8_gate_126 : decode mX8_gate.2.1 126 = .ok (.iaload, 1) := dX8_gate_126
theorem ddX8_gate_127 : decode mX8_gate.2.1 127 = .ok (.ireturn, 1) := dX8_gate_127
theorem ddX8_gate_128 : decode mX8_gate.2.1 128 = .ok (.aload_n 0, 1) := dX8_gate_128
theorem ddX8_gate_129 : decode mX8_gate.2.1 129 = .ok (.getfield 29, 3) := dX8_gate_129
theorem ddX8_gate_132 : decode mX8_gate.2.1 132 = .ok (.getfield 187, 3) := dX8_gate_132
theorem ddX8_gate_135 : decode mX8_gate.2.1 135 = .ok (.iload_n 1, 1) := dX8_gate_135
theorem ddX8_gate_136 : decode mX8_gate.2.1 136 = .ok (.iaload, 1) := dX8_gate_136
theorem ddX8_gate_137 : decode mX8_gate.2.1 137 = .ok (.ireturn, 1) := dX8_gate_137
theorem ddX8_gate_138 : decode mX8_gate.2.1 138 = .ok (.aload_n 0, 1) := dX8_gate_138
theorem ddX8_gate_139 : decode mX8_gate.2.1 139 = .ok (.getfield 29, 3) := dX8_gate_139
theorem ddX8_gate_142 : decode mX8_gate.2.1 142 = .ok (.aload_n 0, 1) := dX8_gate_142
theorem ddX8_gate_143 : decode mX8_gate.2.1 143 = .ok (.getfield 19, 3) := dX8_gate_143
theorem ddX8_gate_146 : decode mX8_gate.2.1 146 = .ok (.iload_n 1, 1) := dX8_gate_146
theorem ddX8_gate_147 : decode mX8_gate.2.1 147 = .ok (.invokevirtual 190, 3) := dX8_gate_147
theorem ddX8_gate_150 : decode mX8_gate.2.1 150 = .ok (.ireturn, 1) := dX8_gate_150
theorem ddX8_gate_151 : decode mX8_gate.2.1 151 = .ok (.aload_n 0, 1) := dX8_gate_151
theorem ddX8_gate_152 : decode mX8_gate.2.1 152 = .ok (.getfield 29, 3) := dX8_gate_152
theorem ddX8_gate_155 : decode mX8_gate.2.1 155 = .ok (.getfield 194, 3) := dX8_gate_155
theorem ddX8_gate_158 : decode mX8_gate.2.1 158 = .ok (.iload_n 1, 1) := dX8_gate_158
theorem ddX8_gate_159 : decode mX8_gate.2.1 159 = .ok (.iaload, 1) := dX8_gate_159
theorem ddX8_gate_160 : decode mX8_gate.2.1 160 = .ok (.ireturn, 1) := dX8_gate_160
theorem ddX8_gate_161 : decode mX8_gate.2.1 161 = .ok (.aload_n 0, 1) := dX8_gate_161
theorem ddX8_gate_162 : decode mX8_gate.2.1 162 = .ok (.getfield 29, 3) := dX8_gate_162
theorem ddX8_gate_165 : decode mX8_gate.2.1 165 = .ok (.aload_n 0, 1) := dX8_gate_165
theorem ddX8_gate_166 : decode mX8_gate.2.1 166 = .ok (.getfield 19, 3) := dX8_gate_166
theorem ddX8_gate_169 : decode mX8_gate.2.1 169 = .ok (.aload_n 0, 1) := dX8_gate_169
theorem ddX8_gate_170 : decode mX8_gate.2.1 170 = .ok (.getfield 19, 3) := dX8_gate_170
theorem ddX8_gate_173 : decode mX8_gate.2.1 173 = .ok (.getfield 178, 3) := dX8_gate_173
theorem ddX8_gate_176 : decode mX8_gate.2.1 176 = .ok (.iload_n 1, 1) := dX8_gate_176
theorem ddX8_gate_177 : decode mX8_gate.2.1 177 = .ok (.iaload, 1) := dX8_gate_177
theorem ddX8_gate_178 : decode mX8_gate.2.1 178 = .ok (.iload_n 1, 1) := dX8_gate_178
theorem ddX8_gate_179 : decode mX8_gate.2.1 179 = .ok (.invokevirtual 197, 3) := dX8_gate_179
theorem ddX8_gate_182 : decode mX8_gate.2.1 182 = .ok (.ireturn, 1) := dX8_gate_182
theorem ddX8_gate_183 : decode mX8_gate.2.1 183 = .ok (.ldc 67, 2) := dX8_gate_183
theorem ddX8_gate_185 : decode mX8_gate.2.1 185 = .ok (.ireturn, 1) := dX8_gate_185
theorem ddX8_queue_0 : decode mX8_queue.2.1 0 = .ok (.aload_n 0, 1) := dX8_queue_0
theorem ddX8_queue_1 : decode mX8_queue.2.1 1 = .ok (.getfield 19, 3) := dX8_queue_1
theorem ddX8_queue_4 : decode mX8_queue.2.1 4 = .ok (.iload_n 1, 1) := dX8_queue_4
theorem ddX8_queue_5 : decode mX8_queue.2.1 5 = .ok (.invokevirtual 166, 3) := dX8_queue_5
theorem ddX8_queue_8 : decode mX8_queue.2.1 8 = .ok (.ifCond .ne 6, 3) := dX8_queue_8
theorem ddX8_queue_11 : decode mX8_queue.2.1 11 = .ok (.ldc 142, 2) := dX8_queue_11
theorem ddX8_queue_13 : decode mX8_queue.2.1 13 = .ok (.ireturn, 1) := dX8_queue_13
theorem ddX8_queue_14 : decode mX8_queue.2.1 14 = .ok (.iload_n 3, 1) := dX8_queue_14
theorem ddX8_queue_15 : decode mX8_queue.2.1 15 = .ok (.lookupswitch 45 #[(0, 25), (1, 35)], 25) := dX8_queue_15
theorem ddX8_queue_40 : decode mX8_queue.2.1 40 = .ok (.aload_n 0, 1) := dX8_queue_40
theorem ddX8_queue_41 : decode mX8_queue.2.1 41 = .ok (.getfield 29, 3) := dX8_queue_41
theorem ddX8_queue_44 : decode mX8_queue.2.1 44 = .ok (.iload_n 1, 1) := dX8_queue_44
theorem ddX8_queue_45 : decode mX8_queue.2.1 45 = .ok (.iload_n 2, 1) := dX8_queue_45
theorem ddX8_queue_46 : decode mX8_queue.2.1 46 = .ok (.invokevirtual 201, 3) := dX8_queue_46
theorem ddX8_queue_49 : decode mX8_queue.2.1 49 = .ok (.ireturn, 1) := dX8_queue_49
theorem ddX8_queue_50 : decode mX8_queue.2.1 50 = .ok (.aload_n 0, 1) := dX8_queue_50
theorem ddX8_queue_51 : decode mX8_queue.2.1 51 = .ok (.getfield 29, 3) := dX8_queue_51
theorem ddX8_queue_54 : decode mX8_queue.2.1 54 = .ok (.iload_n 1, 1) := dX8_queue_54
theorem ddX8_queue_55 : decode mX8_queue.2.1 55 = .ok (.iload_n 2, 1) := dX8_queue_55
theorem ddX8_queue_56 : decode mX8_queue.2.1 56 = .ok (.invokevirtual 204, 3) := dX8_queue_56
theorem ddX8_queue_59 : decode mX8_queue.2.1 59 = .ok (.ireturn, 1) := dX8_queue_59
theorem ddX8_queue_60 : decode mX8_queue.2.1 60 = .ok (.ldc 67, 2) := dX8_queue_60
theorem ddX8_queue_62 : decode mX8_queue.2.1 62 = .ok (.ireturn, 1) := dX8_queue_62
theorem ddX8_resolved_0 : decode mX8_resolved.2.1 0 = .ok (.iload_n 1, 1) := dX8_resolved_0
theorem ddX8_resolved_1 : decode mX8_resolved.2.1 1 = .ok (.invokestatic 207, 3) := dX8_resolved_1
theorem ddX8_resolved_4 : decode mX8_resolved.2.1 4 = .ok (.ifCond .eq 10, 3) := dX8_resolved_4
theorem ddX8_resolved_7 : decode mX8_resolved.2.1 7 = .ok (.iload_n 2, 1) := dX8_resolved_7
theorem ddX8_resolved_8 : decode mX8_resolved.2.1 8 = .ok (.invokestatic 207, 3) := dX8_resolved_8
theorem ddX8_resolved_11 : decode mX8_resolved.2.1 11 = .ok (.ifCond .ne 6, 3) := dX8_resolved_11
theorem ddX8_resolved_14 : decode mX8_resolved.2.1 14 = .ok (.ldc 142, 2) := dX8_resolved_14
theorem ddX8_resolved_16 : decode mX8_resolved.2.1 16 = .ok (.ireturn, 1) := dX8_resolved_16
theorem ddX8_resolved_17 : decode mX8_resolved.2.1 17 = .ok (.iload_n 1, 1) := dX8_resolved_17
theorem ddX8_resolved_18 : decode mX8_resolved.2.1 18 = .ok (.iload_n 2, 1) := dX8_resolved_18
theorem ddX8_resolved_19 : decode mX8_resolved.2.1 19 = .ok (.invokestatic 212, 3) := dX8_resolved_19
theorem ddX8_resolved_22 : decode mX8_resolved.2.1 22 = .ok (.ireturn, 1) := dX8_resolved_22
theorem ddX8_comes_0 : decode mX8_comes.2.1 0 = .ok (.iload_n 2, 1) := dX8_comes_0
theorem ddX8_comes_1 : decode mX8_comes.2.1 1 = .ok (.invokestatic 207, 3) := dX8_comes_1
theorem ddX8_comes_4 : decode mX8_comes.2.1 4 = .ok (.ifCond .eq 10, 3) := dX8_comes_4
theorem ddX8_comes_7 : decode mX8_comes.2.1 7 = .ok (.iload_n 3, 1) := dX8_comes_7
theorem ddX8_comes_8 : decode mX8_comes.2.1 8 = .ok (.invokestatic 207, 3) := dX8_comes_8
theorem ddX8_comes_11 : decode mX8_comes.2.1 11 = .ok (.ifCond .ne 6, 3) := dX8_comes_11
theorem ddX8_comes_14 : decode mX8_comes.2.1 14 = .ok (.ldc 142, 2) := dX8_comes_14
theorem ddX8_comes_16 : decode mX8_comes.2.1 16 = .ok (.ireturn, 1) := dX8_comes_16
theorem ddX8_comes_17 : decode mX8_comes.2.1 17 = .ok (.iload_n 1, 1) := dX8_comes_17
theorem ddX8_comes_18 : decode mX8_comes.2.1 18 = .ok (.ifCond .lt 8, 3) := dX8_comes_18
theorem ddX8_comes_21 : decode mX8_comes.2.1 21 = .ok (.iload_n 1, 1) := dX8_comes_21
theorem ddX8_comes_22 : decode mX8_comes.2.1 22 = .ok (.iconst 4, 1) := dX8_comes_22
theorem ddX8_comes_23 : decode mX8_comes.2.1 23 = .ok (.if_icmp .le 6, 3) := dX8_comes_23
theorem ddX8_comes_26 : decode mX8_comes.2.1 26 = .ok (.ldc 67, 2) := dX8_comes_26
theorem ddX8_comes_28 : decode mX8_comes.2.1 28 = .ok (.ireturn, 1) := dX8_comes_28
theorem ddX8_comes_29 : decode mX8_comes.2.1 29 = .ok (.iload_n 1, 1) := dX8_comes_29
theorem ddX8_comes_30 : decode mX8_comes.2.1 30 = .ok (.iload_n 2, 1) := dX8_comes_30
theorem ddX8_comes_31 : decode mX8_comes.2.1 31 = .ok (.iload_n 3, 1) := dX8_comes_31
theorem ddX8_comes_32 : decode mX8_comes.2.1 32 = .ok (.iconst 2, 1) := dX8_comes_32
theorem ddX8_comes_33 : decode mX8_comes.2.1 33 = .ok (.invokestatic 215, 3) := dX8_comes_33
theorem ddX8_comes_36 : decode mX8_comes.2.1 36 = .ok (.ireturn, 1) := dX8_comes_36
theorem ddX8_step_0 : decode mX8_step.2.1 0 = .ok (.aload_n 0, 1) := dX8_step_0
theorem ddX8_step_1 : decode mX8_step.2.1 1 = .ok (.getfield 29, 3) := dX8_step_1
theorem ddX8_step_4 : decode mX8_step.2.1 4 = .ok (.getfield 109, 3) := dX8_step_4
theorem ddX8_step_7 : decode mX8_step.2.1 7 = .ok (.ifCond .ne 13, 3) := dX8_step_7
theorem ddX8_step_10 : decode mX8_step.2.1 10 = .ok (.aload_n 0, 1) := dX8_step_10
theorem ddX8_step_11 : decode mX8_step.2.1 11 = .ok (.getfield 29, 3) := dX8_step_11
theorem ddX8_step_14 : decode mX8_step.2.1 14 = .ok (.invokevirtual 113, 3) := dX8_step_14
theorem ddX8_step_17 : decode mX8_step.2.1 17 = .ok (.ifCond .eq 6, 3) := dX8_step_17
theorem ddX8_step_20 : decode mX8_step.2.1 20 = .ok (.ldc 219, 2) := dX8_step_20
theorem ddX8_step_22 : decode mX8_step.2.1 22 = .ok (.ireturn, 1) := dX8_step_22
theorem ddX8_step_23 : decode mX8_step.2.1 23 = .ok (.aload_n 0, 1) := dX8_step_23
theorem ddX8_step_24 : decode mX8_step.2.1 24 = .ok (.getfield 39, 3) := dX8_step_24
theorem ddX8_step_27 : decode mX8_step.2.1 27 = .ok (.aload_n 0, 1) := dX8_step_27
theorem ddX8_step_28 : decode mX8_step.2.1 28 = .ok (.getfield 29, 3) := dX8_step_28
theorem ddX8_step_31 : decode mX8_step.2.1 31 = .ok (.invokevirtual 220, 3) := dX8_step_31
theorem ddX8_step_34 : decode mX8_step.2.1 34 = .ok (.aload_n 0, 1) := dX8_step_34
theorem ddX8_step_35 : decode mX8_step.2.1 35 = .ok (.getfield 29, 3) := dX8_step_35
theorem ddX8_step_38 : decode mX8_step.2.1 38 = .ok (.aload_n 0, 1) := dX8_step_38
theorem ddX8_step_39 : decode mX8_step.2.1 39 = .ok (.getfield 19, 3) := dX8_step_39
theorem ddX8_step_42 : decode mX8_step.2.1 42 = .ok (.invokevirtual 224, 3) := dX8_step_42
theorem ddX8_step_45 : decode mX8_step.2.1 45 = .ok (.aload_n 0, 1) := dX8_step_45
theorem ddX8_step_46 : decode mX8_step.2.1 46 = .ok (.getfield 29, 3) := dX8_step_46
theorem ddX8_step_49 : decode mX8_step.2.1 49 = .ok (.getfield 103, 3) := dX8_step_49
theorem ddX8_step_52 : decode mX8_step.2.1 52 = .ok (.ireturn, 1) := dX8_step_52
theorem ddX8_run_0 : decode mX8_run.2.1 0 = .ok (.iload_n 1, 1) := dX8_run_0
theorem ddX8_run_1 : decode mX8_run.2.1 1 = .ok (.iconst 1, 1) := dX8_run_1
theorem ddX8_run_2 : decode mX8_run.2.1 2 = .ok (.if_icmp .lt 10, 3) := dX8_run_2
theorem ddX8_run_5 : decode mX8_run.2.1 5 = .ok (.iload_n 1, 1) := dX8_run_5
theorem ddX8_run_6 : decode mX8_run.2.1 6 = .ok (.sipush 200, 3) := dX8_run_6
theorem ddX8_run_9 : decode mX8_run.2.1 9 = .ok (.if_icmp .le 6, 3) := dX8_run_9
theorem ddX8_run_12 : decode mX8_run.2.1 12 = .ok (.ldc 67, 2) := dX8_run_12
theorem ddX8_run_14 : decode mX8_run.2.1 14 = .ok (.ireturn, 1) := dX8_run_14
theorem ddX8_run_15 : decode mX8_run.2.1 15 = .ok (.aload_n 0, 1) := dX8_run_15
theorem ddX8_run_16 : decode mX8_run.2.1 16 = .ok (.getfield 29, 3) := dX8_run_16
theorem ddX8_run_19 : decode mX8_run.2.1 19 = .ok (.getfield 109, 3) := dX8_run_19
theorem ddX8_run_22 : decode mX8_run.2.1 22 = .ok (.ifCond .eq 6, 3) := dX8_run_22
theorem ddX8_run_25 : decode mX8_run.2.1 25 = .ok (.ldc 219, 2) := dX8_run_25
theorem ddX8_run_27 : decode mX8_run.2.1 27 = .ok (.ireturn, 1) := dX8_run_27
theorem ddX8_run_28 : decode mX8_run.2.1 28 = .ok (.aload_n 0, 1) := dX8_run_28
theorem ddX8_run_29 : decode mX8_run.2.1 29 = .ok (.getfield 39, 3) := dX8_run_29
theorem ddX8_run_32 : decode mX8_run.2.1 32 = .ok (.aload_n 0, 1) := dX8_run_32
theorem ddX8_run_33 : decode mX8_run.2.1 33 = .ok (.getfield 29, 3) := dX8_run_33
theorem ddX8_run_36 : decode mX8_run.2.1 36 = .ok (.invokevirtual 220, 3) := dX8_run_36
theorem ddX8_run_39 : decode mX8_run.2.1 39 = .ok (.aload_n 0, 1) := dX8_run_39
theorem ddX8_run_40 : decode mX8_run.2.1 40 = .ok (.getfield 29, 3) := dX8_run_40
theorem ddX8_run_43 : decode mX8_run.2.1 43 = .ok (.aload_n 0, 1) := dX8_run_43
theorem ddX8_run_44 : decode mX8_run.2.1 44 = .ok (.getfield 19, 3) := dX8_run_44
theorem ddX8_run_47 : decode mX8_run.2.1 47 = .ok (.aload_n 0, 1) := dX8_run_47
theorem ddX8_run_48 : decode mX8_run.2.1 48 = .ok (.getfield 29, 3) := dX8_run_48
theorem ddX8_run_51 : decode mX8_run.2.1 51 = .ok (.getfield 103, 3) := dX8_run_51
theorem ddX8_run_54 : decode mX8_run.2.1 54 = .ok (.iload_n 1, 1) := dX8_run_54
theorem ddX8_run_55 : decode mX8_run.2.1 55 = .ok (.iadd, 1) := dX8_run_55
theorem ddX8_run_56 : decode mX8_run.2.1 56 = .ok (.invokevirtual 227, 3) := dX8_run_56
theorem ddX8_run_59 : decode mX8_run.2.1 59 = .ok (.ireturn, 1) := dX8_run_59
theorem ddX8_set_0 : decode mX8_set.2.1 0 = .ok (.aload_n 0, 1) := dX8_set_0
theorem ddX8_set_1 : decode mX8_set.2.1 1 = .ok (.getfield 19, 3) := dX8_set_1
theorem ddX8_set_4 : decode mX8_set.2.1 4 = .ok (.iload_n 1, 1) := dX8_set_4
theorem ddX8_set_5 : decode mX8_set.2.1 5 = .ok (.invokevirtual 138, 3) := dX8_set_5
theorem ddX8_set_8 : decode mX8_set.2.1 8 = .ok (.ifCond .eq 10, 3) := dX8_set_8
theorem ddX8_set_11 : decode mX8_set.2.1 11 = .ok (.iload_n 2, 1) := dX8_set_11
theorem ddX8_set_12 : decode mX8_set.2.1 12 = .ok (.invokestatic 207, 3) := dX8_set_12
theorem ddX8_set_15 : decode mX8_set.2.1 15 = .ok (.ifCond .ne 6, 3) := dX8_set_15
theorem ddX8_set_18 : decode mX8_set.2.1 18 = .ok (.ldc 142, 2) := dX8_set_18
theorem ddX8_set_20 : decode mX8_set.2.1 20 = .ok (.ireturn, 1) := dX8_set_20
theorem ddX8_set_21 : decode mX8_set.2.1 21 = .ok (.iload_n 3, 1) := dX8_set_21
theorem ddX8_set_22 : decode mX8_set.2.1 22 = .ok (.ifCond .lt 9, 3) := dX8_set_22
theorem ddX8_set_25 : decode mX8_set.2.1 25 = .ok (.iload_n 3, 1) := dX8_set_25
theorem ddX8_set_26 : decode mX8_set.2.1 26 = .ok (.bipush 20, 2) := dX8_set_26
theorem ddX8_set_28 : decode mX8_set.2.1 28 = .ok (.if_icmp .le 6, 3) := dX8_set_28
theorem ddX8_set_31 : decode mX8_set.2.1 31 = .ok (.ldc 67, 2) := dX8_set_31
theorem ddX8_set_33 : decode mX8_set.2.1 33 = .ok (.ireturn, 1) := dX8_set_33
theorem ddX8_set_34 : decode mX8_set.2.1 34 = .ok (.aload_n 0, 1) := dX8_set_34
theorem ddX8_set_35 : decode mX8_set.2.1 35 = .ok (.iload_n 1, 1) := dX8_set_35
theorem ddX8_set_36 : decode mX8_set.2.1 36 = .ok (.invokevirtual 230, 3) := dX8_set_36
theorem ddX8_set_39 : decode mX8_set.2.1 39 = .ok (.ifCond .ne 6, 3) := dX8_set_39
theorem ddX8_set_42 : decode mX8_set.2.1 42 = .ok (.ldc 219, 2) := dX8_set_42
theorem ddX8_set_44 : decode mX8_set.2.1 44 = .ok (.ireturn, 1) := dX8_set_44
theorem ddX8_set_45 : decode mX8_set.2.1 45 = .ok (.aload_n 0, 1) := dX8_set_45
theorem ddX8_set_46 : decode mX8_set.2.1 46 = .ok (.getfield 29, 3) := dX8_set_46
theorem ddX8_set_49 : decode mX8_set.2.1 49 = .ok (.invokevirtual 233, 3) := dX8_set_49
theorem ddX8_set_52 : decode mX8_set.2.1 52 = .ok (.ifCond .eq 6, 3) := dX8_set_52
theorem ddX8_set_55 : decode mX8_set.2.1 55 = .ok (.ldc 236, 2) := dX8_set_55
theorem ddX8_set_57 : decode mX8_set.2.1 57 = .ok (.ireturn, 1) := dX8_set_57
theorem ddX8_set_58 : decode mX8_set.2.1 58 = .ok (.aload_n 0, 1) := dX8_set_58
theorem ddX8_set_59 : decode mX8_set.2.1 59 = .ok (.getfield 39, 3) := dX8_set_59
theorem ddX8_set_62 : decode mX8_set.2.1 62 = .ok (.aload_n 0, 1) := dX8_set_62
theorem ddX8_set_63 : decode mX8_set.2.1 63 = .ok (.getfield 29, 3) := dX8_set_63
theorem ddX8_set_66 : decode mX8_set.2.1 66 = .ok (.invokevirtual 220, 3) := dX8_set_66
theorem ddX8_set_69 : decode mX8_set.2.1 69 = .ok (.aload_n 0, 1) := dX8_set_69
theorem ddX8_set_70 : decode mX8_set.2.1 70 = .ok (.getfield 29, 3) := dX8_set_70
theorem ddX8_set_73 : decode mX8_set.2.1 73 = .ok (.iload_n 1, 1) := dX8_set_73
theorem ddX8_set_74 : decode mX8_set.2.1 74 = .ok (.iload_n 2, 1) := dX8_set_74
theorem ddX8_set_75 : decode mX8_set.2.1 75 = .ok (.aload_n 0, 1) := dX8_set_75
theorem ddX8_set_76 : decode mX8_set.2.1 76 = .ok (.getfield 29, 3) := dX8_set_76
theorem ddX8_set_79 : decode mX8_set.2.1 79 = .ok (.getfield 103, 3) := dX8_set_79
theorem ddX8_set_82 : decode mX8_set.2.1 82 = .ok (.iload_n 3, 1) := dX8_set_82
theorem ddX8_set_83 : decode mX8_set.2.1 83 = .ok (.iadd, 1) := dX8_set_83
theorem ddX8_set_84 : decode mX8_set.2.1 84 = .ok (.invokevirtual 237, 3) := dX8_set_84
theorem ddX8_set_87 : decode mX8_set.2.1 87 = .ok (.aload_n 0, 1) := dX8_set_87
theorem ddX8_set_88 : decode mX8_set.2.1 88 = .ok (.getfield 29, 3) := dX8_set_88
theorem ddX8_set_91 : decode mX8_set.2.1 91 = .ok (.getfield 127, 3) := dX8_set_91
theorem ddX8_set_94 : decode mX8_set.2.1 94 = .ok (.ireturn, 1) := dX8_set_94
theorem ddX8_calm_0 : decode mX8_calm.2.1 0 = .ok (.aload_n 0, 1) := dX8_calm_0
theorem ddX8_calm_1 : decode mX8_calm.2.1 1 = .ok (.getfield 29, 3) := dX8_calm_1
theorem ddX8_calm_4 : decode mX8_calm.2.1 4 = .ok (.getfield 109, 3) := dX8_calm_4
theorem ddX8_calm_7 : decode mX8_calm.2.1 7 = .ok (.ifCond .ne 6, 3) := dX8_calm_7
theorem ddX8_calm_10 : decode mX8_calm.2.1 10 = .ok (.ldc 219, 2) := dX8_calm_10
theorem ddX8_calm_12 : decode mX8_calm.2.1 12 = .ok (.ireturn, 1) := dX8_calm_12
theorem ddX8_calm_13 : decode mX8_calm.2.1 13 = .ok (.aload_n 0, 1) := dX8_calm_13
theorem ddX8_calm_14 : decode mX8_calm.2.1 14 = .ok (.getfield 39, 3) := dX8_calm_14
theorem ddX8_calm_17 : decode mX8_calm.2.1 17 = .ok (.aload_n 0, 1) := dX8_calm_17
theorem ddX8_calm_18 : decode mX8_calm.2.1 18 = .ok (.getfield 29, 3) := dX8_calm_18
theorem ddX8_calm_21 : decode mX8_calm.2.1 21 = .ok (.invokevirtual 220, 3) := dX8_calm_21
theorem ddX8_calm_24 : decode mX8_calm.2.1 24 = .ok (.aload_n 0, 1) := dX8_calm_24
theorem ddX8_calm_25 : decode mX8_calm.2.1 25 = .ok (.getfield 29, 3) := dX8_calm_25
theorem ddX8_calm_28 : decode mX8_calm.2.1 28 = .ok (.iconst 0, 1) := dX8_calm_28
theorem ddX8_calm_29 : decode mX8_calm.2.1 29 = .ok (.putfield 109, 3) := dX8_calm_29
theorem ddX8_calm_32 : decode mX8_calm.2.1 32 = .ok (.aload_n 0, 1) := dX8_calm_32
theorem ddX8_calm_33 : decode mX8_calm.2.1 33 = .ok (.getfield 29, 3) := dX8_calm_33
theorem ddX8_calm_36 : decode mX8_calm.2.1 36 = .ok (.aload_n 0, 1) := dX8_calm_36
theorem ddX8_calm_37 : decode mX8_calm.2.1 37 = .ok (.getfield 19, 3) := dX8_calm_37
theorem ddX8_calm_40 : decode mX8_calm.2.1 40 = .ok (.invokevirtual 241, 3) := dX8_calm_40
theorem ddX8_calm_43 : decode mX8_calm.2.1 43 = .ok (.aload_n 0, 1) := dX8_calm_43
theorem ddX8_calm_44 : decode mX8_calm.2.1 44 = .ok (.getfield 29, 3) := dX8_calm_44
theorem ddX8_calm_47 : decode mX8_calm.2.1 47 = .ok (.getfield 103, 3) := dX8_calm_47
theorem ddX8_calm_50 : decode mX8_calm.2.1 50 = .ok (.ireturn, 1) := dX8_calm_50
theorem ddX8_drift_0 : decode mX8_drift.2.1 0 = .ok (.iload_n 1, 1) := dX8_drift_0
theorem ddX8_drift_1 : decode mX8_drift.2.1 1 = .ok (.iconst 1, 1) := dX8_drift_1
theorem ddX8_drift_2 : decode mX8_drift.2.1 2 = .ok (.if_icmp .lt 9, 3) := dX8_drift_2
theorem ddX8_drift_5 : decode mX8_drift.2.1 5 = .ok (.iload_n 1, 1) := dX8_drift_5
theorem ddX8_drift_6 : decode mX8_drift.2.1 6 = .ok (.bipush 16, 2) := dX8_drift_6
theorem ddX8_drift_8 : decode mX8_drift.2.1 8 = .ok (.if_icmp .le 6, 3) := dX8_drift_8
theorem ddX8_drift_11 : decode mX8_drift.2.1 11 = .ok (.ldc 67, 2) := dX8_drift_11
theorem ddX8_drift_13 : decode mX8_drift.2.1 13 = .ok (.ireturn, 1) := dX8_drift_13
theorem ddX8_drift_14 : decode mX8_drift.2.1 14 = .ok (.aload_n 0, 1) := dX8_drift_14
theorem ddX8_drift_15 : decode mX8_drift.2.1 15 = .ok (.getfield 19, 3) := dX8_drift_15
theorem ddX8_drift_18 : decode mX8_drift.2.1 18 = .ok (.getfield 90, 3) := dX8_drift_18
theorem ddX8_drift_21 : decode mX8_drift.2.1 21 = .ok (.ifCond .le 20, 3) := dX8_drift_21
theorem ddX8_drift_24 : decode mX8_drift.2.1 24 = .ok (.iconst 0, 1) := dX8_drift_24
theorem ddX8_drift_25 : decode mX8_drift.2.1 25 = .ok (.istore_n 2, 1) := dX8_drift_25
theorem ddX8_drift_26 : decode mX8_drift.2.1 26 = .ok (.iload_n 2, 1) := dX8_drift_26
theorem ddX8_drift_27 : decode mX8_drift.2.1 27 = .ok (.iload_n 1, 1) := dX8_drift_27
theorem ddX8_drift_28 : decode mX8_drift.2.1 28 = .ok (.if_icmp .ge 13, 3) := dX8_drift_28
theorem ddX8_drift_31 : decode mX8_drift.2.1 31 = .ok (.aload_n 0, 1) := dX8_drift_31
theorem ddX8_drift_32 : decode mX8_drift.2.1 32 = .ok (.invokevirtual 244, 3) := dX8_drift_32
theorem ddX8_drift_35 : decode mX8_drift.2.1 35 = .ok (.iinc 2 1, 3) := dX8_drift_35
theorem ddX8_drift_38 : decode mX8_drift.2.1 38 = .ok (.goto (-12), 3) := dX8_drift_38
theorem ddX8_drift_41 : decode mX8_drift.2.1 41 = .ok (.aload_n 0, 1) := dX8_drift_41
theorem ddX8_drift_42 : decode mX8_drift.2.1 42 = .ok (.getfield 29, 3) := dX8_drift_42
theorem ddX8_drift_45 : decode mX8_drift.2.1 45 = .ok (.getfield 103, 3) := dX8_drift_45
theorem ddX8_drift_48 : decode mX8_drift.2.1 48 = .ok (.ireturn, 1) := dX8_drift_48
theorem ddX8_undo_0 : decode mX8_undo.2.1 0 = .ok (.iload_n 1, 1) := dX8_undo_0
theorem ddX8_undo_1 : decode mX8_undo.2.1 1 = .ok (.iconst 1, 1) := dX8_undo_1
theorem ddX8_undo_2 : decode mX8_undo.2.1 2 = .ok (.if_icmp .lt 9, 3) := dX8_undo_2
theorem ddX8_undo_5 : decode mX8_undo.2.1 5 = .ok (.iload_n 1, 1) := dX8_undo_5
theorem ddX8_undo_6 : decode mX8_undo.2.1 6 = .ok (.bipush 16, 2) := dX8_undo_6
theorem ddX8_undo_8 : decode mX8_undo.2.1 8 = .ok (.if_icmp .le 6, 3) := dX8_undo_8
theorem ddX8_undo_11 : decode mX8_undo.2.1 11 = .ok (.ldc 67, 2) := dX8_undo_11
theorem ddX8_undo_13 : decode mX8_undo.2.1 13 = .ok (.ireturn, 1) := dX8_undo_13
theorem ddX8_undo_14 : decode mX8_undo.2.1 14 = .ok (.iload_n 1, 1) := dX8_undo_14
theorem ddX8_undo_15 : decode mX8_undo.2.1 15 = .ok (.aload_n 0, 1) := dX8_undo_15
theorem ddX8_undo_16 : decode mX8_undo.2.1 16 = .ok (.getfield 39, 3) := dX8_undo_16
theorem ddX8_undo_19 : decode mX8_undo.2.1 19 = .ok (.getfield 137, 3) := dX8_undo_19
theorem ddX8_undo_22 : decode mX8_undo.2.1 22 = .ok (.if_icmp .le 6, 3) := dX8_undo_22
theorem ddX8_undo_25 : decode mX8_undo.2.1 25 = .ok (.ldc 219, 2) := dX8_undo_25
theorem ddX8_undo_27 : decode mX8_undo.2.1 27 = .ok (.ireturn, 1) := dX8_undo_27
theorem ddX8_undo_28 : decode mX8_undo.2.1 28 = .ok (.aload_n 0, 1) := dX8_undo_28
theorem ddX8_undo_29 : decode mX8_undo.2.1 29 = .ok (.getfield 39, 3) := dX8_undo_29
theorem ddX8_undo_32 : decode mX8_undo.2.1 32 = .ok (.iload_n 1, 1) := dX8_undo_32
theorem ddX8_undo_33 : decode mX8_undo.2.1 33 = .ok (.aload_n 0, 1) := dX8_undo_33
theorem ddX8_undo_34 : decode mX8_undo.2.1 34 = .ok (.getfield 29, 3) := dX8_undo_34
theorem ddX8_undo_37 : decode mX8_undo.2.1 37 = .ok (.invokevirtual 247, 3) := dX8_undo_37
theorem ddX8_undo_40 : decode mX8_undo.2.1 40 = .ok (.aload_n 0, 1) := dX8_undo_40
theorem ddX8_undo_41 : decode mX8_undo.2.1 41 = .ok (.getfield 29, 3) := dX8_undo_41
theorem ddX8_undo_44 : decode mX8_undo.2.1 44 = .ok (.getfield 103, 3) := dX8_undo_44
theorem ddX8_undo_47 : decode mX8_undo.2.1 47 = .ok (.ireturn, 1) := dX8_undo_47
theorem ddX8_write_0 : decode mX8_write.2.1 0 = .ok (.aload_n 0, 1) := dX8_write_0
theorem ddX8_write_1 : decode mX8_write.2.1 1 = .ok (.getfield 19, 3) := dX8_write_1
theorem ddX8_write_4 : decode mX8_write.2.1 4 = .ok (.iload_n 1, 1) := dX8_write_4
theorem ddX8_write_5 : decode mX8_write.2.1 5 = .ok (.invokevirtual 138, 3) := dX8_write_5
theorem ddX8_write_8 : decode mX8_write.2.1 8 = .ok (.ifCond .eq 10, 3) := dX8_write_8
theorem ddX8_write_11 : decode mX8_write.2.1 11 = .ok (.iload_n 2, 1) := dX8_write_11
theorem ddX8_write_12 : decode mX8_write.2.1 12 = .ok (.invokestatic 207, 3) := dX8_write_12
theorem ddX8_write_15 : decode mX8_write.2.1 15 = .ok (.ifCond .ne 6, 3) := dX8_write_15
theorem ddX8_write_18 : decode mX8_write.2.1 18 = .ok (.ldc 142, 2) := dX8_write_18
theorem ddX8_write_20 : decode mX8_write.2.1 20 = .ok (.ireturn, 1) := dX8_write_20
theorem ddX8_write_21 : decode mX8_write.2.1 21 = .ok (.aload_n 0, 1) := dX8_write_21
theorem ddX8_write_22 : decode mX8_write.2.1 22 = .ok (.getfield 56, 3) := dX8_write_22
theorem ddX8_write_25 : decode mX8_write.2.1 25 = .ok (.iload_n 1, 1) := dX8_write_25
theorem ddX8_write_26 : decode mX8_write.2.1 26 = .ok (.iload_n 2, 1) := dX8_write_26
theorem ddX8_write_27 : decode mX8_write.2.1 27 = .ok (.invokevirtual 251, 3) := dX8_write_27
theorem ddX8_write_30 : decode mX8_write.2.1 30 = .ok (.ireturn, 1) := dX8_write_30
theorem ddX8_tear_0 : decode mX8_tear.2.1 0 = .ok (.aload_n 0, 1) := dX8_tear_0
theorem ddX8_tear_1 : decode mX8_tear.2.1 1 = .ok (.getfield 56, 3) := dX8_tear_1
theorem ddX8_tear_4 : decode mX8_tear.2.1 4 = .ok (.getfield 130, 3) := dX8_tear_4
theorem ddX8_tear_7 : decode mX8_tear.2.1 7 = .ok (.istore_n 1, 1) := dX8_tear_7
theorem ddX8_tear_8 : decode mX8_tear.2.1 8 = .ok (.aload_n 0, 1) := dX8_tear_8
theorem ddX8_tear_9 : decode mX8_tear.2.1 9 = .ok (.getfield 56, 3) := dX8_tear_9
theorem ddX8_tear_12 : decode mX8_tear.2.1 12 = .ok (.invokevirtual 87, 3) := dX8_tear_12
theorem ddX8_tear_15 : decode mX8_tear.2.1 15 = .ok (.iload_n 1, 1) := dX8_tear_15
theorem ddX8_tear_16 : decode mX8_tear.2.1 16 = .ok (.ireturn, 1) := dX8_tear_16
theorem ddX8_seed_0 : decode mX8_seed.2.1 0 = .ok (.iload_n 1, 1) := dX8_seed_0
theorem ddX8_seed_1 : decode mX8_seed.2.1 1 = .ok (.ifCond .ge 6, 3) := dX8_seed_1
theorem ddX8_seed_4 : decode mX8_seed.2.1 4 = .ok (.ldc 67, 2) := dX8_seed_4
theorem ddX8_seed_6 : decode mX8_seed.2.1 6 = .ok (.ireturn, 1) := dX8_seed_6
theorem ddX8_seed_7 : decode mX8_seed.2.1 7 = .ok (.aload_n 0, 1) := dX8_seed_7
theorem ddX8_seed_8 : decode mX8_seed.2.1 8 = .ok (.getfield 63, 3) := dX8_seed_8
theorem ddX8_seed_11 : decode mX8_seed.2.1 11 = .ok (.getfield 254, 3) := dX8_seed_11
theorem ddX8_seed_14 : decode mX8_seed.2.1 14 = .ok (.istore_n 2, 1) := dX8_seed_14
theorem ddX8_seed_15 : decode mX8_seed.2.1 15 = .ok (.aload_n 0, 1) := dX8_seed_15
theorem ddX8_seed_16 : decode mX8_seed.2.1 16 = .ok (.getfield 63, 3) := dX8_seed_16
theorem ddX8_seed_19 : decode mX8_seed.2.1 19 = .ok (.iload_n 1, 1) := dX8_seed_19
theorem ddX8_seed_20 : decode mX8_seed.2.1 20 = .ok (.putfield 254, 3) := dX8_seed_20
theorem ddX8_seed_23 : decode mX8_seed.2.1 23 = .ok (.iload_n 2, 1) := dX8_seed_23
theorem ddX8_seed_24 : decode mX8_seed.2.1 24 = .ok (.ireturn, 1) := dX8_seed_24
theorem ddX8_keep_0 : decode mX8_keep.2.1 0 = .ok (.aload_n 0, 1) := dX8_keep_0
theorem ddX8_keep_1 : decode mX8_keep.2.1 1 = .ok (.iload_n 1, 1) := dX8_keep_1
theorem ddX8_keep_2 : decode mX8_keep.2.1 2 = .ok (.invokevirtual 257, 3) := dX8_keep_2
theorem ddX8_keep_5 : decode mX8_keep.2.1 5 = .ok (.astore_n 2, 1) := dX8_keep_5
theorem ddX8_keep_6 : decode mX8_keep.2.1 6 = .ok (.aload_n 2, 1) := dX8_keep_6
theorem ddX8_keep_7 : decode mX8_keep.2.1 7 = .ok (.ifnonnull 6, 3) := dX8_keep_7
theorem ddX8_keep_10 : decode mX8_keep.2.1 10 = .ok (.ldc 142, 2) := dX8_keep_10
theorem ddX8_keep_12 : decode mX8_keep.2.1 12 = .ok (.ireturn, 1) := dX8_keep_12
theorem ddX8_keep_13 : decode mX8_keep.2.1 13 = .ok (.aload_n 2, 1) := dX8_keep_13
theorem ddX8_keep_14 : decode mX8_keep.2.1 14 = .ok (.aload_n 0, 1) := dX8_keep_14
theorem ddX8_keep_15 : decode mX8_keep.2.1 15 = .ok (.getfield 29, 3) := dX8_keep_15
theorem ddX8_keep_18 : decode mX8_keep.2.1 18 = .ok (.aload_n 0, 1) := dX8_keep_18
theorem ddX8_keep_19 : decode mX8_keep.2.1 19 = .ok (.getfield 63, 3) := dX8_keep_19
theorem ddX8_keep_22 : decode mX8_keep.2.1 22 = .ok (.invokevirtual 261, 3) := dX8_keep_22
theorem ddX8_keep_25 : decode mX8_keep.2.1 25 = .ok (.aload_n 0, 1) := dX8_keep_25
theorem ddX8_keep_26 : decode mX8_keep.2.1 26 = .ok (.getfield 39, 3) := dX8_keep_26
theorem ddX8_keep_29 : decode mX8_keep.2.1 29 = .ok (.invokevirtual 83, 3) := dX8_keep_29
theorem ddX8_keep_32 : decode mX8_keep.2.1 32 = .ok (.iconst 1, 1) := dX8_keep_32
theorem ddX8_keep_33 : decode mX8_keep.2.1 33 = .ok (.ireturn, 1) := dX8_keep_33
theorem ddX8_goBack_0 : decode mX8_goBack.2.1 0 = .ok (.aload_n 0, 1) := dX8_goBack_0
theorem ddX8_goBack_1 : decode mX8_goBack.2.1 1 = .ok (.iload_n 1, 1) := dX8_goBack_1
theorem ddX8_goBack_2 : decode mX8_goBack.2.1 2 = .ok (.invokevirtual 257, 3) := dX8_goBack_2
theorem ddX8_goBack_5 : decode mX8_goBack.2.1 5 = .ok (.astore_n 2, 1) := dX8_goBack_5
theorem ddX8_goBack_6 : decode mX8_goBack.2.1 6 = .ok (.aload_n 2, 1) := dX8_goBack_6
theorem ddX8_goBack_7 : decode mX8_goBack.2.1 7 = .ok (.ifnonnull 6, 3) := dX8_goBack_7
theorem ddX8_goBack_10 : decode mX8_goBack.2.1 10 = .ok (.ldc 142, 2) := dX8_goBack_10
theorem ddX8_goBack_12 : decode mX8_goBack.2.1 12 = .ok (.ireturn, 1) := dX8_goBack_12
theorem ddX8_goBack_13 : decode mX8_goBack.2.1 13 = .ok (.aload_n 2, 1) := dX8_goBack_13
theorem ddX8_goBack_14 : decode mX8_goBack.2.1 14 = .ok (.getfield 265, 3) := dX8_goBack_14
theorem ddX8_goBack_17 : decode mX8_goBack.2.1 17 = .ok (.ifCond .ne 6, 3) := dX8_goBack_17
theorem ddX8_goBack_20 : decode mX8_goBack.2.1 20 = .ok (.ldc 219, 2) := dX8_goBack_20
theorem ddX8_goBack_22 : decode mX8_goBack.2.1 22 = .ok (.ireturn, 1) := dX8_goBack_22
theorem ddX8_goBack_23 : decode mX8_goBack.2.1 23 = .ok (.aload_n 2, 1) := dX8_goBack_23
theorem ddX8_goBack_24 : decode mX8_goBack.2.1 24 = .ok (.aload_n 0, 1) := dX8_goBack_24
theorem ddX8_goBack_25 : decode mX8_goBack.2.1 25 = .ok (.getfield 29, 3) := dX8_goBack_25
theorem ddX8_goBack_28 : decode mX8_goBack.2.1 28 = .ok (.aload_n 0, 1) := dX8_goBack_28
theorem ddX8_goBack_29 : decode mX8_goBack.2.1 29 = .ok (.getfield 63, 3) := dX8_goBack_29
theorem ddX8_goBack_32 : decode mX8_goBack.2.1 32 = .ok (.invokevirtual 268, 3) := dX8_goBack_32
theorem ddX8_goBack_35 : decode mX8_goBack.2.1 35 = .ok (.aload_n 0, 1) := dX8_goBack_35
theorem ddX8_goBack_36 : decode mX8_goBack.2.1 36 = .ok (.getfield 39, 3) := dX8_goBack_36
theorem ddX8_goBack_39 : decode mX8_goBack.2.1 39 = .ok (.invokevirtual 83, 3) := dX8_goBack_39
theorem ddX8_goBack_42 : decode mX8_goBack.2.1 42 = .ok (.iconst 1, 1) := dX8_goBack_42
theorem ddX8_goBack_43 : decode mX8_goBack.2.1 43 = .ok (.ireturn, 1) := dX8_goBack_43
theorem ddX8_imageOf_0 : decode mX8_imageOf.2.1 0 = .ok (.iload_n 1, 1) := dX8_imageOf_0
theorem ddX8_imageOf_1 : decode mX8_imageOf.2.1 1 = .ok (.ifCond .ne 8, 3) := dX8_imageOf_1
theorem ddX8_imageOf_4 : decode mX8_imageOf.2.1 4 = .ok (.aload_n 0, 1) := dX8_imageOf_4
theorem ddX8_imageOf_5 : decode mX8_imageOf.2.1 5 = .ok (.getfield 46, 3) := dX8_imageOf_5
theorem ddX8_imageOf_8 : decode mX8_imageOf.2.1 8 = .ok (.areturn, 1) := dX8_imageOf_8
theorem ddX8_imageOf_9 : decode mX8_imageOf.2.1 9 = .ok (.iload_n 1, 1) := dX8_imageOf_9
theorem ddX8_imageOf_10 : decode mX8_imageOf.2.1 10 = .ok (.iconst 1, 1) := dX8_imageOf_10
theorem ddX8_imageOf_11 : decode mX8_imageOf.2.1 11 = .ok (.if_icmp .ne 10, 3) := dX8_imageOf_11
theorem ddX8_imageOf_14 : decode mX8_imageOf.2.1 14 = .ok (.aload_n 0, 1) := dX8_imageOf_14
theorem ddX8_imageOf_15 : decode mX8_imageOf.2.1 15 = .ok (.getfield 50, 3) := dX8_imageOf_15
theorem ddX8_imageOf_18 : decode mX8_imageOf.2.1 18 = .ok (.goto 4, 3) := dX8_imageOf_18
theorem ddX8_imageOf_21 : decode mX8_imageOf.2.1 21 = .ok (.aconst_null, 1) := dX8_imageOf_21
theorem ddX8_imageOf_22 : decode mX8_imageOf.2.1 22 = .ok (.areturn, 1) := dX8_imageOf_22
theorem ddX8_maySetByHand_0 : decode mX8_maySetByHand.2.1 0 = .ok (.aload_n 0, 1) := dX8_maySetByHand_0
theorem ddX8_maySetByHand_1 : decode mX8_maySetByHand.2.1 1 = .ok (.getfield 29, 3) := dX8_maySetByHand_1
theorem ddX8_maySetByHand_4 : decode mX8_maySetByHand.2.1 4 = .ok (.getfield 109, 3) := dX8_maySetByHand_4
theorem ddX8_maySetByHand_7 : decode mX8_maySetByHand.2.1 7 = .ok (.ifCond .ne 18, 3) := dX8_maySetByHand_7
theorem ddX8_maySetByHand_10 : decode mX8_maySetByHand.2.1 10 = .ok (.aload_n 0, 1) := dX8_maySetByHand_10
theorem ddX8_maySetByHand_11 : decode mX8_maySetByHand.2.1 11 = .ok (.getfield 19, 3) := dX8_maySetByHand_11
theorem ddX8_maySetByHand_14 : decode mX8_maySetByHand.2.1 14 = .ok (.iload_n 1, 1) := dX8_maySetByHand_14
theorem ddX8_maySetByHand_15 : decode mX8_maySetByHand.2.1 15 = .ok (.invokevirtual 147, 3) := dX8_maySetByHand_15
theorem ddX8_maySetByHand_18 : decode mX8_maySetByHand.2.1 18 = .ok (.ifCond .ne 7, 3) := dX8_maySetByHand_18
theorem ddX8_maySetByHand_21 : decode mX8_maySetByHand.2.1 21 = .ok (.iconst 1, 1) := dX8_maySetByHand_21
theorem ddX8_maySetByHand_22 : decode mX8_maySetByHand.2.1 22 = .ok (.goto 4, 3) := dX8_maySetByHand_22
theorem ddX8_maySetByHand_25 : decode mX8_maySetByHand.2.1 25 = .ok (.iconst 0, 1) := dX8_maySetByHand_25
theorem ddX8_maySetByHand_26 : decode mX8_maySetByHand.2.1 26 = .ok (.ireturn, 1) := dX8_maySetByHand_26
theorem ddX8_driftOnce_0 : decode mX8_driftOnce.2.1 0 = .ok (.aload_n 0, 1) := dX8_driftOnce_0
theorem ddX8_driftOnce_1 : decode mX8_driftOnce.2.1 1 = .ok (.getfield 39, 3) := dX8_driftOnce_1
theorem ddX8_driftOnce_4 : decode mX8_driftOnce.2.1 4 = .ok (.aload_n 0, 1) := dX8_driftOnce_4
theorem ddX8_driftOnce_5 : decode mX8_driftOnce.2.1 5 = .ok (.getfield 29, 3) := dX8_driftOnce_5
theorem ddX8_driftOnce_8 : decode mX8_driftOnce.2.1 8 = .ok (.invokevirtual 220, 3) := dX8_driftOnce_8
theorem ddX8_driftOnce_11 : decode mX8_driftOnce.2.1 11 = .ok (.aload_n 0, 1) := dX8_driftOnce_11
theorem ddX8_driftOnce_12 : decode mX8_driftOnce.2.1 12 = .ok (.getfield 63, 3) := dX8_driftOnce_12
theorem ddX8_driftOnce_15 : decode mX8_driftOnce.2.1 15 = .ok (.aload_n 0, 1) := dX8_driftOnce_15
theorem ddX8_driftOnce_16 : decode mX8_driftOnce.2.1 16 = .ok (.getfield 19, 3) := dX8_driftOnce_16
theorem ddX8_driftOnce_19 : decode mX8_driftOnce.2.1 19 = .ok (.getfield 90, 3) := dX8_driftOnce_19
theorem ddX8_driftOnce_22 : decode mX8_driftOnce.2.1 22 = .ok (.invokevirtual 271, 3) := dX8_driftOnce_22
theorem ddX8_driftOnce_25 : decode mX8_driftOnce.2.1 25 = .ok (.istore_n 1, 1) := dX8_driftOnce_25
theorem ddX8_driftOnce_26 : decode mX8_driftOnce.2.1 26 = .ok (.aload_n 0, 1) := dX8_driftOnce_26
theorem ddX8_driftOnce_27 : decode mX8_driftOnce.2.1 27 = .ok (.getfield 63, 3) := dX8_driftOnce_27
theorem ddX8_driftOnce_30 : decode mX8_driftOnce.2.1 30 = .ok (.iconst 4, 1) := dX8_driftOnce_30
theorem ddX8_driftOnce_31 : decode mX8_driftOnce.2.1 31 = .ok (.invokevirtual 271, 3) := dX8_driftOnce_31
theorem ddX8_driftOnce_34 : decode mX8_driftOnce.2.1 34 = .ok (.istore_n 2, 1) := dX8_driftOnce_34
theorem ddX8_driftOnce_35 : decode mX8_driftOnce.2.1 35 = .ok (.aload_n 0, 1) := dX8_driftOnce_35
theorem ddX8_driftOnce_36 : decode mX8_driftOnce.2.1 36 = .ok (.getfield 63, 3) := dX8_driftOnce_36
theorem ddX8_driftOnce_39 : decode mX8_driftOnce.2.1 39 = .ok (.bipush 21, 2) := dX8_driftOnce_39
theorem ddX8_driftOnce_41 : decode mX8_driftOnce.2.1 41 = .ok (.invokevirtual 271, 3) := dX8_driftOnce_41
theorem ddX8_driftOnce_44 : decode mX8_driftOnce.2.1 44 = .ok (.istore_n 3, 1) := dX8_driftOnce_44
theorem ddX8_driftOnce_45 : decode mX8_driftOnce.2.1 45 = .ok (.aload_n 0, 1) := dX8_driftOnce_45
theorem ddX8_driftOnce_46 : decode mX8_driftOnce.2.1 46 = .ok (.iload_n 1, 1) := dX8_driftOnce_46
theorem ddX8_driftOnce_47 : decode mX8_driftOnce.2.1 47 = .ok (.invokevirtual 230, 3) := dX8_driftOnce_47
theorem ddX8_driftOnce_50 : decode mX8_driftOnce.2.1 50 = .ok (.ifCond .eq 31, 3) := dX8_driftOnce_50
theorem ddX8_driftOnce_53 : decode mX8_driftOnce.2.1 53 = .ok (.aload_n 0, 1) := dX8_driftOnce_53
theorem ddX8_driftOnce_54 : decode mX8_driftOnce.2.1 54 = .ok (.getfield 29, 3) := dX8_driftOnce_54
theorem ddX8_driftOnce_57 : decode mX8_driftOnce.2.1 57 = .ok (.invokevirtual 233, 3) := dX8_driftOnce_57
theorem ddX8_driftOnce_60 : decode mX8_driftOnce.2.1 60 = .ok (.ifCond .ne 21, 3) := dX8_driftOnce_60
theorem ddX8_driftOnce_63 : decode mX8_driftOnce.2.1 63 = .ok (.aload_n 0, 1) := dX8_driftOnce_63
theorem ddX8_driftOnce_64 : decode mX8_driftOnce.2.1 64 = .ok (.getfield 29, 3) := dX8_driftOnce_64
theorem ddX8_driftOnce_67 : decode mX8_driftOnce.2.1 67 = .ok (.iload_n 1, 1) := dX8_driftOnce_67
theorem ddX8_driftOnce_68 : decode mX8_driftOnce.2.1 68 = .ok (.iload_n 2, 1) := dX8_driftOnce_68
theorem ddX8_driftOnce_69 : decode mX8_driftOnce.2.1 69 = .ok (.aload_n 0, 1) := dX8_driftOnce_69
theorem ddX8_driftOnce_70 : decode mX8_driftOnce.2.1 70 = .ok (.getfield 29, 3) := dX8_driftOnce_70
theorem ddX8_driftOnce_73 : decode mX8_driftOnce.2.1 73 = .ok (.getfield 103, 3) := dX8_driftOnce_73
theorem ddX8_driftOnce_76 : decode mX8_driftOnce.2.1 76 = .ok (.iload_n 3, 1) := dX8_driftOnce_76
theorem ddX8_driftOnce_77 : decode mX8_driftOnce.2.1 77 = .ok (.iadd, 1) := dX8_driftOnce_77
theorem ddX8_driftOnce_78 : decode mX8_driftOnce.2.1 78 = .ok (.invokevirtual 237, 3) := dX8_driftOnce_78
theorem ddX8_driftOnce_81 : decode mX8_driftOnce.2.1 81 = .ok (.aload_n 0, 1) := dX8_driftOnce_81
theorem ddX8_driftOnce_82 : decode mX8_driftOnce.2.1 82 = .ok (.getfield 29, 3) := dX8_driftOnce_82
theorem ddX8_driftOnce_85 : decode mX8_driftOnce.2.1 85 = .ok (.getfield 109, 3) := dX8_driftOnce_85
theorem ddX8_driftOnce_88 : decode mX8_driftOnce.2.1 88 = .ok (.ifCond .ne 24, 3) := dX8_driftOnce_88
theorem ddX8_driftOnce_91 : decode mX8_driftOnce.2.1 91 = .ok (.aload_n 0, 1) := dX8_driftOnce_91
theorem ddX8_driftOnce_92 : decode mX8_driftOnce.2.1 92 = .ok (.getfield 29, 3) := dX8_driftOnce_92
theorem ddX8_driftOnce_95 : decode mX8_driftOnce.2.1 95 = .ok (.invokevirtual 113, 3) := dX8_driftOnce_95
theorem ddX8_driftOnce_98 : decode mX8_driftOnce.2.1 98 = .ok (.ifCond .ne 14, 3) := dX8_driftOnce_98
theorem ddX8_driftOnce_101 : decode mX8_driftOnce.2.1 101 = .ok (.aload_n 0, 1) := dX8_driftOnce_101
theorem ddX8_driftOnce_102 : decode mX8_driftOnce.2.1 102 = .ok (.getfield 29, 3) := dX8_driftOnce_102
theorem ddX8_driftOnce_105 : decode mX8_driftOnce.2.1 105 = .ok (.aload_n 0, 1) := dX8_driftOnce_105
theorem ddX8_driftOnce_106 : decode mX8_driftOnce.2.1 106 = .ok (.getfield 19, 3) := dX8_driftOnce_106
theorem ddX8_driftOnce_109 : decode mX8_driftOnce.2.1 109 = .ok (.invokevirtual 224, 3) := dX8_driftOnce_109
theorem ddX8_driftOnce_112 : decode mX8_driftOnce.2.1 112 = .ok (.return_, 1) := dX8_driftOnce_112
theorem ddX8_stepsTillStill_0 : decode mX8_stepsTillStill.2.1 0 = .ok (.aload_n 0, 1) := dX8_stepsTillStill_0
theorem ddX8_stepsTillStill_1 : decode mX8_stepsTillStill.2.1 1 = .ok (.getfield 33, 3) := dX8_stepsTillStill_1
theorem ddX8_stepsTillStill_4 : decode mX8_stepsTillStill.2.1 4 = .ok (.aload_n 0, 1) := dX8_stepsTillStill_4
theorem ddX8_stepsTillStill_5 : decode mX8_stepsTillStill.2.1 5 = .ok (.getfield 29, 3) := dX8_stepsTillStill_5
theorem ddX8_stepsTillStill_8 : decode mX8_stepsTillStill.2.1 8 = .ok (.invokevirtual 274, 3) := dX8_stepsTillStill_8
theorem ddX8_stepsTillStill_11 : decode mX8_stepsTillStill.2.1 11 = .ok (.iconst 0, 1) := dX8_stepsTillStill_11
theorem ddX8_stepsTillStill_12 : decode mX8_stepsTillStill.2.1 12 = .ok (.istore_n 1, 1) := dX8_stepsTillStill_12
theorem ddX8_stepsTillStill_13 : decode mX8_stepsTillStill.2.1 13 = .ok (.iload_n 1, 1) := dX8_stepsTillStill_13
theorem ddX8_stepsTillStill_14 : decode mX8_stepsTillStill.2.1 14 = .ok (.bipush 100, 2) := dX8_stepsTillStill_14
theorem ddX8_stepsTillStill_16 : decode mX8_stepsTillStill.2.1 16 = .ok (.if_icmp .ge 40, 3) := dX8_stepsTillStill_16
theorem ddX8_stepsTillStill_19 : decode mX8_stepsTillStill.2.1 19 = .ok (.aload_n 0, 1) := dX8_stepsTillStill_19
theorem ddX8_stepsTillStill_20 : decode mX8_stepsTillStill.2.1 20 = .ok (.getfield 33, 3) := dX8_stepsTillStill_20
theorem ddX8_stepsTillStill_23 : decode mX8_stepsTillStill.2.1 23 = .ok (.getfield 109, 3) := dX8_stepsTillStill_23
theorem ddX8_stepsTillStill_26 : decode mX8_stepsTillStill.2.1 26 = .ok (.ifCond .ne 30, 3) := dX8_stepsTillStill_26
theorem ddX8_stepsTillStill_29 : decode mX8_stepsTillStill.2.1 29 = .ok (.aload_n 0, 1) := dX8_stepsTillStill_29
theorem ddX8_stepsTillStill_30 : decode mX8_stepsTillStill.2.1 30 = .ok (.getfield 33, 3) := dX8_stepsTillStill_30
theorem ddX8_stepsTillStill_33 : decode mX8_stepsTillStill.2.1 33 = .ok (.invokevirtual 113, 3) := dX8_stepsTillStill_33
theorem ddX8_stepsTillStill_36 : decode mX8_stepsTillStill.2.1 36 = .ok (.ifCond .ne 20, 3) := dX8_stepsTillStill_36
theorem ddX8_stepsTillStill_39 : decode mX8_stepsTillStill.2.1 39 = .ok (.aload_n 0, 1) := dX8_stepsTillStill_39
theorem ddX8_stepsTillStill_40 : decode mX8_stepsTillStill.2.1 40 = .ok (.getfield 33, 3) := dX8_stepsTillStill_40
theorem ddX8_stepsTillStill_43 : decode mX8_stepsTillStill.2.1 43 = .ok (.aload_n 0, 1) := dX8_stepsTillStill_43
theorem ddX8_stepsTillStill_44 : decode mX8_stepsTillStill.2.1 44 = .ok (.getfield 19, 3) := dX8_stepsTillStill_44
theorem ddX8_stepsTillStill_47 : decode mX8_stepsTillStill.2.1 47 = .ok (.invokevirtual 224, 3) := dX8_stepsTillStill_47
theorem ddX8_stepsTillStill_50 : decode mX8_stepsTillStill.2.1 50 = .ok (.iinc 1 1, 3) := dX8_stepsTillStill_50
theorem ddX8_stepsTillStill_53 : decode mX8_stepsTillStill.2.1 53 = .ok (.goto (-40), 3) := dX8_stepsTillStill_53
theorem ddX8_stepsTillStill_56 : decode mX8_stepsTillStill.2.1 56 = .ok (.aload_n 0, 1) := dX8_stepsTillStill_56
theorem ddX8_stepsTillStill_57 : decode mX8_stepsTillStill.2.1 57 = .ok (.getfield 33, 3) := dX8_stepsTillStill_57
theorem ddX8_stepsTillStill_60 : decode mX8_stepsTillStill.2.1 60 = .ok (.getfield 109, 3) := dX8_stepsTillStill_60
theorem ddX8_stepsTillStill_63 : decode mX8_stepsTillStill.2.1 63 = .ok (.ifCond .ne 13, 3) := dX8_stepsTillStill_63
theorem ddX8_stepsTillStill_66 : decode mX8_stepsTillStill.2.1 66 = .ok (.aload_n 0, 1) := dX8_stepsTillStill_66
theorem ddX8_stepsTillStill_67 : decode mX8_stepsTillStill.2.1 67 = .ok (.getfield 33, 3) := dX8_stepsTillStill_67
theorem ddX8_stepsTillStill_70 : decode mX8_stepsTillStill.2.1 70 = .ok (.invokevirtual 113, 3) := dX8_stepsTillStill_70
theorem ddX8_stepsTillStill_73 : decode mX8_stepsTillStill.2.1 73 = .ok (.ifCond .ne 7, 3) := dX8_stepsTillStill_73
theorem ddX8_stepsTillStill_76 : decode mX8_stepsTillStill.2.1 76 = .ok (.iconst (-1), 1) := dX8_stepsTillStill_76
theorem ddX8_stepsTillStill_77 : decode mX8_stepsTillStill.2.1 77 = .ok (.goto 4, 3) := dX8_stepsTillStill_77
theorem ddX8_stepsTillStill_80 : decode mX8_stepsTillStill.2.1 80 = .ok (.iload_n 1, 1) := dX8_stepsTillStill_80
theorem ddX8_stepsTillStill_81 : decode mX8_stepsTillStill.2.1 81 = .ok (.ireturn, 1) := dX8_stepsTillStill_81
theorem ddJ9_floorMod_7cf53_0 : decode mJ9_floorMod_7cf53.2.1 0 = .ok (.iload_n 0, 1) := dJ9_floorMod_7cf53_0
theorem ddJ9_floorMod_7cf53_1 : decode mJ9_floorMod_7cf53.2.1 1 = .ok (.iload_n 1, 1) := dJ9_floorMod_7cf53_1
theorem ddJ9_floorMod_7cf53_2 : decode mJ9_floorMod_7cf53.2.1 2 = .ok (.irem, 1) := dJ9_floorMod_7cf53_2
theorem ddJ9_floorMod_7cf53_3 : decode mJ9_floorMod_7cf53.2.1 3 = .ok (.istore_n 2, 1) := dJ9_floorMod_7cf53_3
theorem ddJ9_floorMod_7cf53_4 : decode mJ9_floorMod_7cf53.2.1 4 = .ok (.iload_n 0, 1) := dJ9_floorMod_7cf53_4
theorem ddJ9_floorMod_7cf53_5 : decode mJ9_floorMod_7cf53.2.1 5 = .ok (.iload_n 1, 1) := dJ9_floorMod_7cf53_5
theorem ddJ9_floorMod_7cf53_6 : decode mJ9_floorMod_7cf53.2.1 6 = .ok (.ixor, 1) := dJ9_floorMod_7cf53_6
theorem ddJ9_floorMod_7cf53_7 : decode mJ9_floorMod_7cf53.2.1 7 = .ok (.ifCond .ge 11, 3) := dJ9_floorMod_7cf53_7
theorem ddJ9_floorMod_7cf53_10 : decode mJ9_floorMod_7cf53.2.1 10 = .ok (.iload_n 2, 1) := dJ9_floorMod_7cf53_10
theorem ddJ9_floorMod_7cf53_11 : decode mJ9_floorMod_7cf53.2.1 11 = .ok (.ifCond .eq 7, 3) := dJ9_floorMod_7cf53_11
theorem ddJ9_floorMod_7cf53_14 : decode mJ9_floorMod_7cf53.2.1 14 = .ok (.iload_n 2, 1) := dJ9_floorMod_7cf53_14
theorem ddJ9_floorMod_7cf53_15 : decode mJ9_floorMod_7cf53.2.1 15 = .ok (.iload_n 1, 1) := dJ9_floorMod_7cf53_15
theorem ddJ9_floorMod_7cf53_16 : decode mJ9_floorMod_7cf53.2.1 16 = .ok (.iadd, 1) := dJ9_floorMod_7cf53_16
theorem ddJ9_floorMod_7cf53_17 : decode mJ9_floorMod_7cf53.2.1 17 = .ok (.ireturn, 1) := dJ9_floorMod_7cf53_17
theorem ddJ9_floorMod_7cf53_18 : decode mJ9_floorMod_7cf53.2.1 18 = .ok (.iload_n 2, 1) := dJ9_floorMod_7cf53_18
theorem ddJ9_floorMod_7cf53_19 : decode mJ9_floorMod_7cf53.2.1 19 = .ok (.ireturn, 1) := dJ9_floorMod_7cf53_19
theorem ddX9_init_0 : decode mX9_init.2.1 0 = .ok (.aload_n 0, 1) := dX9_init_0
theorem ddX9_init_1 : decode mX9_init.2.1 1 = .ok (.invokespecial 1, 3) := dX9_init_1
theorem ddX9_init_4 : decode mX9_init.2.1 4 = .ok (.aload_n 0, 1) := dX9_init_4
theorem ddX9_init_5 : decode mX9_init.2.1 5 = .ok (.sipush 6880, 3) := dX9_init_5
theorem ddX9_init_8 : decode mX9_init.2.1 8 = .ok (.newarray .int, 2) := dX9_init_8
theorem ddX9_init_10 : decode mX9_init.2.1 10 = .ok (.putfield 7, 3) := dX9_init_10
theorem ddX9_init_13 : decode mX9_init.2.1 13 = .ok (.aload_n 0, 1) := dX9_init_13
theorem ddX9_init_14 : decode mX9_init.2.1 14 = .ok (.bipush 48, 2) := dX9_init_14
theorem ddX9_init_16 : decode mX9_init.2.1 16 = .ok (.newarray .int, 2) := dX9_init_16
theorem ddX9_init_18 : decode mX9_init.2.1 18 = .ok (.putfield 13, 3) := dX9_init_18
theorem ddX9_init_21 : decode mX9_init.2.1 21 = .ok (.aload_n 0, 1) := dX9_init_21
theorem ddX9_init_22 : decode mX9_init.2.1 22 = .ok (.iconst 2, 1) := dX9_init_22
theorem ddX9_init_23 : decode mX9_init.2.1 23 = .ok (.newarray .int, 2) := dX9_init_23
theorem ddX9_init_25 : decode mX9_init.2.1 25 = .ok (.putfield 16, 3) := dX9_init_25
theorem ddX9_init_28 : decode mX9_init.2.1 28 = .ok (.aload_n 0, 1) := dX9_init_28
theorem ddX9_init_29 : decode mX9_init.2.1 29 = .ok (.bipush 20, 2) := dX9_init_29
theorem ddX9_init_31 : decode mX9_init.2.1 31 = .ok (.newarray .int, 2) := dX9_init_31
theorem ddX9_init_33 : decode mX9_init.2.1 33 = .ok (.putfield 19, 3) := dX9_init_33
theorem ddX9_init_36 : decode mX9_init.2.1 36 = .ok (.aload_n 0, 1) := dX9_init_36
theorem ddX9_init_37 : decode mX9_init.2.1 37 = .ok (.bipush 20, 2) := dX9_init_37
theorem ddX9_init_39 : decode mX9_init.2.1 39 = .ok (.newarray .int, 2) := dX9_init_39
theorem ddX9_init_41 : decode mX9_init.2.1 41 = .ok (.putfield 22, 3) := dX9_init_41
theorem ddX9_init_44 : decode mX9_init.2.1 44 = .ok (.aload_n 0, 1) := dX9_init_44
theorem ddX9_init_45 : decode mX9_init.2.1 45 = .ok (.sipush 200, 3) := dX9_init_45
theorem ddX9_init_48 : decode mX9_init.2.1 48 = .ok (.newarray .int, 2) := dX9_init_48
theorem ddX9_init_50 : decode mX9_init.2.1 50 = .ok (.putfield 25, 3) := dX9_init_50
theorem ddX9_init_53 : decode mX9_init.2.1 53 = .ok (.aload_n 0, 1) := dX9_init_53
theorem ddX9_init_54 : decode mX9_init.2.1 54 = .ok (.iconst (-1), 1) := dX9_init_54
theorem ddX9_init_55 : decode mX9_init.2.1 55 = .ok (.putfield 28, 3) := dX9_init_55
theorem ddX9_init_58 : decode mX9_init.2.1 58 = .ok (.aload_n 0, 1) := dX9_init_58
theorem ddX9_init_59 : decode mX9_init.2.1 59 = .ok (.bipush 8, 2) := dX9_init_59
theorem ddX9_init_61 : decode mX9_init.2.1 61 = .ok (.newarray .int, 2) := dX9_init_61
theorem ddX9_init_63 : decode mX9_init.2.1 63 = .ok (.putfield 32, 3) := dX9_init_63
theorem ddX9_init_66 : decode mX9_init.2.1 66 = .ok (.aload_n 0, 1) := dX9_init_66
theorem ddX9_init_67 : decode mX9_init.2.1 67 = .ok (.bipush 48, 2) := dX9_init_67
theorem ddX9_init_69 : decode mX9_init.2.1 69 = .ok (.newarray .int, 2) := dX9_init_69
theorem ddX9_init_71 : decode mX9_init.2.1 71 = .ok (.putfield 35, 3) := dX9_init_71
theorem ddX9_init_74 : decode mX9_init.2.1 74 = .ok (.return_, 1) := dX9_init_74
theorem ddX9_in_0 : decode mX9_in.2.1 0 = .ok (.iload_n 0, 1) := dX9_in_0
theorem ddX9_in_1 : decode mX9_in.2.1 1 = .ok (.iload_n 1, 1) := dX9_in_1
theorem ddX9_in_2 : decode mX9_in.2.1 2 = .ok (.if_icmp .lt 12, 3) := dX9_in_2
theorem ddX9_in_5 : decode mX9_in.2.1 5 = .ok (.iload_n 0, 1) := dX9_in_5
theorem ddX9_in_6 : decode mX9_in.2.1 6 = .ok (.iload_n 2, 1) := dX9_in_6
theorem ddX9_in_7 : decode mX9_in.2.1 7 = .ok (.if_icmp .gt 7, 3) := dX9_in_7
theorem ddX9_in_10 : decode mX9_in.2.1 10 = .ok (.iconst 1, 1) := dX9_in_10
theorem ddX9_in_11 : decode mX9_in.2.1 11 = .ok (.goto 4, 3) := dX9_in_11
theorem ddX9_in_14 : decode mX9_in.2.1 14 = .ok (.iconst 0, 1) := dX9_in_14
theorem ddX9_in_15 : decode mX9_in.2.1 15 = .ok (.ireturn, 1) := dX9_in_15
theorem ddX9_least_0 : decode mX9_least.2.1 0 = .ok (.iload_n 0, 1) := dX9_least_0
theorem ddX9_least_1 : decode mX9_least.2.1 1 = .ok (.iload_n 1, 1) := dX9_least_1
theorem ddX9_least_2 : decode mX9_least.2.1 2 = .ok (.if_icmp .ge 7, 3) := dX9_least_2
theorem ddX9_least_5 : decode mX9_least.2.1 5 = .ok (.iload_n 0, 1) := dX9_least_5
theorem ddX9_least_6 : decode mX9_least.2.1 6 = .ok (.goto 4, 3) := dX9_least_6
theorem ddX9_least_9 : decode mX9_least.2.1 9 = .ok (.iload_n 1, 1) := dX9_least_9
theorem ddX9_least_10 : decode mX9_least.2.1 10 = .ok (.ireturn, 1) := dX9_least_10
theorem ddX9_copyRow_0 : decode mX9_copyRow.2.1 0 = .ok (.iconst 0, 1) := dX9_copyRow_0
theorem ddX9_copyRow_1 : decode mX9_copyRow.2.1 1 = .ok (.istore_n 3, 1) := dX9_copyRow_1
theorem ddX9_copyRow_2 : decode mX9_copyRow.2.1 2 = .ok (.iload_n 3, 1) := dX9_copyRow_2
theorem ddX9_copyRow_3 : decode mX9_copyRow.2.1 3 = .ok (.sipush 344, 3) := dX9_copyRow_3
theorem ddX9_copyRow_6 : decode mX9_copyRow.2.1 6 = .ok (.if_icmp .ge 25, 3) := dX9_copyRow_6
theorem ddX9_copyRow_9 : decode mX9_copyRow.2.1 9 = .ok (.aload_n 0, 1) := dX9_copyRow_9
theorem ddX9_copyRow_10 : decode mX9_copyRow.2.1 10 = .ok (.getfield 7, 3) := dX9_copyRow_10
theorem ddX9_copyRow_13 : decode mX9_copyRow.2.1 13 = .ok (.iload_n 2, 1) := dX9_copyRow_13
theorem ddX9_copyRow_14 : decode mX9_copyRow.2.1 14 = .ok (.iload_n 3, 1) := dX9_copyRow_14
theorem ddX9_copyRow_15 : decode mX9_copyRow.2.1 15 = .ok (.iadd, 1) := dX9_copyRow_15
theorem ddX9_copyRow_16 : decode mX9_copyRow.2.1 16 = .ok (.aload_n 0, 1) := dX9_copyRow_16
theorem ddX9_copyRow_17 : decode mX9_copyRow.2.1 17 = .ok (.getfield 7, 3) := dX9_copyRow_17
theorem ddX9_copyRow_20 : decode mX9_copyRow.2.1 20 = .ok (.iload_n 1, 1) := dX9_copyRow_20
theorem ddX9_copyRow_21 : decode mX9_copyRow.2.1 21 = .ok (.iload_n 3, 1) := dX9_copyRow_21
theorem ddX9_copyRow_22 : decode mX9_copyRow.2.1 22 = .ok (.iadd, 1) := dX9_copyRow_22
theorem ddX9_copyRow_23 : decode mX9_copyRow.2.1 23 = .ok (.iaload, 1) := dX9_copyRow_23
theorem ddX9_copyRow_24 : decode mX9_copyRow.2.1 24 = .ok (.iastore, 1) := dX9_copyRow_24
theorem ddX9_copyRow_25 : decode mX9_copyRow.2.1 25 = .ok (.iinc 3 1, 3) := dX9_copyRow_25
theorem ddX9_copyRow_28 : decode mX9_copyRow.2.1 28 = .ok (.goto (-26), 3) := dX9_copyRow_28
theorem ddX9_copyRow_31 : decode mX9_copyRow.2.1 31 = .ok (.return_, 1) := dX9_copyRow_31
theorem ddX9_isWire_0 : decode mX9_isWire.2.1 0 = .ok (.iload_n 1, 1) := dX9_isWire_0
theorem ddX9_isWire_1 : decode mX9_isWire.2.1 1 = .ok (.iconst 0, 1) := dX9_isWire_1
theorem ddX9_isWire_2 : decode mX9_isWire.2.1 2 = .ok (.aload_n 0, 1) := dX9_isWire_2
theorem ddX9_isWire_3 : decode mX9_isWire.2.1 3 = .ok (.getfield 38, 3) := dX9_isWire_3
theorem ddX9_isWire_6 : decode mX9_isWire.2.1 6 = .ok (.iconst 1, 1) := dX9_isWire_6
theorem ddX9_isWire_7 : decode mX9_isWire.2.1 7 = .ok (.isub, 1) := dX9_isWire_7
theorem ddX9_isWire_8 : decode mX9_isWire.2.1 8 = .ok (.invokestatic 41, 3) := dX9_isWire_8
theorem ddX9_isWire_11 : decode mX9_isWire.2.1 11 = .ok (.ireturn, 1) := dX9_isWire_11
theorem ddX9_isGate_0 : decode mX9_isGate.2.1 0 = .ok (.iload_n 1, 1) := dX9_isGate_0
theorem ddX9_isGate_1 : decode mX9_isGate.2.1 1 = .ok (.iconst 0, 1) := dX9_isGate_1
theorem ddX9_isGate_2 : decode mX9_isGate.2.1 2 = .ok (.aload_n 0, 1) := dX9_isGate_2
theorem ddX9_isGate_3 : decode mX9_isGate.2.1 3 = .ok (.getfield 45, 3) := dX9_isGate_3
theorem ddX9_isGate_6 : decode mX9_isGate.2.1 6 = .ok (.iconst 1, 1) := dX9_isGate_6
theorem ddX9_isGate_7 : decode mX9_isGate.2.1 7 = .ok (.isub, 1) := dX9_isGate_7
theorem ddX9_isGate_8 : decode mX9_isGate.2.1 8 = .ok (.invokestatic 41, 3) := dX9_isGate_8
theorem ddX9_isGate_11 : decode mX9_isGate.2.1 11 = .ok (.ireturn, 1) := dX9_isGate_11
theorem ddX9_isLevel_0 : decode mX9_isLevel.2.1 0 = .ok (.iload_n 0, 1) := dX9_isLevel_0
theorem ddX9_isLevel_1 : decode mX9_isLevel.2.1 1 = .ok (.iconst 0, 1) := dX9_isLevel_1
theorem ddX9_isLevel_2 : decode mX9_isLevel.2.1 2 = .ok (.iconst 3, 1) := dX9_isLevel_2
theorem ddX9_isLevel_3 : decode mX9_isLevel.2.1 3 = .ok (.invokestatic 41, 3) := dX9_isLevel_3
theorem ddX9_isLevel_6 : decode mX9_isLevel.2.1 6 = .ok (.ireturn, 1) := dX9_isLevel_6
theorem ddX9_of_0 : decode mX9_of.2.1 0 = .ok (.aload_n 0, 1) := dX9_of_0
theorem ddX9_of_1 : decode mX9_of.2.1 1 = .ok (.getfield 13, 3) := dX9_of_1
theorem ddX9_of_4 : decode mX9_of.2.1 4 = .ok (.bipush 6, 2) := dX9_of_4
theorem ddX9_of_6 : decode mX9_of.2.1 6 = .ok (.iload_n 1, 1) := dX9_of_6
theorem ddX9_of_7 : decode mX9_of.2.1 7 = .ok (.imul, 1) := dX9_of_7
theorem ddX9_of_8 : decode mX9_of.2.1 8 = .ok (.iload_n 2, 1) := dX9_of_8
theorem ddX9_of_9 : decode mX9_of.2.1 9 = .ok (.iadd, 1) := dX9_of_9
theorem ddX9_of_10 : decode mX9_of.2.1 10 = .ok (.iaload, 1) := dX9_of_10
theorem ddX9_of_11 : decode mX9_of.2.1 11 = .ok (.ireturn, 1) := dX9_of_11
theorem ddX9_firm_0 : decode mX9_firm.2.1 0 = .ok (.iload_n 0, 1) := dX9_firm_0
theorem ddX9_firm_1 : decode mX9_firm.2.1 1 = .ok (.iconst 2, 1) := dX9_firm_1
theorem ddX9_firm_2 : decode mX9_firm.2.1 2 = .ok (.if_icmp .ne 7, 3) := dX9_firm_2
theorem ddX9_firm_5 : decode mX9_firm.2.1 5 = .ok (.iconst 3, 1) := dX9_firm_5
theorem ddX9_firm_6 : decode mX9_firm.2.1 6 = .ok (.goto 4, 3) := dX9_firm_6
theorem ddX9_firm_9 : decode mX9_firm.2.1 9 = .ok (.iload_n 0, 1) := dX9_firm_9
theorem ddX9_firm_10 : decode mX9_firm.2.1 10 = .ok (.ireturn, 1) := dX9_firm_10
theorem ddX9_together_0 : decode mX9_together.2.1 0 = .ok (.iload_n 0, 1) := dX9_together_0
theorem ddX9_together_1 : decode mX9_together.2.1 1 = .ok (.iconst 2, 1) := dX9_together_1
theorem ddX9_together_2 : decode mX9_together.2.1 2 = .ok (.if_icmp .ne 5, 3) := dX9_together_2
theorem ddX9_together_5 : decode mX9_together.2.1 5 = .ok (.iload_n 1, 1) := dX9_together_5
theorem ddX9_together_6 : decode mX9_together.2.1 6 = .ok (.ireturn, 1) := dX9_together_6
theorem ddX9_together_7 : decode mX9_together.2.1 7 = .ok (.iload_n 1, 1) := dX9_together_7
theorem ddX9_together_8 : decode mX9_together.2.1 8 = .ok (.iconst 2, 1) := dX9_together_8
theorem ddX9_together_9 : decode mX9_together.2.1 9 = .ok (.if_icmp .eq 8, 3) := dX9_together_9
theorem ddX9_together_12 : decode mX9_together.2.1 12 = .ok (.iload_n 0, 1) := dX9_together_12
theorem ddX9_together_13 : decode mX9_together.2.1 13 = .ok (.iload_n 1, 1) := dX9_together_13
theorem ddX9_together_14 : decode mX9_together.2.1 14 = .ok (.if_icmp .ne 7, 3) := dX9_together_14
theorem ddX9_together_17 : decode mX9_together.2.1 17 = .ok (.iload_n 0, 1) := dX9_together_17
theorem ddX9_together_18 : decode mX9_together.2.1 18 = .ok (.goto 4, 3) := dX9_together_18
theorem ddX9_together_21 : decode mX9_together.2.1 21 = .ok (.iconst 3, 1) := dX9_together_21
theorem ddX9_together_22 : decode mX9_together.2.1 22 = .ok (.ireturn, 1) := dX9_together_22
theorem ddX9_made_0 : decode mX9_made.2.1 0 = .ok (.iload_n 1, 1) := dX9_made_0
theorem ddX9_made_1 : decode mX9_made.2.1 1 = .ok (.invokestatic 48, 3) := dX9_made_1
theorem ddX9_made_4 : decode mX9_made.2.1 4 = .ok (.istore_n 3, 1) := dX9_made_4
theorem ddX9_made_5 : decode mX9_made.2.1 5 = .ok (.iload_n 2, 1) := dX9_made_5
theorem ddX9_made_6 : decode mX9_made.2.1 6 = .ok (.invokestatic 48, 3) := dX9_made_6
theorem ddX9_made_9 : decode mX9_made.2.1 9 = .ok (.istore 4, 2) := dX9_made_9
theorem ddX9_made_11 : decode mX9_made.2.1 11 = .ok (.iload_n 0, 1) := dX9_made_11
theorem ddX9_made_12 : decode mX9_made.2.1 12 = .ok (.tableswitch 132 0 3 #[32, 45, 75, 105], 32) := dX9_made_12
theorem ddX9_made_44 : decode mX9_made.2.1 44 = .ok (.iload_n 3, 1) := dX9_made_44
theorem ddX9_made_45 : decode mX9_made.2.1 45 = .ok (.iconst 3, 1) := dX9_made_45
theorem ddX9_made_46 : decode mX9_made.2.1 46 = .ok (.if_icmp .ne 7, 3) := dX9_made_46
theorem ddX9_made_49 : decode mX9_made.2.1 49 = .ok (.iconst 3, 1) := dX9_made_49
theorem ddX9_made_50 : decode mX9_made.2.1 50 = .ok (.goto 6, 3) := dX9_made_50
theorem ddX9_made_53 : decode mX9_made.2.1 53 = .ok (.iconst 1, 1) := dX9_made_53
theorem ddX9_made_54 : decode mX9_made.2.1 54 = .ok (.iload_n 3, 1) := dX9_made_54
theorem ddX9_made_55 : decode mX9_made.2.1 55 = .ok (.isub, 1) := dX9_made_55
theorem ddX9_made_56 : decode mX9_made.2.1 56 = .ok (.ireturn, 1) := dX9_made_56
theorem ddX9_made_57 : decode mX9_made.2.1 57 = .ok (.iload_n 3, 1) := dX9_made_57
theorem ddX9_made_58 : decode mX9_made.2.1 58 = .ok (.ifCond .eq 8, 3) := dX9_made_58
theorem ddX9_made_61 : decode mX9_made.2.1 61 = .ok (.iload 4, 2) := dX9_made_61
theorem ddX9_made_63 : decode mX9_made.2.1 63 = .ok (.ifCond .ne 7, 3) := dX9_made_63
theorem ddX9_made_66 : decode mX9_made.2.1 66 = .ok (.iconst 0, 1) := dX9_made_66
theorem ddX9_made_67 : decode mX9_made.2.1 67 = .ok (.goto 19, 3) := dX9_made_67
theorem ddX9_made_70 : decode mX9_made.2.1 70 = .ok (.iload_n 3, 1) := dX9_made_70
theorem ddX9_made_71 : decode mX9_made.2.1 71 = .ok (.iconst 1, 1) := dX9_made_71
theorem ddX9_made_72 : decode mX9_made.2.1 72 = .ok (.if_icmp .ne 13, 3) := dX9_made_72
theorem ddX9_made_75 : decode mX9_made.2.1 75 = .ok (.iload 4, 2) := dX9_made_75
theorem ddX9_made_77 : decode mX9_made.2.1 77 = .ok (.iconst 1, 1) := dX9_made_77
theorem ddX9_made_78 : decode mX9_made.2.1 78 = .ok (.if_icmp .ne 7, 3) := dX9_made_78
theorem ddX9_made_81 : decode mX9_made.2.1 81 = .ok (.iconst 1, 1) := dX9_made_81
theorem ddX9_made_82 : decode mX9_made.2.1 82 = .ok (.goto 4, 3) := dX9_made_82
theorem ddX9_made_85 : decode mX9_made.2.1 85 = .ok (.iconst 3, 1) := dX9_made_85
theorem ddX9_made_86 : decode mX9_made.2.1 86 = .ok (.ireturn, 1) := dX9_made_86
theorem ddX9_made_87 : decode mX9_made.2.1 87 = .ok (.iload_n 3, 1) := dX9_made_87
theorem ddX9_made_88 : decode mX9_made.2.1 88 = .ok (.iconst 1, 1) := dX9_made_88
theorem ddX9_made_89 : decode mX9_made.2.1 89 = .ok (.if_icmp .eq 9, 3) := dX9_made_89
theorem ddX9_made_92 : decode mX9_made.2.1 92 = .ok (.iload 4, 2) := dX9_made_92
theorem ddX9_made_94 : decode mX9_made.2.1 94 = .ok (.iconst 1, 1) := dX9_made_94
theorem ddX9_made_95 : decode mX9_made.2.1 95 = .ok (.if_icmp .ne 7, 3) := dX9_made_95
theorem ddX9_made_98 : decode mX9_made.2.1 98 = .ok (.iconst 1, 1) := dX9_made_98
theorem ddX9_made_99 : decode mX9_made.2.1 99 = .ok (.goto 17, 3) := dX9_made_99
theorem ddX9_made_102 : decode mX9_made.2.1 102 = .ok (.iload_n 3, 1) := dX9_made_102
theorem ddX9_made_103 : decode mX9_made.2.1 103 = .ok (.ifCond .ne 12, 3) := dX9_made_103
theorem ddX9_made_106 : decode mX9_made.2.1 106 = .ok (.iload 4, 2) := dX9_made_106
theorem ddX9_made_108 : decode mX9_made.2.1 108 = .ok (.ifCond .ne 7, 3) := dX9_made_108
theorem ddX9_made_111 : decode mX9_made.2.1 111 = .ok (.iconst 0, 1) := dX9_made_111
theorem ddX9_made_112 : decode mX9_made.2.1 112 = .ok (.goto 4, 3) := dX9_made_112
theorem ddX9_made_115 : decode mX9_made.2.1 115 = .ok (.iconst 3, 1) := dX9_made_115
theorem ddX9_made_116 : decode mX9_made.2.1 116 = .ok (.ireturn, 1) := dX9_made_116
theorem ddX9_made_117 : decode mX9_made.2.1 117 = .ok (.iload_n 3, 1) := dX9_made_117
theorem ddX9_made_118 : decode mX9_made.2.1 118 = .ok (.iconst 3, 1) := dX9_made_118
theorem ddX9_made_119 : decode mX9_made.2.1 119 = .ok (.if_icmp .eq 9, 3) := dX9_made_119
theorem ddX9_made_122 : decode mX9_made.2.1 122 = .ok (.iload 4, 2) := dX9_made_122
theorem ddX9_made_124 : decode mX9_made.2.1 124 = .ok (.iconst 3, 1) := dX9_made_124
theorem ddX9_made_125 : decode mX9_made.2.1 125 = .ok (.if_icmp .ne 7, 3) := dX9_made_125
theorem ddX9_made_128 : decode mX9_made.2.1 128 = .ok (.iconst 3, 1) := dX9_made_128
theorem ddX9_made_129 : decode mX9_made.2.1 129 = .ok (.goto 14, 3) := dX9_made_129
theorem ddX9_made_132 : decode mX9_made.2.1 132 = .ok (.iload_n 3, 1) := dX9_made_132
theorem ddX9_made_133 : decode mX9_made.2.1 133 = .ok (.iload 4, 2) := dX9_made_133
theorem ddX9_made_135 : decode mX9_made.2.1 135 = .ok (.if_icmp .ne 7, 3) := dX9_made_135
theorem ddX9_made_138 : decode mX9_made.2.1 138 = .ok (.iconst 0, 1) := dX9_made_138
theorem ddX9_made_139 : decode mX9_made.2.1 139 = .ok (.goto 4, 3) := dX9_made_139
theorem ddX9_made_142 : decode mX9_made.2.1 142 = .ok (.iconst 1, 1) := dX9_made_142
theorem ddX9_made_143 : decode mX9_made.2.1 143 = .ok (.ireturn, 1) := dX9_made_143
theorem ddX9_made_144 : decode mX9_made.2.1 144 = .ok (.iload 4, 2) := dX9_made_144
theorem ddX9_made_146 : decode mX9_made.2.1 146 = .ok (.ifCond .ne 7, 3) := dX9_made_146
theorem ddX9_made_149 : decode mX9_made.2.1 149 = .ok (.iconst 2, 1) := dX9_made_149
theorem ddX9_made_150 : decode mX9_made.2.1 150 = .ok (.goto 14, 3) := dX9_made_150
theorem ddX9_made_153 : decode mX9_made.2.1 153 = .ok (.iload 4, 2) := dX9_made_153
theorem ddX9_made_155 : decode mX9_made.2.1 155 = .ok (.iconst 1, 1) := dX9_made_155
theorem ddX9_made_156 : decode mX9_made.2.1 156 = .ok (.if_icmp .ne 7, 3) := dX9_made_156
theorem ddX9_made_159 : decode mX9_made.2.1 159 = .ok (.iload_n 3, 1) := dX9_made_159
theorem ddX9_made_160 : decode mX9_made.2.1 160 = .ok (.goto 4, 3) := dX9_made_160
theorem ddX9_made_163 : decode mX9_made.2.1 163 = .ok (.iconst 3, 1) := dX9_made_163
theorem ddX9_made_164 : decode mX9_made.2.1 164 = .ok (.ireturn, 1) := dX9_made_164
theorem ddX9_comesOf_0 : decode mX9_comesOf.2.1 0 = .ok (.aload_n 0, 1) := dX9_comesOf_0
theorem ddX9_comesOf_1 : decode mX9_comesOf.2.1 1 = .ok (.getfield 7, 3) := dX9_comesOf_1
theorem ddX9_comesOf_4 : decode mX9_comesOf.2.1 4 = .ok (.iload_n 1, 1) := dX9_comesOf_4
theorem ddX9_comesOf_5 : decode mX9_comesOf.2.1 5 = .ok (.bipush 8, 2) := dX9_comesOf_5
theorem ddX9_comesOf_7 : decode mX9_comesOf.2.1 7 = .ok (.iadd, 1) := dX9_comesOf_7
theorem ddX9_comesOf_8 : decode mX9_comesOf.2.1 8 = .ok (.aload_n 0, 1) := dX9_comesOf_8
theorem ddX9_comesOf_9 : decode mX9_comesOf.2.1 9 = .ok (.iload_n 2, 1) := dX9_comesOf_9
theorem ddX9_comesOf_10 : decode mX9_comesOf.2.1 10 = .ok (.iconst 1, 1) := dX9_comesOf_10
theorem ddX9_comesOf_11 : decode mX9_comesOf.2.1 11 = .ok (.invokevirtual 52, 3) := dX9_comesOf_11
theorem ddX9_comesOf_14 : decode mX9_comesOf.2.1 14 = .ok (.iadd, 1) := dX9_comesOf_14
theorem ddX9_comesOf_15 : decode mX9_comesOf.2.1 15 = .ok (.iaload, 1) := dX9_comesOf_15
theorem ddX9_comesOf_16 : decode mX9_comesOf.2.1 16 = .ok (.istore_n 3, 1) := dX9_comesOf_16
theorem ddX9_comesOf_17 : decode mX9_comesOf.2.1 17 = .ok (.aload_n 0, 1) := dX9_comesOf_17
theorem ddX9_comesOf_18 : decode mX9_comesOf.2.1 18 = .ok (.getfield 7, 3) := dX9_comesOf_18
theorem ddX9_comesOf_21 : decode mX9_comesOf.2.1 21 = .ok (.iload_n 1, 1) := dX9_comesOf_21
theorem ddX9_comesOf_22 : decode mX9_comesOf.2.1 22 = .ok (.bipush 8, 2) := dX9_comesOf_22
theorem ddX9_comesOf_24 : decode mX9_comesOf.2.1 24 = .ok (.iadd, 1) := dX9_comesOf_24
theorem ddX9_comesOf_25 : decode mX9_comesOf.2.1 25 = .ok (.aload_n 0, 1) := dX9_comesOf_25
theorem ddX9_comesOf_26 : decode mX9_comesOf.2.1 26 = .ok (.iload_n 2, 1) := dX9_comesOf_26
theorem ddX9_comesOf_27 : decode mX9_comesOf.2.1 27 = .ok (.iconst 2, 1) := dX9_comesOf_27
theorem ddX9_comesOf_28 : decode mX9_comesOf.2.1 28 = .ok (.invokevirtual 52, 3) := dX9_comesOf_28
theorem ddX9_comesOf_31 : decode mX9_comesOf.2.1 31 = .ok (.iadd, 1) := dX9_comesOf_31
theorem ddX9_comesOf_32 : decode mX9_comesOf.2.1 32 = .ok (.iaload, 1) := dX9_comesOf_32
theorem ddX9_comesOf_33 : decode mX9_comesOf.2.1 33 = .ok (.istore 4, 2) := dX9_comesOf_33
theorem ddX9_comesOf_35 : decode mX9_comesOf.2.1 35 = .ok (.aload_n 0, 1) := dX9_comesOf_35
theorem ddX9_comesOf_36 : decode mX9_comesOf.2.1 36 = .ok (.iload_n 2, 1) := dX9_comesOf_36
theorem ddX9_comesOf_37 : decode mX9_comesOf.2.1 37 = .ok (.iconst 0, 1) := dX9_comesOf_37
theorem ddX9_comesOf_38 : decode mX9_comesOf.2.1 38 = .ok (.invokevirtual 52, 3) := dX9_comesOf_38
theorem ddX9_comesOf_41 : decode mX9_comesOf.2.1 41 = .ok (.iconst 5, 1) := dX9_comesOf_41
theorem ddX9_comesOf_42 : decode mX9_comesOf.2.1 42 = .ok (.if_icmp .ne 29, 3) := dX9_comesOf_42
theorem ddX9_comesOf_45 : decode mX9_comesOf.2.1 45 = .ok (.iload 4, 2) := dX9_comesOf_45
theorem ddX9_comesOf_47 : decode mX9_comesOf.2.1 47 = .ok (.iconst 1, 1) := dX9_comesOf_47
theorem ddX9_comesOf_48 : decode mX9_comesOf.2.1 48 = .ok (.if_icmp .ne 10, 3) := dX9_comesOf_48
theorem ddX9_comesOf_51 : decode mX9_comesOf.2.1 51 = .ok (.iload_n 3, 1) := dX9_comesOf_51
theorem ddX9_comesOf_52 : decode mX9_comesOf.2.1 52 = .ok (.invokestatic 48, 3) := dX9_comesOf_52
theorem ddX9_comesOf_55 : decode mX9_comesOf.2.1 55 = .ok (.goto 15, 3) := dX9_comesOf_55
theorem ddX9_comesOf_58 : decode mX9_comesOf.2.1 58 = .ok (.aload_n 0, 1) := dX9_comesOf_58
theorem ddX9_comesOf_59 : decode mX9_comesOf.2.1 59 = .ok (.getfield 7, 3) := dX9_comesOf_59
theorem ddX9_comesOf_62 : decode mX9_comesOf.2.1 62 = .ok (.iload_n 1, 1) := dX9_comesOf_62
theorem ddX9_comesOf_63 : decode mX9_comesOf.2.1 63 = .ok (.sipush 176, 3) := dX9_comesOf_63
theorem ddX9_comesOf_66 : decode mX9_comesOf.2.1 66 = .ok (.iadd, 1) := dX9_comesOf_66
theorem ddX9_comesOf_67 : decode mX9_comesOf.2.1 67 = .ok (.iload_n 2, 1) := dX9_comesOf_67
theorem ddX9_comesOf_68 : decode mX9_comesOf.2.1 68 = .ok (.iadd, 1) := dX9_comesOf_68
theorem ddX9_comesOf_69 : decode mX9_comesOf.2.1 69 = .ok (.iaload, 1) := dX9_comesOf_69
theorem ddX9_comesOf_70 : decode mX9_comesOf.2.1 70 = .ok (.ireturn, 1) := dX9_comesOf_70
theorem ddX9_comesOf_71 : decode mX9_comesOf.2.1 71 = .ok (.aload_n 0, 1) := dX9_comesOf_71
theorem ddX9_comesOf_72 : decode mX9_comesOf.2.1 72 = .ok (.iload_n 2, 1) := dX9_comesOf_72
theorem ddX9_comesOf_73 : decode mX9_comesOf.2.1 73 = .ok (.iconst 0, 1) := dX9_comesOf_73
theorem ddX9_comesOf_74 : decode mX9_comesOf.2.1 74 = .ok (.invokevirtual 52, 3) := dX9_comesOf_74
theorem ddX9_comesOf_77 : decode mX9_comesOf.2.1 77 = .ok (.iload_n 3, 1) := dX9_comesOf_77
theorem ddX9_comesOf_78 : decode mX9_comesOf.2.1 78 = .ok (.iload 4, 2) := dX9_comesOf_78
theorem ddX9_comesOf_80 : decode mX9_comesOf.2.1 80 = .ok (.invokestatic 56, 3) := dX9_comesOf_80
theorem ddX9_comesOf_83 : decode mX9_comesOf.2.1 83 = .ok (.ireturn, 1) := dX9_comesOf_83
theorem ddX9_looksAt_0 : decode mX9_looksAt.2.1 0 = .ok (.aload_n 0, 1) := dX9_looksAt_0
theorem ddX9_looksAt_1 : decode mX9_looksAt.2.1 1 = .ok (.iload_n 1, 1) := dX9_looksAt_1
theorem ddX9_looksAt_2 : decode mX9_looksAt.2.1 2 = .ok (.iconst 1, 1) := dX9_looksAt_2
theorem ddX9_looksAt_3 : decode mX9_looksAt.2.1 3 = .ok (.invokevirtual 52, 3) := dX9_looksAt_3
theorem ddX9_looksAt_6 : decode mX9_looksAt.2.1 6 = .ok (.iload_n 2, 1) := dX9_looksAt_6
theorem ddX9_looksAt_7 : decode mX9_looksAt.2.1 7 = .ok (.if_icmp .eq 22, 3) := dX9_looksAt_7
theorem ddX9_looksAt_10 : decode mX9_looksAt.2.1 10 = .ok (.aload_n 0, 1) := dX9_looksAt_10
theorem ddX9_looksAt_11 : decode mX9_looksAt.2.1 11 = .ok (.iload_n 1, 1) := dX9_looksAt_11
theorem ddX9_looksAt_12 : decode mX9_looksAt.2.1 12 = .ok (.iconst 0, 1) := dX9_looksAt_12
theorem ddX9_looksAt_13 : decode mX9_looksAt.2.1 13 = .ok (.invokevirtual 52, 3) := dX9_looksAt_13
theorem ddX9_looksAt_16 : decode mX9_looksAt.2.1 16 = .ok (.ifCond .eq 17, 3) := dX9_looksAt_16
theorem ddX9_looksAt_19 : decode mX9_looksAt.2.1 19 = .ok (.aload_n 0, 1) := dX9_looksAt_19
theorem ddX9_looksAt_20 : decode mX9_looksAt.2.1 20 = .ok (.iload_n 1, 1) := dX9_looksAt_20
theorem ddX9_looksAt_21 : decode mX9_looksAt.2.1 21 = .ok (.iconst 2, 1) := dX9_looksAt_21
theorem ddX9_looksAt_22 : decode mX9_looksAt.2.1 22 = .ok (.invokevirtual 52, 3) := dX9_looksAt_22
theorem ddX9_looksAt_25 : decode mX9_looksAt.2.1 25 = .ok (.iload_n 2, 1) := dX9_looksAt_25
theorem ddX9_looksAt_26 : decode mX9_looksAt.2.1 26 = .ok (.if_icmp .ne 7, 3) := dX9_looksAt_26
theorem ddX9_looksAt_29 : decode mX9_looksAt.2.1 29 = .ok (.iconst 1, 1) := dX9_looksAt_29
theorem ddX9_looksAt_30 : decode mX9_looksAt.2.1 30 = .ok (.goto 4, 3) := dX9_looksAt_30
theorem ddX9_looksAt_33 : decode mX9_looksAt.2.1 33 = .ok (.iconst 0, 1) := dX9_looksAt_33
theorem ddX9_looksAt_34 : decode mX9_looksAt.2.1 34 = .ok (.ireturn, 1) := dX9_looksAt_34
theorem ddX9_driversOf_0 : decode mX9_driversOf.2.1 0 = .ok (.iconst 0, 1) := dX9_driversOf_0
theorem ddX9_driversOf_1 : decode mX9_driversOf.2.1 1 = .ok (.istore_n 2, 1) := dX9_driversOf_1
theorem ddX9_driversOf_2 : decode mX9_driversOf.2.1 2 = .ok (.iconst 0, 1) := dX9_driversOf_2
theorem ddX9_driversOf_3 : decode mX9_driversOf.2.1 3 = .ok (.istore_n 3, 1) := dX9_driversOf_3
theorem ddX9_driversOf_4 : decode mX9_driversOf.2.1 4 = .ok (.iload_n 3, 1) := dX9_driversOf_4
theorem ddX9_driversOf_5 : decode mX9_driversOf.2.1 5 = .ok (.aload_n 0, 1) := dX9_driversOf_5
theorem ddX9_driversOf_6 : decode mX9_driversOf.2.1 6 = .ok (.getfield 45, 3) := dX9_driversOf_6
theorem ddX9_driversOf_9 : decode mX9_driversOf.2.1 9 = .ok (.if_icmp .ge 27, 3) := dX9_driversOf_9
theorem ddX9_driversOf_12 : decode mX9_driversOf.2.1 12 = .ok (.iload_n 2, 1) := dX9_driversOf_12
theorem ddX9_driversOf_13 : decode mX9_driversOf.2.1 13 = .ok (.aload_n 0, 1) := dX9_driversOf_13
theorem ddX9_driversOf_14 : decode mX9_driversOf.2.1 14 = .ok (.iload_n 3, 1) := dX9_driversOf_14
theorem ddX9_driversOf_15 : decode mX9_driversOf.2.1 15 = .ok (.iconst 3, 1) := dX9_driversOf_15
theorem ddX9_driversOf_16 : decode mX9_driversOf.2.1 16 = .ok (.invokevirtual 52, 3) := dX9_driversOf_16
theorem ddX9_driversOf_19 : decode mX9_driversOf.2.1 19 = .ok (.iload_n 1, 1) := dX9_driversOf_19
theorem ddX9_driversOf_20 : decode mX9_driversOf.2.1 20 = .ok (.if_icmp .ne 7, 3) := dX9_driversOf_20
theorem ddX9_driversOf_23 : decode mX9_driversOf.2.1 23 = .ok (.iconst 1, 1) := dX9_driversOf_23
theorem ddX9_driversOf_24 : decode mX9_driversOf.2.1 24 = .ok (.goto 4, 3) := dX9_driversOf_24
theorem ddX9_driversOf_27 : decode mX9_driversOf.2.1 27 = .ok (.iconst 0, 1) := dX9_driversOf_27
theorem ddX9_driversOf_28 : decode mX9_driversOf.2.1 28 = .ok (.iadd, 1) := dX9_driversOf_28
theorem ddX9_driversOf_29 : decode mX9_driversOf.2.1 29 = .ok (.istore_n 2, 1) := dX9_driversOf_29
theorem ddX9_driversOf_30 : decode mX9_driversOf.2.1 30 = .ok (.iinc 3 1, 3) := dX9_driversOf_30
theorem ddX9_driversOf_33 : decode mX9_driversOf.2.1 33 = .ok (.goto (-29), 3) := dX9_driversOf_33
theorem ddX9_driversOf_36 : decode mX9_driversOf.2.1 36 = .ok (.iload_n 2, 1) := dX9_driversOf_36
theorem ddX9_driversOf_37 : decode mX9_driversOf.2.1 37 = .ok (.ireturn, 1) := dX9_driversOf_37
theorem ddX9_drivenTo_0 : decode mX9_drivenTo.2.1 0 = .ok (.iconst 2, 1) := dX9_drivenTo_0
theorem ddX9_drivenTo_1 : decode mX9_drivenTo.2.1 1 = .ok (.istore 4, 2) := dX9_drivenTo_1
theorem ddX9_drivenTo_3 : decode mX9_drivenTo.2.1 3 = .ok (.iconst 0, 1) := dX9_drivenTo_3
theorem ddX9_drivenTo_4 : decode mX9_drivenTo.2.1 4 = .ok (.istore 5, 2) := dX9_drivenTo_4
theorem ddX9_drivenTo_6 : decode mX9_drivenTo.2.1 6 = .ok (.iload 5, 2) := dX9_drivenTo_6
theorem ddX9_drivenTo_8 : decode mX9_drivenTo.2.1 8 = .ok (.aload_n 0, 1) := dX9_drivenTo_8
theorem ddX9_drivenTo_9 : decode mX9_drivenTo.2.1 9 = .ok (.getfield 45, 3) := dX9_drivenTo_9
theorem ddX9_drivenTo_12 : decode mX9_drivenTo.2.1 12 = .ok (.if_icmp .ge 51, 3) := dX9_drivenTo_12
theorem ddX9_drivenTo_15 : decode mX9_drivenTo.2.1 15 = .ok (.iload 5, 2) := dX9_drivenTo_15
theorem ddX9_drivenTo_17 : decode mX9_drivenTo.2.1 17 = .ok (.iload_n 3, 1) := dX9_drivenTo_17
theorem ddX9_drivenTo_18 : decode mX9_drivenTo.2.1 18 = .ok (.if_icmp .eq 35, 3) := dX9_drivenTo_18
theorem ddX9_drivenTo_21 : decode mX9_drivenTo.2.1 21 = .ok (.aload_n 0, 1) := dX9_drivenTo_21
theorem ddX9_drivenTo_22 : decode mX9_drivenTo.2.1 22 = .ok (.iload 5, 2) := dX9_drivenTo_22
theorem ddX9_drivenTo_24 : decode mX9_drivenTo.2.1 24 = .ok (.iconst 3, 1) := dX9_drivenTo_24
theorem ddX9_drivenTo_25 : decode mX9_drivenTo.2.1 25 = .ok (.invokevirtual 52, 3) := dX9_drivenTo_25
theorem ddX9_drivenTo_28 : decode mX9_drivenTo.2.1 28 = .ok (.iload_n 2, 1) := dX9_drivenTo_28
theorem ddX9_drivenTo_29 : decode mX9_drivenTo.2.1 29 = .ok (.if_icmp .ne 24, 3) := dX9_drivenTo_29
theorem ddX9_drivenTo_32 : decode mX9_drivenTo.2.1 32 = .ok (.iload 4, 2) := dX9_drivenTo_32
theorem ddX9_drivenTo_34 : decode mX9_drivenTo.2.1 34 = .ok (.aload_n 0, 1) := dX9_drivenTo_34
theorem ddX9_drivenTo_35 : decode mX9_drivenTo.2.1 35 = .ok (.getfield 7, 3) := dX9_drivenTo_35
theorem ddX9_drivenTo_38 : decode mX9_drivenTo.2.1 38 = .ok (.iload_n 1, 1) := dX9_drivenTo_38
theorem ddX9_drivenTo_39 : decode mX9_drivenTo.2.1 39 = .ok (.sipush 176, 3) := dX9_drivenTo_39
theorem ddX9_drivenTo_42 : decode mX9_drivenTo.2.1 42 = .ok (.iadd, 1) := dX9_drivenTo_42
theorem ddX9_drivenTo_43 : decode mX9_drivenTo.2.1 43 = .ok (.iload 5, 2) := dX9_drivenTo_43
theorem ddX9_drivenTo_45 : decode mX9_drivenTo.2.1 45 = .ok (.iadd, 1) := dX9_drivenTo_45
theorem ddX9_drivenTo_46 : decode mX9_drivenTo.2.1 46 = .ok (.iaload, 1) := dX9_drivenTo_46
theorem ddX9_drivenTo_47 : decode mX9_drivenTo.2.1 47 = .ok (.invokestatic 60, 3) := dX9_drivenTo_47
theorem ddX9_drivenTo_50 : decode mX9_drivenTo.2.1 50 = .ok (.goto 5, 3) := dX9_drivenTo_50
theorem ddX9_drivenTo_53 : decode mX9_drivenTo.2.1 53 = .ok (.iload 4, 2) := dX9_drivenTo_53
theorem ddX9_drivenTo_55 : decode mX9_drivenTo.2.1 55 = .ok (.istore 4, 2) := dX9_drivenTo_55
theorem ddX9_drivenTo_57 : decode mX9_drivenTo.2.1 57 = .ok (.iinc 5 1, 3) := dX9_drivenTo_57
theorem ddX9_drivenTo_60 : decode mX9_drivenTo.2.1 60 = .ok (.goto (-54), 3) := dX9_drivenTo_60
theorem ddX9_drivenTo_63 : decode mX9_drivenTo.2.1 63 = .ok (.iload 4, 2) := dX9_drivenTo_63
theorem ddX9_drivenTo_65 : decode mX9_drivenTo.2.1 65 = .ok (.ireturn, 1) := dX9_drivenTo_65
theorem ddX9_dropFirst_0 : decode mX9_dropFirst.2.1 0 = .ok (.aload_n 0, 1) := dX9_dropFirst_0
theorem ddX9_dropFirst_1 : decode mX9_dropFirst.2.1 1 = .ok (.getfield 7, 3) := dX9_dropFirst_1
theorem ddX9_dropFirst_4 : decode mX9_dropFirst.2.1 4 = .ok (.iload_n 1, 1) := dX9_dropFirst_4
theorem ddX9_dropFirst_5 : decode mX9_dropFirst.2.1 5 = .ok (.sipush 184, 3) := dX9_dropFirst_5
theorem ddX9_dropFirst_8 : decode mX9_dropFirst.2.1 8 = .ok (.iadd, 1) := dX9_dropFirst_8
theorem ddX9_dropFirst_9 : decode mX9_dropFirst.2.1 9 = .ok (.iload_n 2, 1) := dX9_dropFirst_9
theorem ddX9_dropFirst_10 : decode mX9_dropFirst.2.1 10 = .ok (.iadd, 1) := dX9_dropFirst_10
theorem ddX9_dropFirst_11 : decode mX9_dropFirst.2.1 11 = .ok (.iaload, 1) := dX9_dropFirst_11
theorem ddX9_dropFirst_12 : decode mX9_dropFirst.2.1 12 = .ok (.iload_n 3, 1) := dX9_dropFirst_12
theorem ddX9_dropFirst_13 : decode mX9_dropFirst.2.1 13 = .ok (.isub, 1) := dX9_dropFirst_13
theorem ddX9_dropFirst_14 : decode mX9_dropFirst.2.1 14 = .ok (.istore 4, 2) := dX9_dropFirst_14
theorem ddX9_dropFirst_16 : decode mX9_dropFirst.2.1 16 = .ok (.iconst 0, 1) := dX9_dropFirst_16
theorem ddX9_dropFirst_17 : decode mX9_dropFirst.2.1 17 = .ok (.istore 5, 2) := dX9_dropFirst_17
theorem ddX9_dropFirst_19 : decode mX9_dropFirst.2.1 19 = .ok (.iload 5, 2) := dX9_dropFirst_19
theorem ddX9_dropFirst_21 : decode mX9_dropFirst.2.1 21 = .ok (.iload 4, 2) := dX9_dropFirst_21
theorem ddX9_dropFirst_23 : decode mX9_dropFirst.2.1 23 = .ok (.if_icmp .ge 85, 3) := dX9_dropFirst_23
theorem ddX9_dropFirst_26 : decode mX9_dropFirst.2.1 26 = .ok (.aload_n 0, 1) := dX9_dropFirst_26
theorem ddX9_dropFirst_27 : decode mX9_dropFirst.2.1 27 = .ok (.getfield 7, 3) := dX9_dropFirst_27
theorem ddX9_dropFirst_30 : decode mX9_dropFirst.2.1 30 = .ok (.iload_n 1, 1) := dX9_dropFirst_30
theorem ddX9_dropFirst_31 : decode mX9_dropFirst.2.1 31 = .ok (.sipush 192, 3) := dX9_dropFirst_31
theorem ddX9_dropFirst_34 : decode mX9_dropFirst.2.1 34 = .ok (.iadd, 1) := dX9_dropFirst_34
theorem ddX9_dropFirst_35 : decode mX9_dropFirst.2.1 35 = .ok (.bipush 8, 2) := dX9_dropFirst_35
theorem ddX9_dropFirst_37 : decode mX9_dropFirst.2.1 37 = .ok (.iload_n 2, 1) := dX9_dropFirst_37
theorem ddX9_dropFirst_38 : decode mX9_dropFirst.2.1 38 = .ok (.imul, 1) := dX9_dropFirst_38
theorem ddX9_dropFirst_39 : decode mX9_dropFirst.2.1 39 = .ok (.iadd, 1) := dX9_dropFirst_39
theorem ddX9_dropFirst_40 : decode mX9_dropFirst.2.1 40 = .ok (.iload 5, 2) := dX9_dropFirst_40
theorem ddX9_dropFirst_42 : decode mX9_dropFirst.2.1 42 = .ok (.iadd, 1) := dX9_dropFirst_42
theorem ddX9_dropFirst_43 : decode mX9_dropFirst.2.1 43 = .ok (.aload_n 0, 1) := dX9_dropFirst_43
theorem ddX9_dropFirst_44 : decode mX9_dropFirst.2.1 44 = .ok (.getfield 7, 3) := dX9_dropFirst_44
theorem ddX9_dropFirst_47 : decode mX9_dropFirst.2.1 47 = .ok (.iload_n 1, 1) := dX9_dropFirst_47
theorem ddX9_dropFirst_48 : decode mX9_dropFirst.2.1 48 = .ok (.sipush 192, 3) := dX9_dropFirst_48
theorem ddX9_dropFirst_51 : decode mX9_dropFirst.2.1 51 = .ok (.iadd, 1) := dX9_dropFirst_51
theorem ddX9_dropFirst_52 : decode mX9_dropFirst.2.1 52 = .ok (.bipush 8, 2) := dX9_dropFirst_52
theorem ddX9_dropFirst_54 : decode mX9_dropFirst.2.1 54 = .ok (.iload_n 2, 1) := dX9_dropFirst_54
theorem ddX9_dropFirst_55 : decode mX9_dropFirst.2.1 55 = .ok (.imul, 1) := dX9_dropFirst_55
theorem ddX9_dropFirst_56 : decode mX9_dropFirst.2.1 56 = .ok (.iadd, 1) := dX9_dropFirst_56
theorem ddX9_dropFirst_57 : decode mX9_dropFirst.2.1 57 = .ok (.iload 5, 2) := dX9_dropFirst_57
theorem ddX9_dropFirst_59 : decode mX9_dropFirst.2.1 59 = .ok (.iadd, 1) := dX9_dropFirst_59
theorem ddX9_dropFirst_60 : decode mX9_dropFirst.2.1 60 = .ok (.iload_n 3, 1) := dX9_dropFirst_60
theorem ddX9_dropFirst_61 : decode mX9_dropFirst.2.1 61 = .ok (.iadd, 1) := dX9_dropFirst_61
theorem ddX9_dropFirst_62 : decode mX9_dropFirst.2.1 62 = .ok (.iaload, 1) := dX9_dropFirst_62
theorem ddX9_dropFirst_63 : decode mX9_dropFirst.2.1 63 = .ok (.iastore, 1) := dX9_dropFirst_63
theorem ddX9_dropFirst_64 : decode mX9_dropFirst.2.1 64 = .ok (.aload_n 0, 1) := dX9_dropFirst_64
theorem ddX9_dropFirst_65 : decode mX9_dropFirst.2.1 65 = .ok (.getfield 7, 3) := dX9_dropFirst_65
theorem ddX9_dropFirst_68 : decode mX9_dropFirst.2.1 68 = .ok (.iload_n 1, 1) := dX9_dropFirst_68
theorem ddX9_dropFirst_69 : decode mX9_dropFirst.2.1 69 = .ok (.sipush 256, 3) := dX9_dropFirst_69
theorem ddX9_dropFirst_72 : decode mX9_dropFirst.2.1 72 = .ok (.iadd, 1) := dX9_dropFirst_72
theorem ddX9_dropFirst_73 : decode mX9_dropFirst.2.1 73 = .ok (.bipush 8, 2) := dX9_dropFirst_73
theorem ddX9_dropFirst_75 : decode mX9_dropFirst.2.1 75 = .ok (.iload_n 2, 1) := dX9_dropFirst_75
theorem ddX9_dropFirst_76 : decode mX9_dropFirst.2.1 76 = .ok (.imul, 1) := dX9_dropFirst_76
theorem ddX9_dropFirst_77 : decode mX9_dropFirst.2.1 77 = .ok (.iadd, 1) := dX9_dropFirst_77
theorem ddX9_dropFirst_78 : decode mX9_dropFirst.2.1 78 = .ok (.iload 5, 2) := dX9_dropFirst_78
theorem ddX9_dropFirst_80 : decode mX9_dropFirst.2.1 80 = .ok (.iadd, 1) := dX9_dropFirst_80
theorem ddX9_dropFirst_81 : decode mX9_dropFirst.2.1 81 = .ok (.aload_n 0, 1) := dX9_dropFirst_81
theorem ddX9_dropFirst_82 : decode mX9_dropFirst.2.1 82 = .ok (.getfield 7, 3) := dX9_dropFirst_82
theorem ddX9_dropFirst_85 : decode mX9_dropFirst.2.1 85 = .ok (.iload_n 1, 1) := dX9_dropFirst_85
theorem ddX9_dropFirst_86 : decode mX9_dropFirst.2.1 86 = .ok (.sipush 256, 3) := dX9_dropFirst_86
theorem ddX9_dropFirst_89 : decode mX9_dropFirst.2.1 89 = .ok (.iadd, 1) := dX9_dropFirst_89
theorem ddX9_dropFirst_90 : decode mX9_dropFirst.2.1 90 = .ok (.bipush 8, 2) := dX9_dropFirst_90
theorem ddX9_dropFirst_92 : decode mX9_dropFirst.2.1 92 = .ok (.iload_n 2, 1) := dX9_dropFirst_92
theorem ddX9_dropFirst_93 : decode mX9_dropFirst.2.1 93 = .ok (.imul, 1) := dX9_dropFirst_93
theorem ddX9_dropFirst_94 : decode mX9_dropFirst.2.1 94 = .ok (.iadd, 1) := dX9_dropFirst_94
theorem ddX9_dropFirst_95 : decode mX9_dropFirst.2.1 95 = .ok (.iload 5, 2) := dX9_dropFirst_95
theorem ddX9_dropFirst_97 : decode mX9_dropFirst.2.1 97 = .ok (.iadd, 1) := dX9_dropFirst_97
theorem ddX9_dropFirst_98 : decode mX9_dropFirst.2.1 98 = .ok (.iload_n 3, 1) := dX9_dropFirst_98
theorem ddX9_dropFirst_99 : decode mX9_dropFirst.2.1 99 = .ok (.iadd, 1) := dX9_dropFirst_99
theorem ddX9_dropFirst_100 : decode mX9_dropFirst.2.1 100 = .ok (.iaload, 1) := dX9_dropFirst_100
theorem ddX9_dropFirst_101 : decode mX9_dropFirst.2.1 101 = .ok (.iastore, 1) := dX9_dropFirst_101
theorem ddX9_dropFirst_102 : decode mX9_dropFirst.2.1 102 = .ok (.iinc 5 1, 3) := dX9_dropFirst_102
theorem ddX9_dropFirst_105 : decode mX9_dropFirst.2.1 105 = .ok (.goto (-86), 3) := dX9_dropFirst_105
theorem ddX9_dropFirst_108 : decode mX9_dropFirst.2.1 108 = .ok (.aload_n 0, 1) := dX9_dropFirst_108
theorem ddX9_dropFirst_109 : decode mX9_dropFirst.2.1 109 = .ok (.getfield 7, 3) := dX9_dropFirst_109
theorem ddX9_dropFirst_112 : decode mX9_dropFirst.2.1 112 = .ok (.iload_n 1, 1) := dX9_dropFirst_112
theorem ddX9_dropFirst_113 : decode mX9_dropFirst.2.1 113 = .ok (.sipush 184, 3) := dX9_dropFirst_113
theorem ddX9_dropFirst_116 : decode mX9_dropFirst.2.1 116 = .ok (.iadd, 1) := dX9_dropFirst_116
theorem ddX9_dropFirst_117 : decode mX9_dropFirst.2.1 117 = .ok (.iload_n 2, 1) := dX9_dropFirst_117
theorem ddX9_dropFirst_118 : decode mX9_dropFirst.2.1 118 = .ok (.iadd, 1) := dX9_dropFirst_118
theorem ddX9_dropFirst_119 : decode mX9_dropFirst.2.1 119 = .ok (.iload 4, 2) := dX9_dropFirst_119
theorem ddX9_dropFirst_121 : decode mX9_dropFirst.2.1 121 = .ok (.iastore, 1) := dX9_dropFirst_121
theorem ddX9_dropFirst_122 : decode mX9_dropFirst.2.1 122 = .ok (.return_, 1) := dX9_dropFirst_122
theorem ddX9_tell_0 : decode mX9_tell.2.1 0 = .ok (.aload_n 0, 1) := dX9_tell_0
theorem ddX9_tell_1 : decode mX9_tell.2.1 1 = .ok (.iload_n 1, 1) := dX9_tell_1
theorem ddX9_tell_2 : decode mX9_tell.2.1 2 = .ok (.iload_n 2, 1) := dX9_tell_2
theorem ddX9_tell_3 : decode mX9_tell.2.1 3 = .ok (.invokevirtual 63, 3) := dX9_tell_3
theorem ddX9_tell_6 : decode mX9_tell.2.1 6 = .ok (.istore_n 3, 1) := dX9_tell_6
theorem ddX9_tell_7 : decode mX9_tell.2.1 7 = .ok (.aload_n 0, 1) := dX9_tell_7
theorem ddX9_tell_8 : decode mX9_tell.2.1 8 = .ok (.getfield 7, 3) := dX9_tell_8
theorem ddX9_tell_11 : decode mX9_tell.2.1 11 = .ok (.iload_n 1, 1) := dX9_tell_11
theorem ddX9_tell_12 : decode mX9_tell.2.1 12 = .ok (.iconst 0, 1) := dX9_tell_12
theorem ddX9_tell_13 : decode mX9_tell.2.1 13 = .ok (.iadd, 1) := dX9_tell_13
theorem ddX9_tell_14 : decode mX9_tell.2.1 14 = .ok (.iaload, 1) := dX9_tell_14
theorem ddX9_tell_15 : decode mX9_tell.2.1 15 = .ok (.aload_n 0, 1) := dX9_tell_15
theorem ddX9_tell_16 : decode mX9_tell.2.1 16 = .ok (.iload_n 2, 1) := dX9_tell_16
theorem ddX9_tell_17 : decode mX9_tell.2.1 17 = .ok (.iconst 4, 1) := dX9_tell_17
theorem ddX9_tell_18 : decode mX9_tell.2.1 18 = .ok (.invokevirtual 52, 3) := dX9_tell_18
theorem ddX9_tell_21 : decode mX9_tell.2.1 21 = .ok (.iadd, 1) := dX9_tell_21
theorem ddX9_tell_22 : decode mX9_tell.2.1 22 = .ok (.istore 4, 2) := dX9_tell_22
theorem ddX9_tell_24 : decode mX9_tell.2.1 24 = .ok (.bipush 8, 2) := dX9_tell_24
theorem ddX9_tell_26 : decode mX9_tell.2.1 26 = .ok (.iload_n 2, 1) := dX9_tell_26
theorem ddX9_tell_27 : decode mX9_tell.2.1 27 = .ok (.imul, 1) := dX9_tell_27
theorem ddX9_tell_28 : decode mX9_tell.2.1 28 = .ok (.istore 5, 2) := dX9_tell_28
theorem ddX9_tell_30 : decode mX9_tell.2.1 30 = .ok (.aload_n 0, 1) := dX9_tell_30
theorem ddX9_tell_31 : decode mX9_tell.2.1 31 = .ok (.getfield 7, 3) := dX9_tell_31
theorem ddX9_tell_34 : decode mX9_tell.2.1 34 = .ok (.iload_n 1, 1) := dX9_tell_34
theorem ddX9_tell_35 : decode mX9_tell.2.1 35 = .ok (.sipush 184, 3) := dX9_tell_35
theorem ddX9_tell_38 : decode mX9_tell.2.1 38 = .ok (.iadd, 1) := dX9_tell_38
theorem ddX9_tell_39 : decode mX9_tell.2.1 39 = .ok (.iload_n 2, 1) := dX9_tell_39
theorem ddX9_tell_40 : decode mX9_tell.2.1 40 = .ok (.iadd, 1) := dX9_tell_40
theorem ddX9_tell_41 : decode mX9_tell.2.1 41 = .ok (.iaload, 1) := dX9_tell_41
theorem ddX9_tell_42 : decode mX9_tell.2.1 42 = .ok (.ifCond .le 55, 3) := dX9_tell_42
theorem ddX9_tell_45 : decode mX9_tell.2.1 45 = .ok (.aload_n 0, 1) := dX9_tell_45
theorem ddX9_tell_46 : decode mX9_tell.2.1 46 = .ok (.getfield 7, 3) := dX9_tell_46
theorem ddX9_tell_49 : decode mX9_tell.2.1 49 = .ok (.iload_n 1, 1) := dX9_tell_49
theorem ddX9_tell_50 : decode mX9_tell.2.1 50 = .ok (.sipush 192, 3) := dX9_tell_50
theorem ddX9_tell_53 : decode mX9_tell.2.1 53 = .ok (.iadd, 1) := dX9_tell_53
theorem ddX9_tell_54 : decode mX9_tell.2.1 54 = .ok (.iload 5, 2) := dX9_tell_54
theorem ddX9_tell_56 : decode mX9_tell.2.1 56 = .ok (.iadd, 1) := dX9_tell_56
theorem ddX9_tell_57 : decode mX9_tell.2.1 57 = .ok (.aload_n 0, 1) := dX9_tell_57
theorem ddX9_tell_58 : decode mX9_tell.2.1 58 = .ok (.getfield 7, 3) := dX9_tell_58
theorem ddX9_tell_61 : decode mX9_tell.2.1 61 = .ok (.iload_n 1, 1) := dX9_tell_61
theorem ddX9_tell_62 : decode mX9_tell.2.1 62 = .ok (.sipush 184, 3) := dX9_tell_62
theorem ddX9_tell_65 : decode mX9_tell.2.1 65 = .ok (.iadd, 1) := dX9_tell_65
theorem ddX9_tell_66 : decode mX9_tell.2.1 66 = .ok (.iload_n 2, 1) := dX9_tell_66
theorem ddX9_tell_67 : decode mX9_tell.2.1 67 = .ok (.iadd, 1) := dX9_tell_67
theorem ddX9_tell_68 : decode mX9_tell.2.1 68 = .ok (.iaload, 1) := dX9_tell_68
theorem ddX9_tell_69 : decode mX9_tell.2.1 69 = .ok (.iadd, 1) := dX9_tell_69
theorem ddX9_tell_70 : decode mX9_tell.2.1 70 = .ok (.iconst 1, 1) := dX9_tell_70
theorem ddX9_tell_71 : decode mX9_tell.2.1 71 = .ok (.isub, 1) := dX9_tell_71
theorem ddX9_tell_72 : decode mX9_tell.2.1 72 = .ok (.iaload, 1) := dX9_tell_72
theorem ddX9_tell_73 : decode mX9_tell.2.1 73 = .ok (.iload 4, 2) := dX9_tell_73
theorem ddX9_tell_75 : decode mX9_tell.2.1 75 = .ok (.if_icmp .lt 22, 3) := dX9_tell_75
theorem ddX9_tell_78 : decode mX9_tell.2.1 78 = .ok (.aload_n 0, 1) := dX9_tell_78
theorem ddX9_tell_79 : decode mX9_tell.2.1 79 = .ok (.getfield 7, 3) := dX9_tell_79
theorem ddX9_tell_82 : decode mX9_tell.2.1 82 = .ok (.iload_n 1, 1) := dX9_tell_82
theorem ddX9_tell_83 : decode mX9_tell.2.1 83 = .ok (.sipush 184, 3) := dX9_tell_83
theorem ddX9_tell_86 : decode mX9_tell.2.1 86 = .ok (.iadd, 1) := dX9_tell_86
theorem ddX9_tell_87 : decode mX9_tell.2.1 87 = .ok (.iload_n 2, 1) := dX9_tell_87
theorem ddX9_tell_88 : decode mX9_tell.2.1 88 = .ok (.iadd, 1) := dX9_tell_88
theorem ddX9_tell_89 : decode mX9_tell.2.1 89 = .ok (.dup2, 1) := dX9_tell_89
theorem ddX9_tell_90 : decode mX9_tell.2.1 90 = .ok (.iaload, 1) := dX9_tell_90
theorem ddX9_tell_91 : decode mX9_tell.2.1 91 = .ok (.iconst 1, 1) := dX9_tell_91
theorem ddX9_tell_92 : decode mX9_tell.2.1 92 = .ok (.isub, 1) := dX9_tell_92
theorem ddX9_tell_93 : decode mX9_tell.2.1 93 = .ok (.iastore, 1) := dX9_tell_93
theorem ddX9_tell_94 : decode mX9_tell.2.1 94 = .ok (.goto (-64), 3) := dX9_tell_94
theorem ddX9_tell_97 : decode mX9_tell.2.1 97 = .ok (.aload_n 0, 1) := dX9_tell_97
theorem ddX9_tell_98 : decode mX9_tell.2.1 98 = .ok (.iload_n 2, 1) := dX9_tell_98
theorem ddX9_tell_99 : decode mX9_tell.2.1 99 = .ok (.iconst 5, 1) := dX9_tell_99
theorem ddX9_tell_100 : decode mX9_tell.2.1 100 = .ok (.invokevirtual 52, 3) := dX9_tell_100
theorem ddX9_tell_103 : decode mX9_tell.2.1 103 = .ok (.iconst 1, 1) := dX9_tell_103
theorem ddX9_tell_104 : decode mX9_tell.2.1 104 = .ok (.if_icmp .ne 71, 3) := dX9_tell_104
theorem ddX9_tell_107 : decode mX9_tell.2.1 107 = .ok (.iconst 0, 1) := dX9_tell_107
theorem ddX9_tell_108 : decode mX9_tell.2.1 108 = .ok (.istore 6, 2) := dX9_tell_108
theorem ddX9_tell_110 : decode mX9_tell.2.1 110 = .ok (.iconst 0, 1) := dX9_tell_110
theorem ddX9_tell_111 : decode mX9_tell.2.1 111 = .ok (.istore 7, 2) := dX9_tell_111
theorem ddX9_tell_113 : decode mX9_tell.2.1 113 = .ok (.iload 7, 2) := dX9_tell_113
theorem ddX9_tell_115 : decode mX9_tell.2.1 115 = .ok (.aload_n 0, 1) := dX9_tell_115
theorem ddX9_tell_116 : decode mX9_tell.2.1 116 = .ok (.getfield 7, 3) := dX9_tell_116
theorem ddX9_tell_119 : decode mX9_tell.2.1 119 = .ok (.iload_n 1, 1) := dX9_tell_119
theorem ddX9_tell_120 : decode mX9_tell.2.1 120 = .ok (.sipush 184, 3) := dX9_tell_120
theorem ddX9_tell_123 : decode mX9_tell.2.1 123 = .ok (.iadd, 1) := dX9_tell_123
theorem ddX9_tell_124 : decode mX9_tell.2.1 124 = .ok (.iload_n 2, 1) := dX9_tell_124
theorem ddX9_tell_125 : decode mX9_tell.2.1 125 = .ok (.iadd, 1) := dX9_tell_125
theorem ddX9_tell_126 : decode mX9_tell.2.1 126 = .ok (.iaload, 1) := dX9_tell_126
theorem ddX9_tell_127 : decode mX9_tell.2.1 127 = .ok (.if_icmp .ge 40, 3) := dX9_tell_127
theorem ddX9_tell_130 : decode mX9_tell.2.1 130 = .ok (.aload_n 0, 1) := dX9_tell_130
theorem ddX9_tell_131 : decode mX9_tell.2.1 131 = .ok (.getfield 7, 3) := dX9_tell_131
theorem ddX9_tell_134 : decode mX9_tell.2.1 134 = .ok (.iload_n 1, 1) := dX9_tell_134
theorem ddX9_tell_135 : decode mX9_tell.2.1 135 = .ok (.sipush 256, 3) := dX9_tell_135
theorem ddX9_tell_138 : decode mX9_tell.2.1 138 = .ok (.iadd, 1) := dX9_tell_138
theorem ddX9_tell_139 : decode mX9_tell.2.1 139 = .ok (.iload 5, 2) := dX9_tell_139
theorem ddX9_tell_141 : decode mX9_tell.2.1 141 = .ok (.iadd, 1) := dX9_tell_141
theorem ddX9_tell_142 : decode mX9_tell.2.1 142 = .ok (.iload 7, 2) := dX9_tell_142
theorem ddX9_tell_144 : decode mX9_tell.2.1 144 = .ok (.iadd, 1) := dX9_tell_144
theorem ddX9_tell_145 : decode mX9_tell.2.1 145 = .ok (.iaload, 1) := dX9_tell_145
theorem ddX9_tell_146 : decode mX9_tell.2.1 146 = .ok (.iload_n 3, 1) := dX9_tell_146
theorem ddX9_tell_147 : decode mX9_tell.2.1 147 = .ok (.if_icmp .ne 8, 3) := dX9_tell_147
theorem ddX9_tell_150 : decode mX9_tell.2.1 150 = .ok (.iload 6, 2) := dX9_tell_150
theorem ddX9_tell_152 : decode mX9_tell.2.1 152 = .ok (.goto 7, 3) := dX9_tell_152
theorem ddX9_tell_155 : decode mX9_tell.2.1 155 = .ok (.iload 7, 2) := dX9_tell_155
theorem ddX9_tell_157 : decode mX9_tell.2.1 157 = .ok (.iconst 1, 1) := dX9_tell_157
theorem ddX9_tell_158 : decode mX9_tell.2.1 158 = .ok (.iadd, 1) := dX9_tell_158
theorem ddX9_tell_159 : decode mX9_tell.2.1 159 = .ok (.istore 6, 2) := dX9_tell_159
theorem ddX9_tell_161 : decode mX9_tell.2.1 161 = .ok (.iinc 7 1, 3) := dX9_tell_161
theorem ddX9_tell_164 : decode mX9_tell.2.1 164 = .ok (.goto (-51), 3) := dX9_tell_164
theorem ddX9_tell_167 : decode mX9_tell.2.1 167 = .ok (.aload_n 0, 1) := dX9_tell_167
theorem ddX9_tell_168 : decode mX9_tell.2.1 168 = .ok (.iload_n 1, 1) := dX9_tell_168
theorem ddX9_tell_169 : decode mX9_tell.2.1 169 = .ok (.iload_n 2, 1) := dX9_tell_169
theorem ddX9_tell_170 : decode mX9_tell.2.1 170 = .ok (.iload 6, 2) := dX9_tell_170
theorem ddX9_tell_172 : decode mX9_tell.2.1 172 = .ok (.invokevirtual 66, 3) := dX9_tell_172
theorem ddX9_tell_175 : decode mX9_tell.2.1 175 = .ok (.aload_n 0, 1) := dX9_tell_175
theorem ddX9_tell_176 : decode mX9_tell.2.1 176 = .ok (.getfield 7, 3) := dX9_tell_176
theorem ddX9_tell_179 : decode mX9_tell.2.1 179 = .ok (.iload_n 1, 1) := dX9_tell_179
theorem ddX9_tell_180 : decode mX9_tell.2.1 180 = .ok (.sipush 184, 3) := dX9_tell_180
theorem ddX9_tell_183 : decode mX9_tell.2.1 183 = .ok (.iadd, 1) := dX9_tell_183
theorem ddX9_tell_184 : decode mX9_tell.2.1 184 = .ok (.iload_n 2, 1) := dX9_tell_184
theorem ddX9_tell_185 : decode mX9_tell.2.1 185 = .ok (.iadd, 1) := dX9_tell_185
theorem ddX9_tell_186 : decode mX9_tell.2.1 186 = .ok (.iaload, 1) := dX9_tell_186
theorem ddX9_tell_187 : decode mX9_tell.2.1 187 = .ok (.bipush 8, 2) := dX9_tell_187
theorem ddX9_tell_189 : decode mX9_tell.2.1 189 = .ok (.if_icmp .ne 10, 3) := dX9_tell_189
theorem ddX9_tell_192 : decode mX9_tell.2.1 192 = .ok (.aload_n 0, 1) := dX9_tell_192
theorem ddX9_tell_193 : decode mX9_tell.2.1 193 = .ok (.iload_n 1, 1) := dX9_tell_193
theorem ddX9_tell_194 : decode mX9_tell.2.1 194 = .ok (.iload_n 2, 1) := dX9_tell_194
theorem ddX9_tell_195 : decode mX9_tell.2.1 195 = .ok (.iconst 1, 1) := dX9_tell_195
theorem ddX9_tell_196 : decode mX9_tell.2.1 196 = .ok (.invokevirtual 66, 3) := dX9_tell_196
theorem ddX9_tell_199 : decode mX9_tell.2.1 199 = .ok (.aload_n 0, 1) := dX9_tell_199
theorem ddX9_tell_200 : decode mX9_tell.2.1 200 = .ok (.getfield 7, 3) := dX9_tell_200
theorem ddX9_tell_203 : decode mX9_tell.2.1 203 = .ok (.iload_n 1, 1) := dX9_tell_203
theorem ddX9_tell_204 : decode mX9_tell.2.1 204 = .ok (.sipush 184, 3) := dX9_tell_204
theorem ddX9_tell_207 : decode mX9_tell.2.1 207 = .ok (.iadd, 1) := dX9_tell_207
theorem ddX9_tell_208 : decode mX9_tell.2.1 208 = .ok (.iload_n 2, 1) := dX9_tell_208
theorem ddX9_tell_209 : decode mX9_tell.2.1 209 = .ok (.iadd, 1) := dX9_tell_209
theorem ddX9_tell_210 : decode mX9_tell.2.1 210 = .ok (.iaload, 1) := dX9_tell_210
theorem ddX9_tell_211 : decode mX9_tell.2.1 211 = .ok (.istore 6, 2) := dX9_tell_211
theorem ddX9_tell_213 : decode mX9_tell.2.1 213 = .ok (.aload_n 0, 1) := dX9_tell_213
theorem ddX9_tell_214 : decode mX9_tell.2.1 214 = .ok (.getfield 7, 3) := dX9_tell_214
theorem ddX9_tell_217 : decode mX9_tell.2.1 217 = .ok (.iload_n 1, 1) := dX9_tell_217
theorem ddX9_tell_218 : decode mX9_tell.2.1 218 = .ok (.sipush 192, 3) := dX9_tell_218
theorem ddX9_tell_221 : decode mX9_tell.2.1 221 = .ok (.iadd, 1) := dX9_tell_221
theorem ddX9_tell_222 : decode mX9_tell.2.1 222 = .ok (.iload 5, 2) := dX9_tell_222
theorem ddX9_tell_224 : decode mX9_tell.2.1 224 = .ok (.iadd, 1) := dX9_tell_224
theorem ddX9_tell_225 : decode mX9_tell.2.1 225 = .ok (.iload 6, 2) := dX9_tell_225
theorem ddX9_tell_227 : decode mX9_tell.2.1 227 = .ok (.iadd, 1) := dX9_tell_227
theorem ddX9_tell_228 : decode mX9_tell.2.1 228 = .ok (.iload 4, 2) := dX9_tell_228
theorem ddX9_tell_230 : decode mX9_tell.2.1 230 = .ok (.iastore, 1) := dX9_tell_230
theorem ddX9_tell_231 : decode mX9_tell.2.1 231 = .ok (.aload_n 0, 1) := dX9_tell_231
theorem ddX9_tell_232 : decode mX9_tell.2.1 232 = .ok (.getfield 7, 3) := dX9_tell_232
theorem ddX9_tell_235 : decode mX9_tell.2.1 235 = .ok (.iload_n 1, 1) := dX9_tell_235
theorem ddX9_tell_236 : decode mX9_tell.2.1 236 = .ok (.sipush 256, 3) := dX9_tell_236
theorem ddX9_tell_239 : decode mX9_tell.2.1 239 = .ok (.iadd, 1) := dX9_tell_239
theorem ddX9_tell_240 : decode mX9_tell.2.1 240 = .ok (.iload 5, 2) := dX9_tell_240
theorem ddX9_tell_242 : decode mX9_tell.2.1 242 = .ok (.iadd, 1) := dX9_tell_242
theorem ddX9_tell_243 : decode mX9_tell.2.1 243 = .ok (.iload 6, 2) := dX9_tell_243
theorem ddX9_tell_245 : decode mX9_tell.2.1 245 = .ok (.iadd, 1) := dX9_tell_245
theorem ddX9_tell_246 : decode mX9_tell.2.1 246 = .ok (.iload_n 3, 1) := dX9_tell_246
theorem ddX9_tell_247 : decode mX9_tell.2.1 247 = .ok (.iastore, 1) := dX9_tell_247
theorem ddX9_tell_248 : decode mX9_tell.2.1 248 = .ok (.aload_n 0, 1) := dX9_tell_248
theorem ddX9_tell_249 : decode mX9_tell.2.1 249 = .ok (.getfield 7, 3) := dX9_tell_249
theorem ddX9_tell_252 : decode mX9_tell.2.1 252 = .ok (.iload_n 1, 1) := dX9_tell_252
theorem ddX9_tell_253 : decode mX9_tell.2.1 253 = .ok (.sipush 184, 3) := dX9_tell_253
theorem ddX9_tell_256 : decode mX9_tell.2.1 256 = .ok (.iadd, 1) := dX9_tell_256
theorem ddX9_tell_257 : decode mX9_tell.2.1 257 = .ok (.iload_n 2, 1) := dX9_tell_257
theorem ddX9_tell_258 : decode mX9_tell.2.1 258 = .ok (.iadd, 1) := dX9_tell_258
theorem ddX9_tell_259 : decode mX9_tell.2.1 259 = .ok (.iload 6, 2) := dX9_tell_259
theorem ddX9_tell_261 : decode mX9_tell.2.1 261 = .ok (.iconst 1, 1) := dX9_tell_261
theorem ddX9_tell_262 : decode mX9_tell.2.1 262 = .ok (.iadd, 1) := dX9_tell_262
theorem ddX9_tell_263 : decode mX9_tell.2.1 263 = .ok (.iastore, 1) := dX9_tell_263
theorem ddX9_tell_264 : decode mX9_tell.2.1 264 = .ok (.return_, 1) := dX9_tell_264
theorem ddX9_tellAll_0 : decode mX9_tellAll.2.1 0 = .ok (.iconst 0, 1) := dX9_tellAll_0
theorem ddX9_tellAll_1 : decode mX9_tellAll.2.1 1 = .ok (.istore_n 2, 1) := dX9_tellAll_1
theorem ddX9_tellAll_2 : decode mX9_tellAll.2.1 2 = .ok (.iload_n 2, 1) := dX9_tellAll_2
theorem ddX9_tellAll_3 : decode mX9_tellAll.2.1 3 = .ok (.aload_n 0, 1) := dX9_tellAll_3
theorem ddX9_tellAll_4 : decode mX9_tellAll.2.1 4 = .ok (.getfield 45, 3) := dX9_tellAll_4
theorem ddX9_tellAll_7 : decode mX9_tellAll.2.1 7 = .ok (.if_icmp .ge 15, 3) := dX9_tellAll_7
theorem ddX9_tellAll_10 : decode mX9_tellAll.2.1 10 = .ok (.aload_n 0, 1) := dX9_tellAll_10
theorem ddX9_tellAll_11 : decode mX9_tellAll.2.1 11 = .ok (.iload_n 1, 1) := dX9_tellAll_11
theorem ddX9_tellAll_12 : decode mX9_tellAll.2.1 12 = .ok (.iload_n 2, 1) := dX9_tellAll_12
theorem ddX9_tellAll_13 : decode mX9_tellAll.2.1 13 = .ok (.invokevirtual 70, 3) := dX9_tellAll_13
theorem ddX9_tellAll_16 : decode mX9_tellAll.2.1 16 = .ok (.iinc 2 1, 3) := dX9_tellAll_16
theorem ddX9_tellAll_19 : decode mX9_tellAll.2.1 19 = .ok (.goto (-17), 3) := dX9_tellAll_19
theorem ddX9_tellAll_22 : decode mX9_tellAll.2.1 22 = .ok (.return_, 1) := dX9_tellAll_22
theorem ddX9_dropHand_0 : decode mX9_dropHand.2.1 0 = .ok (.aload_n 0, 1) := dX9_dropHand_0
theorem ddX9_dropHand_1 : decode mX9_dropHand.2.1 1 = .ok (.getfield 7, 3) := dX9_dropHand_1
theorem ddX9_dropHand_4 : decode mX9_dropHand.2.1 4 = .ok (.iload_n 1, 1) := dX9_dropHand_4
theorem ddX9_dropHand_5 : decode mX9_dropHand.2.1 5 = .ok (.iconst 3, 1) := dX9_dropHand_5
theorem ddX9_dropHand_6 : decode mX9_dropHand.2.1 6 = .ok (.iadd, 1) := dX9_dropHand_6
theorem ddX9_dropHand_7 : decode mX9_dropHand.2.1 7 = .ok (.dup2, 1) := dX9_dropHand_7
theorem ddX9_dropHand_8 : decode mX9_dropHand.2.1 8 = .ok (.iaload, 1) := dX9_dropHand_8
theorem ddX9_dropHand_9 : decode mX9_dropHand.2.1 9 = .ok (.iconst 1, 1) := dX9_dropHand_9
theorem ddX9_dropHand_10 : decode mX9_dropHand.2.1 10 = .ok (.isub, 1) := dX9_dropHand_10
theorem ddX9_dropHand_11 : decode mX9_dropHand.2.1 11 = .ok (.iastore, 1) := dX9_dropHand_11
theorem ddX9_dropHand_12 : decode mX9_dropHand.2.1 12 = .ok (.iconst 0, 1) := dX9_dropHand_12
theorem ddX9_dropHand_13 : decode mX9_dropHand.2.1 13 = .ok (.istore_n 2, 1) := dX9_dropHand_13
theorem ddX9_dropHand_14 : decode mX9_dropHand.2.1 14 = .ok (.iload_n 2, 1) := dX9_dropHand_14
theorem ddX9_dropHand_15 : decode mX9_dropHand.2.1 15 = .ok (.aload_n 0, 1) := dX9_dropHand_15
theorem ddX9_dropHand_16 : decode mX9_dropHand.2.1 16 = .ok (.getfield 7, 3) := dX9_dropHand_16
theorem ddX9_dropHand_19 : decode mX9_dropHand.2.1 19 = .ok (.iload_n 1, 1) := dX9_dropHand_19
theorem ddX9_dropHand_20 : decode mX9_dropHand.2.1 20 = .ok (.iconst 3, 1) := dX9_dropHand_20
theorem ddX9_dropHand_21 : decode mX9_dropHand.2.1 21 = .ok (.iadd, 1) := dX9_dropHand_21
theorem ddX9_dropHand_22 : decode mX9_dropHand.2.1 22 = .ok (.iaload, 1) := dX9_dropHand_22
theorem ddX9_dropHand_23 : decode mX9_dropHand.2.1 23 = .ok (.if_icmp .ge 87, 3) := dX9_dropHand_23
theorem ddX9_dropHand_26 : decode mX9_dropHand.2.1 26 = .ok (.aload_n 0, 1) := dX9_dropHand_26
theorem ddX9_dropHand_27 : decode mX9_dropHand.2.1 27 = .ok (.getfield 7, 3) := dX9_dropHand_27
theorem ddX9_dropHand_30 : decode mX9_dropHand.2.1 30 = .ok (.iload_n 1, 1) := dX9_dropHand_30
theorem ddX9_dropHand_31 : decode mX9_dropHand.2.1 31 = .ok (.sipush 320, 3) := dX9_dropHand_31
theorem ddX9_dropHand_34 : decode mX9_dropHand.2.1 34 = .ok (.iadd, 1) := dX9_dropHand_34
theorem ddX9_dropHand_35 : decode mX9_dropHand.2.1 35 = .ok (.iload_n 2, 1) := dX9_dropHand_35
theorem ddX9_dropHand_36 : decode mX9_dropHand.2.1 36 = .ok (.iadd, 1) := dX9_dropHand_36
theorem ddX9_dropHand_37 : decode mX9_dropHand.2.1 37 = .ok (.aload_n 0, 1) := dX9_dropHand_37
theorem ddX9_dropHand_38 : decode mX9_dropHand.2.1 38 = .ok (.getfield 7, 3) := dX9_dropHand_38
theorem ddX9_dropHand_41 : decode mX9_dropHand.2.1 41 = .ok (.iload_n 1, 1) := dX9_dropHand_41
theorem ddX9_dropHand_42 : decode mX9_dropHand.2.1 42 = .ok (.sipush 320, 3) := dX9_dropHand_42
theorem ddX9_dropHand_45 : decode mX9_dropHand.2.1 45 = .ok (.iadd, 1) := dX9_dropHand_45
theorem ddX9_dropHand_46 : decode mX9_dropHand.2.1 46 = .ok (.iload_n 2, 1) := dX9_dropHand_46
theorem ddX9_dropHand_47 : decode mX9_dropHand.2.1 47 = .ok (.iadd, 1) := dX9_dropHand_47
theorem ddX9_dropHand_48 : decode mX9_dropHand.2.1 48 = .ok (.iconst 1, 1) := dX9_dropHand_48
theorem ddX9_dropHand_49 : decode mX9_dropHand.2.1 49 = .ok (.iadd, 1) := dX9_dropHand_49
theorem ddX9_dropHand_50 : decode mX9_dropHand.2.1 50 = .ok (.iaload, 1) := dX9_dropHand_50
theorem ddX9_dropHand_51 : decode mX9_dropHand.2.1 51 = .ok (.iastore, 1) := dX9_dropHand_51
theorem ddX9_dropHand_52 : decode mX9_dropHand.2.1 52 = .ok (.aload_n 0, 1) := dX9_dropHand_52
theorem ddX9_dropHand_53 : decode mX9_dropHand.2.1 53 = .ok (.getfield 7, 3) := dX9_dropHand_53
theorem ddX9_dropHand_56 : decode mX9_dropHand.2.1 56 = .ok (.iload_n 1, 1) := dX9_dropHand_56
theorem ddX9_dropHand_57 : decode mX9_dropHand.2.1 57 = .ok (.sipush 328, 3) := dX9_dropHand_57
theorem ddX9_dropHand_60 : decode mX9_dropHand.2.1 60 = .ok (.iadd, 1) := dX9_dropHand_60
theorem ddX9_dropHand_61 : decode mX9_dropHand.2.1 61 = .ok (.iload_n 2, 1) := dX9_dropHand_61
theorem ddX9_dropHand_62 : decode mX9_dropHand.2.1 62 = .ok (.iadd, 1) := dX9_dropHand_62
theorem ddX9_dropHand_63 : decode mX9_dropHand.2.1 63 = .ok (.aload_n 0, 1) := dX9_dropHand_63
theorem ddX9_dropHand_64 : decode mX9_dropHand.2.1 64 = .ok (.getfield 7, 3) := dX9_dropHand_64
theorem ddX9_dropHand_67 : decode mX9_dropHand.2.1 67 = .ok (.iload_n 1, 1) := dX9_dropHand_67
theorem ddX9_dropHand_68 : decode mX9_dropHand.2.1 68 = .ok (.sipush 328, 3) := dX9_dropHand_68
theorem ddX9_dropHand_71 : decode mX9_dropHand.2.1 71 = .ok (.iadd, 1) := dX9_dropHand_71
theorem ddX9_dropHand_72 : decode mX9_dropHand.2.1 72 = .ok (.iload_n 2, 1) := dX9_dropHand_72
theorem ddX9_dropHand_73 : decode mX9_dropHand.2.1 73 = .ok (.iadd, 1) := dX9_dropHand_73
theorem ddX9_dropHand_74 : decode mX9_dropHand.2.1 74 = .ok (.iconst 1, 1) := dX9_dropHand_74
theorem ddX9_dropHand_75 : decode mX9_dropHand.2.1 75 = .ok (.iadd, 1) := dX9_dropHand_75
theorem ddX9_dropHand_76 : decode mX9_dropHand.2.1 76 = .ok (.iaload, 1) := dX9_dropHand_76
theorem ddX9_dropHand_77 : decode mX9_dropHand.2.1 77 = .ok (.iastore, 1) := dX9_dropHand_77
theorem ddX9_dropHand_78 : decode mX9_dropHand.2.1 78 = .ok (.aload_n 0, 1) := dX9_dropHand_78
theorem ddX9_dropHand_79 : decode mX9_dropHand.2.1 79 = .ok (.getfield 7, 3) := dX9_dropHand_79
theorem ddX9_dropHand_82 : decode mX9_dropHand.2.1 82 = .ok (.iload_n 1, 1) := dX9_dropHand_82
theorem ddX9_dropHand_83 : decode mX9_dropHand.2.1 83 = .ok (.sipush 336, 3) := dX9_dropHand_83
theorem ddX9_dropHand_86 : decode mX9_dropHand.2.1 86 = .ok (.iadd, 1) := dX9_dropHand_86
theorem ddX9_dropHand_87 : decode mX9_dropHand.2.1 87 = .ok (.iload_n 2, 1) := dX9_dropHand_87
theorem ddX9_dropHand_88 : decode mX9_dropHand.2.1 88 = .ok (.iadd, 1) := dX9_dropHand_88
theorem ddX9_dropHand_89 : decode mX9_dropHand.2.1 89 = .ok (.aload_n 0, 1) := dX9_dropHand_89
theorem ddX9_dropHand_90 : decode mX9_dropHand.2.1 90 = .ok (.getfield 7, 3) := dX9_dropHand_90
theorem ddX9_dropHand_93 : decode mX9_dropHand.2.1 93 = .ok (.iload_n 1, 1) := dX9_dropHand_93
theorem ddX9_dropHand_94 : decode mX9_dropHand.2.1 94 = .ok (.sipush 336, 3) := dX9_dropHand_94
theorem ddX9_dropHand_97 : decode mX9_dropHand.2.1 97 = .ok (.iadd, 1) := dX9_dropHand_97
theorem ddX9_dropHand_98 : decode mX9_dropHand.2.1 98 = .ok (.iload_n 2, 1) := dX9_dropHand_98
theorem ddX9_dropHand_99 : decode mX9_dropHand.2.1 99 = .ok (.iadd, 1) := dX9_dropHand_99
theorem ddX9_dropHand_100 : decode mX9_dropHand.2.1 100 = .ok (.iconst 1, 1) := dX9_dropHand_100
theorem ddX9_dropHand_101 : decode mX9_dropHand.2.1 101 = .ok (.iadd, 1) := dX9_dropHand_101
theorem ddX9_dropHand_102 : decode mX9_dropHand.2.1 102 = .ok (.iaload, 1) := dX9_dropHand_102
theorem ddX9_dropHand_103 : decode mX9_dropHand.2.1 103 = .ok (.iastore, 1) := dX9_dropHand_103
theorem ddX9_dropHand_104 : decode mX9_dropHand.2.1 104 = .ok (.iinc 2 1, 3) := dX9_dropHand_104
theorem ddX9_dropHand_107 : decode mX9_dropHand.2.1 107 = .ok (.goto (-93), 3) := dX9_dropHand_107
theorem ddX9_dropHand_110 : decode mX9_dropHand.2.1 110 = .ok (.return_, 1) := dX9_dropHand_110
theorem ddX9_waits_0 : decode mX9_waits.2.1 0 = .ok (.aload_n 0, 1) := dX9_waits_0
theorem ddX9_waits_1 : decode mX9_waits.2.1 1 = .ok (.getfield 7, 3) := dX9_waits_1
theorem ddX9_waits_4 : decode mX9_waits.2.1 4 = .ok (.iload_n 1, 1) := dX9_waits_4
theorem ddX9_waits_5 : decode mX9_waits.2.1 5 = .ok (.iconst 3, 1) := dX9_waits_5
theorem ddX9_waits_6 : decode mX9_waits.2.1 6 = .ok (.iadd, 1) := dX9_waits_6
theorem ddX9_waits_7 : decode mX9_waits.2.1 7 = .ok (.iaload, 1) := dX9_waits_7
theorem ddX9_waits_8 : decode mX9_waits.2.1 8 = .ok (.ifCond .le 16, 3) := dX9_waits_8
theorem ddX9_waits_11 : decode mX9_waits.2.1 11 = .ok (.aload_n 0, 1) := dX9_waits_11
theorem ddX9_waits_12 : decode mX9_waits.2.1 12 = .ok (.getfield 7, 3) := dX9_waits_12
theorem ddX9_waits_15 : decode mX9_waits.2.1 15 = .ok (.iload_n 1, 1) := dX9_waits_15
theorem ddX9_waits_16 : decode mX9_waits.2.1 16 = .ok (.sipush 320, 3) := dX9_waits_16
theorem ddX9_waits_19 : decode mX9_waits.2.1 19 = .ok (.iadd, 1) := dX9_waits_19
theorem ddX9_waits_20 : decode mX9_waits.2.1 20 = .ok (.iaload, 1) := dX9_waits_20
theorem ddX9_waits_21 : decode mX9_waits.2.1 21 = .ok (.goto 4, 3) := dX9_waits_21
theorem ddX9_waits_24 : decode mX9_waits.2.1 24 = .ok (.iconst (-1), 1) := dX9_waits_24
theorem ddX9_waits_25 : decode mX9_waits.2.1 25 = .ok (.istore_n 2, 1) := dX9_waits_25
theorem ddX9_waits_26 : decode mX9_waits.2.1 26 = .ok (.iconst 0, 1) := dX9_waits_26
theorem ddX9_waits_27 : decode mX9_waits.2.1 27 = .ok (.istore_n 3, 1) := dX9_waits_27
theorem ddX9_waits_28 : decode mX9_waits.2.1 28 = .ok (.iload_n 3, 1) := dX9_waits_28
theorem ddX9_waits_29 : decode mX9_waits.2.1 29 = .ok (.aload_n 0, 1) := dX9_waits_29
theorem ddX9_waits_30 : decode mX9_waits.2.1 30 = .ok (.getfield 45, 3) := dX9_waits_30
theorem ddX9_waits_33 : decode mX9_waits.2.1 33 = .ok (.if_icmp .ge 59, 3) := dX9_waits_33
theorem ddX9_waits_36 : decode mX9_waits.2.1 36 = .ok (.aload_n 0, 1) := dX9_waits_36
theorem ddX9_waits_37 : decode mX9_waits.2.1 37 = .ok (.getfield 7, 3) := dX9_waits_37
theorem ddX9_waits_40 : decode mX9_waits.2.1 40 = .ok (.iload_n 1, 1) := dX9_waits_40
theorem ddX9_waits_41 : decode mX9_waits.2.1 41 = .ok (.sipush 192, 3) := dX9_waits_41
theorem ddX9_waits_44 : decode mX9_waits.2.1 44 = .ok (.iadd, 1) := dX9_waits_44
theorem ddX9_waits_45 : decode mX9_waits.2.1 45 = .ok (.bipush 8, 2) := dX9_waits_45
theorem ddX9_waits_47 : decode mX9_waits.2.1 47 = .ok (.iload_n 3, 1) := dX9_waits_47
theorem ddX9_waits_48 : decode mX9_waits.2.1 48 = .ok (.imul, 1) := dX9_waits_48
theorem ddX9_waits_49 : decode mX9_waits.2.1 49 = .ok (.iadd, 1) := dX9_waits_49
theorem ddX9_waits_50 : decode mX9_waits.2.1 50 = .ok (.iaload, 1) := dX9_waits_50
theorem ddX9_waits_51 : decode mX9_waits.2.1 51 = .ok (.istore 4, 2) := dX9_waits_51
theorem ddX9_waits_53 : decode mX9_waits.2.1 53 = .ok (.aload_n 0, 1) := dX9_waits_53
theorem ddX9_waits_54 : decode mX9_waits.2.1 54 = .ok (.getfield 7, 3) := dX9_waits_54
theorem ddX9_waits_57 : decode mX9_waits.2.1 57 = .ok (.iload_n 1, 1) := dX9_waits_57
theorem ddX9_waits_58 : decode mX9_waits.2.1 58 = .ok (.sipush 184, 3) := dX9_waits_58
theorem ddX9_waits_61 : decode mX9_waits.2.1 61 = .ok (.iadd, 1) := dX9_waits_61
theorem ddX9_waits_62 : decode mX9_waits.2.1 62 = .ok (.iload_n 3, 1) := dX9_waits_62
theorem ddX9_waits_63 : decode mX9_waits.2.1 63 = .ok (.iadd, 1) := dX9_waits_63
theorem ddX9_waits_64 : decode mX9_waits.2.1 64 = .ok (.iaload, 1) := dX9_waits_64
theorem ddX9_waits_65 : decode mX9_waits.2.1 65 = .ok (.ifCond .le 19, 3) := dX9_waits_65
theorem ddX9_waits_68 : decode mX9_waits.2.1 68 = .ok (.iload_n 2, 1) := dX9_waits_68
theorem ddX9_waits_69 : decode mX9_waits.2.1 69 = .ok (.iconst (-1), 1) := dX9_waits_69
theorem ddX9_waits_70 : decode mX9_waits.2.1 70 = .ok (.if_icmp .eq 9, 3) := dX9_waits_70
theorem ddX9_waits_73 : decode mX9_waits.2.1 73 = .ok (.iload 4, 2) := dX9_waits_73
theorem ddX9_waits_75 : decode mX9_waits.2.1 75 = .ok (.iload_n 2, 1) := dX9_waits_75
theorem ddX9_waits_76 : decode mX9_waits.2.1 76 = .ok (.if_icmp .ge 8, 3) := dX9_waits_76
theorem ddX9_waits_79 : decode mX9_waits.2.1 79 = .ok (.iload 4, 2) := dX9_waits_79
theorem ddX9_waits_81 : decode mX9_waits.2.1 81 = .ok (.goto 4, 3) := dX9_waits_81
theorem ddX9_waits_84 : decode mX9_waits.2.1 84 = .ok (.iload_n 2, 1) := dX9_waits_84
theorem ddX9_waits_85 : decode mX9_waits.2.1 85 = .ok (.istore_n 2, 1) := dX9_waits_85
theorem ddX9_waits_86 : decode mX9_waits.2.1 86 = .ok (.iinc 3 1, 3) := dX9_waits_86
theorem ddX9_waits_89 : decode mX9_waits.2.1 89 = .ok (.goto (-61), 3) := dX9_waits_89
theorem ddX9_waits_92 : decode mX9_waits.2.1 92 = .ok (.iload_n 2, 1) := dX9_waits_92
theorem ddX9_waits_93 : decode mX9_waits.2.1 93 = .ok (.ireturn, 1) := dX9_waits_93
theorem ddX9_change_0 : decode mX9_change.2.1 0 = .ok (.aload_n 0, 1) := dX9_change_0
theorem ddX9_change_1 : decode mX9_change.2.1 1 = .ok (.getfield 7, 3) := dX9_change_1
theorem ddX9_change_4 : decode mX9_change.2.1 4 = .ok (.iload_n 1, 1) := dX9_change_4
theorem ddX9_change_5 : decode mX9_change.2.1 5 = .ok (.iconst 0, 1) := dX9_change_5
theorem ddX9_change_6 : decode mX9_change.2.1 6 = .ok (.iadd, 1) := dX9_change_6
theorem ddX9_change_7 : decode mX9_change.2.1 7 = .ok (.iaload, 1) := dX9_change_7
theorem ddX9_change_8 : decode mX9_change.2.1 8 = .ok (.istore 4, 2) := dX9_change_8
theorem ddX9_change_10 : decode mX9_change.2.1 10 = .ok (.aload_n 0, 1) := dX9_change_10
theorem ddX9_change_11 : decode mX9_change.2.1 11 = .ok (.getfield 7, 3) := dX9_change_11
theorem ddX9_change_14 : decode mX9_change.2.1 14 = .ok (.iload_n 1, 1) := dX9_change_14
theorem ddX9_change_15 : decode mX9_change.2.1 15 = .ok (.bipush 8, 2) := dX9_change_15
theorem ddX9_change_17 : decode mX9_change.2.1 17 = .ok (.iadd, 1) := dX9_change_17
theorem ddX9_change_18 : decode mX9_change.2.1 18 = .ok (.iload_n 2, 1) := dX9_change_18
theorem ddX9_change_19 : decode mX9_change.2.1 19 = .ok (.iadd, 1) := dX9_change_19
theorem ddX9_change_20 : decode mX9_change.2.1 20 = .ok (.iload_n 3, 1) := dX9_change_20
theorem ddX9_change_21 : decode mX9_change.2.1 21 = .ok (.iastore, 1) := dX9_change_21
theorem ddX9_change_22 : decode mX9_change.2.1 22 = .ok (.aload_n 0, 1) := dX9_change_22
theorem ddX9_change_23 : decode mX9_change.2.1 23 = .ok (.getfield 7, 3) := dX9_change_23
theorem ddX9_change_26 : decode mX9_change.2.1 26 = .ok (.iload_n 1, 1) := dX9_change_26
theorem ddX9_change_27 : decode mX9_change.2.1 27 = .ok (.bipush 16, 2) := dX9_change_27
theorem ddX9_change_29 : decode mX9_change.2.1 29 = .ok (.iadd, 1) := dX9_change_29
theorem ddX9_change_30 : decode mX9_change.2.1 30 = .ok (.iload_n 2, 1) := dX9_change_30
theorem ddX9_change_31 : decode mX9_change.2.1 31 = .ok (.iadd, 1) := dX9_change_31
theorem ddX9_change_32 : decode mX9_change.2.1 32 = .ok (.aload_n 0, 1) := dX9_change_32
theorem ddX9_change_33 : decode mX9_change.2.1 33 = .ok (.getfield 7, 3) := dX9_change_33
theorem ddX9_change_36 : decode mX9_change.2.1 36 = .ok (.iload_n 1, 1) := dX9_change_36
theorem ddX9_change_37 : decode mX9_change.2.1 37 = .ok (.bipush 16, 2) := dX9_change_37
theorem ddX9_change_39 : decode mX9_change.2.1 39 = .ok (.iadd, 1) := dX9_change_39
theorem ddX9_change_40 : decode mX9_change.2.1 40 = .ok (.iload_n 2, 1) := dX9_change_40
theorem ddX9_change_41 : decode mX9_change.2.1 41 = .ok (.iadd, 1) := dX9_change_41
theorem ddX9_change_42 : decode mX9_change.2.1 42 = .ok (.iaload, 1) := dX9_change_42
theorem ddX9_change_43 : decode mX9_change.2.1 43 = .ok (.iconst 1, 1) := dX9_change_43
theorem ddX9_change_44 : decode mX9_change.2.1 44 = .ok (.iadd, 1) := dX9_change_44
theorem ddX9_change_45 : decode mX9_change.2.1 45 = .ok (.sipush 9999, 3) := dX9_change_45
theorem ddX9_change_48 : decode mX9_change.2.1 48 = .ok (.invokestatic 74, 3) := dX9_change_48
theorem ddX9_change_51 : decode mX9_change.2.1 51 = .ok (.iastore, 1) := dX9_change_51
theorem ddX9_change_52 : decode mX9_change.2.1 52 = .ok (.aload_n 0, 1) := dX9_change_52
theorem ddX9_change_53 : decode mX9_change.2.1 53 = .ok (.getfield 7, 3) := dX9_change_53
theorem ddX9_change_56 : decode mX9_change.2.1 56 = .ok (.iload_n 1, 1) := dX9_change_56
theorem ddX9_change_57 : decode mX9_change.2.1 57 = .ok (.bipush 32, 2) := dX9_change_57
theorem ddX9_change_59 : decode mX9_change.2.1 59 = .ok (.iadd, 1) := dX9_change_59
theorem ddX9_change_60 : decode mX9_change.2.1 60 = .ok (.iload_n 2, 1) := dX9_change_60
theorem ddX9_change_61 : decode mX9_change.2.1 61 = .ok (.iadd, 1) := dX9_change_61
theorem ddX9_change_62 : decode mX9_change.2.1 62 = .ok (.aload_n 0, 1) := dX9_change_62
theorem ddX9_change_63 : decode mX9_change.2.1 63 = .ok (.getfield 7, 3) := dX9_change_63
theorem ddX9_change_66 : decode mX9_change.2.1 66 = .ok (.iload_n 1, 1) := dX9_change_66
theorem ddX9_change_67 : decode mX9_change.2.1 67 = .ok (.bipush 24, 2) := dX9_change_67
theorem ddX9_change_69 : decode mX9_change.2.1 69 = .ok (.iadd, 1) := dX9_change_69
theorem ddX9_change_70 : decode mX9_change.2.1 70 = .ok (.iload_n 2, 1) := dX9_change_70
theorem ddX9_change_71 : decode mX9_change.2.1 71 = .ok (.iadd, 1) := dX9_change_71
theorem ddX9_change_72 : decode mX9_change.2.1 72 = .ok (.iaload, 1) := dX9_change_72
theorem ddX9_change_73 : decode mX9_change.2.1 73 = .ok (.iload 4, 2) := dX9_change_73
theorem ddX9_change_75 : decode mX9_change.2.1 75 = .ok (.if_icmp .ne 7, 3) := dX9_change_75
theorem ddX9_change_78 : decode mX9_change.2.1 78 = .ok (.iconst 1, 1) := dX9_change_78
theorem ddX9_change_79 : decode mX9_change.2.1 79 = .ok (.goto 14, 3) := dX9_change_79
theorem ddX9_change_82 : decode mX9_change.2.1 82 = .ok (.aload_n 0, 1) := dX9_change_82
theorem ddX9_change_83 : decode mX9_change.2.1 83 = .ok (.getfield 7, 3) := dX9_change_83
theorem ddX9_change_86 : decode mX9_change.2.1 86 = .ok (.iload_n 1, 1) := dX9_change_86
theorem ddX9_change_87 : decode mX9_change.2.1 87 = .ok (.bipush 32, 2) := dX9_change_87
theorem ddX9_change_89 : decode mX9_change.2.1 89 = .ok (.iadd, 1) := dX9_change_89
theorem ddX9_change_90 : decode mX9_change.2.1 90 = .ok (.iload_n 2, 1) := dX9_change_90
theorem ddX9_change_91 : decode mX9_change.2.1 91 = .ok (.iadd, 1) := dX9_change_91
theorem ddX9_change_92 : decode mX9_change.2.1 92 = .ok (.iaload, 1) := dX9_change_92
theorem ddX9_change_93 : decode mX9_change.2.1 93 = .ok (.iastore, 1) := dX9_change_93
theorem ddX9_change_94 : decode mX9_change.2.1 94 = .ok (.aload_n 0, 1) := dX9_change_94
theorem ddX9_change_95 : decode mX9_change.2.1 95 = .ok (.getfield 7, 3) := dX9_change_95
theorem ddX9_change_98 : decode mX9_change.2.1 98 = .ok (.iload_n 1, 1) := dX9_change_98
theorem ddX9_change_99 : decode mX9_change.2.1 99 = .ok (.bipush 24, 2) := dX9_change_99
theorem ddX9_change_101 : decode mX9_change.2.1 101 = .ok (.iadd, 1) := dX9_change_101
theorem ddX9_change_102 : decode mX9_change.2.1 102 = .ok (.iload_n 2, 1) := dX9_change_102
theorem ddX9_change_103 : decode mX9_change.2.1 103 = .ok (.iadd, 1) := dX9_change_103
theorem ddX9_change_104 : decode mX9_change.2.1 104 = .ok (.iload 4, 2) := dX9_change_104
theorem ddX9_change_106 : decode mX9_change.2.1 106 = .ok (.iastore, 1) := dX9_change_106
theorem ddX9_change_107 : decode mX9_change.2.1 107 = .ok (.iload_n 1, 1) := dX9_change_107
theorem ddX9_change_108 : decode mX9_change.2.1 108 = .ok (.bipush 48, 2) := dX9_change_108
theorem ddX9_change_110 : decode mX9_change.2.1 110 = .ok (.iadd, 1) := dX9_change_110
theorem ddX9_change_111 : decode mX9_change.2.1 111 = .ok (.bipush 8, 2) := dX9_change_111
theorem ddX9_change_113 : decode mX9_change.2.1 113 = .ok (.iload_n 2, 1) := dX9_change_113
theorem ddX9_change_114 : decode mX9_change.2.1 114 = .ok (.imul, 1) := dX9_change_114
theorem ddX9_change_115 : decode mX9_change.2.1 115 = .ok (.iadd, 1) := dX9_change_115
theorem ddX9_change_116 : decode mX9_change.2.1 116 = .ok (.istore 5, 2) := dX9_change_116
theorem ddX9_change_118 : decode mX9_change.2.1 118 = .ok (.iload_n 1, 1) := dX9_change_118
theorem ddX9_change_119 : decode mX9_change.2.1 119 = .ok (.bipush 112, 2) := dX9_change_119
theorem ddX9_change_121 : decode mX9_change.2.1 121 = .ok (.iadd, 1) := dX9_change_121
theorem ddX9_change_122 : decode mX9_change.2.1 122 = .ok (.bipush 8, 2) := dX9_change_122
theorem ddX9_change_124 : decode mX9_change.2.1 124 = .ok (.iload_n 2, 1) := dX9_change_124
theorem ddX9_change_125 : decode mX9_change.2.1 125 = .ok (.imul, 1) := dX9_change_125
theorem ddX9_change_126 : decode mX9_change.2.1 126 = .ok (.iadd, 1) := dX9_change_126
theorem ddX9_change_127 : decode mX9_change.2.1 127 = .ok (.istore 6, 2) := dX9_change_127
theorem ddX9_change_129 : decode mX9_change.2.1 129 = .ok (.bipush 7, 2) := dX9_change_129
theorem ddX9_change_131 : decode mX9_change.2.1 131 = .ok (.istore 7, 2) := dX9_change_131
theorem ddX9_change_133 : decode mX9_change.2.1 133 = .ok (.iload 7, 2) := dX9_change_133
theorem ddX9_change_135 : decode mX9_change.2.1 135 = .ok (.ifCond .le 53, 3) := dX9_change_135
theorem ddX9_change_138 : decode mX9_change.2.1 138 = .ok (.aload_n 0, 1) := dX9_change_138
theorem ddX9_change_139 : decode mX9_change.2.1 139 = .ok (.getfield 7, 3) := dX9_change_139
theorem ddX9_change_142 : decode mX9_change.2.1 142 = .ok (.iload 5, 2) := dX9_change_142
theorem ddX9_change_144 : decode mX9_change.2.1 144 = .ok (.iload 7, 2) := dX9_change_144
theorem ddX9_change_146 : decode mX9_change.2.1 146 = .ok (.iadd, 1) := dX9_change_146
theorem ddX9_change_147 : decode mX9_change.2.1 147 = .ok (.aload_n 0, 1) := dX9_change_147
theorem ddX9_change_148 : decode mX9_change.2.1 148 = .ok (.getfield 7, 3) := dX9_change_148
theorem ddX9_change_151 : decode mX9_change.2.1 151 = .ok (.iload 5, 2) := dX9_change_151
theorem ddX9_change_153 : decode mX9_change.2.1 153 = .ok (.iload 7, 2) := dX9_change_153
theorem ddX9_change_155 : decode mX9_change.2.1 155 = .ok (.iadd, 1) := dX9_change_155
theorem ddX9_change_156 : decode mX9_change.2.1 156 = .ok (.iconst 1, 1) := dX9_change_156
theorem ddX9_change_157 : decode mX9_change.2.1 157 = .ok (.isub, 1) := dX9_change_157
theorem ddX9_change_158 : decode mX9_change.2.1 158 = .ok (.iaload, 1) := dX9_change_158
theorem ddX9_change_159 : decode mX9_change.2.1 159 = .ok (.iastore, 1) := dX9_change_159
theorem ddX9_change_160 : decode mX9_change.2.1 160 = .ok (.aload_n 0, 1) := dX9_change_160
theorem ddX9_change_161 : decode mX9_change.2.1 161 = .ok (.getfield 7, 3) := dX9_change_161
theorem ddX9_change_164 : decode mX9_change.2.1 164 = .ok (.iload 6, 2) := dX9_change_164
theorem ddX9_change_166 : decode mX9_change.2.1 166 = .ok (.iload 7, 2) := dX9_change_166
theorem ddX9_change_168 : decode mX9_change.2.1 168 = .ok (.iadd, 1) := dX9_change_168
theorem ddX9_change_169 : decode mX9_change.2.1 169 = .ok (.aload_n 0, 1) := dX9_change_169
theorem ddX9_change_170 : decode mX9_change.2.1 170 = .ok (.getfield 7, 3) := dX9_change_170
theorem ddX9_change_173 : decode mX9_change.2.1 173 = .ok (.iload 6, 2) := dX9_change_173
theorem ddX9_change_175 : decode mX9_change.2.1 175 = .ok (.iload 7, 2) := dX9_change_175
theorem ddX9_change_177 : decode mX9_change.2.1 177 = .ok (.iadd, 1) := dX9_change_177
theorem ddX9_change_178 : decode mX9_change.2.1 178 = .ok (.iconst 1, 1) := dX9_change_178
theorem ddX9_change_179 : decode mX9_change.2.1 179 = .ok (.isub, 1) := dX9_change_179
theorem ddX9_change_180 : decode mX9_change.2.1 180 = .ok (.iaload, 1) := dX9_change_180
theorem ddX9_change_181 : decode mX9_change.2.1 181 = .ok (.iastore, 1) := dX9_change_181
theorem ddX9_change_182 : decode mX9_change.2.1 182 = .ok (.iinc 7 (-1), 3) := dX9_change_182
theorem ddX9_change_185 : decode mX9_change.2.1 185 = .ok (.goto (-52), 3) := dX9_change_185
theorem ddX9_change_188 : decode mX9_change.2.1 188 = .ok (.aload_n 0, 1) := dX9_change_188
theorem ddX9_change_189 : decode mX9_change.2.1 189 = .ok (.getfield 7, 3) := dX9_change_189
theorem ddX9_change_192 : decode mX9_change.2.1 192 = .ok (.iload 5, 2) := dX9_change_192
theorem ddX9_change_194 : decode mX9_change.2.1 194 = .ok (.iload 4, 2) := dX9_change_194
theorem ddX9_change_196 : decode mX9_change.2.1 196 = .ok (.iastore, 1) := dX9_change_196
theorem ddX9_change_197 : decode mX9_change.2.1 197 = .ok (.aload_n 0, 1) := dX9_change_197
theorem ddX9_change_198 : decode mX9_change.2.1 198 = .ok (.getfield 7, 3) := dX9_change_198
theorem ddX9_change_201 : decode mX9_change.2.1 201 = .ok (.iload 6, 2) := dX9_change_201
theorem ddX9_change_203 : decode mX9_change.2.1 203 = .ok (.iload_n 3, 1) := dX9_change_203
theorem ddX9_change_204 : decode mX9_change.2.1 204 = .ok (.iastore, 1) := dX9_change_204
theorem ddX9_change_205 : decode mX9_change.2.1 205 = .ok (.aload_n 0, 1) := dX9_change_205
theorem ddX9_change_206 : decode mX9_change.2.1 206 = .ok (.getfield 7, 3) := dX9_change_206
theorem ddX9_change_209 : decode mX9_change.2.1 209 = .ok (.iload_n 1, 1) := dX9_change_209
theorem ddX9_change_210 : decode mX9_change.2.1 210 = .ok (.bipush 40, 2) := dX9_change_210
theorem ddX9_change_212 : decode mX9_change.2.1 212 = .ok (.iadd, 1) := dX9_change_212
theorem ddX9_change_213 : decode mX9_change.2.1 213 = .ok (.iload_n 2, 1) := dX9_change_213
theorem ddX9_change_214 : decode mX9_change.2.1 214 = .ok (.iadd, 1) := dX9_change_214
theorem ddX9_change_215 : decode mX9_change.2.1 215 = .ok (.aload_n 0, 1) := dX9_change_215
theorem ddX9_change_216 : decode mX9_change.2.1 216 = .ok (.getfield 7, 3) := dX9_change_216
theorem ddX9_change_219 : decode mX9_change.2.1 219 = .ok (.iload_n 1, 1) := dX9_change_219
theorem ddX9_change_220 : decode mX9_change.2.1 220 = .ok (.bipush 40, 2) := dX9_change_220
theorem ddX9_change_222 : decode mX9_change.2.1 222 = .ok (.iadd, 1) := dX9_change_222
theorem ddX9_change_223 : decode mX9_change.2.1 223 = .ok (.iload_n 2, 1) := dX9_change_223
theorem ddX9_change_224 : decode mX9_change.2.1 224 = .ok (.iadd, 1) := dX9_change_224
theorem ddX9_change_225 : decode mX9_change.2.1 225 = .ok (.iaload, 1) := dX9_change_225
theorem ddX9_change_226 : decode mX9_change.2.1 226 = .ok (.iconst 1, 1) := dX9_change_226
theorem ddX9_change_227 : decode mX9_change.2.1 227 = .ok (.iadd, 1) := dX9_change_227
theorem ddX9_change_228 : decode mX9_change.2.1 228 = .ok (.bipush 8, 2) := dX9_change_228
theorem ddX9_change_230 : decode mX9_change.2.1 230 = .ok (.invokestatic 74, 3) := dX9_change_230
theorem ddX9_change_233 : decode mX9_change.2.1 233 = .ok (.iastore, 1) := dX9_change_233
theorem ddX9_change_234 : decode mX9_change.2.1 234 = .ok (.return_, 1) := dX9_change_234
theorem ddX9_cycle_0 : decode mX9_cycle.2.1 0 = .ok (.aload_n 0, 1) := dX9_cycle_0
theorem ddX9_cycle_1 : decode mX9_cycle.2.1 1 = .ok (.getfield 7, 3) := dX9_cycle_1
theorem ddX9_cycle_4 : decode mX9_cycle.2.1 4 = .ok (.iload_n 1, 1) := dX9_cycle_4
theorem ddX9_cycle_5 : decode mX9_cycle.2.1 5 = .ok (.iconst 0, 1) := dX9_cycle_5
theorem ddX9_cycle_6 : decode mX9_cycle.2.1 6 = .ok (.iadd, 1) := dX9_cycle_6
theorem ddX9_cycle_7 : decode mX9_cycle.2.1 7 = .ok (.iaload, 1) := dX9_cycle_7
theorem ddX9_cycle_8 : decode mX9_cycle.2.1 8 = .ok (.istore_n 2, 1) := dX9_cycle_8
theorem ddX9_cycle_9 : decode mX9_cycle.2.1 9 = .ok (.iconst (-1), 1) := dX9_cycle_9
theorem ddX9_cycle_10 : decode mX9_cycle.2.1 10 = .ok (.istore_n 3, 1) := dX9_cycle_10
theorem ddX9_cycle_11 : decode mX9_cycle.2.1 11 = .ok (.iconst 2, 1) := dX9_cycle_11
theorem ddX9_cycle_12 : decode mX9_cycle.2.1 12 = .ok (.istore 4, 2) := dX9_cycle_12
theorem ddX9_cycle_14 : decode mX9_cycle.2.1 14 = .ok (.iconst 0, 1) := dX9_cycle_14
theorem ddX9_cycle_15 : decode mX9_cycle.2.1 15 = .ok (.istore 5, 2) := dX9_cycle_15
theorem ddX9_cycle_17 : decode mX9_cycle.2.1 17 = .ok (.iload 5, 2) := dX9_cycle_17
theorem ddX9_cycle_19 : decode mX9_cycle.2.1 19 = .ok (.aload_n 0, 1) := dX9_cycle_19
theorem ddX9_cycle_20 : decode mX9_cycle.2.1 20 = .ok (.getfield 45, 3) := dX9_cycle_20
theorem ddX9_cycle_23 : decode mX9_cycle.2.1 23 = .ok (.if_icmp .ge 82, 3) := dX9_cycle_23
theorem ddX9_cycle_26 : decode mX9_cycle.2.1 26 = .ok (.aload_n 0, 1) := dX9_cycle_26
theorem ddX9_cycle_27 : decode mX9_cycle.2.1 27 = .ok (.getfield 7, 3) := dX9_cycle_27
theorem ddX9_cycle_30 : decode mX9_cycle.2.1 30 = .ok (.iload_n 1, 1) := dX9_cycle_30
theorem ddX9_cycle_31 : decode mX9_cycle.2.1 31 = .ok (.sipush 184, 3) := dX9_cycle_31
theorem ddX9_cycle_34 : decode mX9_cycle.2.1 34 = .ok (.iadd, 1) := dX9_cycle_34
theorem ddX9_cycle_35 : decode mX9_cycle.2.1 35 = .ok (.iload 5, 2) := dX9_cycle_35
theorem ddX9_cycle_37 : decode mX9_cycle.2.1 37 = .ok (.iadd, 1) := dX9_cycle_37
theorem ddX9_cycle_38 : decode mX9_cycle.2.1 38 = .ok (.iaload, 1) := dX9_cycle_38
theorem ddX9_cycle_39 : decode mX9_cycle.2.1 39 = .ok (.ifCond .le 60, 3) := dX9_cycle_39
theorem ddX9_cycle_42 : decode mX9_cycle.2.1 42 = .ok (.aload_n 0, 1) := dX9_cycle_42
theorem ddX9_cycle_43 : decode mX9_cycle.2.1 43 = .ok (.getfield 7, 3) := dX9_cycle_43
theorem ddX9_cycle_46 : decode mX9_cycle.2.1 46 = .ok (.iload_n 1, 1) := dX9_cycle_46
theorem ddX9_cycle_47 : decode mX9_cycle.2.1 47 = .ok (.sipush 192, 3) := dX9_cycle_47
theorem ddX9_cycle_50 : decode mX9_cycle.2.1 50 = .ok (.iadd, 1) := dX9_cycle_50
theorem ddX9_cycle_51 : decode mX9_cycle.2.1 51 = .ok (.bipush 8, 2) := dX9_cycle_51
theorem ddX9_cycle_53 : decode mX9_cycle.2.1 53 = .ok (.iload 5, 2) := dX9_cycle_53
theorem ddX9_cycle_55 : decode mX9_cycle.2.1 55 = .ok (.imul, 1) := dX9_cycle_55
theorem ddX9_cycle_56 : decode mX9_cycle.2.1 56 = .ok (.iadd, 1) := dX9_cycle_56
theorem ddX9_cycle_57 : decode mX9_cycle.2.1 57 = .ok (.iaload, 1) := dX9_cycle_57
theorem ddX9_cycle_58 : decode mX9_cycle.2.1 58 = .ok (.iload_n 2, 1) := dX9_cycle_58
theorem ddX9_cycle_59 : decode mX9_cycle.2.1 59 = .ok (.if_icmp .ne 40, 3) := dX9_cycle_59
theorem ddX9_cycle_62 : decode mX9_cycle.2.1 62 = .ok (.aload_n 0, 1) := dX9_cycle_62
theorem ddX9_cycle_63 : decode mX9_cycle.2.1 63 = .ok (.getfield 7, 3) := dX9_cycle_63
theorem ddX9_cycle_66 : decode mX9_cycle.2.1 66 = .ok (.iload_n 1, 1) := dX9_cycle_66
theorem ddX9_cycle_67 : decode mX9_cycle.2.1 67 = .ok (.sipush 176, 3) := dX9_cycle_67
theorem ddX9_cycle_70 : decode mX9_cycle.2.1 70 = .ok (.iadd, 1) := dX9_cycle_70
theorem ddX9_cycle_71 : decode mX9_cycle.2.1 71 = .ok (.iload 5, 2) := dX9_cycle_71
theorem ddX9_cycle_73 : decode mX9_cycle.2.1 73 = .ok (.iadd, 1) := dX9_cycle_73
theorem ddX9_cycle_74 : decode mX9_cycle.2.1 74 = .ok (.aload_n 0, 1) := dX9_cycle_74
theorem ddX9_cycle_75 : decode mX9_cycle.2.1 75 = .ok (.getfield 7, 3) := dX9_cycle_75
theorem ddX9_cycle_78 : decode mX9_cycle.2.1 78 = .ok (.iload_n 1, 1) := dX9_cycle_78
theorem ddX9_cycle_79 : decode mX9_cycle.2.1 79 = .ok (.sipush 256, 3) := dX9_cycle_79
theorem ddX9_cycle_82 : decode mX9_cycle.2.1 82 = .ok (.iadd, 1) := dX9_cycle_82
theorem ddX9_cycle_83 : decode mX9_cycle.2.1 83 = .ok (.bipush 8, 2) := dX9_cycle_83
theorem ddX9_cycle_85 : decode mX9_cycle.2.1 85 = .ok (.iload 5, 2) := dX9_cycle_85
theorem ddX9_cycle_87 : decode mX9_cycle.2.1 87 = .ok (.imul, 1) := dX9_cycle_87
theorem ddX9_cycle_88 : decode mX9_cycle.2.1 88 = .ok (.iadd, 1) := dX9_cycle_88
theorem ddX9_cycle_89 : decode mX9_cycle.2.1 89 = .ok (.iaload, 1) := dX9_cycle_89
theorem ddX9_cycle_90 : decode mX9_cycle.2.1 90 = .ok (.iastore, 1) := dX9_cycle_90
theorem ddX9_cycle_91 : decode mX9_cycle.2.1 91 = .ok (.aload_n 0, 1) := dX9_cycle_91
theorem ddX9_cycle_92 : decode mX9_cycle.2.1 92 = .ok (.iload_n 1, 1) := dX9_cycle_92
theorem ddX9_cycle_93 : decode mX9_cycle.2.1 93 = .ok (.iload 5, 2) := dX9_cycle_93
theorem ddX9_cycle_95 : decode mX9_cycle.2.1 95 = .ok (.iconst 1, 1) := dX9_cycle_95
theorem ddX9_cycle_96 : decode mX9_cycle.2.1 96 = .ok (.invokevirtual 66, 3) := dX9_cycle_96
theorem ddX9_cycle_99 : decode mX9_cycle.2.1 99 = .ok (.iinc 5 1, 3) := dX9_cycle_99
theorem ddX9_cycle_102 : decode mX9_cycle.2.1 102 = .ok (.goto (-85), 3) := dX9_cycle_102
theorem ddX9_cycle_105 : decode mX9_cycle.2.1 105 = .ok (.aload_n 0, 1) := dX9_cycle_105
theorem ddX9_cycle_106 : decode mX9_cycle.2.1 106 = .ok (.getfield 7, 3) := dX9_cycle_106
theorem ddX9_cycle_109 : decode mX9_cycle.2.1 109 = .ok (.iload_n 1, 1) := dX9_cycle_109
theorem ddX9_cycle_110 : decode mX9_cycle.2.1 110 = .ok (.iconst 3, 1) := dX9_cycle_110
theorem ddX9_cycle_111 : decode mX9_cycle.2.1 111 = .ok (.iadd, 1) := dX9_cycle_111
theorem ddX9_cycle_112 : decode mX9_cycle.2.1 112 = .ok (.iaload, 1) := dX9_cycle_112
theorem ddX9_cycle_113 : decode mX9_cycle.2.1 113 = .ok (.ifCond .le 45, 3) := dX9_cycle_113
theorem ddX9_cycle_116 : decode mX9_cycle.2.1 116 = .ok (.aload_n 0, 1) := dX9_cycle_116
theorem ddX9_cycle_117 : decode mX9_cycle.2.1 117 = .ok (.getfield 7, 3) := dX9_cycle_117
theorem ddX9_cycle_120 : decode mX9_cycle.2.1 120 = .ok (.iload_n 1, 1) := dX9_cycle_120
theorem ddX9_cycle_121 : decode mX9_cycle.2.1 121 = .ok (.sipush 320, 3) := dX9_cycle_121
theorem ddX9_cycle_124 : decode mX9_cycle.2.1 124 = .ok (.iadd, 1) := dX9_cycle_124
theorem ddX9_cycle_125 : decode mX9_cycle.2.1 125 = .ok (.iaload, 1) := dX9_cycle_125
theorem ddX9_cycle_126 : decode mX9_cycle.2.1 126 = .ok (.iload_n 2, 1) := dX9_cycle_126
theorem ddX9_cycle_127 : decode mX9_cycle.2.1 127 = .ok (.if_icmp .ne 31, 3) := dX9_cycle_127
theorem ddX9_cycle_130 : decode mX9_cycle.2.1 130 = .ok (.aload_n 0, 1) := dX9_cycle_130
theorem ddX9_cycle_131 : decode mX9_cycle.2.1 131 = .ok (.getfield 7, 3) := dX9_cycle_131
theorem ddX9_cycle_134 : decode mX9_cycle.2.1 134 = .ok (.iload_n 1, 1) := dX9_cycle_134
theorem ddX9_cycle_135 : decode mX9_cycle.2.1 135 = .ok (.sipush 328, 3) := dX9_cycle_135
theorem ddX9_cycle_138 : decode mX9_cycle.2.1 138 = .ok (.iadd, 1) := dX9_cycle_138
theorem ddX9_cycle_139 : decode mX9_cycle.2.1 139 = .ok (.iaload, 1) := dX9_cycle_139
theorem ddX9_cycle_140 : decode mX9_cycle.2.1 140 = .ok (.istore_n 3, 1) := dX9_cycle_140
theorem ddX9_cycle_141 : decode mX9_cycle.2.1 141 = .ok (.aload_n 0, 1) := dX9_cycle_141
theorem ddX9_cycle_142 : decode mX9_cycle.2.1 142 = .ok (.getfield 7, 3) := dX9_cycle_142
theorem ddX9_cycle_145 : decode mX9_cycle.2.1 145 = .ok (.iload_n 1, 1) := dX9_cycle_145
theorem ddX9_cycle_146 : decode mX9_cycle.2.1 146 = .ok (.sipush 336, 3) := dX9_cycle_146
theorem ddX9_cycle_149 : decode mX9_cycle.2.1 149 = .ok (.iadd, 1) := dX9_cycle_149
theorem ddX9_cycle_150 : decode mX9_cycle.2.1 150 = .ok (.iaload, 1) := dX9_cycle_150
theorem ddX9_cycle_151 : decode mX9_cycle.2.1 151 = .ok (.istore 4, 2) := dX9_cycle_151
theorem ddX9_cycle_153 : decode mX9_cycle.2.1 153 = .ok (.aload_n 0, 1) := dX9_cycle_153
theorem ddX9_cycle_154 : decode mX9_cycle.2.1 154 = .ok (.iload_n 1, 1) := dX9_cycle_154
theorem ddX9_cycle_155 : decode mX9_cycle.2.1 155 = .ok (.invokevirtual 77, 3) := dX9_cycle_155
theorem ddX9_cycle_158 : decode mX9_cycle.2.1 158 = .ok (.aload_n 0, 1) := dX9_cycle_158
theorem ddX9_cycle_159 : decode mX9_cycle.2.1 159 = .ok (.getfield 7, 3) := dX9_cycle_159
theorem ddX9_cycle_162 : decode mX9_cycle.2.1 162 = .ok (.iload_n 1, 1) := dX9_cycle_162
theorem ddX9_cycle_163 : decode mX9_cycle.2.1 163 = .ok (.iconst 1, 1) := dX9_cycle_163
theorem ddX9_cycle_164 : decode mX9_cycle.2.1 164 = .ok (.iadd, 1) := dX9_cycle_164
theorem ddX9_cycle_165 : decode mX9_cycle.2.1 165 = .ok (.aload_n 0, 1) := dX9_cycle_165
theorem ddX9_cycle_166 : decode mX9_cycle.2.1 166 = .ok (.getfield 7, 3) := dX9_cycle_166
theorem ddX9_cycle_169 : decode mX9_cycle.2.1 169 = .ok (.iload_n 1, 1) := dX9_cycle_169
theorem ddX9_cycle_170 : decode mX9_cycle.2.1 170 = .ok (.iconst 1, 1) := dX9_cycle_170
theorem ddX9_cycle_171 : decode mX9_cycle.2.1 171 = .ok (.iadd, 1) := dX9_cycle_171
theorem ddX9_cycle_172 : decode mX9_cycle.2.1 172 = .ok (.iaload, 1) := dX9_cycle_172
theorem ddX9_cycle_173 : decode mX9_cycle.2.1 173 = .ok (.iconst 1, 1) := dX9_cycle_173
theorem ddX9_cycle_174 : decode mX9_cycle.2.1 174 = .ok (.iadd, 1) := dX9_cycle_174
theorem ddX9_cycle_175 : decode mX9_cycle.2.1 175 = .ok (.ldc 81, 2) := dX9_cycle_175
theorem ddX9_cycle_177 : decode mX9_cycle.2.1 177 = .ok (.invokestatic 74, 3) := dX9_cycle_177
theorem ddX9_cycle_180 : decode mX9_cycle.2.1 180 = .ok (.iastore, 1) := dX9_cycle_180
theorem ddX9_cycle_181 : decode mX9_cycle.2.1 181 = .ok (.iconst 0, 1) := dX9_cycle_181
theorem ddX9_cycle_182 : decode mX9_cycle.2.1 182 = .ok (.istore 5, 2) := dX9_cycle_182
theorem ddX9_cycle_184 : decode mX9_cycle.2.1 184 = .ok (.iconst 0, 1) := dX9_cycle_184
theorem ddX9_cycle_185 : decode mX9_cycle.2.1 185 = .ok (.istore 6, 2) := dX9_cycle_185
theorem ddX9_cycle_187 : decode mX9_cycle.2.1 187 = .ok (.iconst 0, 1) := dX9_cycle_187
theorem ddX9_cycle_188 : decode mX9_cycle.2.1 188 = .ok (.istore 7, 2) := dX9_cycle_188
theorem ddX9_cycle_190 : decode mX9_cycle.2.1 190 = .ok (.iload 7, 2) := dX9_cycle_190
theorem ddX9_cycle_192 : decode mX9_cycle.2.1 192 = .ok (.aload_n 0, 1) := dX9_cycle_192
theorem ddX9_cycle_193 : decode mX9_cycle.2.1 193 = .ok (.getfield 38, 3) := dX9_cycle_193
theorem ddX9_cycle_196 : decode mX9_cycle.2.1 196 = .ok (.if_icmp .ge 92, 3) := dX9_cycle_196
theorem ddX9_cycle_199 : decode mX9_cycle.2.1 199 = .ok (.aload_n 0, 1) := dX9_cycle_199
theorem ddX9_cycle_200 : decode mX9_cycle.2.1 200 = .ok (.iload 7, 2) := dX9_cycle_200
theorem ddX9_cycle_202 : decode mX9_cycle.2.1 202 = .ok (.invokevirtual 82, 3) := dX9_cycle_202
theorem ddX9_cycle_205 : decode mX9_cycle.2.1 205 = .ok (.ifCond .le 14, 3) := dX9_cycle_205
theorem ddX9_cycle_208 : decode mX9_cycle.2.1 208 = .ok (.aload_n 0, 1) := dX9_cycle_208
theorem ddX9_cycle_209 : decode mX9_cycle.2.1 209 = .ok (.iload_n 1, 1) := dX9_cycle_209
theorem ddX9_cycle_210 : decode mX9_cycle.2.1 210 = .ok (.iload 7, 2) := dX9_cycle_210
theorem ddX9_cycle_212 : decode mX9_cycle.2.1 212 = .ok (.iconst (-1), 1) := dX9_cycle_212
theorem ddX9_cycle_213 : decode mX9_cycle.2.1 213 = .ok (.invokevirtual 85, 3) := dX9_cycle_213
theorem ddX9_cycle_216 : decode mX9_cycle.2.1 216 = .ok (.goto 26, 3) := dX9_cycle_216
theorem ddX9_cycle_219 : decode mX9_cycle.2.1 219 = .ok (.iload 7, 2) := dX9_cycle_219
theorem ddX9_cycle_221 : decode mX9_cycle.2.1 221 = .ok (.iload_n 3, 1) := dX9_cycle_221
theorem ddX9_cycle_222 : decode mX9_cycle.2.1 222 = .ok (.if_icmp .ne 8, 3) := dX9_cycle_222
theorem ddX9_cycle_225 : decode mX9_cycle.2.1 225 = .ok (.iload 4, 2) := dX9_cycle_225
theorem ddX9_cycle_227 : decode mX9_cycle.2.1 227 = .ok (.goto 15, 3) := dX9_cycle_227
theorem ddX9_cycle_230 : decode mX9_cycle.2.1 230 = .ok (.aload_n 0, 1) := dX9_cycle_230
theorem ddX9_cycle_231 : decode mX9_cycle.2.1 231 = .ok (.getfield 7, 3) := dX9_cycle_231
theorem ddX9_cycle_234 : decode mX9_cycle.2.1 234 = .ok (.iload_n 1, 1) := dX9_cycle_234
theorem ddX9_cycle_235 : decode mX9_cycle.2.1 235 = .ok (.bipush 8, 2) := dX9_cycle_235
theorem ddX9_cycle_237 : decode mX9_cycle.2.1 237 = .ok (.iadd, 1) := dX9_cycle_237
theorem ddX9_cycle_238 : decode mX9_cycle.2.1 238 = .ok (.iload 7, 2) := dX9_cycle_238
theorem ddX9_cycle_240 : decode mX9_cycle.2.1 240 = .ok (.iadd, 1) := dX9_cycle_240
theorem ddX9_cycle_241 : decode mX9_cycle.2.1 241 = .ok (.iaload, 1) := dX9_cycle_241
theorem ddX9_cycle_242 : decode mX9_cycle.2.1 242 = .ok (.istore 8, 2) := dX9_cycle_242
theorem ddX9_cycle_244 : decode mX9_cycle.2.1 244 = .ok (.iload 8, 2) := dX9_cycle_244
theorem ddX9_cycle_246 : decode mX9_cycle.2.1 246 = .ok (.aload_n 0, 1) := dX9_cycle_246
theorem ddX9_cycle_247 : decode mX9_cycle.2.1 247 = .ok (.getfield 7, 3) := dX9_cycle_247
theorem ddX9_cycle_250 : decode mX9_cycle.2.1 250 = .ok (.iload_n 1, 1) := dX9_cycle_250
theorem ddX9_cycle_251 : decode mX9_cycle.2.1 251 = .ok (.bipush 8, 2) := dX9_cycle_251
theorem ddX9_cycle_253 : decode mX9_cycle.2.1 253 = .ok (.iadd, 1) := dX9_cycle_253
theorem ddX9_cycle_254 : decode mX9_cycle.2.1 254 = .ok (.iload 7, 2) := dX9_cycle_254
theorem ddX9_cycle_256 : decode mX9_cycle.2.1 256 = .ok (.iadd, 1) := dX9_cycle_256
theorem ddX9_cycle_257 : decode mX9_cycle.2.1 257 = .ok (.iaload, 1) := dX9_cycle_257
theorem ddX9_cycle_258 : decode mX9_cycle.2.1 258 = .ok (.if_icmp .eq 24, 3) := dX9_cycle_258
theorem ddX9_cycle_261 : decode mX9_cycle.2.1 261 = .ok (.aload_n 0, 1) := dX9_cycle_261
theorem ddX9_cycle_262 : decode mX9_cycle.2.1 262 = .ok (.iload_n 1, 1) := dX9_cycle_262
theorem ddX9_cycle_263 : decode mX9_cycle.2.1 263 = .ok (.iload 7, 2) := dX9_cycle_263
theorem ddX9_cycle_265 : decode mX9_cycle.2.1 265 = .ok (.iload 8, 2) := dX9_cycle_265
theorem ddX9_cycle_267 : decode mX9_cycle.2.1 267 = .ok (.invokevirtual 88, 3) := dX9_cycle_267
theorem ddX9_cycle_270 : decode mX9_cycle.2.1 270 = .ok (.iload 5, 2) := dX9_cycle_270
theorem ddX9_cycle_272 : decode mX9_cycle.2.1 272 = .ok (.iconst 1, 1) := dX9_cycle_272
theorem ddX9_cycle_273 : decode mX9_cycle.2.1 273 = .ok (.iload 7, 2) := dX9_cycle_273
theorem ddX9_cycle_275 : decode mX9_cycle.2.1 275 = .ok (.ishl, 1) := dX9_cycle_275
theorem ddX9_cycle_276 : decode mX9_cycle.2.1 276 = .ok (.ior, 1) := dX9_cycle_276
theorem ddX9_cycle_277 : decode mX9_cycle.2.1 277 = .ok (.istore 5, 2) := dX9_cycle_277
theorem ddX9_cycle_279 : decode mX9_cycle.2.1 279 = .ok (.iinc 6 1, 3) := dX9_cycle_279
theorem ddX9_cycle_282 : decode mX9_cycle.2.1 282 = .ok (.iinc 7 1, 3) := dX9_cycle_282
theorem ddX9_cycle_285 : decode mX9_cycle.2.1 285 = .ok (.goto (-95), 3) := dX9_cycle_285
theorem ddX9_cycle_288 : decode mX9_cycle.2.1 288 = .ok (.iconst 0, 1) := dX9_cycle_288
theorem ddX9_cycle_289 : decode mX9_cycle.2.1 289 = .ok (.istore 7, 2) := dX9_cycle_289
theorem ddX9_cycle_291 : decode mX9_cycle.2.1 291 = .ok (.iload 7, 2) := dX9_cycle_291
theorem ddX9_cycle_293 : decode mX9_cycle.2.1 293 = .ok (.aload_n 0, 1) := dX9_cycle_293
theorem ddX9_cycle_294 : decode mX9_cycle.2.1 294 = .ok (.getfield 45, 3) := dX9_cycle_294
theorem ddX9_cycle_297 : decode mX9_cycle.2.1 297 = .ok (.if_icmp .ge 76, 3) := dX9_cycle_297
theorem ddX9_cycle_300 : decode mX9_cycle.2.1 300 = .ok (.iconst 0, 1) := dX9_cycle_300
theorem ddX9_cycle_301 : decode mX9_cycle.2.1 301 = .ok (.istore 8, 2) := dX9_cycle_301
theorem ddX9_cycle_303 : decode mX9_cycle.2.1 303 = .ok (.iconst 0, 1) := dX9_cycle_303
theorem ddX9_cycle_304 : decode mX9_cycle.2.1 304 = .ok (.istore 9, 2) := dX9_cycle_304
theorem ddX9_cycle_306 : decode mX9_cycle.2.1 306 = .ok (.iload 9, 2) := dX9_cycle_306
theorem ddX9_cycle_308 : decode mX9_cycle.2.1 308 = .ok (.aload_n 0, 1) := dX9_cycle_308
theorem ddX9_cycle_309 : decode mX9_cycle.2.1 309 = .ok (.getfield 38, 3) := dX9_cycle_309
theorem ddX9_cycle_312 : decode mX9_cycle.2.1 312 = .ok (.if_icmp .ge 43, 3) := dX9_cycle_312
theorem ddX9_cycle_315 : decode mX9_cycle.2.1 315 = .ok (.iload 8, 2) := dX9_cycle_315
theorem ddX9_cycle_317 : decode mX9_cycle.2.1 317 = .ok (.ifCond .ne 25, 3) := dX9_cycle_317
theorem ddX9_cycle_320 : decode mX9_cycle.2.1 320 = .ok (.iload 5, 2) := dX9_cycle_320
theorem ddX9_cycle_322 : decode mX9_cycle.2.1 322 = .ok (.iload 9, 2) := dX9_cycle_322
theorem ddX9_cycle_324 : decode mX9_cycle.2.1 324 = .ok (.ishr, 1) := dX9_cycle_324
theorem ddX9_cycle_325 : decode mX9_cycle.2.1 325 = .ok (.iconst 1, 1) := dX9_cycle_325
theorem ddX9_cycle_326 : decode mX9_cycle.2.1 326 = .ok (.iand, 1) := dX9_cycle_326
theorem ddX9_cycle_327 : decode mX9_cycle.2.1 327 = .ok (.iconst 1, 1) := dX9_cycle_327
theorem ddX9_cycle_328 : decode mX9_cycle.2.1 328 = .ok (.if_icmp .ne 18, 3) := dX9_cycle_328
theorem ddX9_cycle_331 : decode mX9_cycle.2.1 331 = .ok (.aload_n 0, 1) := dX9_cycle_331
theorem ddX9_cycle_332 : decode mX9_cycle.2.1 332 = .ok (.iload 7, 2) := dX9_cycle_332
theorem ddX9_cycle_334 : decode mX9_cycle.2.1 334 = .ok (.iload 9, 2) := dX9_cycle_334
theorem ddX9_cycle_336 : decode mX9_cycle.2.1 336 = .ok (.invokevirtual 91, 3) := dX9_cycle_336
theorem ddX9_cycle_339 : decode mX9_cycle.2.1 339 = .ok (.ifCond .eq 7, 3) := dX9_cycle_339
theorem ddX9_cycle_342 : decode mX9_cycle.2.1 342 = .ok (.iconst 1, 1) := dX9_cycle_342
theorem ddX9_cycle_343 : decode mX9_cycle.2.1 343 = .ok (.goto 4, 3) := dX9_cycle_343
theorem ddX9_cycle_346 : decode mX9_cycle.2.1 346 = .ok (.iconst 0, 1) := dX9_cycle_346
theorem ddX9_cycle_347 : decode mX9_cycle.2.1 347 = .ok (.istore 8, 2) := dX9_cycle_347
theorem ddX9_cycle_349 : decode mX9_cycle.2.1 349 = .ok (.iinc 9 1, 3) := dX9_cycle_349
theorem ddX9_cycle_352 : decode mX9_cycle.2.1 352 = .ok (.goto (-46), 3) := dX9_cycle_352
theorem ddX9_cycle_355 : decode mX9_cycle.2.1 355 = .ok (.iload 8, 2) := dX9_cycle_355
theorem ddX9_cycle_357 : decode mX9_cycle.2.1 357 = .ok (.ifCond .eq 10, 3) := dX9_cycle_357
theorem ddX9_cycle_360 : decode mX9_cycle.2.1 360 = .ok (.aload_n 0, 1) := dX9_cycle_360
theorem ddX9_cycle_361 : decode mX9_cycle.2.1 361 = .ok (.iload_n 1, 1) := dX9_cycle_361
theorem ddX9_cycle_362 : decode mX9_cycle.2.1 362 = .ok (.iload 7, 2) := dX9_cycle_362
theorem ddX9_cycle_364 : decode mX9_cycle.2.1 364 = .ok (.invokevirtual 70, 3) := dX9_cycle_364
theorem ddX9_cycle_367 : decode mX9_cycle.2.1 367 = .ok (.iinc 7 1, 3) := dX9_cycle_367
theorem ddX9_cycle_370 : decode mX9_cycle.2.1 370 = .ok (.goto (-79), 3) := dX9_cycle_370
theorem ddX9_cycle_373 : decode mX9_cycle.2.1 373 = .ok (.iload 6, 2) := dX9_cycle_373
theorem ddX9_cycle_375 : decode mX9_cycle.2.1 375 = .ok (.ireturn, 1) := dX9_cycle_375
theorem ddX9_stepIn_0 : decode mX9_stepIn.2.1 0 = .ok (.aload_n 0, 1) := dX9_stepIn_0
theorem ddX9_stepIn_1 : decode mX9_stepIn.2.1 1 = .ok (.iload_n 1, 1) := dX9_stepIn_1
theorem ddX9_stepIn_2 : decode mX9_stepIn.2.1 2 = .ok (.invokevirtual 95, 3) := dX9_stepIn_2
theorem ddX9_stepIn_5 : decode mX9_stepIn.2.1 5 = .ok (.istore_n 2, 1) := dX9_stepIn_5
theorem ddX9_stepIn_6 : decode mX9_stepIn.2.1 6 = .ok (.aload_n 0, 1) := dX9_stepIn_6
theorem ddX9_stepIn_7 : decode mX9_stepIn.2.1 7 = .ok (.getfield 7, 3) := dX9_stepIn_7
theorem ddX9_stepIn_10 : decode mX9_stepIn.2.1 10 = .ok (.iload_n 1, 1) := dX9_stepIn_10
theorem ddX9_stepIn_11 : decode mX9_stepIn.2.1 11 = .ok (.iconst 0, 1) := dX9_stepIn_11
theorem ddX9_stepIn_12 : decode mX9_stepIn.2.1 12 = .ok (.iadd, 1) := dX9_stepIn_12
theorem ddX9_stepIn_13 : decode mX9_stepIn.2.1 13 = .ok (.iload_n 2, 1) := dX9_stepIn_13
theorem ddX9_stepIn_14 : decode mX9_stepIn.2.1 14 = .ok (.aload_n 0, 1) := dX9_stepIn_14
theorem ddX9_stepIn_15 : decode mX9_stepIn.2.1 15 = .ok (.getfield 7, 3) := dX9_stepIn_15
theorem ddX9_stepIn_18 : decode mX9_stepIn.2.1 18 = .ok (.iload_n 1, 1) := dX9_stepIn_18
theorem ddX9_stepIn_19 : decode mX9_stepIn.2.1 19 = .ok (.iconst 0, 1) := dX9_stepIn_19
theorem ddX9_stepIn_20 : decode mX9_stepIn.2.1 20 = .ok (.iadd, 1) := dX9_stepIn_20
theorem ddX9_stepIn_21 : decode mX9_stepIn.2.1 21 = .ok (.iaload, 1) := dX9_stepIn_21
theorem ddX9_stepIn_22 : decode mX9_stepIn.2.1 22 = .ok (.if_icmp .le 7, 3) := dX9_stepIn_22
theorem ddX9_stepIn_25 : decode mX9_stepIn.2.1 25 = .ok (.iload_n 2, 1) := dX9_stepIn_25
theorem ddX9_stepIn_26 : decode mX9_stepIn.2.1 26 = .ok (.goto 11, 3) := dX9_stepIn_26
theorem ddX9_stepIn_29 : decode mX9_stepIn.2.1 29 = .ok (.aload_n 0, 1) := dX9_stepIn_29
theorem ddX9_stepIn_30 : decode mX9_stepIn.2.1 30 = .ok (.getfield 7, 3) := dX9_stepIn_30
theorem ddX9_stepIn_33 : decode mX9_stepIn.2.1 33 = .ok (.iload_n 1, 1) := dX9_stepIn_33
theorem ddX9_stepIn_34 : decode mX9_stepIn.2.1 34 = .ok (.iconst 0, 1) := dX9_stepIn_34
theorem ddX9_stepIn_35 : decode mX9_stepIn.2.1 35 = .ok (.iadd, 1) := dX9_stepIn_35
theorem ddX9_stepIn_36 : decode mX9_stepIn.2.1 36 = .ok (.iaload, 1) := dX9_stepIn_36
theorem ddX9_stepIn_37 : decode mX9_stepIn.2.1 37 = .ok (.iastore, 1) := dX9_stepIn_37
theorem ddX9_stepIn_38 : decode mX9_stepIn.2.1 38 = .ok (.iconst 0, 1) := dX9_stepIn_38
theorem ddX9_stepIn_39 : decode mX9_stepIn.2.1 39 = .ok (.istore_n 3, 1) := dX9_stepIn_39
theorem ddX9_stepIn_40 : decode mX9_stepIn.2.1 40 = .ok (.iload_n 3, 1) := dX9_stepIn_40
theorem ddX9_stepIn_41 : decode mX9_stepIn.2.1 41 = .ok (.bipush 40, 2) := dX9_stepIn_41
theorem ddX9_stepIn_43 : decode mX9_stepIn.2.1 43 = .ok (.if_icmp .ge 38, 3) := dX9_stepIn_43
theorem ddX9_stepIn_46 : decode mX9_stepIn.2.1 46 = .ok (.aload_n 0, 1) := dX9_stepIn_46
theorem ddX9_stepIn_47 : decode mX9_stepIn.2.1 47 = .ok (.iload_n 1, 1) := dX9_stepIn_47
theorem ddX9_stepIn_48 : decode mX9_stepIn.2.1 48 = .ok (.invokevirtual 95, 3) := dX9_stepIn_48
theorem ddX9_stepIn_51 : decode mX9_stepIn.2.1 51 = .ok (.aload_n 0, 1) := dX9_stepIn_51
theorem ddX9_stepIn_52 : decode mX9_stepIn.2.1 52 = .ok (.getfield 7, 3) := dX9_stepIn_52
theorem ddX9_stepIn_55 : decode mX9_stepIn.2.1 55 = .ok (.iload_n 1, 1) := dX9_stepIn_55
theorem ddX9_stepIn_56 : decode mX9_stepIn.2.1 56 = .ok (.iconst 0, 1) := dX9_stepIn_56
theorem ddX9_stepIn_57 : decode mX9_stepIn.2.1 57 = .ok (.iadd, 1) := dX9_stepIn_57
theorem ddX9_stepIn_58 : decode mX9_stepIn.2.1 58 = .ok (.iaload, 1) := dX9_stepIn_58
theorem ddX9_stepIn_59 : decode mX9_stepIn.2.1 59 = .ok (.if_icmp .ne 22, 3) := dX9_stepIn_59
theorem ddX9_stepIn_62 : decode mX9_stepIn.2.1 62 = .ok (.iload_n 3, 1) := dX9_stepIn_62
theorem ddX9_stepIn_63 : decode mX9_stepIn.2.1 63 = .ok (.aload_n 0, 1) := dX9_stepIn_63
theorem ddX9_stepIn_64 : decode mX9_stepIn.2.1 64 = .ok (.iload_n 1, 1) := dX9_stepIn_64
theorem ddX9_stepIn_65 : decode mX9_stepIn.2.1 65 = .ok (.invokevirtual 98, 3) := dX9_stepIn_65
theorem ddX9_stepIn_68 : decode mX9_stepIn.2.1 68 = .ok (.ifCond .le 7, 3) := dX9_stepIn_68
theorem ddX9_stepIn_71 : decode mX9_stepIn.2.1 71 = .ok (.iconst 1, 1) := dX9_stepIn_71
theorem ddX9_stepIn_72 : decode mX9_stepIn.2.1 72 = .ok (.goto 4, 3) := dX9_stepIn_72
theorem ddX9_stepIn_75 : decode mX9_stepIn.2.1 75 = .ok (.iconst 0, 1) := dX9_stepIn_75
theorem ddX9_stepIn_76 : decode mX9_stepIn.2.1 76 = .ok (.iadd, 1) := dX9_stepIn_76
theorem ddX9_stepIn_77 : decode mX9_stepIn.2.1 77 = .ok (.istore_n 3, 1) := dX9_stepIn_77
theorem ddX9_stepIn_78 : decode mX9_stepIn.2.1 78 = .ok (.goto (-38), 3) := dX9_stepIn_78
theorem ddX9_stepIn_81 : decode mX9_stepIn.2.1 81 = .ok (.iload_n 3, 1) := dX9_stepIn_81
theorem ddX9_stepIn_82 : decode mX9_stepIn.2.1 82 = .ok (.bipush 40, 2) := dX9_stepIn_82
theorem ddX9_stepIn_84 : decode mX9_stepIn.2.1 84 = .ok (.if_icmp .ne 53, 3) := dX9_stepIn_84
theorem ddX9_stepIn_87 : decode mX9_stepIn.2.1 87 = .ok (.aload_n 0, 1) := dX9_stepIn_87
theorem ddX9_stepIn_88 : decode mX9_stepIn.2.1 88 = .ok (.getfield 7, 3) := dX9_stepIn_88
theorem ddX9_stepIn_91 : decode mX9_stepIn.2.1 91 = .ok (.iload_n 1, 1) := dX9_stepIn_91
theorem ddX9_stepIn_92 : decode mX9_stepIn.2.1 92 = .ok (.iconst 2, 1) := dX9_stepIn_92
theorem ddX9_stepIn_93 : decode mX9_stepIn.2.1 93 = .ok (.iadd, 1) := dX9_stepIn_93
theorem ddX9_stepIn_94 : decode mX9_stepIn.2.1 94 = .ok (.iconst 1, 1) := dX9_stepIn_94
theorem ddX9_stepIn_95 : decode mX9_stepIn.2.1 95 = .ok (.iastore, 1) := dX9_stepIn_95
theorem ddX9_stepIn_96 : decode mX9_stepIn.2.1 96 = .ok (.aload_n 0, 1) := dX9_stepIn_96
theorem ddX9_stepIn_97 : decode mX9_stepIn.2.1 97 = .ok (.getfield 7, 3) := dX9_stepIn_97
theorem ddX9_stepIn_100 : decode mX9_stepIn.2.1 100 = .ok (.iload_n 1, 1) := dX9_stepIn_100
theorem ddX9_stepIn_101 : decode mX9_stepIn.2.1 101 = .ok (.iconst 3, 1) := dX9_stepIn_101
theorem ddX9_stepIn_102 : decode mX9_stepIn.2.1 102 = .ok (.iadd, 1) := dX9_stepIn_102
theorem ddX9_stepIn_103 : decode mX9_stepIn.2.1 103 = .ok (.iconst 0, 1) := dX9_stepIn_103
theorem ddX9_stepIn_104 : decode mX9_stepIn.2.1 104 = .ok (.iastore, 1) := dX9_stepIn_104
theorem ddX9_stepIn_105 : decode mX9_stepIn.2.1 105 = .ok (.iconst 0, 1) := dX9_stepIn_105
theorem ddX9_stepIn_106 : decode mX9_stepIn.2.1 106 = .ok (.istore 4, 2) := dX9_stepIn_106
theorem ddX9_stepIn_108 : decode mX9_stepIn.2.1 108 = .ok (.iload 4, 2) := dX9_stepIn_108
theorem ddX9_stepIn_110 : decode mX9_stepIn.2.1 110 = .ok (.aload_n 0, 1) := dX9_stepIn_110
theorem ddX9_stepIn_111 : decode mX9_stepIn.2.1 111 = .ok (.getfield 45, 3) := dX9_stepIn_111
theorem ddX9_stepIn_114 : decode mX9_stepIn.2.1 114 = .ok (.if_icmp .ge 23, 3) := dX9_stepIn_114
theorem ddX9_stepIn_117 : decode mX9_stepIn.2.1 117 = .ok (.aload_n 0, 1) := dX9_stepIn_117
theorem ddX9_stepIn_118 : decode mX9_stepIn.2.1 118 = .ok (.getfield 7, 3) := dX9_stepIn_118
theorem ddX9_stepIn_121 : decode mX9_stepIn.2.1 121 = .ok (.iload_n 1, 1) := dX9_stepIn_121
theorem ddX9_stepIn_122 : decode mX9_stepIn.2.1 122 = .ok (.sipush 184, 3) := dX9_stepIn_122
theorem ddX9_stepIn_125 : decode mX9_stepIn.2.1 125 = .ok (.iadd, 1) := dX9_stepIn_125
theorem ddX9_stepIn_126 : decode mX9_stepIn.2.1 126 = .ok (.iload 4, 2) := dX9_stepIn_126
theorem ddX9_stepIn_128 : decode mX9_stepIn.2.1 128 = .ok (.iadd, 1) := dX9_stepIn_128
theorem ddX9_stepIn_129 : decode mX9_stepIn.2.1 129 = .ok (.iconst 0, 1) := dX9_stepIn_129
theorem ddX9_stepIn_130 : decode mX9_stepIn.2.1 130 = .ok (.iastore, 1) := dX9_stepIn_130
theorem ddX9_stepIn_131 : decode mX9_stepIn.2.1 131 = .ok (.iinc 4 1, 3) := dX9_stepIn_131
theorem ddX9_stepIn_134 : decode mX9_stepIn.2.1 134 = .ok (.goto (-26), 3) := dX9_stepIn_134
theorem ddX9_stepIn_137 : decode mX9_stepIn.2.1 137 = .ok (.return_, 1) := dX9_stepIn_137
theorem ddX9_feed_0 : decode mX9_feed.2.1 0 = .ok (.iload_n 1, 1) := dX9_feed_0
theorem ddX9_feed_1 : decode mX9_feed.2.1 1 = .ok (.iconst 0, 1) := dX9_feed_1
theorem ddX9_feed_2 : decode mX9_feed.2.1 2 = .ok (.sipush 255, 3) := dX9_feed_2
theorem ddX9_feed_5 : decode mX9_feed.2.1 5 = .ok (.invokestatic 41, 3) := dX9_feed_5
theorem ddX9_feed_8 : decode mX9_feed.2.1 8 = .ok (.ifCond .ne 6, 3) := dX9_feed_8
theorem ddX9_feed_11 : decode mX9_feed.2.1 11 = .ok (.ldc 101, 2) := dX9_feed_11
theorem ddX9_feed_13 : decode mX9_feed.2.1 13 = .ok (.ireturn, 1) := dX9_feed_13
theorem ddX9_feed_14 : decode mX9_feed.2.1 14 = .ok (.aload_n 0, 1) := dX9_feed_14
theorem ddX9_feed_15 : decode mX9_feed.2.1 15 = .ok (.getfield 102, 3) := dX9_feed_15
theorem ddX9_feed_18 : decode mX9_feed.2.1 18 = .ok (.sipush 200, 3) := dX9_feed_18
theorem ddX9_feed_21 : decode mX9_feed.2.1 21 = .ok (.if_icmp .ne 6, 3) := dX9_feed_21
theorem ddX9_feed_24 : decode mX9_feed.2.1 24 = .ok (.ldc 105, 2) := dX9_feed_24
theorem ddX9_feed_26 : decode mX9_feed.2.1 26 = .ok (.ireturn, 1) := dX9_feed_26
theorem ddX9_feed_27 : decode mX9_feed.2.1 27 = .ok (.aload_n 0, 1) := dX9_feed_27
theorem ddX9_feed_28 : decode mX9_feed.2.1 28 = .ok (.getfield 25, 3) := dX9_feed_28
theorem ddX9_feed_31 : decode mX9_feed.2.1 31 = .ok (.aload_n 0, 1) := dX9_feed_31
theorem ddX9_feed_32 : decode mX9_feed.2.1 32 = .ok (.getfield 102, 3) := dX9_feed_32
theorem ddX9_feed_35 : decode mX9_feed.2.1 35 = .ok (.iload_n 1, 1) := dX9_feed_35
theorem ddX9_feed_36 : decode mX9_feed.2.1 36 = .ok (.iastore, 1) := dX9_feed_36
theorem ddX9_feed_37 : decode mX9_feed.2.1 37 = .ok (.aload_n 0, 1) := dX9_feed_37
theorem ddX9_feed_38 : decode mX9_feed.2.1 38 = .ok (.dup, 1) := dX9_feed_38
theorem ddX9_feed_39 : decode mX9_feed.2.1 39 = .ok (.getfield 102, 3) := dX9_feed_39
theorem ddX9_feed_42 : decode mX9_feed.2.1 42 = .ok (.iconst 1, 1) := dX9_feed_42
theorem ddX9_feed_43 : decode mX9_feed.2.1 43 = .ok (.iadd, 1) := dX9_feed_43
theorem ddX9_feed_44 : decode mX9_feed.2.1 44 = .ok (.putfield 102, 3) := dX9_feed_44
theorem ddX9_feed_47 : decode mX9_feed.2.1 47 = .ok (.aload_n 0, 1) := dX9_feed_47
theorem ddX9_feed_48 : decode mX9_feed.2.1 48 = .ok (.getfield 102, 3) := dX9_feed_48
theorem ddX9_feed_51 : decode mX9_feed.2.1 51 = .ok (.ireturn, 1) := dX9_feed_51
theorem ddX9_fail_0 : decode mX9_fail.2.1 0 = .ok (.aload_n 0, 1) := dX9_fail_0
theorem ddX9_fail_1 : decode mX9_fail.2.1 1 = .ok (.getfield 106, 3) := dX9_fail_1
theorem ddX9_fail_4 : decode mX9_fail.2.1 4 = .ok (.ifCond .ne 13, 3) := dX9_fail_4
theorem ddX9_fail_7 : decode mX9_fail.2.1 7 = .ok (.aload_n 0, 1) := dX9_fail_7
theorem ddX9_fail_8 : decode mX9_fail.2.1 8 = .ok (.iload_n 1, 1) := dX9_fail_8
theorem ddX9_fail_9 : decode mX9_fail.2.1 9 = .ok (.putfield 106, 3) := dX9_fail_9
theorem ddX9_fail_12 : decode mX9_fail.2.1 12 = .ok (.aload_n 0, 1) := dX9_fail_12
theorem ddX9_fail_13 : decode mX9_fail.2.1 13 = .ok (.iload_n 2, 1) := dX9_fail_13
theorem ddX9_fail_14 : decode mX9_fail.2.1 14 = .ok (.putfield 109, 3) := dX9_fail_14
theorem ddX9_fail_17 : decode mX9_fail.2.1 17 = .ok (.return_, 1) := dX9_fail_17
theorem ddX9_here_0 : decode mX9_here.2.1 0 = .ok (.aload_n 0, 1) := dX9_here_0
theorem ddX9_here_1 : decode mX9_here.2.1 1 = .ok (.getfield 112, 3) := dX9_here_1
theorem ddX9_here_4 : decode mX9_here.2.1 4 = .ok (.aload_n 0, 1) := dX9_here_4
theorem ddX9_here_5 : decode mX9_here.2.1 5 = .ok (.getfield 102, 3) := dX9_here_5
theorem ddX9_here_8 : decode mX9_here.2.1 8 = .ok (.if_icmp .ge 30, 3) := dX9_here_8
theorem ddX9_here_11 : decode mX9_here.2.1 11 = .ok (.aload_n 0, 1) := dX9_here_11
theorem ddX9_here_12 : decode mX9_here.2.1 12 = .ok (.getfield 25, 3) := dX9_here_12
theorem ddX9_here_15 : decode mX9_here.2.1 15 = .ok (.aload_n 0, 1) := dX9_here_15
theorem ddX9_here_16 : decode mX9_here.2.1 16 = .ok (.getfield 112, 3) := dX9_here_16
theorem ddX9_here_19 : decode mX9_here.2.1 19 = .ok (.iaload, 1) := dX9_here_19
theorem ddX9_here_20 : decode mX9_here.2.1 20 = .ok (.bipush 32, 2) := dX9_here_20
theorem ddX9_here_22 : decode mX9_here.2.1 22 = .ok (.if_icmp .ne 16, 3) := dX9_here_22
theorem ddX9_here_25 : decode mX9_here.2.1 25 = .ok (.aload_n 0, 1) := dX9_here_25
theorem ddX9_here_26 : decode mX9_here.2.1 26 = .ok (.dup, 1) := dX9_here_26
theorem ddX9_here_27 : decode mX9_here.2.1 27 = .ok (.getfield 112, 3) := dX9_here_27
theorem ddX9_here_30 : decode mX9_here.2.1 30 = .ok (.iconst 1, 1) := dX9_here_30
theorem ddX9_here_31 : decode mX9_here.2.1 31 = .ok (.iadd, 1) := dX9_here_31
theorem ddX9_here_32 : decode mX9_here.2.1 32 = .ok (.putfield 112, 3) := dX9_here_32
theorem ddX9_here_35 : decode mX9_here.2.1 35 = .ok (.goto (-35), 3) := dX9_here_35
theorem ddX9_here_38 : decode mX9_here.2.1 38 = .ok (.aload_n 0, 1) := dX9_here_38
theorem ddX9_here_39 : decode mX9_here.2.1 39 = .ok (.getfield 112, 3) := dX9_here_39
theorem ddX9_here_42 : decode mX9_here.2.1 42 = .ok (.aload_n 0, 1) := dX9_here_42
theorem ddX9_here_43 : decode mX9_here.2.1 43 = .ok (.getfield 102, 3) := dX9_here_43
theorem ddX9_here_46 : decode mX9_here.2.1 46 = .ok (.if_icmp .ge 15, 3) := dX9_here_46
theorem ddX9_here_49 : decode mX9_here.2.1 49 = .ok (.aload_n 0, 1) := dX9_here_49
theorem ddX9_here_50 : decode mX9_here.2.1 50 = .ok (.getfield 25, 3) := dX9_here_50
theorem ddX9_here_53 : decode mX9_here.2.1 53 = .ok (.aload_n 0, 1) := dX9_here_53
theorem ddX9_here_54 : decode mX9_here.2.1 54 = .ok (.getfield 112, 3) := dX9_here_54
theorem ddX9_here_57 : decode mX9_here.2.1 57 = .ok (.iaload, 1) := dX9_here_57
theorem ddX9_here_58 : decode mX9_here.2.1 58 = .ok (.goto 4, 3) := dX9_here_58
theorem ddX9_here_61 : decode mX9_here.2.1 61 = .ok (.iconst (-1), 1) := dX9_here_61
theorem ddX9_here_62 : decode mX9_here.2.1 62 = .ok (.ireturn, 1) := dX9_here_62
theorem ddX9_number_0 : decode mX9_number.2.1 0 = .ok (.aload_n 0, 1) := dX9_number_0
theorem ddX9_number_1 : decode mX9_number.2.1 1 = .ok (.invokevirtual 115, 3) := dX9_number_1
theorem ddX9_number_4 : decode mX9_number.2.1 4 = .ok (.istore_n 3, 1) := dX9_number_4
theorem ddX9_number_5 : decode mX9_number.2.1 5 = .ok (.aload_n 0, 1) := dX9_number_5
theorem ddX9_number_6 : decode mX9_number.2.1 6 = .ok (.getfield 106, 3) := dX9_number_6
theorem ddX9_number_9 : decode mX9_number.2.1 9 = .ok (.ifCond .ne 14, 3) := dX9_number_9
theorem ddX9_number_12 : decode mX9_number.2.1 12 = .ok (.iload_n 3, 1) := dX9_number_12
theorem ddX9_number_13 : decode mX9_number.2.1 13 = .ok (.bipush 48, 2) := dX9_number_13
theorem ddX9_number_15 : decode mX9_number.2.1 15 = .ok (.bipush 57, 2) := dX9_number_15
theorem ddX9_number_17 : decode mX9_number.2.1 17 = .ok (.invokestatic 41, 3) := dX9_number_17
theorem ddX9_number_20 : decode mX9_number.2.1 20 = .ok (.ifCond .ne 14, 3) := dX9_number_20
theorem ddX9_number_23 : decode mX9_number.2.1 23 = .ok (.aload_n 0, 1) := dX9_number_23
theorem ddX9_number_24 : decode mX9_number.2.1 24 = .ok (.iconst 1, 1) := dX9_number_24
theorem ddX9_number_25 : decode mX9_number.2.1 25 = .ok (.aload_n 0, 1) := dX9_number_25
theorem ddX9_number_26 : decode mX9_number.2.1 26 = .ok (.getfield 112, 3) := dX9_number_26
theorem ddX9_number_29 : decode mX9_number.2.1 29 = .ok (.invokevirtual 119, 3) := dX9_number_29
theorem ddX9_number_32 : decode mX9_number.2.1 32 = .ok (.iload_n 1, 1) := dX9_number_32
theorem ddX9_number_33 : decode mX9_number.2.1 33 = .ok (.ireturn, 1) := dX9_number_33
theorem ddX9_number_34 : decode mX9_number.2.1 34 = .ok (.aload_n 0, 1) := dX9_number_34
theorem ddX9_number_35 : decode mX9_number.2.1 35 = .ok (.aload_n 0, 1) := dX9_number_35
theorem ddX9_number_36 : decode mX9_number.2.1 36 = .ok (.getfield 112, 3) := dX9_number_36
theorem ddX9_number_39 : decode mX9_number.2.1 39 = .ok (.putfield 122, 3) := dX9_number_39
theorem ddX9_number_42 : decode mX9_number.2.1 42 = .ok (.iconst 0, 1) := dX9_number_42
theorem ddX9_number_43 : decode mX9_number.2.1 43 = .ok (.istore 4, 2) := dX9_number_43
theorem ddX9_number_45 : decode mX9_number.2.1 45 = .ok (.aload_n 0, 1) := dX9_number_45
theorem ddX9_number_46 : decode mX9_number.2.1 46 = .ok (.getfield 112, 3) := dX9_number_46
theorem ddX9_number_49 : decode mX9_number.2.1 49 = .ok (.aload_n 0, 1) := dX9_number_49
theorem ddX9_number_50 : decode mX9_number.2.1 50 = .ok (.getfield 102, 3) := dX9_number_50
theorem ddX9_number_53 : decode mX9_number.2.1 53 = .ok (.if_icmp .ge 73, 3) := dX9_number_53
theorem ddX9_number_56 : decode mX9_number.2.1 56 = .ok (.aload_n 0, 1) := dX9_number_56
theorem ddX9_number_57 : decode mX9_number.2.1 57 = .ok (.getfield 25, 3) := dX9_number_57
theorem ddX9_number_60 : decode mX9_number.2.1 60 = .ok (.aload_n 0, 1) := dX9_number_60
theorem ddX9_number_61 : decode mX9_number.2.1 61 = .ok (.getfield 112, 3) := dX9_number_61
theorem ddX9_number_64 : decode mX9_number.2.1 64 = .ok (.iaload, 1) := dX9_number_64
theorem ddX9_number_65 : decode mX9_number.2.1 65 = .ok (.bipush 48, 2) := dX9_number_65
theorem ddX9_number_67 : decode mX9_number.2.1 67 = .ok (.bipush 57, 2) := dX9_number_67
theorem ddX9_number_69 : decode mX9_number.2.1 69 = .ok (.invokestatic 41, 3) := dX9_number_69
theorem ddX9_number_72 : decode mX9_number.2.1 72 = .ok (.ifCond .eq 54, 3) := dX9_number_72
theorem ddX9_number_75 : decode mX9_number.2.1 75 = .ok (.aload_n 0, 1) := dX9_number_75
theorem ddX9_number_76 : decode mX9_number.2.1 76 = .ok (.getfield 112, 3) := dX9_number_76
theorem ddX9_number_79 : decode mX9_number.2.1 79 = .ok (.aload_n 0, 1) := dX9_number_79
theorem ddX9_number_80 : decode mX9_number.2.1 80 = .ok (.getfield 122, 3) := dX9_number_80
theorem ddX9_number_83 : decode mX9_number.2.1 83 = .ok (.isub, 1) := dX9_number_83
theorem ddX9_number_84 : decode mX9_number.2.1 84 = .ok (.iconst 2, 1) := dX9_number_84
theorem ddX9_number_85 : decode mX9_number.2.1 85 = .ok (.if_icmp .ge 24, 3) := dX9_number_85
theorem ddX9_number_88 : decode mX9_number.2.1 88 = .ok (.bipush 10, 2) := dX9_number_88
theorem ddX9_number_90 : decode mX9_number.2.1 90 = .ok (.iload 4, 2) := dX9_number_90
theorem ddX9_number_92 : decode mX9_number.2.1 92 = .ok (.imul, 1) := dX9_number_92
theorem ddX9_number_93 : decode mX9_number.2.1 93 = .ok (.aload_n 0, 1) := dX9_number_93
theorem ddX9_number_94 : decode mX9_number.2.1 94 = .ok (.getfield 25, 3) := dX9_number_94
theorem ddX9_number_97 : decode mX9_number.2.1 97 = .ok (.aload_n 0, 1) := dX9_number_97
theorem ddX9_number_98 : decode mX9_number.2.1 98 = .ok (.getfield 112, 3) := dX9_number_98
theorem ddX9_number_101 : decode mX9_number.2.1 101 = .ok (.iaload, 1) := dX9_number_101
theorem ddX9_number_102 : decode mX9_number.2.1 102 = .ok (.iadd, 1) := dX9_number_102
theorem ddX9_number_103 : decode mX9_number.2.1 103 = .ok (.bipush 48, 2) := dX9_number_103
theorem ddX9_number_105 : decode mX9_number.2.1 105 = .ok (.isub, 1) := dX9_number_105
theorem ddX9_number_106 : decode mX9_number.2.1 106 = .ok (.goto 5, 3) := dX9_number_106
theorem ddX9_number_109 : decode mX9_number.2.1 109 = .ok (.iload 4, 2) := dX9_number_109
theorem ddX9_number_111 : decode mX9_number.2.1 111 = .ok (.istore 4, 2) := dX9_number_111
theorem ddX9_number_113 : decode mX9_number.2.1 113 = .ok (.aload_n 0, 1) := dX9_number_113
theorem ddX9_number_114 : decode mX9_number.2.1 114 = .ok (.dup, 1) := dX9_number_114
theorem ddX9_number_115 : decode mX9_number.2.1 115 = .ok (.getfield 112, 3) := dX9_number_115
theorem ddX9_number_118 : decode mX9_number.2.1 118 = .ok (.iconst 1, 1) := dX9_number_118
theorem ddX9_number_119 : decode mX9_number.2.1 119 = .ok (.iadd, 1) := dX9_number_119
theorem ddX9_number_120 : decode mX9_number.2.1 120 = .ok (.putfield 112, 3) := dX9_number_120
theorem ddX9_number_123 : decode mX9_number.2.1 123 = .ok (.goto (-78), 3) := dX9_number_123
theorem ddX9_number_126 : decode mX9_number.2.1 126 = .ok (.aload_n 0, 1) := dX9_number_126
theorem ddX9_number_127 : decode mX9_number.2.1 127 = .ok (.getfield 112, 3) := dX9_number_127
theorem ddX9_number_130 : decode mX9_number.2.1 130 = .ok (.aload_n 0, 1) := dX9_number_130
theorem ddX9_number_131 : decode mX9_number.2.1 131 = .ok (.getfield 122, 3) := dX9_number_131
theorem ddX9_number_134 : decode mX9_number.2.1 134 = .ok (.isub, 1) := dX9_number_134
theorem ddX9_number_135 : decode mX9_number.2.1 135 = .ok (.iconst 2, 1) := dX9_number_135
theorem ddX9_number_136 : decode mX9_number.2.1 136 = .ok (.if_icmp .gt 13, 3) := dX9_number_136
theorem ddX9_number_139 : decode mX9_number.2.1 139 = .ok (.iload 4, 2) := dX9_number_139
theorem ddX9_number_141 : decode mX9_number.2.1 141 = .ok (.iload_n 1, 1) := dX9_number_141
theorem ddX9_number_142 : decode mX9_number.2.1 142 = .ok (.iload_n 2, 1) := dX9_number_142
theorem ddX9_number_143 : decode mX9_number.2.1 143 = .ok (.invokestatic 41, 3) := dX9_number_143
theorem ddX9_number_146 : decode mX9_number.2.1 146 = .ok (.ifCond .ne 14, 3) := dX9_number_146
theorem ddX9_number_149 : decode mX9_number.2.1 149 = .ok (.aload_n 0, 1) := dX9_number_149
theorem ddX9_number_150 : decode mX9_number.2.1 150 = .ok (.iconst 2, 1) := dX9_number_150
theorem ddX9_number_151 : decode mX9_number.2.1 151 = .ok (.aload_n 0, 1) := dX9_number_151
theorem ddX9_number_152 : decode mX9_number.2.1 152 = .ok (.getfield 122, 3) := dX9_number_152
theorem ddX9_number_155 : decode mX9_number.2.1 155 = .ok (.invokevirtual 119, 3) := dX9_number_155
theorem ddX9_number_158 : decode mX9_number.2.1 158 = .ok (.iload_n 1, 1) := dX9_number_158
theorem ddX9_number_159 : decode mX9_number.2.1 159 = .ok (.ireturn, 1) := dX9_number_159
theorem ddX9_number_160 : decode mX9_number.2.1 160 = .ok (.iload 4, 2) := dX9_number_160
theorem ddX9_number_162 : decode mX9_number.2.1 162 = .ok (.ireturn, 1) := dX9_number_162
theorem ddX9_readWire_0 : decode mX9_readWire.2.1 0 = .ok (.aload_n 0, 1) := dX9_readWire_0
theorem ddX9_readWire_1 : decode mX9_readWire.2.1 1 = .ok (.getfield 125, 3) := dX9_readWire_1
theorem ddX9_readWire_4 : decode mX9_readWire.2.1 4 = .ok (.bipush 8, 2) := dX9_readWire_4
theorem ddX9_readWire_6 : decode mX9_readWire.2.1 6 = .ok (.if_icmp .ne 10, 3) := dX9_readWire_6
theorem ddX9_readWire_9 : decode mX9_readWire.2.1 9 = .ok (.aload_n 0, 1) := dX9_readWire_9
theorem ddX9_readWire_10 : decode mX9_readWire.2.1 10 = .ok (.iconst 3, 1) := dX9_readWire_10
theorem ddX9_readWire_11 : decode mX9_readWire.2.1 11 = .ok (.iload_n 1, 1) := dX9_readWire_11
theorem ddX9_readWire_12 : decode mX9_readWire.2.1 12 = .ok (.invokevirtual 119, 3) := dX9_readWire_12
theorem ddX9_readWire_15 : decode mX9_readWire.2.1 15 = .ok (.return_, 1) := dX9_readWire_15
theorem ddX9_readWire_16 : decode mX9_readWire.2.1 16 = .ok (.aload_n 0, 1) := dX9_readWire_16
theorem ddX9_readWire_17 : decode mX9_readWire.2.1 17 = .ok (.getfield 32, 3) := dX9_readWire_17
theorem ddX9_readWire_20 : decode mX9_readWire.2.1 20 = .ok (.aload_n 0, 1) := dX9_readWire_20
theorem ddX9_readWire_21 : decode mX9_readWire.2.1 21 = .ok (.getfield 125, 3) := dX9_readWire_21
theorem ddX9_readWire_24 : decode mX9_readWire.2.1 24 = .ok (.aload_n 0, 1) := dX9_readWire_24
theorem ddX9_readWire_25 : decode mX9_readWire.2.1 25 = .ok (.iconst 0, 1) := dX9_readWire_25
theorem ddX9_readWire_26 : decode mX9_readWire.2.1 26 = .ok (.iconst 3, 1) := dX9_readWire_26
theorem ddX9_readWire_27 : decode mX9_readWire.2.1 27 = .ok (.invokevirtual 128, 3) := dX9_readWire_27
theorem ddX9_readWire_30 : decode mX9_readWire.2.1 30 = .ok (.iastore, 1) := dX9_readWire_30
theorem ddX9_readWire_31 : decode mX9_readWire.2.1 31 = .ok (.aload_n 0, 1) := dX9_readWire_31
theorem ddX9_readWire_32 : decode mX9_readWire.2.1 32 = .ok (.dup, 1) := dX9_readWire_32
theorem ddX9_readWire_33 : decode mX9_readWire.2.1 33 = .ok (.getfield 125, 3) := dX9_readWire_33
theorem ddX9_readWire_36 : decode mX9_readWire.2.1 36 = .ok (.iconst 1, 1) := dX9_readWire_36
theorem ddX9_readWire_37 : decode mX9_readWire.2.1 37 = .ok (.iadd, 1) := dX9_readWire_37
theorem ddX9_readWire_38 : decode mX9_readWire.2.1 38 = .ok (.putfield 125, 3) := dX9_readWire_38
theorem ddX9_readWire_41 : decode mX9_readWire.2.1 41 = .ok (.return_, 1) := dX9_readWire_41
theorem ddX9_readGate_0 : decode mX9_readGate.2.1 0 = .ok (.aload_n 0, 1) := dX9_readGate_0
theorem ddX9_readGate_1 : decode mX9_readGate.2.1 1 = .ok (.getfield 131, 3) := dX9_readGate_1
theorem ddX9_readGate_4 : decode mX9_readGate.2.1 4 = .ok (.bipush 8, 2) := dX9_readGate_4
theorem ddX9_readGate_6 : decode mX9_readGate.2.1 6 = .ok (.if_icmp .ne 10, 3) := dX9_readGate_6
theorem ddX9_readGate_9 : decode mX9_readGate.2.1 9 = .ok (.aload_n 0, 1) := dX9_readGate_9
theorem ddX9_readGate_10 : decode mX9_readGate.2.1 10 = .ok (.iconst 3, 1) := dX9_readGate_10
theorem ddX9_readGate_11 : decode mX9_readGate.2.1 11 = .ok (.iload_n 1, 1) := dX9_readGate_11
theorem ddX9_readGate_12 : decode mX9_readGate.2.1 12 = .ok (.invokevirtual 119, 3) := dX9_readGate_12
theorem ddX9_readGate_15 : decode mX9_readGate.2.1 15 = .ok (.return_, 1) := dX9_readGate_15
theorem ddX9_readGate_16 : decode mX9_readGate.2.1 16 = .ok (.bipush 6, 2) := dX9_readGate_16
theorem ddX9_readGate_18 : decode mX9_readGate.2.1 18 = .ok (.aload_n 0, 1) := dX9_readGate_18
theorem ddX9_readGate_19 : decode mX9_readGate.2.1 19 = .ok (.getfield 131, 3) := dX9_readGate_19
theorem ddX9_readGate_22 : decode mX9_readGate.2.1 22 = .ok (.imul, 1) := dX9_readGate_22
theorem ddX9_readGate_23 : decode mX9_readGate.2.1 23 = .ok (.istore_n 2, 1) := dX9_readGate_23
theorem ddX9_readGate_24 : decode mX9_readGate.2.1 24 = .ok (.aload_n 0, 1) := dX9_readGate_24
theorem ddX9_readGate_25 : decode mX9_readGate.2.1 25 = .ok (.getfield 35, 3) := dX9_readGate_25
theorem ddX9_readGate_28 : decode mX9_readGate.2.1 28 = .ok (.iload_n 2, 1) := dX9_readGate_28
theorem ddX9_readGate_29 : decode mX9_readGate.2.1 29 = .ok (.iconst 0, 1) := dX9_readGate_29
theorem ddX9_readGate_30 : decode mX9_readGate.2.1 30 = .ok (.iadd, 1) := dX9_readGate_30
theorem ddX9_readGate_31 : decode mX9_readGate.2.1 31 = .ok (.aload_n 0, 1) := dX9_readGate_31
theorem ddX9_readGate_32 : decode mX9_readGate.2.1 32 = .ok (.iconst 0, 1) := dX9_readGate_32
theorem ddX9_readGate_33 : decode mX9_readGate.2.1 33 = .ok (.iconst 5, 1) := dX9_readGate_33
theorem ddX9_readGate_34 : decode mX9_readGate.2.1 34 = .ok (.invokevirtual 128, 3) := dX9_readGate_34
theorem ddX9_readGate_37 : decode mX9_readGate.2.1 37 = .ok (.iastore, 1) := dX9_readGate_37
theorem ddX9_readGate_38 : decode mX9_readGate.2.1 38 = .ok (.aload_n 0, 1) := dX9_readGate_38
theorem ddX9_readGate_39 : decode mX9_readGate.2.1 39 = .ok (.getfield 35, 3) := dX9_readGate_39
theorem ddX9_readGate_42 : decode mX9_readGate.2.1 42 = .ok (.iload_n 2, 1) := dX9_readGate_42
theorem ddX9_readGate_43 : decode mX9_readGate.2.1 43 = .ok (.iconst 1, 1) := dX9_readGate_43
theorem ddX9_readGate_44 : decode mX9_readGate.2.1 44 = .ok (.iadd, 1) := dX9_readGate_44
theorem ddX9_readGate_45 : decode mX9_readGate.2.1 45 = .ok (.aload_n 0, 1) := dX9_readGate_45
theorem ddX9_readGate_46 : decode mX9_readGate.2.1 46 = .ok (.iconst 0, 1) := dX9_readGate_46
theorem ddX9_readGate_47 : decode mX9_readGate.2.1 47 = .ok (.aload_n 0, 1) := dX9_readGate_47
theorem ddX9_readGate_48 : decode mX9_readGate.2.1 48 = .ok (.getfield 125, 3) := dX9_readGate_48
theorem ddX9_readGate_51 : decode mX9_readGate.2.1 51 = .ok (.iconst 1, 1) := dX9_readGate_51
theorem ddX9_readGate_52 : decode mX9_readGate.2.1 52 = .ok (.isub, 1) := dX9_readGate_52
theorem ddX9_readGate_53 : decode mX9_readGate.2.1 53 = .ok (.invokevirtual 128, 3) := dX9_readGate_53
theorem ddX9_readGate_56 : decode mX9_readGate.2.1 56 = .ok (.iastore, 1) := dX9_readGate_56
theorem ddX9_readGate_57 : decode mX9_readGate.2.1 57 = .ok (.aload_n 0, 1) := dX9_readGate_57
theorem ddX9_readGate_58 : decode mX9_readGate.2.1 58 = .ok (.getfield 35, 3) := dX9_readGate_58
theorem ddX9_readGate_61 : decode mX9_readGate.2.1 61 = .ok (.iload_n 2, 1) := dX9_readGate_61
theorem ddX9_readGate_62 : decode mX9_readGate.2.1 62 = .ok (.iconst 2, 1) := dX9_readGate_62
theorem ddX9_readGate_63 : decode mX9_readGate.2.1 63 = .ok (.iadd, 1) := dX9_readGate_63
theorem ddX9_readGate_64 : decode mX9_readGate.2.1 64 = .ok (.aload_n 0, 1) := dX9_readGate_64
theorem ddX9_readGate_65 : decode mX9_readGate.2.1 65 = .ok (.iconst 0, 1) := dX9_readGate_65
theorem ddX9_readGate_66 : decode mX9_readGate.2.1 66 = .ok (.aload_n 0, 1) := dX9_readGate_66
theorem ddX9_readGate_67 : decode mX9_readGate.2.1 67 = .ok (.getfield 125, 3) := dX9_readGate_67
theorem ddX9_readGate_70 : decode mX9_readGate.2.1 70 = .ok (.iconst 1, 1) := dX9_readGate_70
theorem ddX9_readGate_71 : decode mX9_readGate.2.1 71 = .ok (.isub, 1) := dX9_readGate_71
theorem ddX9_readGate_72 : decode mX9_readGate.2.1 72 = .ok (.invokevirtual 128, 3) := dX9_readGate_72
theorem ddX9_readGate_75 : decode mX9_readGate.2.1 75 = .ok (.iastore, 1) := dX9_readGate_75
theorem ddX9_readGate_76 : decode mX9_readGate.2.1 76 = .ok (.aload_n 0, 1) := dX9_readGate_76
theorem ddX9_readGate_77 : decode mX9_readGate.2.1 77 = .ok (.getfield 35, 3) := dX9_readGate_77
theorem ddX9_readGate_80 : decode mX9_readGate.2.1 80 = .ok (.iload_n 2, 1) := dX9_readGate_80
theorem ddX9_readGate_81 : decode mX9_readGate.2.1 81 = .ok (.iconst 3, 1) := dX9_readGate_81
theorem ddX9_readGate_82 : decode mX9_readGate.2.1 82 = .ok (.iadd, 1) := dX9_readGate_82
theorem ddX9_readGate_83 : decode mX9_readGate.2.1 83 = .ok (.aload_n 0, 1) := dX9_readGate_83
theorem ddX9_readGate_84 : decode mX9_readGate.2.1 84 = .ok (.iconst 0, 1) := dX9_readGate_84
theorem ddX9_readGate_85 : decode mX9_readGate.2.1 85 = .ok (.aload_n 0, 1) := dX9_readGate_85
theorem ddX9_readGate_86 : decode mX9_readGate.2.1 86 = .ok (.getfield 125, 3) := dX9_readGate_86
theorem ddX9_readGate_89 : decode mX9_readGate.2.1 89 = .ok (.iconst 1, 1) := dX9_readGate_89
theorem ddX9_readGate_90 : decode mX9_readGate.2.1 90 = .ok (.isub, 1) := dX9_readGate_90
theorem ddX9_readGate_91 : decode mX9_readGate.2.1 91 = .ok (.invokevirtual 128, 3) := dX9_readGate_91
theorem ddX9_readGate_94 : decode mX9_readGate.2.1 94 = .ok (.iastore, 1) := dX9_readGate_94
theorem ddX9_readGate_95 : decode mX9_readGate.2.1 95 = .ok (.aload_n 0, 1) := dX9_readGate_95
theorem ddX9_readGate_96 : decode mX9_readGate.2.1 96 = .ok (.getfield 35, 3) := dX9_readGate_96
theorem ddX9_readGate_99 : decode mX9_readGate.2.1 99 = .ok (.iload_n 2, 1) := dX9_readGate_99
theorem ddX9_readGate_100 : decode mX9_readGate.2.1 100 = .ok (.iconst 4, 1) := dX9_readGate_100
theorem ddX9_readGate_101 : decode mX9_readGate.2.1 101 = .ok (.iadd, 1) := dX9_readGate_101
theorem ddX9_readGate_102 : decode mX9_readGate.2.1 102 = .ok (.aload_n 0, 1) := dX9_readGate_102
theorem ddX9_readGate_103 : decode mX9_readGate.2.1 103 = .ok (.iconst 0, 1) := dX9_readGate_103
theorem ddX9_readGate_104 : decode mX9_readGate.2.1 104 = .ok (.bipush 20, 2) := dX9_readGate_104
theorem ddX9_readGate_106 : decode mX9_readGate.2.1 106 = .ok (.invokevirtual 128, 3) := dX9_readGate_106
theorem ddX9_readGate_109 : decode mX9_readGate.2.1 109 = .ok (.iastore, 1) := dX9_readGate_109
theorem ddX9_readGate_110 : decode mX9_readGate.2.1 110 = .ok (.aload_n 0, 1) := dX9_readGate_110
theorem ddX9_readGate_111 : decode mX9_readGate.2.1 111 = .ok (.getfield 35, 3) := dX9_readGate_111
theorem ddX9_readGate_114 : decode mX9_readGate.2.1 114 = .ok (.iload_n 2, 1) := dX9_readGate_114
theorem ddX9_readGate_115 : decode mX9_readGate.2.1 115 = .ok (.iconst 1, 1) := dX9_readGate_115
theorem ddX9_readGate_116 : decode mX9_readGate.2.1 116 = .ok (.iadd, 1) := dX9_readGate_116
theorem ddX9_readGate_117 : decode mX9_readGate.2.1 117 = .ok (.iaload, 1) := dX9_readGate_117
theorem ddX9_readGate_118 : decode mX9_readGate.2.1 118 = .ok (.aload_n 0, 1) := dX9_readGate_118
theorem ddX9_readGate_119 : decode mX9_readGate.2.1 119 = .ok (.getfield 35, 3) := dX9_readGate_119
theorem ddX9_readGate_122 : decode mX9_readGate.2.1 122 = .ok (.iload_n 2, 1) := dX9_readGate_122
theorem ddX9_readGate_123 : decode mX9_readGate.2.1 123 = .ok (.iconst 3, 1) := dX9_readGate_123
theorem ddX9_readGate_124 : decode mX9_readGate.2.1 124 = .ok (.iadd, 1) := dX9_readGate_124
theorem ddX9_readGate_125 : decode mX9_readGate.2.1 125 = .ok (.iaload, 1) := dX9_readGate_125
theorem ddX9_readGate_126 : decode mX9_readGate.2.1 126 = .ok (.if_icmp .eq 33, 3) := dX9_readGate_126
theorem ddX9_readGate_129 : decode mX9_readGate.2.1 129 = .ok (.aload_n 0, 1) := dX9_readGate_129
theorem ddX9_readGate_130 : decode mX9_readGate.2.1 130 = .ok (.getfield 35, 3) := dX9_readGate_130
theorem ddX9_readGate_133 : decode mX9_readGate.2.1 133 = .ok (.iload_n 2, 1) := dX9_readGate_133
theorem ddX9_readGate_134 : decode mX9_readGate.2.1 134 = .ok (.iconst 0, 1) := dX9_readGate_134
theorem ddX9_readGate_135 : decode mX9_readGate.2.1 135 = .ok (.iadd, 1) := dX9_readGate_135
theorem ddX9_readGate_136 : decode mX9_readGate.2.1 136 = .ok (.iaload, 1) := dX9_readGate_136
theorem ddX9_readGate_137 : decode mX9_readGate.2.1 137 = .ok (.ifCond .eq 26, 3) := dX9_readGate_137
theorem ddX9_readGate_140 : decode mX9_readGate.2.1 140 = .ok (.aload_n 0, 1) := dX9_readGate_140
theorem ddX9_readGate_141 : decode mX9_readGate.2.1 141 = .ok (.getfield 35, 3) := dX9_readGate_141
theorem ddX9_readGate_144 : decode mX9_readGate.2.1 144 = .ok (.iload_n 2, 1) := dX9_readGate_144
theorem ddX9_readGate_145 : decode mX9_readGate.2.1 145 = .ok (.iconst 2, 1) := dX9_readGate_145
theorem ddX9_readGate_146 : decode mX9_readGate.2.1 146 = .ok (.iadd, 1) := dX9_readGate_146
theorem ddX9_readGate_147 : decode mX9_readGate.2.1 147 = .ok (.iaload, 1) := dX9_readGate_147
theorem ddX9_readGate_148 : decode mX9_readGate.2.1 148 = .ok (.aload_n 0, 1) := dX9_readGate_148
theorem ddX9_readGate_149 : decode mX9_readGate.2.1 149 = .ok (.getfield 35, 3) := dX9_readGate_149
theorem ddX9_readGate_152 : decode mX9_readGate.2.1 152 = .ok (.iload_n 2, 1) := dX9_readGate_152
theorem ddX9_readGate_153 : decode mX9_readGate.2.1 153 = .ok (.iconst 3, 1) := dX9_readGate_153
theorem ddX9_readGate_154 : decode mX9_readGate.2.1 154 = .ok (.iadd, 1) := dX9_readGate_154
theorem ddX9_readGate_155 : decode mX9_readGate.2.1 155 = .ok (.iaload, 1) := dX9_readGate_155
theorem ddX9_readGate_156 : decode mX9_readGate.2.1 156 = .ok (.if_icmp .ne 7, 3) := dX9_readGate_156
theorem ddX9_readGate_159 : decode mX9_readGate.2.1 159 = .ok (.iconst 1, 1) := dX9_readGate_159
theorem ddX9_readGate_160 : decode mX9_readGate.2.1 160 = .ok (.goto 4, 3) := dX9_readGate_160
theorem ddX9_readGate_163 : decode mX9_readGate.2.1 163 = .ok (.iconst 0, 1) := dX9_readGate_163
theorem ddX9_readGate_164 : decode mX9_readGate.2.1 164 = .ok (.istore_n 3, 1) := dX9_readGate_164
theorem ddX9_readGate_165 : decode mX9_readGate.2.1 165 = .ok (.iload_n 3, 1) := dX9_readGate_165
theorem ddX9_readGate_166 : decode mX9_readGate.2.1 166 = .ok (.ifCond .eq 23, 3) := dX9_readGate_166
theorem ddX9_readGate_169 : decode mX9_readGate.2.1 169 = .ok (.aload_n 0, 1) := dX9_readGate_169
theorem ddX9_readGate_170 : decode mX9_readGate.2.1 170 = .ok (.getfield 35, 3) := dX9_readGate_170
theorem ddX9_readGate_173 : decode mX9_readGate.2.1 173 = .ok (.iload_n 2, 1) := dX9_readGate_173
theorem ddX9_readGate_174 : decode mX9_readGate.2.1 174 = .ok (.iconst 4, 1) := dX9_readGate_174
theorem ddX9_readGate_175 : decode mX9_readGate.2.1 175 = .ok (.iadd, 1) := dX9_readGate_175
theorem ddX9_readGate_176 : decode mX9_readGate.2.1 176 = .ok (.iaload, 1) := dX9_readGate_176
theorem ddX9_readGate_177 : decode mX9_readGate.2.1 177 = .ok (.ifCond .ne 12, 3) := dX9_readGate_177
theorem ddX9_readGate_180 : decode mX9_readGate.2.1 180 = .ok (.aload_n 0, 1) := dX9_readGate_180
theorem ddX9_readGate_181 : decode mX9_readGate.2.1 181 = .ok (.iconst 4, 1) := dX9_readGate_181
theorem ddX9_readGate_182 : decode mX9_readGate.2.1 182 = .ok (.aload_n 0, 1) := dX9_readGate_182
theorem ddX9_readGate_183 : decode mX9_readGate.2.1 183 = .ok (.getfield 122, 3) := dX9_readGate_183
theorem ddX9_readGate_186 : decode mX9_readGate.2.1 186 = .ok (.invokevirtual 119, 3) := dX9_readGate_186
theorem ddX9_readGate_189 : decode mX9_readGate.2.1 189 = .ok (.aload_n 0, 1) := dX9_readGate_189
theorem ddX9_readGate_190 : decode mX9_readGate.2.1 190 = .ok (.getfield 35, 3) := dX9_readGate_190
theorem ddX9_readGate_193 : decode mX9_readGate.2.1 193 = .ok (.iload_n 2, 1) := dX9_readGate_193
theorem ddX9_readGate_194 : decode mX9_readGate.2.1 194 = .ok (.iconst 5, 1) := dX9_readGate_194
theorem ddX9_readGate_195 : decode mX9_readGate.2.1 195 = .ok (.iadd, 1) := dX9_readGate_195
theorem ddX9_readGate_196 : decode mX9_readGate.2.1 196 = .ok (.aload_n 0, 1) := dX9_readGate_196
theorem ddX9_readGate_197 : decode mX9_readGate.2.1 197 = .ok (.iconst 0, 1) := dX9_readGate_197
theorem ddX9_readGate_198 : decode mX9_readGate.2.1 198 = .ok (.iconst 1, 1) := dX9_readGate_198
theorem ddX9_readGate_199 : decode mX9_readGate.2.1 199 = .ok (.invokevirtual 128, 3) := dX9_readGate_199
theorem ddX9_readGate_202 : decode mX9_readGate.2.1 202 = .ok (.iastore, 1) := dX9_readGate_202
theorem ddX9_readGate_203 : decode mX9_readGate.2.1 203 = .ok (.aload_n 0, 1) := dX9_readGate_203
theorem ddX9_readGate_204 : decode mX9_readGate.2.1 204 = .ok (.dup, 1) := dX9_readGate_204
theorem ddX9_readGate_205 : decode mX9_readGate.2.1 205 = .ok (.getfield 131, 3) := dX9_readGate_205
theorem ddX9_readGate_208 : decode mX9_readGate.2.1 208 = .ok (.iconst 1, 1) := dX9_readGate_208
theorem ddX9_readGate_209 : decode mX9_readGate.2.1 209 = .ok (.iadd, 1) := dX9_readGate_209
theorem ddX9_readGate_210 : decode mX9_readGate.2.1 210 = .ok (.putfield 131, 3) := dX9_readGate_210
theorem ddX9_readGate_213 : decode mX9_readGate.2.1 213 = .ok (.return_, 1) := dX9_readGate_213
theorem ddX9_readClause_0 : decode mX9_readClause.2.1 0 = .ok (.aload_n 0, 1) := dX9_readClause_0
theorem ddX9_readClause_1 : decode mX9_readClause.2.1 1 = .ok (.invokevirtual 115, 3) := dX9_readClause_1
theorem ddX9_readClause_4 : decode mX9_readClause.2.1 4 = .ok (.istore_n 1, 1) := dX9_readClause_4
theorem ddX9_readClause_5 : decode mX9_readClause.2.1 5 = .ok (.aload_n 0, 1) := dX9_readClause_5
theorem ddX9_readClause_6 : decode mX9_readClause.2.1 6 = .ok (.getfield 112, 3) := dX9_readClause_6
theorem ddX9_readClause_9 : decode mX9_readClause.2.1 9 = .ok (.istore_n 2, 1) := dX9_readClause_9
theorem ddX9_readClause_10 : decode mX9_readClause.2.1 10 = .ok (.aload_n 0, 1) := dX9_readClause_10
theorem ddX9_readClause_11 : decode mX9_readClause.2.1 11 = .ok (.dup, 1) := dX9_readClause_11
theorem ddX9_readClause_12 : decode mX9_readClause.2.1 12 = .ok (.getfield 112, 3) := dX9_readClause_12
theorem ddX9_readClause_15 : decode mX9_readClause.2.1 15 = .ok (.iconst 1, 1) := dX9_readClause_15
theorem ddX9_readClause_16 : decode mX9_readClause.2.1 16 = .ok (.iadd, 1) := dX9_readClause_16
theorem ddX9_readClause_17 : decode mX9_readClause.2.1 17 = .ok (.putfield 112, 3) := dX9_readClause_17
theorem ddX9_readClause_20 : decode mX9_readClause.2.1 20 = .ok (.iload_n 1, 1) := dX9_readClause_20
theorem ddX9_readClause_21 : decode mX9_readClause.2.1 21 = .ok (.bipush 119, 2) := dX9_readClause_21
theorem ddX9_readClause_23 : decode mX9_readClause.2.1 23 = .ok (.if_icmp .ne 11, 3) := dX9_readClause_23
theorem ddX9_readClause_26 : decode mX9_readClause.2.1 26 = .ok (.aload_n 0, 1) := dX9_readClause_26
theorem ddX9_readClause_27 : decode mX9_readClause.2.1 27 = .ok (.iload_n 2, 1) := dX9_readClause_27
theorem ddX9_readClause_28 : decode mX9_readClause.2.1 28 = .ok (.invokevirtual 134, 3) := dX9_readClause_28
theorem ddX9_readClause_31 : decode mX9_readClause.2.1 31 = .ok (.goto 23, 3) := dX9_readClause_31
theorem ddX9_readClause_34 : decode mX9_readClause.2.1 34 = .ok (.iload_n 1, 1) := dX9_readClause_34
theorem ddX9_readClause_35 : decode mX9_readClause.2.1 35 = .ok (.bipush 103, 2) := dX9_readClause_35
theorem ddX9_readClause_37 : decode mX9_readClause.2.1 37 = .ok (.if_icmp .ne 11, 3) := dX9_readClause_37
theorem ddX9_readClause_40 : decode mX9_readClause.2.1 40 = .ok (.aload_n 0, 1) := dX9_readClause_40
theorem ddX9_readClause_41 : decode mX9_readClause.2.1 41 = .ok (.iload_n 2, 1) := dX9_readClause_41
theorem ddX9_readClause_42 : decode mX9_readClause.2.1 42 = .ok (.invokevirtual 137, 3) := dX9_readClause_42
theorem ddX9_readClause_45 : decode mX9_readClause.2.1 45 = .ok (.goto 9, 3) := dX9_readClause_45
theorem ddX9_readClause_48 : decode mX9_readClause.2.1 48 = .ok (.aload_n 0, 1) := dX9_readClause_48
theorem ddX9_readClause_49 : decode mX9_readClause.2.1 49 = .ok (.iconst 1, 1) := dX9_readClause_49
theorem ddX9_readClause_50 : decode mX9_readClause.2.1 50 = .ok (.iload_n 2, 1) := dX9_readClause_50
theorem ddX9_readClause_51 : decode mX9_readClause.2.1 51 = .ok (.invokevirtual 119, 3) := dX9_readClause_51
theorem ddX9_readClause_54 : decode mX9_readClause.2.1 54 = .ok (.aload_n 0, 1) := dX9_readClause_54
theorem ddX9_readClause_55 : decode mX9_readClause.2.1 55 = .ok (.getfield 106, 3) := dX9_readClause_55
theorem ddX9_readClause_58 : decode mX9_readClause.2.1 58 = .ok (.ifCond .ne 21, 3) := dX9_readClause_58
theorem ddX9_readClause_61 : decode mX9_readClause.2.1 61 = .ok (.aload_n 0, 1) := dX9_readClause_61
theorem ddX9_readClause_62 : decode mX9_readClause.2.1 62 = .ok (.invokevirtual 115, 3) := dX9_readClause_62
theorem ddX9_readClause_65 : decode mX9_readClause.2.1 65 = .ok (.bipush 59, 2) := dX9_readClause_65
theorem ddX9_readClause_67 : decode mX9_readClause.2.1 67 = .ok (.if_icmp .eq 12, 3) := dX9_readClause_67
theorem ddX9_readClause_70 : decode mX9_readClause.2.1 70 = .ok (.aload_n 0, 1) := dX9_readClause_70
theorem ddX9_readClause_71 : decode mX9_readClause.2.1 71 = .ok (.iconst 1, 1) := dX9_readClause_71
theorem ddX9_readClause_72 : decode mX9_readClause.2.1 72 = .ok (.aload_n 0, 1) := dX9_readClause_72
theorem ddX9_readClause_73 : decode mX9_readClause.2.1 73 = .ok (.getfield 112, 3) := dX9_readClause_73
theorem ddX9_readClause_76 : decode mX9_readClause.2.1 76 = .ok (.invokevirtual 119, 3) := dX9_readClause_76
theorem ddX9_readClause_79 : decode mX9_readClause.2.1 79 = .ok (.aload_n 0, 1) := dX9_readClause_79
theorem ddX9_readClause_80 : decode mX9_readClause.2.1 80 = .ok (.dup, 1) := dX9_readClause_80
theorem ddX9_readClause_81 : decode mX9_readClause.2.1 81 = .ok (.getfield 112, 3) := dX9_readClause_81
theorem ddX9_readClause_84 : decode mX9_readClause.2.1 84 = .ok (.iconst 1, 1) := dX9_readClause_84
theorem ddX9_readClause_85 : decode mX9_readClause.2.1 85 = .ok (.iadd, 1) := dX9_readClause_85
theorem ddX9_readClause_86 : decode mX9_readClause.2.1 86 = .ok (.putfield 112, 3) := dX9_readClause_86
theorem ddX9_readClause_89 : decode mX9_readClause.2.1 89 = .ok (.return_, 1) := dX9_readClause_89
theorem ddX9_begin_0 : decode mX9_begin.2.1 0 = .ok (.aload_n 0, 1) := dX9_begin_0
theorem ddX9_begin_1 : decode mX9_begin.2.1 1 = .ok (.aload_n 0, 1) := dX9_begin_1
theorem ddX9_begin_2 : decode mX9_begin.2.1 2 = .ok (.getfield 125, 3) := dX9_begin_2
theorem ddX9_begin_5 : decode mX9_begin.2.1 5 = .ok (.putfield 38, 3) := dX9_begin_5
theorem ddX9_begin_8 : decode mX9_begin.2.1 8 = .ok (.aload_n 0, 1) := dX9_begin_8
theorem ddX9_begin_9 : decode mX9_begin.2.1 9 = .ok (.aload_n 0, 1) := dX9_begin_9
theorem ddX9_begin_10 : decode mX9_begin.2.1 10 = .ok (.getfield 131, 3) := dX9_begin_10
theorem ddX9_begin_13 : decode mX9_begin.2.1 13 = .ok (.putfield 45, 3) := dX9_begin_13
theorem ddX9_begin_16 : decode mX9_begin.2.1 16 = .ok (.iconst 0, 1) := dX9_begin_16
theorem ddX9_begin_17 : decode mX9_begin.2.1 17 = .ok (.istore_n 1, 1) := dX9_begin_17
theorem ddX9_begin_18 : decode mX9_begin.2.1 18 = .ok (.iload_n 1, 1) := dX9_begin_18
theorem ddX9_begin_19 : decode mX9_begin.2.1 19 = .ok (.sipush 344, 3) := dX9_begin_19
theorem ddX9_begin_22 : decode mX9_begin.2.1 22 = .ok (.if_icmp .ge 16, 3) := dX9_begin_22
theorem ddX9_begin_25 : decode mX9_begin.2.1 25 = .ok (.aload_n 0, 1) := dX9_begin_25
theorem ddX9_begin_26 : decode mX9_begin.2.1 26 = .ok (.getfield 7, 3) := dX9_begin_26
theorem ddX9_begin_29 : decode mX9_begin.2.1 29 = .ok (.iload_n 1, 1) := dX9_begin_29
theorem ddX9_begin_30 : decode mX9_begin.2.1 30 = .ok (.iconst 0, 1) := dX9_begin_30
theorem ddX9_begin_31 : decode mX9_begin.2.1 31 = .ok (.iastore, 1) := dX9_begin_31
theorem ddX9_begin_32 : decode mX9_begin.2.1 32 = .ok (.iinc 1 1, 3) := dX9_begin_32
theorem ddX9_begin_35 : decode mX9_begin.2.1 35 = .ok (.goto (-17), 3) := dX9_begin_35
theorem ddX9_begin_38 : decode mX9_begin.2.1 38 = .ok (.iconst 0, 1) := dX9_begin_38
theorem ddX9_begin_39 : decode mX9_begin.2.1 39 = .ok (.istore_n 1, 1) := dX9_begin_39
theorem ddX9_begin_40 : decode mX9_begin.2.1 40 = .ok (.iload_n 1, 1) := dX9_begin_40
theorem ddX9_begin_41 : decode mX9_begin.2.1 41 = .ok (.bipush 8, 2) := dX9_begin_41
theorem ddX9_begin_43 : decode mX9_begin.2.1 43 = .ok (.if_icmp .ge 34, 3) := dX9_begin_43
theorem ddX9_begin_46 : decode mX9_begin.2.1 46 = .ok (.aload_n 0, 1) := dX9_begin_46
theorem ddX9_begin_47 : decode mX9_begin.2.1 47 = .ok (.getfield 7, 3) := dX9_begin_47
theorem ddX9_begin_50 : decode mX9_begin.2.1 50 = .ok (.bipush 8, 2) := dX9_begin_50
theorem ddX9_begin_52 : decode mX9_begin.2.1 52 = .ok (.iload_n 1, 1) := dX9_begin_52
theorem ddX9_begin_53 : decode mX9_begin.2.1 53 = .ok (.iadd, 1) := dX9_begin_53
theorem ddX9_begin_54 : decode mX9_begin.2.1 54 = .ok (.aload_n 0, 1) := dX9_begin_54
theorem ddX9_begin_55 : decode mX9_begin.2.1 55 = .ok (.getfield 32, 3) := dX9_begin_55
theorem ddX9_begin_58 : decode mX9_begin.2.1 58 = .ok (.iload_n 1, 1) := dX9_begin_58
theorem ddX9_begin_59 : decode mX9_begin.2.1 59 = .ok (.iaload, 1) := dX9_begin_59
theorem ddX9_begin_60 : decode mX9_begin.2.1 60 = .ok (.iastore, 1) := dX9_begin_60
theorem ddX9_begin_61 : decode mX9_begin.2.1 61 = .ok (.aload_n 0, 1) := dX9_begin_61
theorem ddX9_begin_62 : decode mX9_begin.2.1 62 = .ok (.getfield 7, 3) := dX9_begin_62
theorem ddX9_begin_65 : decode mX9_begin.2.1 65 = .ok (.bipush 24, 2) := dX9_begin_65
theorem ddX9_begin_67 : decode mX9_begin.2.1 67 = .ok (.iload_n 1, 1) := dX9_begin_67
theorem ddX9_begin_68 : decode mX9_begin.2.1 68 = .ok (.iadd, 1) := dX9_begin_68
theorem ddX9_begin_69 : decode mX9_begin.2.1 69 = .ok (.iconst (-1), 1) := dX9_begin_69
theorem ddX9_begin_70 : decode mX9_begin.2.1 70 = .ok (.iastore, 1) := dX9_begin_70
theorem ddX9_begin_71 : decode mX9_begin.2.1 71 = .ok (.iinc 1 1, 3) := dX9_begin_71
theorem ddX9_begin_74 : decode mX9_begin.2.1 74 = .ok (.goto (-34), 3) := dX9_begin_74
theorem ddX9_begin_77 : decode mX9_begin.2.1 77 = .ok (.iconst 0, 1) := dX9_begin_77
theorem ddX9_begin_78 : decode mX9_begin.2.1 78 = .ok (.istore_n 1, 1) := dX9_begin_78
theorem ddX9_begin_79 : decode mX9_begin.2.1 79 = .ok (.iload_n 1, 1) := dX9_begin_79
theorem ddX9_begin_80 : decode mX9_begin.2.1 80 = .ok (.bipush 6, 2) := dX9_begin_80
theorem ddX9_begin_82 : decode mX9_begin.2.1 82 = .ok (.aload_n 0, 1) := dX9_begin_82
theorem ddX9_begin_83 : decode mX9_begin.2.1 83 = .ok (.getfield 45, 3) := dX9_begin_83
theorem ddX9_begin_86 : decode mX9_begin.2.1 86 = .ok (.imul, 1) := dX9_begin_86
theorem ddX9_begin_87 : decode mX9_begin.2.1 87 = .ok (.if_icmp .ge 21, 3) := dX9_begin_87
theorem ddX9_begin_90 : decode mX9_begin.2.1 90 = .ok (.aload_n 0, 1) := dX9_begin_90
theorem ddX9_begin_91 : decode mX9_begin.2.1 91 = .ok (.getfield 13, 3) := dX9_begin_91
theorem ddX9_begin_94 : decode mX9_begin.2.1 94 = .ok (.iload_n 1, 1) := dX9_begin_94
theorem ddX9_begin_95 : decode mX9_begin.2.1 95 = .ok (.aload_n 0, 1) := dX9_begin_95
theorem ddX9_begin_96 : decode mX9_begin.2.1 96 = .ok (.getfield 35, 3) := dX9_begin_96
theorem ddX9_begin_99 : decode mX9_begin.2.1 99 = .ok (.iload_n 1, 1) := dX9_begin_99
theorem ddX9_begin_100 : decode mX9_begin.2.1 100 = .ok (.iaload, 1) := dX9_begin_100
theorem ddX9_begin_101 : decode mX9_begin.2.1 101 = .ok (.iastore, 1) := dX9_begin_101
theorem ddX9_begin_102 : decode mX9_begin.2.1 102 = .ok (.iinc 1 1, 3) := dX9_begin_102
theorem ddX9_begin_105 : decode mX9_begin.2.1 105 = .ok (.goto (-26), 3) := dX9_begin_105
theorem ddX9_begin_108 : decode mX9_begin.2.1 108 = .ok (.iconst 0, 1) := dX9_begin_108
theorem ddX9_begin_109 : decode mX9_begin.2.1 109 = .ok (.istore_n 1, 1) := dX9_begin_109
theorem ddX9_begin_110 : decode mX9_begin.2.1 110 = .ok (.iload_n 1, 1) := dX9_begin_110
theorem ddX9_begin_111 : decode mX9_begin.2.1 111 = .ok (.aload_n 0, 1) := dX9_begin_111
theorem ddX9_begin_112 : decode mX9_begin.2.1 112 = .ok (.getfield 45, 3) := dX9_begin_112
theorem ddX9_begin_115 : decode mX9_begin.2.1 115 = .ok (.if_icmp .ge 33, 3) := dX9_begin_115
theorem ddX9_begin_118 : decode mX9_begin.2.1 118 = .ok (.aload_n 0, 1) := dX9_begin_118
theorem ddX9_begin_119 : decode mX9_begin.2.1 119 = .ok (.getfield 7, 3) := dX9_begin_119
theorem ddX9_begin_122 : decode mX9_begin.2.1 122 = .ok (.sipush 176, 3) := dX9_begin_122
theorem ddX9_begin_125 : decode mX9_begin.2.1 125 = .ok (.iload_n 1, 1) := dX9_begin_125
theorem ddX9_begin_126 : decode mX9_begin.2.1 126 = .ok (.iadd, 1) := dX9_begin_126
theorem ddX9_begin_127 : decode mX9_begin.2.1 127 = .ok (.aload_n 0, 1) := dX9_begin_127
theorem ddX9_begin_128 : decode mX9_begin.2.1 128 = .ok (.getfield 7, 3) := dX9_begin_128
theorem ddX9_begin_131 : decode mX9_begin.2.1 131 = .ok (.bipush 8, 2) := dX9_begin_131
theorem ddX9_begin_133 : decode mX9_begin.2.1 133 = .ok (.aload_n 0, 1) := dX9_begin_133
theorem ddX9_begin_134 : decode mX9_begin.2.1 134 = .ok (.iload_n 1, 1) := dX9_begin_134
theorem ddX9_begin_135 : decode mX9_begin.2.1 135 = .ok (.iconst 3, 1) := dX9_begin_135
theorem ddX9_begin_136 : decode mX9_begin.2.1 136 = .ok (.invokevirtual 52, 3) := dX9_begin_136
theorem ddX9_begin_139 : decode mX9_begin.2.1 139 = .ok (.iadd, 1) := dX9_begin_139
theorem ddX9_begin_140 : decode mX9_begin.2.1 140 = .ok (.iaload, 1) := dX9_begin_140
theorem ddX9_begin_141 : decode mX9_begin.2.1 141 = .ok (.iastore, 1) := dX9_begin_141
theorem ddX9_begin_142 : decode mX9_begin.2.1 142 = .ok (.iinc 1 1, 3) := dX9_begin_142
theorem ddX9_begin_145 : decode mX9_begin.2.1 145 = .ok (.goto (-35), 3) := dX9_begin_145
theorem ddX9_begin_148 : decode mX9_begin.2.1 148 = .ok (.aload_n 0, 1) := dX9_begin_148
theorem ddX9_begin_149 : decode mX9_begin.2.1 149 = .ok (.iconst 0, 1) := dX9_begin_149
theorem ddX9_begin_150 : decode mX9_begin.2.1 150 = .ok (.invokevirtual 140, 3) := dX9_begin_150
theorem ddX9_begin_153 : decode mX9_begin.2.1 153 = .ok (.aload_n 0, 1) := dX9_begin_153
theorem ddX9_begin_154 : decode mX9_begin.2.1 154 = .ok (.iconst 0, 1) := dX9_begin_154
theorem ddX9_begin_155 : decode mX9_begin.2.1 155 = .ok (.putfield 143, 3) := dX9_begin_155
theorem ddX9_begin_158 : decode mX9_begin.2.1 158 = .ok (.aload_n 0, 1) := dX9_begin_158
theorem ddX9_begin_159 : decode mX9_begin.2.1 159 = .ok (.iconst 0, 1) := dX9_begin_159
theorem ddX9_begin_160 : decode mX9_begin.2.1 160 = .ok (.putfield 146, 3) := dX9_begin_160
theorem ddX9_begin_163 : decode mX9_begin.2.1 163 = .ok (.aload_n 0, 1) := dX9_begin_163
theorem ddX9_begin_164 : decode mX9_begin.2.1 164 = .ok (.iconst 0, 1) := dX9_begin_164
theorem ddX9_begin_165 : decode mX9_begin.2.1 165 = .ok (.putfield 149, 3) := dX9_begin_165
theorem ddX9_begin_168 : decode mX9_begin.2.1 168 = .ok (.return_, 1) := dX9_begin_168
theorem ddX9_wires_0 : decode mX9_wires.2.1 0 = .ok (.aload_n 0, 1) := dX9_wires_0
theorem ddX9_wires_1 : decode mX9_wires.2.1 1 = .ok (.iconst 0, 1) := dX9_wires_1
theorem ddX9_wires_2 : decode mX9_wires.2.1 2 = .ok (.putfield 112, 3) := dX9_wires_2
theorem ddX9_wires_5 : decode mX9_wires.2.1 5 = .ok (.aload_n 0, 1) := dX9_wires_5
theorem ddX9_wires_6 : decode mX9_wires.2.1 6 = .ok (.iconst 0, 1) := dX9_wires_6
theorem ddX9_wires_7 : decode mX9_wires.2.1 7 = .ok (.putfield 106, 3) := dX9_wires_7
theorem ddX9_wires_10 : decode mX9_wires.2.1 10 = .ok (.aload_n 0, 1) := dX9_wires_10
theorem ddX9_wires_11 : decode mX9_wires.2.1 11 = .ok (.iconst 0, 1) := dX9_wires_11
theorem ddX9_wires_12 : decode mX9_wires.2.1 12 = .ok (.putfield 125, 3) := dX9_wires_12
theorem ddX9_wires_15 : decode mX9_wires.2.1 15 = .ok (.aload_n 0, 1) := dX9_wires_15
theorem ddX9_wires_16 : decode mX9_wires.2.1 16 = .ok (.iconst 0, 1) := dX9_wires_16
theorem ddX9_wires_17 : decode mX9_wires.2.1 17 = .ok (.putfield 131, 3) := dX9_wires_17
theorem ddX9_wires_20 : decode mX9_wires.2.1 20 = .ok (.aload_n 0, 1) := dX9_wires_20
theorem ddX9_wires_21 : decode mX9_wires.2.1 21 = .ok (.iconst (-1), 1) := dX9_wires_21
theorem ddX9_wires_22 : decode mX9_wires.2.1 22 = .ok (.putfield 28, 3) := dX9_wires_22
theorem ddX9_wires_25 : decode mX9_wires.2.1 25 = .ok (.aload_n 0, 1) := dX9_wires_25
theorem ddX9_wires_26 : decode mX9_wires.2.1 26 = .ok (.getfield 106, 3) := dX9_wires_26
theorem ddX9_wires_29 : decode mX9_wires.2.1 29 = .ok (.ifCond .ne 18, 3) := dX9_wires_29
theorem ddX9_wires_32 : decode mX9_wires.2.1 32 = .ok (.aload_n 0, 1) := dX9_wires_32
theorem ddX9_wires_33 : decode mX9_wires.2.1 33 = .ok (.invokevirtual 115, 3) := dX9_wires_33
theorem ddX9_wires_36 : decode mX9_wires.2.1 36 = .ok (.iconst (-1), 1) := dX9_wires_36
theorem ddX9_wires_37 : decode mX9_wires.2.1 37 = .ok (.if_icmp .eq 10, 3) := dX9_wires_37
theorem ddX9_wires_40 : decode mX9_wires.2.1 40 = .ok (.aload_n 0, 1) := dX9_wires_40
theorem ddX9_wires_41 : decode mX9_wires.2.1 41 = .ok (.invokevirtual 152, 3) := dX9_wires_41
theorem ddX9_wires_44 : decode mX9_wires.2.1 44 = .ok (.goto (-19), 3) := dX9_wires_44
theorem ddX9_wires_47 : decode mX9_wires.2.1 47 = .ok (.aload_n 0, 1) := dX9_wires_47
theorem ddX9_wires_48 : decode mX9_wires.2.1 48 = .ok (.iconst 0, 1) := dX9_wires_48
theorem ddX9_wires_49 : decode mX9_wires.2.1 49 = .ok (.putfield 102, 3) := dX9_wires_49
theorem ddX9_wires_52 : decode mX9_wires.2.1 52 = .ok (.aload_n 0, 1) := dX9_wires_52
theorem ddX9_wires_53 : decode mX9_wires.2.1 53 = .ok (.getfield 106, 3) := dX9_wires_53
theorem ddX9_wires_56 : decode mX9_wires.2.1 56 = .ok (.ifCond .eq 19, 3) := dX9_wires_56
theorem ddX9_wires_59 : decode mX9_wires.2.1 59 = .ok (.aload_n 0, 1) := dX9_wires_59
theorem ddX9_wires_60 : decode mX9_wires.2.1 60 = .ok (.aload_n 0, 1) := dX9_wires_60
theorem ddX9_wires_61 : decode mX9_wires.2.1 61 = .ok (.getfield 109, 3) := dX9_wires_61
theorem ddX9_wires_64 : decode mX9_wires.2.1 64 = .ok (.putfield 28, 3) := dX9_wires_64
theorem ddX9_wires_67 : decode mX9_wires.2.1 67 = .ok (.bipush (-10), 2) := dX9_wires_67
theorem ddX9_wires_69 : decode mX9_wires.2.1 69 = .ok (.aload_n 0, 1) := dX9_wires_69
theorem ddX9_wires_70 : decode mX9_wires.2.1 70 = .ok (.getfield 106, 3) := dX9_wires_70
theorem ddX9_wires_73 : decode mX9_wires.2.1 73 = .ok (.isub, 1) := dX9_wires_73
theorem ddX9_wires_74 : decode mX9_wires.2.1 74 = .ok (.ireturn, 1) := dX9_wires_74
theorem ddX9_wires_75 : decode mX9_wires.2.1 75 = .ok (.aload_n 0, 1) := dX9_wires_75
theorem ddX9_wires_76 : decode mX9_wires.2.1 76 = .ok (.invokevirtual 155, 3) := dX9_wires_76
theorem ddX9_wires_79 : decode mX9_wires.2.1 79 = .ok (.aload_n 0, 1) := dX9_wires_79
theorem ddX9_wires_80 : decode mX9_wires.2.1 80 = .ok (.getfield 38, 3) := dX9_wires_80
theorem ddX9_wires_83 : decode mX9_wires.2.1 83 = .ok (.ireturn, 1) := dX9_wires_83
theorem ddX9_fault_0 : decode mX9_fault.2.1 0 = .ok (.aload_n 0, 1) := dX9_fault_0
theorem ddX9_fault_1 : decode mX9_fault.2.1 1 = .ok (.getfield 28, 3) := dX9_fault_1
theorem ddX9_fault_4 : decode mX9_fault.2.1 4 = .ok (.ireturn, 1) := dX9_fault_4
theorem ddX9_isStill_0 : decode mX9_isStill.2.1 0 = .ok (.aload_n 0, 1) := dX9_isStill_0
theorem ddX9_isStill_1 : decode mX9_isStill.2.1 1 = .ok (.iload_n 1, 1) := dX9_isStill_1
theorem ddX9_isStill_2 : decode mX9_isStill.2.1 2 = .ok (.invokevirtual 95, 3) := dX9_isStill_2
theorem ddX9_isStill_5 : decode mX9_isStill.2.1 5 = .ok (.iconst (-1), 1) := dX9_isStill_5
theorem ddX9_isStill_6 : decode mX9_isStill.2.1 6 = .ok (.if_icmp .ne 7, 3) := dX9_isStill_6
theorem ddX9_isStill_9 : decode mX9_isStill.2.1 9 = .ok (.iconst 1, 1) := dX9_isStill_9
theorem ddX9_isStill_10 : decode mX9_isStill.2.1 10 = .ok (.goto 4, 3) := dX9_isStill_10
theorem ddX9_isStill_13 : decode mX9_isStill.2.1 13 = .ok (.iconst 0, 1) := dX9_isStill_13
theorem ddX9_isStill_14 : decode mX9_isStill.2.1 14 = .ok (.ireturn, 1) := dX9_isStill_14
theorem ddX9_holds_0 : decode mX9_holds.2.1 0 = .ok (.iconst 0, 1) := dX9_holds_0
theorem ddX9_holds_1 : decode mX9_holds.2.1 1 = .ok (.istore_n 1, 1) := dX9_holds_1
theorem ddX9_holds_2 : decode mX9_holds.2.1 2 = .ok (.iconst 0, 1) := dX9_holds_2
theorem ddX9_holds_3 : decode mX9_holds.2.1 3 = .ok (.istore_n 2, 1) := dX9_holds_3
theorem ddX9_holds_4 : decode mX9_holds.2.1 4 = .ok (.iload_n 2, 1) := dX9_holds_4
theorem ddX9_holds_5 : decode mX9_holds.2.1 5 = .ok (.aload_n 0, 1) := dX9_holds_5
theorem ddX9_holds_6 : decode mX9_holds.2.1 6 = .ok (.getfield 45, 3) := dX9_holds_6
theorem ddX9_holds_9 : decode mX9_holds.2.1 9 = .ok (.if_icmp .ge 38, 3) := dX9_holds_9
theorem ddX9_holds_12 : decode mX9_holds.2.1 12 = .ok (.iload_n 1, 1) := dX9_holds_12
theorem ddX9_holds_13 : decode mX9_holds.2.1 13 = .ok (.aload_n 0, 1) := dX9_holds_13
theorem ddX9_holds_14 : decode mX9_holds.2.1 14 = .ok (.getfield 7, 3) := dX9_holds_14
theorem ddX9_holds_17 : decode mX9_holds.2.1 17 = .ok (.sipush 176, 3) := dX9_holds_17
theorem ddX9_holds_20 : decode mX9_holds.2.1 20 = .ok (.iload_n 2, 1) := dX9_holds_20
theorem ddX9_holds_21 : decode mX9_holds.2.1 21 = .ok (.iadd, 1) := dX9_holds_21
theorem ddX9_holds_22 : decode mX9_holds.2.1 22 = .ok (.iaload, 1) := dX9_holds_22
theorem ddX9_holds_23 : decode mX9_holds.2.1 23 = .ok (.aload_n 0, 1) := dX9_holds_23
theorem ddX9_holds_24 : decode mX9_holds.2.1 24 = .ok (.iconst 0, 1) := dX9_holds_24
theorem ddX9_holds_25 : decode mX9_holds.2.1 25 = .ok (.iload_n 2, 1) := dX9_holds_25
theorem ddX9_holds_26 : decode mX9_holds.2.1 26 = .ok (.invokevirtual 63, 3) := dX9_holds_26
theorem ddX9_holds_29 : decode mX9_holds.2.1 29 = .ok (.if_icmp .ne 9, 3) := dX9_holds_29
theorem ddX9_holds_32 : decode mX9_holds.2.1 32 = .ok (.iconst 1, 1) := dX9_holds_32
theorem ddX9_holds_33 : decode mX9_holds.2.1 33 = .ok (.iload_n 2, 1) := dX9_holds_33
theorem ddX9_holds_34 : decode mX9_holds.2.1 34 = .ok (.ishl, 1) := dX9_holds_34
theorem ddX9_holds_35 : decode mX9_holds.2.1 35 = .ok (.goto 4, 3) := dX9_holds_35
theorem ddX9_holds_38 : decode mX9_holds.2.1 38 = .ok (.iconst 0, 1) := dX9_holds_38
theorem ddX9_holds_39 : decode mX9_holds.2.1 39 = .ok (.ior, 1) := dX9_holds_39
theorem ddX9_holds_40 : decode mX9_holds.2.1 40 = .ok (.istore_n 1, 1) := dX9_holds_40
theorem ddX9_holds_41 : decode mX9_holds.2.1 41 = .ok (.iinc 2 1, 3) := dX9_holds_41
theorem ddX9_holds_44 : decode mX9_holds.2.1 44 = .ok (.goto (-40), 3) := dX9_holds_44
theorem ddX9_holds_47 : decode mX9_holds.2.1 47 = .ok (.iload_n 1, 1) := dX9_holds_47
theorem ddX9_holds_48 : decode mX9_holds.2.1 48 = .ok (.ireturn, 1) := dX9_holds_48
theorem ddX9_flickers_0 : decode mX9_flickers.2.1 0 = .ok (.iconst 0, 1) := dX9_flickers_0
theorem ddX9_flickers_1 : decode mX9_flickers.2.1 1 = .ok (.istore_n 1, 1) := dX9_flickers_1
theorem ddX9_flickers_2 : decode mX9_flickers.2.1 2 = .ok (.iconst 0, 1) := dX9_flickers_2
theorem ddX9_flickers_3 : decode mX9_flickers.2.1 3 = .ok (.istore_n 2, 1) := dX9_flickers_3
theorem ddX9_flickers_4 : decode mX9_flickers.2.1 4 = .ok (.iload_n 2, 1) := dX9_flickers_4
theorem ddX9_flickers_5 : decode mX9_flickers.2.1 5 = .ok (.aload_n 0, 1) := dX9_flickers_5
theorem ddX9_flickers_6 : decode mX9_flickers.2.1 6 = .ok (.getfield 38, 3) := dX9_flickers_6
theorem ddX9_flickers_9 : decode mX9_flickers.2.1 9 = .ok (.if_icmp .ge 23, 3) := dX9_flickers_9
theorem ddX9_flickers_12 : decode mX9_flickers.2.1 12 = .ok (.iload_n 1, 1) := dX9_flickers_12
theorem ddX9_flickers_13 : decode mX9_flickers.2.1 13 = .ok (.aload_n 0, 1) := dX9_flickers_13
theorem ddX9_flickers_14 : decode mX9_flickers.2.1 14 = .ok (.getfield 7, 3) := dX9_flickers_14
theorem ddX9_flickers_17 : decode mX9_flickers.2.1 17 = .ok (.bipush 32, 2) := dX9_flickers_17
theorem ddX9_flickers_19 : decode mX9_flickers.2.1 19 = .ok (.iload_n 2, 1) := dX9_flickers_19
theorem ddX9_flickers_20 : decode mX9_flickers.2.1 20 = .ok (.iadd, 1) := dX9_flickers_20
theorem ddX9_flickers_21 : decode mX9_flickers.2.1 21 = .ok (.iaload, 1) := dX9_flickers_21
theorem ddX9_flickers_22 : decode mX9_flickers.2.1 22 = .ok (.iload_n 2, 1) := dX9_flickers_22
theorem ddX9_flickers_23 : decode mX9_flickers.2.1 23 = .ok (.ishl, 1) := dX9_flickers_23
theorem ddX9_flickers_24 : decode mX9_flickers.2.1 24 = .ok (.ior, 1) := dX9_flickers_24
theorem ddX9_flickers_25 : decode mX9_flickers.2.1 25 = .ok (.istore_n 1, 1) := dX9_flickers_25
theorem ddX9_flickers_26 : decode mX9_flickers.2.1 26 = .ok (.iinc 2 1, 3) := dX9_flickers_26
theorem ddX9_flickers_29 : decode mX9_flickers.2.1 29 = .ok (.goto (-25), 3) := dX9_flickers_29
theorem ddX9_flickers_32 : decode mX9_flickers.2.1 32 = .ok (.iload_n 1, 1) := dX9_flickers_32
theorem ddX9_flickers_33 : decode mX9_flickers.2.1 33 = .ok (.ireturn, 1) := dX9_flickers_33
theorem ddX9_settles_0 : decode mX9_settles.2.1 0 = .ok (.aload_n 0, 1) := dX9_settles_0
theorem ddX9_settles_1 : decode mX9_settles.2.1 1 = .ok (.iconst 0, 1) := dX9_settles_1
theorem ddX9_settles_2 : decode mX9_settles.2.1 2 = .ok (.sipush 6536, 3) := dX9_settles_2
theorem ddX9_settles_5 : decode mX9_settles.2.1 5 = .ok (.invokevirtual 158, 3) := dX9_settles_5
theorem ddX9_settles_8 : decode mX9_settles.2.1 8 = .ok (.iconst 0, 1) := dX9_settles_8
theorem ddX9_settles_9 : decode mX9_settles.2.1 9 = .ok (.istore_n 1, 1) := dX9_settles_9
theorem ddX9_settles_10 : decode mX9_settles.2.1 10 = .ok (.iload_n 1, 1) := dX9_settles_10
theorem ddX9_settles_11 : decode mX9_settles.2.1 11 = .ok (.bipush 100, 2) := dX9_settles_11
theorem ddX9_settles_13 : decode mX9_settles.2.1 13 = .ok (.if_icmp .gt 39, 3) := dX9_settles_13
theorem ddX9_settles_16 : decode mX9_settles.2.1 16 = .ok (.aload_n 0, 1) := dX9_settles_16
theorem ddX9_settles_17 : decode mX9_settles.2.1 17 = .ok (.getfield 7, 3) := dX9_settles_17
theorem ddX9_settles_20 : decode mX9_settles.2.1 20 = .ok (.sipush 6538, 3) := dX9_settles_20
theorem ddX9_settles_23 : decode mX9_settles.2.1 23 = .ok (.iaload, 1) := dX9_settles_23
theorem ddX9_settles_24 : decode mX9_settles.2.1 24 = .ok (.ifCond .ne 28, 3) := dX9_settles_24
theorem ddX9_settles_27 : decode mX9_settles.2.1 27 = .ok (.aload_n 0, 1) := dX9_settles_27
theorem ddX9_settles_28 : decode mX9_settles.2.1 28 = .ok (.sipush 6536, 3) := dX9_settles_28
theorem ddX9_settles_31 : decode mX9_settles.2.1 31 = .ok (.invokevirtual 161, 3) := dX9_settles_31
theorem ddX9_settles_34 : decode mX9_settles.2.1 34 = .ok (.ifCond .eq 5, 3) := dX9_settles_34
theorem ddX9_settles_37 : decode mX9_settles.2.1 37 = .ok (.iload_n 1, 1) := dX9_settles_37
theorem ddX9_settles_38 : decode mX9_settles.2.1 38 = .ok (.ireturn, 1) := dX9_settles_38
theorem ddX9_settles_39 : decode mX9_settles.2.1 39 = .ok (.aload_n 0, 1) := dX9_settles_39
theorem ddX9_settles_40 : decode mX9_settles.2.1 40 = .ok (.sipush 6536, 3) := dX9_settles_40
theorem ddX9_settles_43 : decode mX9_settles.2.1 43 = .ok (.invokevirtual 165, 3) := dX9_settles_43
theorem ddX9_settles_46 : decode mX9_settles.2.1 46 = .ok (.iinc 1 1, 3) := dX9_settles_46
theorem ddX9_settles_49 : decode mX9_settles.2.1 49 = .ok (.goto (-39), 3) := dX9_settles_49
theorem ddX9_settles_52 : decode mX9_settles.2.1 52 = .ok (.iconst (-1), 1) := dX9_settles_52
theorem ddX9_settles_53 : decode mX9_settles.2.1 53 = .ok (.ireturn, 1) := dX9_settles_53
theorem ddX9_wrongEntry_0 : decode mX9_wrongEntry.2.1 0 = .ok (.iconst 0, 1) := dX9_wrongEntry_0
theorem ddX9_wrongEntry_1 : decode mX9_wrongEntry.2.1 1 = .ok (.istore_n 1, 1) := dX9_wrongEntry_1
theorem ddX9_wrongEntry_2 : decode mX9_wrongEntry.2.1 2 = .ok (.iload_n 1, 1) := dX9_wrongEntry_2
theorem ddX9_wrongEntry_3 : decode mX9_wrongEntry.2.1 3 = .ok (.aload_n 0, 1) := dX9_wrongEntry_3
theorem ddX9_wrongEntry_4 : decode mX9_wrongEntry.2.1 4 = .ok (.getfield 149, 3) := dX9_wrongEntry_4
theorem ddX9_wrongEntry_7 : decode mX9_wrongEntry.2.1 7 = .ok (.if_icmp .ge 47, 3) := dX9_wrongEntry_7
theorem ddX9_wrongEntry_10 : decode mX9_wrongEntry.2.1 10 = .ok (.aload_n 0, 1) := dX9_wrongEntry_10
theorem ddX9_wrongEntry_11 : decode mX9_wrongEntry.2.1 11 = .ok (.aload_n 0, 1) := dX9_wrongEntry_11
theorem ddX9_wrongEntry_12 : decode mX9_wrongEntry.2.1 12 = .ok (.getfield 19, 3) := dX9_wrongEntry_12
theorem ddX9_wrongEntry_15 : decode mX9_wrongEntry.2.1 15 = .ok (.iload_n 1, 1) := dX9_wrongEntry_15
theorem ddX9_wrongEntry_16 : decode mX9_wrongEntry.2.1 16 = .ok (.iaload, 1) := dX9_wrongEntry_16
theorem ddX9_wrongEntry_17 : decode mX9_wrongEntry.2.1 17 = .ok (.invokevirtual 168, 3) := dX9_wrongEntry_17
theorem ddX9_wrongEntry_20 : decode mX9_wrongEntry.2.1 20 = .ok (.ifCond .eq 26, 3) := dX9_wrongEntry_20
theorem ddX9_wrongEntry_23 : decode mX9_wrongEntry.2.1 23 = .ok (.aload_n 0, 1) := dX9_wrongEntry_23
theorem ddX9_wrongEntry_24 : decode mX9_wrongEntry.2.1 24 = .ok (.getfield 7, 3) := dX9_wrongEntry_24
theorem ddX9_wrongEntry_27 : decode mX9_wrongEntry.2.1 27 = .ok (.bipush 8, 2) := dX9_wrongEntry_27
theorem ddX9_wrongEntry_29 : decode mX9_wrongEntry.2.1 29 = .ok (.aload_n 0, 1) := dX9_wrongEntry_29
theorem ddX9_wrongEntry_30 : decode mX9_wrongEntry.2.1 30 = .ok (.getfield 19, 3) := dX9_wrongEntry_30
theorem ddX9_wrongEntry_33 : decode mX9_wrongEntry.2.1 33 = .ok (.iload_n 1, 1) := dX9_wrongEntry_33
theorem ddX9_wrongEntry_34 : decode mX9_wrongEntry.2.1 34 = .ok (.iaload, 1) := dX9_wrongEntry_34
theorem ddX9_wrongEntry_35 : decode mX9_wrongEntry.2.1 35 = .ok (.iadd, 1) := dX9_wrongEntry_35
theorem ddX9_wrongEntry_36 : decode mX9_wrongEntry.2.1 36 = .ok (.iaload, 1) := dX9_wrongEntry_36
theorem ddX9_wrongEntry_37 : decode mX9_wrongEntry.2.1 37 = .ok (.aload_n 0, 1) := dX9_wrongEntry_37
theorem ddX9_wrongEntry_38 : decode mX9_wrongEntry.2.1 38 = .ok (.getfield 22, 3) := dX9_wrongEntry_38
theorem ddX9_wrongEntry_41 : decode mX9_wrongEntry.2.1 41 = .ok (.iload_n 1, 1) := dX9_wrongEntry_41
theorem ddX9_wrongEntry_42 : decode mX9_wrongEntry.2.1 42 = .ok (.iaload, 1) := dX9_wrongEntry_42
theorem ddX9_wrongEntry_43 : decode mX9_wrongEntry.2.1 43 = .ok (.if_icmp .eq 5, 3) := dX9_wrongEntry_43
theorem ddX9_wrongEntry_46 : decode mX9_wrongEntry.2.1 46 = .ok (.iload_n 1, 1) := dX9_wrongEntry_46
theorem ddX9_wrongEntry_47 : decode mX9_wrongEntry.2.1 47 = .ok (.ireturn, 1) := dX9_wrongEntry_47
theorem ddX9_wrongEntry_48 : decode mX9_wrongEntry.2.1 48 = .ok (.iinc 1 1, 3) := dX9_wrongEntry_48
theorem ddX9_wrongEntry_51 : decode mX9_wrongEntry.2.1 51 = .ok (.goto (-49), 3) := dX9_wrongEntry_51
theorem ddX9_wrongEntry_54 : decode mX9_wrongEntry.2.1 54 = .ok (.iconst (-1), 1) := dX9_wrongEntry_54
theorem ddX9_wrongEntry_55 : decode mX9_wrongEntry.2.1 55 = .ok (.ireturn, 1) := dX9_wrongEntry_55
theorem ddX9_told_0 : decode mX9_told.2.1 0 = .ok (.iload_n 1, 1) := dX9_told_0
theorem ddX9_told_1 : decode mX9_told.2.1 1 = .ok (.tableswitch 158 0 13 #[71, 76, 81, 86, 93, 100, 107, 121, 126, 131, 136, 143, 148, 153], 71) := dX9_told_1
theorem ddX9_told_72 : decode mX9_told.2.1 72 = .ok (.aload_n 0, 1) := dX9_told_72
theorem ddX9_told_73 : decode mX9_told.2.1 73 = .ok (.getfield 38, 3) := dX9_told_73
theorem ddX9_told_76 : decode mX9_told.2.1 76 = .ok (.ireturn, 1) := dX9_told_76
theorem ddX9_told_77 : decode mX9_told.2.1 77 = .ok (.aload_n 0, 1) := dX9_told_77
theorem ddX9_told_78 : decode mX9_told.2.1 78 = .ok (.getfield 45, 3) := dX9_told_78
theorem ddX9_told_81 : decode mX9_told.2.1 81 = .ok (.ireturn, 1) := dX9_told_81
theorem ddX9_told_82 : decode mX9_told.2.1 82 = .ok (.aload_n 0, 1) := dX9_told_82
theorem ddX9_told_83 : decode mX9_told.2.1 83 = .ok (.getfield 102, 3) := dX9_told_83
theorem ddX9_told_86 : decode mX9_told.2.1 86 = .ok (.ireturn, 1) := dX9_told_86
theorem ddX9_told_87 : decode mX9_told.2.1 87 = .ok (.aload_n 0, 1) := dX9_told_87
theorem ddX9_told_88 : decode mX9_told.2.1 88 = .ok (.getfield 7, 3) := dX9_told_88
theorem ddX9_told_91 : decode mX9_told.2.1 91 = .ok (.iconst 0, 1) := dX9_told_91
theorem ddX9_told_92 : decode mX9_told.2.1 92 = .ok (.iaload, 1) := dX9_told_92
theorem ddX9_told_93 : decode mX9_told.2.1 93 = .ok (.ireturn, 1) := dX9_told_93
theorem ddX9_told_94 : decode mX9_told.2.1 94 = .ok (.aload_n 0, 1) := dX9_told_94
theorem ddX9_told_95 : decode mX9_told.2.1 95 = .ok (.getfield 7, 3) := dX9_told_95
theorem ddX9_told_98 : decode mX9_told.2.1 98 = .ok (.iconst 1, 1) := dX9_told_98
theorem ddX9_told_99 : decode mX9_told.2.1 99 = .ok (.iaload, 1) := dX9_told_99
theorem ddX9_told_100 : decode mX9_told.2.1 100 = .ok (.ireturn, 1) := dX9_told_100
theorem ddX9_told_101 : decode mX9_told.2.1 101 = .ok (.aload_n 0, 1) := dX9_told_101
theorem ddX9_told_102 : decode mX9_told.2.1 102 = .ok (.getfield 7, 3) := dX9_told_102
theorem ddX9_told_105 : decode mX9_told.2.1 105 = .ok (.iconst 2, 1) := dX9_told_105
theorem ddX9_told_106 : decode mX9_told.2.1 106 = .ok (.iaload, 1) := dX9_told_106
theorem ddX9_told_107 : decode mX9_told.2.1 107 = .ok (.ireturn, 1) := dX9_told_107
theorem ddX9_told_108 : decode mX9_told.2.1 108 = .ok (.aload_n 0, 1) := dX9_told_108
theorem ddX9_told_109 : decode mX9_told.2.1 109 = .ok (.iconst 0, 1) := dX9_told_109
theorem ddX9_told_110 : decode mX9_told.2.1 110 = .ok (.invokevirtual 161, 3) := dX9_told_110
theorem ddX9_told_113 : decode mX9_told.2.1 113 = .ok (.ifCond .eq 7, 3) := dX9_told_113
theorem ddX9_told_116 : decode mX9_told.2.1 116 = .ok (.iconst 1, 1) := dX9_told_116
theorem ddX9_told_117 : decode mX9_told.2.1 117 = .ok (.goto 4, 3) := dX9_told_117
theorem ddX9_told_120 : decode mX9_told.2.1 120 = .ok (.iconst 0, 1) := dX9_told_120
theorem ddX9_told_121 : decode mX9_told.2.1 121 = .ok (.ireturn, 1) := dX9_told_121
theorem ddX9_told_122 : decode mX9_told.2.1 122 = .ok (.aload_n 0, 1) := dX9_told_122
theorem ddX9_told_123 : decode mX9_told.2.1 123 = .ok (.invokevirtual 171, 3) := dX9_told_123
theorem ddX9_told_126 : decode mX9_told.2.1 126 = .ok (.ireturn, 1) := dX9_told_126
theorem ddX9_told_127 : decode mX9_told.2.1 127 = .ok (.aload_n 0, 1) := dX9_told_127
theorem ddX9_told_128 : decode mX9_told.2.1 128 = .ok (.invokevirtual 174, 3) := dX9_told_128
theorem ddX9_told_131 : decode mX9_told.2.1 131 = .ok (.ireturn, 1) := dX9_told_131
theorem ddX9_told_132 : decode mX9_told.2.1 132 = .ok (.aload_n 0, 1) := dX9_told_132
theorem ddX9_told_133 : decode mX9_told.2.1 133 = .ok (.invokevirtual 177, 3) := dX9_told_133
theorem ddX9_told_136 : decode mX9_told.2.1 136 = .ok (.ireturn, 1) := dX9_told_136
theorem ddX9_told_137 : decode mX9_told.2.1 137 = .ok (.aload_n 0, 1) := dX9_told_137
theorem ddX9_told_138 : decode mX9_told.2.1 138 = .ok (.getfield 7, 3) := dX9_told_138
theorem ddX9_told_141 : decode mX9_told.2.1 141 = .ok (.iconst 3, 1) := dX9_told_141
theorem ddX9_told_142 : decode mX9_told.2.1 142 = .ok (.iaload, 1) := dX9_told_142
theorem ddX9_told_143 : decode mX9_told.2.1 143 = .ok (.ireturn, 1) := dX9_told_143
theorem ddX9_told_144 : decode mX9_told.2.1 144 = .ok (.aload_n 0, 1) := dX9_told_144
theorem ddX9_told_145 : decode mX9_told.2.1 145 = .ok (.getfield 149, 3) := dX9_told_145
theorem ddX9_told_148 : decode mX9_told.2.1 148 = .ok (.ireturn, 1) := dX9_told_148
theorem ddX9_told_149 : decode mX9_told.2.1 149 = .ok (.aload_n 0, 1) := dX9_told_149
theorem ddX9_told_150 : decode mX9_told.2.1 150 = .ok (.invokevirtual 180, 3) := dX9_told_150
theorem ddX9_told_153 : decode mX9_told.2.1 153 = .ok (.ireturn, 1) := dX9_told_153
theorem ddX9_told_154 : decode mX9_told.2.1 154 = .ok (.aload_n 0, 1) := dX9_told_154
theorem ddX9_told_155 : decode mX9_told.2.1 155 = .ok (.getfield 143, 3) := dX9_told_155
theorem ddX9_told_158 : decode mX9_told.2.1 158 = .ok (.ireturn, 1) := dX9_told_158
theorem ddX9_told_159 : decode mX9_told.2.1 159 = .ok (.ldc 101, 2) := dX9_told_159
theorem ddX9_told_161 : decode mX9_told.2.1 161 = .ok (.ireturn, 1) := dX9_told_161
theorem ddX9_lookersAt_0 : decode mX9_lookersAt.2.1 0 = .ok (.iconst 0, 1) := dX9_lookersAt_0
theorem ddX9_lookersAt_1 : decode mX9_lookersAt.2.1 1 = .ok (.istore_n 2, 1) := dX9_lookersAt_1
theorem ddX9_lookersAt_2 : decode mX9_lookersAt.2.1 2 = .ok (.iconst 0, 1) := dX9_lookersAt_2
theorem ddX9_lookersAt_3 : decode mX9_lookersAt.2.1 3 = .ok (.istore_n 3, 1) := dX9_lookersAt_3
theorem ddX9_lookersAt_4 : decode mX9_lookersAt.2.1 4 = .ok (.iload_n 3, 1) := dX9_lookersAt_4
theorem ddX9_lookersAt_5 : decode mX9_lookersAt.2.1 5 = .ok (.aload_n 0, 1) := dX9_lookersAt_5
theorem ddX9_lookersAt_6 : decode mX9_lookersAt.2.1 6 = .ok (.getfield 45, 3) := dX9_lookersAt_6
theorem ddX9_lookersAt_9 : decode mX9_lookersAt.2.1 9 = .ok (.if_icmp .ge 26, 3) := dX9_lookersAt_9
theorem ddX9_lookersAt_12 : decode mX9_lookersAt.2.1 12 = .ok (.iload_n 2, 1) := dX9_lookersAt_12
theorem ddX9_lookersAt_13 : decode mX9_lookersAt.2.1 13 = .ok (.aload_n 0, 1) := dX9_lookersAt_13
theorem ddX9_lookersAt_14 : decode mX9_lookersAt.2.1 14 = .ok (.iload_n 3, 1) := dX9_lookersAt_14
theorem ddX9_lookersAt_15 : decode mX9_lookersAt.2.1 15 = .ok (.iload_n 1, 1) := dX9_lookersAt_15
theorem ddX9_lookersAt_16 : decode mX9_lookersAt.2.1 16 = .ok (.invokevirtual 91, 3) := dX9_lookersAt_16
theorem ddX9_lookersAt_19 : decode mX9_lookersAt.2.1 19 = .ok (.ifCond .eq 7, 3) := dX9_lookersAt_19
theorem ddX9_lookersAt_22 : decode mX9_lookersAt.2.1 22 = .ok (.iconst 1, 1) := dX9_lookersAt_22
theorem ddX9_lookersAt_23 : decode mX9_lookersAt.2.1 23 = .ok (.goto 4, 3) := dX9_lookersAt_23
theorem ddX9_lookersAt_26 : decode mX9_lookersAt.2.1 26 = .ok (.iconst 0, 1) := dX9_lookersAt_26
theorem ddX9_lookersAt_27 : decode mX9_lookersAt.2.1 27 = .ok (.iadd, 1) := dX9_lookersAt_27
theorem ddX9_lookersAt_28 : decode mX9_lookersAt.2.1 28 = .ok (.istore_n 2, 1) := dX9_lookersAt_28
theorem ddX9_lookersAt_29 : decode mX9_lookersAt.2.1 29 = .ok (.iinc 3 1, 3) := dX9_lookersAt_29
theorem ddX9_lookersAt_32 : decode mX9_lookersAt.2.1 32 = .ok (.goto (-28), 3) := dX9_lookersAt_32
theorem ddX9_lookersAt_35 : decode mX9_lookersAt.2.1 35 = .ok (.iload_n 2, 1) := dX9_lookersAt_35
theorem ddX9_lookersAt_36 : decode mX9_lookersAt.2.1 36 = .ok (.ireturn, 1) := dX9_lookersAt_36
theorem ddX9_wire_0 : decode mX9_wire.2.1 0 = .ok (.aload_n 0, 1) := dX9_wire_0
theorem ddX9_wire_1 : decode mX9_wire.2.1 1 = .ok (.iload_n 1, 1) := dX9_wire_1
theorem ddX9_wire_2 : decode mX9_wire.2.1 2 = .ok (.invokevirtual 168, 3) := dX9_wire_2
theorem ddX9_wire_5 : decode mX9_wire.2.1 5 = .ok (.ifCond .ne 6, 3) := dX9_wire_5
theorem ddX9_wire_8 : decode mX9_wire.2.1 8 = .ok (.ldc 183, 2) := dX9_wire_8
theorem ddX9_wire_10 : decode mX9_wire.2.1 10 = .ok (.ireturn, 1) := dX9_wire_10
theorem ddX9_wire_11 : decode mX9_wire.2.1 11 = .ok (.iload_n 2, 1) := dX9_wire_11
theorem ddX9_wire_12 : decode mX9_wire.2.1 12 = .ok (.tableswitch 78 0 4 #[36, 46, 52, 62, 72], 36) := dX9_wire_12
theorem ddX9_wire_48 : decode mX9_wire.2.1 48 = .ok (.aload_n 0, 1) := dX9_wire_48
theorem ddX9_wire_49 : decode mX9_wire.2.1 49 = .ok (.getfield 7, 3) := dX9_wire_49
theorem ddX9_wire_52 : decode mX9_wire.2.1 52 = .ok (.bipush 8, 2) := dX9_wire_52
theorem ddX9_wire_54 : decode mX9_wire.2.1 54 = .ok (.iload_n 1, 1) := dX9_wire_54
theorem ddX9_wire_55 : decode mX9_wire.2.1 55 = .ok (.iadd, 1) := dX9_wire_55
theorem ddX9_wire_56 : decode mX9_wire.2.1 56 = .ok (.iaload, 1) := dX9_wire_56
theorem ddX9_wire_57 : decode mX9_wire.2.1 57 = .ok (.ireturn, 1) := dX9_wire_57
theorem ddX9_wire_58 : decode mX9_wire.2.1 58 = .ok (.aload_n 0, 1) := dX9_wire_58
theorem ddX9_wire_59 : decode mX9_wire.2.1 59 = .ok (.iload_n 1, 1) := dX9_wire_59
theorem ddX9_wire_60 : decode mX9_wire.2.1 60 = .ok (.invokevirtual 82, 3) := dX9_wire_60
theorem ddX9_wire_63 : decode mX9_wire.2.1 63 = .ok (.ireturn, 1) := dX9_wire_63
theorem ddX9_wire_64 : decode mX9_wire.2.1 64 = .ok (.aload_n 0, 1) := dX9_wire_64
theorem ddX9_wire_65 : decode mX9_wire.2.1 65 = .ok (.getfield 7, 3) := dX9_wire_65
theorem ddX9_wire_68 : decode mX9_wire.2.1 68 = .ok (.bipush 16, 2) := dX9_wire_68
theorem ddX9_wire_70 : decode mX9_wire.2.1 70 = .ok (.iload_n 1, 1) := dX9_wire_70
theorem ddX9_wire_71 : decode mX9_wire.2.1 71 = .ok (.iadd, 1) := dX9_wire_71
theorem ddX9_wire_72 : decode mX9_wire.2.1 72 = .ok (.iaload, 1) := dX9_wire_72
theorem ddX9_wire_73 : decode mX9_wire.2.1 73 = .ok (.ireturn, 1) := dX9_wire_73
theorem ddX9_wire_74 : decode mX9_wire.2.1 74 = .ok (.aload_n 0, 1) := dX9_wire_74
theorem ddX9_wire_75 : decode mX9_wire.2.1 75 = .ok (.getfield 7, 3) := dX9_wire_75
theorem ddX9_wire_78 : decode mX9_wire.2.1 78 = .ok (.bipush 24, 2) := dX9_wire_78
theorem ddX9_wire_80 : decode mX9_wire.2.1 80 = .ok (.iload_n 1, 1) := dX9_wire_80
theorem ddX9_wire_81 : decode mX9_wire.2.1 81 = .ok (.iadd, 1) := dX9_wire_81
theorem ddX9_wire_82 : decode mX9_wire.2.1 82 = .ok (.iaload, 1) := dX9_wire_82
theorem ddX9_wire_83 : decode mX9_wire.2.1 83 = .ok (.ireturn, 1) := dX9_wire_83
theorem ddX9_wire_84 : decode mX9_wire.2.1 84 = .ok (.aload_n 0, 1) := dX9_wire_84
theorem ddX9_wire_85 : decode mX9_wire.2.1 85 = .ok (.iload_n 1, 1) := dX9_wire_85
theorem ddX9_wire_86 : decode mX9_wire.2.1 86 = .ok (.invokevirtual 184, 3) := dX9_wire_86
theorem ddX9_wire_89 : decode mX9_wire.2.1 89 = .ok (.ireturn, 1) := dX9_wire_89
theorem ddX9_wire_90 : decode mX9_wire.2.1 90 = .ok (.ldc 101, 2) := dX9_wire_90
theorem ddX9_wire_92 : decode mX9_wire.2.1 92 = .ok (.ireturn, 1) := dX9_wire_92
theorem ddX9_wave_0 : decode mX9_wave.2.1 0 = .ok (.aload_n 0, 1) := dX9_wave_0
theorem ddX9_wave_1 : decode mX9_wave.2.1 1 = .ok (.iload_n 1, 1) := dX9_wave_1
theorem ddX9_wave_2 : decode mX9_wave.2.1 2 = .ok (.invokevirtual 168, 3) := dX9_wave_2
theorem ddX9_wave_5 : decode mX9_wave.2.1 5 = .ok (.ifCond .ne 6, 3) := dX9_wave_5
theorem ddX9_wave_8 : decode mX9_wave.2.1 8 = .ok (.ldc 183, 2) := dX9_wave_8
theorem ddX9_wave_10 : decode mX9_wave.2.1 10 = .ok (.ireturn, 1) := dX9_wave_10
theorem ddX9_wave_11 : decode mX9_wave.2.1 11 = .ok (.iload_n 3, 1) := dX9_wave_11
theorem ddX9_wave_12 : decode mX9_wave.2.1 12 = .ok (.iconst 0, 1) := dX9_wave_12
theorem ddX9_wave_13 : decode mX9_wave.2.1 13 = .ok (.iconst 1, 1) := dX9_wave_13
theorem ddX9_wave_14 : decode mX9_wave.2.1 14 = .ok (.invokestatic 41, 3) := dX9_wave_14
theorem ddX9_wave_17 : decode mX9_wave.2.1 17 = .ok (.ifCond .ne 6, 3) := dX9_wave_17
theorem ddX9_wave_20 : decode mX9_wave.2.1 20 = .ok (.ldc 101, 2) := dX9_wave_20
theorem ddX9_wave_22 : decode mX9_wave.2.1 22 = .ok (.ireturn, 1) := dX9_wave_22
theorem ddX9_wave_23 : decode mX9_wave.2.1 23 = .ok (.iload_n 2, 1) := dX9_wave_23
theorem ddX9_wave_24 : decode mX9_wave.2.1 24 = .ok (.iconst 0, 1) := dX9_wave_24
theorem ddX9_wave_25 : decode mX9_wave.2.1 25 = .ok (.aload_n 0, 1) := dX9_wave_25
theorem ddX9_wave_26 : decode mX9_wave.2.1 26 = .ok (.getfield 7, 3) := dX9_wave_26
theorem ddX9_wave_29 : decode mX9_wave.2.1 29 = .ok (.bipush 40, 2) := dX9_wave_29
theorem ddX9_wave_31 : decode mX9_wave.2.1 31 = .ok (.iload_n 1, 1) := dX9_wave_31
theorem ddX9_wave_32 : decode mX9_wave.2.1 32 = .ok (.iadd, 1) := dX9_wave_32
theorem ddX9_wave_33 : decode mX9_wave.2.1 33 = .ok (.iaload, 1) := dX9_wave_33
theorem ddX9_wave_34 : decode mX9_wave.2.1 34 = .ok (.iconst 1, 1) := dX9_wave_34
theorem ddX9_wave_35 : decode mX9_wave.2.1 35 = .ok (.isub, 1) := dX9_wave_35
theorem ddX9_wave_36 : decode mX9_wave.2.1 36 = .ok (.invokestatic 41, 3) := dX9_wave_36
theorem ddX9_wave_39 : decode mX9_wave.2.1 39 = .ok (.ifCond .ne 5, 3) := dX9_wave_39
theorem ddX9_wave_42 : decode mX9_wave.2.1 42 = .ok (.iconst (-1), 1) := dX9_wave_42
theorem ddX9_wave_43 : decode mX9_wave.2.1 43 = .ok (.ireturn, 1) := dX9_wave_43
theorem ddX9_wave_44 : decode mX9_wave.2.1 44 = .ok (.aload_n 0, 1) := dX9_wave_44
theorem ddX9_wave_45 : decode mX9_wave.2.1 45 = .ok (.getfield 7, 3) := dX9_wave_45
theorem ddX9_wave_48 : decode mX9_wave.2.1 48 = .ok (.iload_n 3, 1) := dX9_wave_48
theorem ddX9_wave_49 : decode mX9_wave.2.1 49 = .ok (.ifCond .ne 8, 3) := dX9_wave_49
theorem ddX9_wave_52 : decode mX9_wave.2.1 52 = .ok (.bipush 48, 2) := dX9_wave_52
theorem ddX9_wave_54 : decode mX9_wave.2.1 54 = .ok (.goto 5, 3) := dX9_wave_54
theorem ddX9_wave_57 : decode mX9_wave.2.1 57 = .ok (.bipush 112, 2) := dX9_wave_57
theorem ddX9_wave_59 : decode mX9_wave.2.1 59 = .ok (.bipush 8, 2) := dX9_wave_59
theorem ddX9_wave_61 : decode mX9_wave.2.1 61 = .ok (.iload_n 1, 1) := dX9_wave_61
theorem ddX9_wave_62 : decode mX9_wave.2.1 62 = .ok (.imul, 1) := dX9_wave_62
theorem ddX9_wave_63 : decode mX9_wave.2.1 63 = .ok (.iadd, 1) := dX9_wave_63
theorem ddX9_wave_64 : decode mX9_wave.2.1 64 = .ok (.iload_n 2, 1) := dX9_wave_64
theorem ddX9_wave_65 : decode mX9_wave.2.1 65 = .ok (.iadd, 1) := dX9_wave_65
theorem ddX9_wave_66 : decode mX9_wave.2.1 66 = .ok (.iaload, 1) := dX9_wave_66
theorem ddX9_wave_67 : decode mX9_wave.2.1 67 = .ok (.ireturn, 1) := dX9_wave_67
theorem ddX9_gate_0 : decode mX9_gate.2.1 0 = .ok (.aload_n 0, 1) := dX9_gate_0
theorem ddX9_gate_1 : decode mX9_gate.2.1 1 = .ok (.iload_n 1, 1) := dX9_gate_1
theorem ddX9_gate_2 : decode mX9_gate.2.1 2 = .ok (.invokevirtual 187, 3) := dX9_gate_2
theorem ddX9_gate_5 : decode mX9_gate.2.1 5 = .ok (.ifCond .ne 6, 3) := dX9_gate_5
theorem ddX9_gate_8 : decode mX9_gate.2.1 8 = .ok (.ldc 183, 2) := dX9_gate_8
theorem ddX9_gate_10 : decode mX9_gate.2.1 10 = .ok (.ireturn, 1) := dX9_gate_10
theorem ddX9_gate_11 : decode mX9_gate.2.1 11 = .ok (.iload_n 2, 1) := dX9_gate_11
theorem ddX9_gate_12 : decode mX9_gate.2.1 12 = .ok (.tableswitch 105 0 9 #[56, 56, 56, 56, 56, 56, 63, 74, 81, 92], 56) := dX9_gate_12
theorem ddX9_gate_68 : decode mX9_gate.2.1 68 = .ok (.aload_n 0, 1) := dX9_gate_68
theorem ddX9_gate_69 : decode mX9_gate.2.1 69 = .ok (.iload_n 1, 1) := dX9_gate_69
theorem ddX9_gate_70 : decode mX9_gate.2.1 70 = .ok (.iload_n 2, 1) := dX9_gate_70
theorem ddX9_gate_71 : decode mX9_gate.2.1 71 = .ok (.invokevirtual 52, 3) := dX9_gate_71
theorem ddX9_gate_74 : decode mX9_gate.2.1 74 = .ok (.ireturn, 1) := dX9_gate_74
theorem ddX9_gate_75 : decode mX9_gate.2.1 75 = .ok (.aload_n 0, 1) := dX9_gate_75
theorem ddX9_gate_76 : decode mX9_gate.2.1 76 = .ok (.getfield 7, 3) := dX9_gate_76
theorem ddX9_gate_79 : decode mX9_gate.2.1 79 = .ok (.sipush 176, 3) := dX9_gate_79
theorem ddX9_gate_82 : decode mX9_gate.2.1 82 = .ok (.iload_n 1, 1) := dX9_gate_82
theorem ddX9_gate_83 : decode mX9_gate.2.1 83 = .ok (.iadd, 1) := dX9_gate_83
theorem ddX9_gate_84 : decode mX9_gate.2.1 84 = .ok (.iaload, 1) := dX9_gate_84
theorem ddX9_gate_85 : decode mX9_gate.2.1 85 = .ok (.ireturn, 1) := dX9_gate_85
theorem ddX9_gate_86 : decode mX9_gate.2.1 86 = .ok (.aload_n 0, 1) := dX9_gate_86
theorem ddX9_gate_87 : decode mX9_gate.2.1 87 = .ok (.iconst 0, 1) := dX9_gate_87
theorem ddX9_gate_88 : decode mX9_gate.2.1 88 = .ok (.iload_n 1, 1) := dX9_gate_88
theorem ddX9_gate_89 : decode mX9_gate.2.1 89 = .ok (.invokevirtual 63, 3) := dX9_gate_89
theorem ddX9_gate_92 : decode mX9_gate.2.1 92 = .ok (.ireturn, 1) := dX9_gate_92
theorem ddX9_gate_93 : decode mX9_gate.2.1 93 = .ok (.aload_n 0, 1) := dX9_gate_93
theorem ddX9_gate_94 : decode mX9_gate.2.1 94 = .ok (.getfield 7, 3) := dX9_gate_94
theorem ddX9_gate_97 : decode mX9_gate.2.1 97 = .ok (.sipush 184, 3) := dX9_gate_97
theorem ddX9_gate_100 : decode mX9_gate.2.1 100 = .ok (.iload_n 1, 1) := dX9_gate_100
theorem ddX9_gate_101 : decode mX9_gate.2.1 101 = .ok (.iadd, 1) := dX9_gate_101
theorem ddX9_gate_102 : decode mX9_gate.2.1 102 = .ok (.iaload, 1) := dX9_gate_102
theorem ddX9_gate_103 : decode mX9_gate.2.1 103 = .ok (.ireturn, 1) := dX9_gate_103
theorem ddX9_gate_104 : decode mX9_gate.2.1 104 = .ok (.aload_n 0, 1) := dX9_gate_104
theorem ddX9_gate_105 : decode mX9_gate.2.1 105 = .ok (.iconst 0, 1) := dX9_gate_105
theorem ddX9_gate_106 : decode mX9_gate.2.1 106 = .ok (.aload_n 0, 1) := dX9_gate_106
theorem ddX9_gate_107 : decode mX9_gate.2.1 107 = .ok (.iload_n 1, 1) := dX9_gate_107
theorem ddX9_gate_108 : decode mX9_gate.2.1 108 = .ok (.iconst 3, 1) := dX9_gate_108
theorem ddX9_gate_109 : decode mX9_gate.2.1 109 = .ok (.invokevirtual 52, 3) := dX9_gate_109
theorem ddX9_gate_112 : decode mX9_gate.2.1 112 = .ok (.iload_n 1, 1) := dX9_gate_112
theorem ddX9_gate_113 : decode mX9_gate.2.1 113 = .ok (.invokevirtual 85, 3) := dX9_gate_113
theorem ddX9_gate_116 : decode mX9_gate.2.1 116 = .ok (.ireturn, 1) := dX9_gate_116
theorem ddX9_gate_117 : decode mX9_gate.2.1 117 = .ok (.ldc 101, 2) := dX9_gate_117
theorem ddX9_gate_119 : decode mX9_gate.2.1 119 = .ok (.ireturn, 1) := dX9_gate_119
theorem ddX9_queue_0 : decode mX9_queue.2.1 0 = .ok (.aload_n 0, 1) := dX9_queue_0
theorem ddX9_queue_1 : decode mX9_queue.2.1 1 = .ok (.iload_n 1, 1) := dX9_queue_1
theorem ddX9_queue_2 : decode mX9_queue.2.1 2 = .ok (.invokevirtual 187, 3) := dX9_queue_2
theorem ddX9_queue_5 : decode mX9_queue.2.1 5 = .ok (.ifCond .ne 6, 3) := dX9_queue_5
theorem ddX9_queue_8 : decode mX9_queue.2.1 8 = .ok (.ldc 183, 2) := dX9_queue_8
theorem ddX9_queue_10 : decode mX9_queue.2.1 10 = .ok (.ireturn, 1) := dX9_queue_10
theorem ddX9_queue_11 : decode mX9_queue.2.1 11 = .ok (.iload_n 3, 1) := dX9_queue_11
theorem ddX9_queue_12 : decode mX9_queue.2.1 12 = .ok (.iconst 0, 1) := dX9_queue_12
theorem ddX9_queue_13 : decode mX9_queue.2.1 13 = .ok (.iconst 1, 1) := dX9_queue_13
theorem ddX9_queue_14 : decode mX9_queue.2.1 14 = .ok (.invokestatic 41, 3) := dX9_queue_14
theorem ddX9_queue_17 : decode mX9_queue.2.1 17 = .ok (.ifCond .ne 6, 3) := dX9_queue_17
theorem ddX9_queue_20 : decode mX9_queue.2.1 20 = .ok (.ldc 101, 2) := dX9_queue_20
theorem ddX9_queue_22 : decode mX9_queue.2.1 22 = .ok (.ireturn, 1) := dX9_queue_22
theorem ddX9_queue_23 : decode mX9_queue.2.1 23 = .ok (.iload_n 2, 1) := dX9_queue_23
theorem ddX9_queue_24 : decode mX9_queue.2.1 24 = .ok (.iconst 0, 1) := dX9_queue_24
theorem ddX9_queue_25 : decode mX9_queue.2.1 25 = .ok (.aload_n 0, 1) := dX9_queue_25
theorem ddX9_queue_26 : decode mX9_queue.2.1 26 = .ok (.getfield 7, 3) := dX9_queue_26
theorem ddX9_queue_29 : decode mX9_queue.2.1 29 = .ok (.sipush 184, 3) := dX9_queue_29
theorem ddX9_queue_32 : decode mX9_queue.2.1 32 = .ok (.iload_n 1, 1) := dX9_queue_32
theorem ddX9_queue_33 : decode mX9_queue.2.1 33 = .ok (.iadd, 1) := dX9_queue_33
theorem ddX9_queue_34 : decode mX9_queue.2.1 34 = .ok (.iaload, 1) := dX9_queue_34
theorem ddX9_queue_35 : decode mX9_queue.2.1 35 = .ok (.iconst 1, 1) := dX9_queue_35
theorem ddX9_queue_36 : decode mX9_queue.2.1 36 = .ok (.isub, 1) := dX9_queue_36
theorem ddX9_queue_37 : decode mX9_queue.2.1 37 = .ok (.invokestatic 41, 3) := dX9_queue_37
theorem ddX9_queue_40 : decode mX9_queue.2.1 40 = .ok (.ifCond .ne 5, 3) := dX9_queue_40
theorem ddX9_queue_43 : decode mX9_queue.2.1 43 = .ok (.iconst (-1), 1) := dX9_queue_43
theorem ddX9_queue_44 : decode mX9_queue.2.1 44 = .ok (.ireturn, 1) := dX9_queue_44
theorem ddX9_queue_45 : decode mX9_queue.2.1 45 = .ok (.aload_n 0, 1) := dX9_queue_45
theorem ddX9_queue_46 : decode mX9_queue.2.1 46 = .ok (.getfield 7, 3) := dX9_queue_46
theorem ddX9_queue_49 : decode mX9_queue.2.1 49 = .ok (.iload_n 3, 1) := dX9_queue_49
theorem ddX9_queue_50 : decode mX9_queue.2.1 50 = .ok (.ifCond .ne 9, 3) := dX9_queue_50
theorem ddX9_queue_53 : decode mX9_queue.2.1 53 = .ok (.sipush 192, 3) := dX9_queue_53
theorem ddX9_queue_56 : decode mX9_queue.2.1 56 = .ok (.goto 6, 3) := dX9_queue_56
theorem ddX9_queue_59 : decode mX9_queue.2.1 59 = .ok (.sipush 256, 3) := dX9_queue_59
theorem ddX9_queue_62 : decode mX9_queue.2.1 62 = .ok (.bipush 8, 2) := dX9_queue_62
theorem ddX9_queue_64 : decode mX9_queue.2.1 64 = .ok (.iload_n 1, 1) := dX9_queue_64
theorem ddX9_queue_65 : decode mX9_queue.2.1 65 = .ok (.imul, 1) := dX9_queue_65
theorem ddX9_queue_66 : decode mX9_queue.2.1 66 = .ok (.iadd, 1) := dX9_queue_66
theorem ddX9_queue_67 : decode mX9_queue.2.1 67 = .ok (.iload_n 2, 1) := dX9_queue_67
theorem ddX9_queue_68 : decode mX9_queue.2.1 68 = .ok (.iadd, 1) := dX9_queue_68
theorem ddX9_queue_69 : decode mX9_queue.2.1 69 = .ok (.iaload, 1) := dX9_queue_69
theorem ddX9_queue_70 : decode mX9_queue.2.1 70 = .ok (.ireturn, 1) := dX9_queue_70
theorem ddX9_resolved_0 : decode mX9_resolved.2.1 0 = .ok (.iload_n 1, 1) := dX9_resolved_0
theorem ddX9_resolved_1 : decode mX9_resolved.2.1 1 = .ok (.invokestatic 190, 3) := dX9_resolved_1
theorem ddX9_resolved_4 : decode mX9_resolved.2.1 4 = .ok (.ifCond .eq 18, 3) := dX9_resolved_4
theorem ddX9_resolved_7 : decode mX9_resolved.2.1 7 = .ok (.iload_n 2, 1) := dX9_resolved_7
theorem ddX9_resolved_8 : decode mX9_resolved.2.1 8 = .ok (.invokestatic 190, 3) := dX9_resolved_8
theorem ddX9_resolved_11 : decode mX9_resolved.2.1 11 = .ok (.ifCond .eq 11, 3) := dX9_resolved_11
theorem ddX9_resolved_14 : decode mX9_resolved.2.1 14 = .ok (.iload_n 1, 1) := dX9_resolved_14
theorem ddX9_resolved_15 : decode mX9_resolved.2.1 15 = .ok (.iload_n 2, 1) := dX9_resolved_15
theorem ddX9_resolved_16 : decode mX9_resolved.2.1 16 = .ok (.invokestatic 60, 3) := dX9_resolved_16
theorem ddX9_resolved_19 : decode mX9_resolved.2.1 19 = .ok (.goto 5, 3) := dX9_resolved_19
theorem ddX9_resolved_22 : decode mX9_resolved.2.1 22 = .ok (.ldc 183, 2) := dX9_resolved_22
theorem ddX9_resolved_24 : decode mX9_resolved.2.1 24 = .ok (.ireturn, 1) := dX9_resolved_24
theorem ddX9_comes_0 : decode mX9_comes.2.1 0 = .ok (.iload_n 2, 1) := dX9_comes_0
theorem ddX9_comes_1 : decode mX9_comes.2.1 1 = .ok (.invokestatic 190, 3) := dX9_comes_1
theorem ddX9_comes_4 : decode mX9_comes.2.1 4 = .ok (.ifCond .eq 10, 3) := dX9_comes_4
theorem ddX9_comes_7 : decode mX9_comes.2.1 7 = .ok (.iload_n 3, 1) := dX9_comes_7
theorem ddX9_comes_8 : decode mX9_comes.2.1 8 = .ok (.invokestatic 190, 3) := dX9_comes_8
theorem ddX9_comes_11 : decode mX9_comes.2.1 11 = .ok (.ifCond .ne 6, 3) := dX9_comes_11
theorem ddX9_comes_14 : decode mX9_comes.2.1 14 = .ok (.ldc 183, 2) := dX9_comes_14
theorem ddX9_comes_16 : decode mX9_comes.2.1 16 = .ok (.ireturn, 1) := dX9_comes_16
theorem ddX9_comes_17 : decode mX9_comes.2.1 17 = .ok (.iload_n 1, 1) := dX9_comes_17
theorem ddX9_comes_18 : decode mX9_comes.2.1 18 = .ok (.iconst 0, 1) := dX9_comes_18
theorem ddX9_comes_19 : decode mX9_comes.2.1 19 = .ok (.iconst 4, 1) := dX9_comes_19
theorem ddX9_comes_20 : decode mX9_comes.2.1 20 = .ok (.invokestatic 41, 3) := dX9_comes_20
theorem ddX9_comes_23 : decode mX9_comes.2.1 23 = .ok (.ifCond .eq 12, 3) := dX9_comes_23
theorem ddX9_comes_26 : decode mX9_comes.2.1 26 = .ok (.iload_n 1, 1) := dX9_comes_26
theorem ddX9_comes_27 : decode mX9_comes.2.1 27 = .ok (.iload_n 2, 1) := dX9_comes_27
theorem ddX9_comes_28 : decode mX9_comes.2.1 28 = .ok (.iload_n 3, 1) := dX9_comes_28
theorem ddX9_comes_29 : decode mX9_comes.2.1 29 = .ok (.invokestatic 56, 3) := dX9_comes_29
theorem ddX9_comes_32 : decode mX9_comes.2.1 32 = .ok (.goto 5, 3) := dX9_comes_32
theorem ddX9_comes_35 : decode mX9_comes.2.1 35 = .ok (.ldc 101, 2) := dX9_comes_35
theorem ddX9_comes_37 : decode mX9_comes.2.1 37 = .ok (.ireturn, 1) := dX9_comes_37
theorem ddX9_remember_0 : decode mX9_remember.2.1 0 = .ok (.aload_n 0, 1) := dX9_remember_0
theorem ddX9_remember_1 : decode mX9_remember.2.1 1 = .ok (.getfield 143, 3) := dX9_remember_1
theorem ddX9_remember_4 : decode mX9_remember.2.1 4 = .ok (.bipush 16, 2) := dX9_remember_4
theorem ddX9_remember_6 : decode mX9_remember.2.1 6 = .ok (.if_icmp .ne 43, 3) := dX9_remember_6
theorem ddX9_remember_9 : decode mX9_remember.2.1 9 = .ok (.iconst 1, 1) := dX9_remember_9
theorem ddX9_remember_10 : decode mX9_remember.2.1 10 = .ok (.istore_n 1, 1) := dX9_remember_10
theorem ddX9_remember_11 : decode mX9_remember.2.1 11 = .ok (.iload_n 1, 1) := dX9_remember_11
theorem ddX9_remember_12 : decode mX9_remember.2.1 12 = .ok (.bipush 16, 2) := dX9_remember_12
theorem ddX9_remember_14 : decode mX9_remember.2.1 14 = .ok (.if_icmp .ge 25, 3) := dX9_remember_14
theorem ddX9_remember_17 : decode mX9_remember.2.1 17 = .ok (.aload_n 0, 1) := dX9_remember_17
theorem ddX9_remember_18 : decode mX9_remember.2.1 18 = .ok (.sipush 344, 3) := dX9_remember_18
theorem ddX9_remember_21 : decode mX9_remember.2.1 21 = .ok (.iload_n 1, 1) := dX9_remember_21
theorem ddX9_remember_22 : decode mX9_remember.2.1 22 = .ok (.iconst 1, 1) := dX9_remember_22
theorem ddX9_remember_23 : decode mX9_remember.2.1 23 = .ok (.iadd, 1) := dX9_remember_23
theorem ddX9_remember_24 : decode mX9_remember.2.1 24 = .ok (.imul, 1) := dX9_remember_24
theorem ddX9_remember_25 : decode mX9_remember.2.1 25 = .ok (.sipush 344, 3) := dX9_remember_25
theorem ddX9_remember_28 : decode mX9_remember.2.1 28 = .ok (.iload_n 1, 1) := dX9_remember_28
theorem ddX9_remember_29 : decode mX9_remember.2.1 29 = .ok (.imul, 1) := dX9_remember_29
theorem ddX9_remember_30 : decode mX9_remember.2.1 30 = .ok (.invokevirtual 158, 3) := dX9_remember_30
theorem ddX9_remember_33 : decode mX9_remember.2.1 33 = .ok (.iinc 1 1, 3) := dX9_remember_33
theorem ddX9_remember_36 : decode mX9_remember.2.1 36 = .ok (.goto (-25), 3) := dX9_remember_36
theorem ddX9_remember_39 : decode mX9_remember.2.1 39 = .ok (.aload_n 0, 1) := dX9_remember_39
theorem ddX9_remember_40 : decode mX9_remember.2.1 40 = .ok (.dup, 1) := dX9_remember_40
theorem ddX9_remember_41 : decode mX9_remember.2.1 41 = .ok (.getfield 143, 3) := dX9_remember_41
theorem ddX9_remember_44 : decode mX9_remember.2.1 44 = .ok (.iconst 1, 1) := dX9_remember_44
theorem ddX9_remember_45 : decode mX9_remember.2.1 45 = .ok (.isub, 1) := dX9_remember_45
theorem ddX9_remember_46 : decode mX9_remember.2.1 46 = .ok (.putfield 143, 3) := dX9_remember_46
theorem ddX9_remember_49 : decode mX9_remember.2.1 49 = .ok (.aload_n 0, 1) := dX9_remember_49
theorem ddX9_remember_50 : decode mX9_remember.2.1 50 = .ok (.iconst 0, 1) := dX9_remember_50
theorem ddX9_remember_51 : decode mX9_remember.2.1 51 = .ok (.sipush 344, 3) := dX9_remember_51
theorem ddX9_remember_54 : decode mX9_remember.2.1 54 = .ok (.aload_n 0, 1) := dX9_remember_54
theorem ddX9_remember_55 : decode mX9_remember.2.1 55 = .ok (.getfield 143, 3) := dX9_remember_55
theorem ddX9_remember_58 : decode mX9_remember.2.1 58 = .ok (.iconst 1, 1) := dX9_remember_58
theorem ddX9_remember_59 : decode mX9_remember.2.1 59 = .ok (.iadd, 1) := dX9_remember_59
theorem ddX9_remember_60 : decode mX9_remember.2.1 60 = .ok (.imul, 1) := dX9_remember_60
theorem ddX9_remember_61 : decode mX9_remember.2.1 61 = .ok (.invokevirtual 158, 3) := dX9_remember_61
theorem ddX9_remember_64 : decode mX9_remember.2.1 64 = .ok (.aload_n 0, 1) := dX9_remember_64
theorem ddX9_remember_65 : decode mX9_remember.2.1 65 = .ok (.dup, 1) := dX9_remember_65
theorem ddX9_remember_66 : decode mX9_remember.2.1 66 = .ok (.getfield 143, 3) := dX9_remember_66
theorem ddX9_remember_69 : decode mX9_remember.2.1 69 = .ok (.iconst 1, 1) := dX9_remember_69
theorem ddX9_remember_70 : decode mX9_remember.2.1 70 = .ok (.iadd, 1) := dX9_remember_70
theorem ddX9_remember_71 : decode mX9_remember.2.1 71 = .ok (.putfield 143, 3) := dX9_remember_71
theorem ddX9_remember_74 : decode mX9_remember.2.1 74 = .ok (.return_, 1) := dX9_remember_74
theorem ddX9_step_0 : decode mX9_step.2.1 0 = .ok (.aload_n 0, 1) := dX9_step_0
theorem ddX9_step_1 : decode mX9_step.2.1 1 = .ok (.iconst 0, 1) := dX9_step_1
theorem ddX9_step_2 : decode mX9_step.2.1 2 = .ok (.invokevirtual 161, 3) := dX9_step_2
theorem ddX9_step_5 : decode mX9_step.2.1 5 = .ok (.ifCond .ne 13, 3) := dX9_step_5
theorem ddX9_step_8 : decode mX9_step.2.1 8 = .ok (.aload_n 0, 1) := dX9_step_8
theorem ddX9_step_9 : decode mX9_step.2.1 9 = .ok (.getfield 7, 3) := dX9_step_9
theorem ddX9_step_12 : decode mX9_step.2.1 12 = .ok (.iconst 2, 1) := dX9_step_12
theorem ddX9_step_13 : decode mX9_step.2.1 13 = .ok (.iaload, 1) := dX9_step_13
theorem ddX9_step_14 : decode mX9_step.2.1 14 = .ok (.iconst 1, 1) := dX9_step_14
theorem ddX9_step_15 : decode mX9_step.2.1 15 = .ok (.if_icmp .ne 6, 3) := dX9_step_15
theorem ddX9_step_18 : decode mX9_step.2.1 18 = .ok (.ldc 193, 2) := dX9_step_18
theorem ddX9_step_20 : decode mX9_step.2.1 20 = .ok (.ireturn, 1) := dX9_step_20
theorem ddX9_step_21 : decode mX9_step.2.1 21 = .ok (.aload_n 0, 1) := dX9_step_21
theorem ddX9_step_22 : decode mX9_step.2.1 22 = .ok (.invokevirtual 194, 3) := dX9_step_22
theorem ddX9_step_25 : decode mX9_step.2.1 25 = .ok (.aload_n 0, 1) := dX9_step_25
theorem ddX9_step_26 : decode mX9_step.2.1 26 = .ok (.iconst 0, 1) := dX9_step_26
theorem ddX9_step_27 : decode mX9_step.2.1 27 = .ok (.invokevirtual 165, 3) := dX9_step_27
theorem ddX9_step_30 : decode mX9_step.2.1 30 = .ok (.aload_n 0, 1) := dX9_step_30
theorem ddX9_step_31 : decode mX9_step.2.1 31 = .ok (.getfield 7, 3) := dX9_step_31
theorem ddX9_step_34 : decode mX9_step.2.1 34 = .ok (.iconst 0, 1) := dX9_step_34
theorem ddX9_step_35 : decode mX9_step.2.1 35 = .ok (.iaload, 1) := dX9_step_35
theorem ddX9_step_36 : decode mX9_step.2.1 36 = .ok (.ireturn, 1) := dX9_step_36
theorem ddX9_run_0 : decode mX9_run.2.1 0 = .ok (.iload_n 1, 1) := dX9_run_0
theorem ddX9_run_1 : decode mX9_run.2.1 1 = .ok (.iconst 1, 1) := dX9_run_1
theorem ddX9_run_2 : decode mX9_run.2.1 2 = .ok (.sipush 200, 3) := dX9_run_2
theorem ddX9_run_5 : decode mX9_run.2.1 5 = .ok (.invokestatic 41, 3) := dX9_run_5
theorem ddX9_run_8 : decode mX9_run.2.1 8 = .ok (.ifCond .ne 6, 3) := dX9_run_8
theorem ddX9_run_11 : decode mX9_run.2.1 11 = .ok (.ldc 101, 2) := dX9_run_11
theorem ddX9_run_13 : decode mX9_run.2.1 13 = .ok (.ireturn, 1) := dX9_run_13
theorem ddX9_run_14 : decode mX9_run.2.1 14 = .ok (.aload_n 0, 1) := dX9_run_14
theorem ddX9_run_15 : decode mX9_run.2.1 15 = .ok (.getfield 7, 3) := dX9_run_15
theorem ddX9_run_18 : decode mX9_run.2.1 18 = .ok (.iconst 2, 1) := dX9_run_18
theorem ddX9_run_19 : decode mX9_run.2.1 19 = .ok (.iaload, 1) := dX9_run_19
theorem ddX9_run_20 : decode mX9_run.2.1 20 = .ok (.iconst 1, 1) := dX9_run_20
theorem ddX9_run_21 : decode mX9_run.2.1 21 = .ok (.if_icmp .ne 6, 3) := dX9_run_21
theorem ddX9_run_24 : decode mX9_run.2.1 24 = .ok (.ldc 193, 2) := dX9_run_24
theorem ddX9_run_26 : decode mX9_run.2.1 26 = .ok (.ireturn, 1) := dX9_run_26
theorem ddX9_run_27 : decode mX9_run.2.1 27 = .ok (.aload_n 0, 1) := dX9_run_27
theorem ddX9_run_28 : decode mX9_run.2.1 28 = .ok (.invokevirtual 194, 3) := dX9_run_28
theorem ddX9_run_31 : decode mX9_run.2.1 31 = .ok (.aload_n 0, 1) := dX9_run_31
theorem ddX9_run_32 : decode mX9_run.2.1 32 = .ok (.getfield 7, 3) := dX9_run_32
theorem ddX9_run_35 : decode mX9_run.2.1 35 = .ok (.iconst 0, 1) := dX9_run_35
theorem ddX9_run_36 : decode mX9_run.2.1 36 = .ok (.iaload, 1) := dX9_run_36
theorem ddX9_run_37 : decode mX9_run.2.1 37 = .ok (.iload_n 1, 1) := dX9_run_37
theorem ddX9_run_38 : decode mX9_run.2.1 38 = .ok (.iadd, 1) := dX9_run_38
theorem ddX9_run_39 : decode mX9_run.2.1 39 = .ok (.istore_n 2, 1) := dX9_run_39
theorem ddX9_run_40 : decode mX9_run.2.1 40 = .ok (.iconst 0, 1) := dX9_run_40
theorem ddX9_run_41 : decode mX9_run.2.1 41 = .ok (.istore_n 3, 1) := dX9_run_41
theorem ddX9_run_42 : decode mX9_run.2.1 42 = .ok (.aload_n 0, 1) := dX9_run_42
theorem ddX9_run_43 : decode mX9_run.2.1 43 = .ok (.iconst 0, 1) := dX9_run_43
theorem ddX9_run_44 : decode mX9_run.2.1 44 = .ok (.invokevirtual 161, 3) := dX9_run_44
theorem ddX9_run_47 : decode mX9_run.2.1 47 = .ok (.ifCond .ne 23, 3) := dX9_run_47
theorem ddX9_run_50 : decode mX9_run.2.1 50 = .ok (.aload_n 0, 1) := dX9_run_50
theorem ddX9_run_51 : decode mX9_run.2.1 51 = .ok (.iconst 0, 1) := dX9_run_51
theorem ddX9_run_52 : decode mX9_run.2.1 52 = .ok (.invokevirtual 95, 3) := dX9_run_52
theorem ddX9_run_55 : decode mX9_run.2.1 55 = .ok (.iload_n 2, 1) := dX9_run_55
theorem ddX9_run_56 : decode mX9_run.2.1 56 = .ok (.if_icmp .gt 14, 3) := dX9_run_56
theorem ddX9_run_59 : decode mX9_run.2.1 59 = .ok (.aload_n 0, 1) := dX9_run_59
theorem ddX9_run_60 : decode mX9_run.2.1 60 = .ok (.iconst 0, 1) := dX9_run_60
theorem ddX9_run_61 : decode mX9_run.2.1 61 = .ok (.invokevirtual 165, 3) := dX9_run_61
theorem ddX9_run_64 : decode mX9_run.2.1 64 = .ok (.iinc 3 1, 3) := dX9_run_64
theorem ddX9_run_67 : decode mX9_run.2.1 67 = .ok (.goto (-25), 3) := dX9_run_67
theorem ddX9_run_70 : decode mX9_run.2.1 70 = .ok (.aload_n 0, 1) := dX9_run_70
theorem ddX9_run_71 : decode mX9_run.2.1 71 = .ok (.getfield 7, 3) := dX9_run_71
theorem ddX9_run_74 : decode mX9_run.2.1 74 = .ok (.iconst 0, 1) := dX9_run_74
theorem ddX9_run_75 : decode mX9_run.2.1 75 = .ok (.aload_n 0, 1) := dX9_run_75
theorem ddX9_run_76 : decode mX9_run.2.1 76 = .ok (.getfield 7, 3) := dX9_run_76
theorem ddX9_run_79 : decode mX9_run.2.1 79 = .ok (.iconst 2, 1) := dX9_run_79
theorem ddX9_run_80 : decode mX9_run.2.1 80 = .ok (.iaload, 1) := dX9_run_80
theorem ddX9_run_81 : decode mX9_run.2.1 81 = .ok (.iconst 1, 1) := dX9_run_81
theorem ddX9_run_82 : decode mX9_run.2.1 82 = .ok (.if_icmp .ne 12, 3) := dX9_run_82
theorem ddX9_run_85 : decode mX9_run.2.1 85 = .ok (.aload_n 0, 1) := dX9_run_85
theorem ddX9_run_86 : decode mX9_run.2.1 86 = .ok (.getfield 7, 3) := dX9_run_86
theorem ddX9_run_89 : decode mX9_run.2.1 89 = .ok (.iconst 0, 1) := dX9_run_89
theorem ddX9_run_90 : decode mX9_run.2.1 90 = .ok (.iaload, 1) := dX9_run_90
theorem ddX9_run_91 : decode mX9_run.2.1 91 = .ok (.goto 4, 3) := dX9_run_91
theorem ddX9_run_94 : decode mX9_run.2.1 94 = .ok (.iload_n 2, 1) := dX9_run_94
theorem ddX9_run_95 : decode mX9_run.2.1 95 = .ok (.iastore, 1) := dX9_run_95
theorem ddX9_run_96 : decode mX9_run.2.1 96 = .ok (.iload_n 3, 1) := dX9_run_96
theorem ddX9_run_97 : decode mX9_run.2.1 97 = .ok (.ireturn, 1) := dX9_run_97
theorem ddX9_mayBeSet_0 : decode mX9_mayBeSet.2.1 0 = .ok (.aload_n 0, 1) := dX9_mayBeSet_0
theorem ddX9_mayBeSet_1 : decode mX9_mayBeSet.2.1 1 = .ok (.iload_n 1, 1) := dX9_mayBeSet_1
theorem ddX9_mayBeSet_2 : decode mX9_mayBeSet.2.1 2 = .ok (.invokevirtual 82, 3) := dX9_mayBeSet_2
theorem ddX9_mayBeSet_5 : decode mX9_mayBeSet.2.1 5 = .ok (.ifCond .gt 13, 3) := dX9_mayBeSet_5
theorem ddX9_mayBeSet_8 : decode mX9_mayBeSet.2.1 8 = .ok (.aload_n 0, 1) := dX9_mayBeSet_8
theorem ddX9_mayBeSet_9 : decode mX9_mayBeSet.2.1 9 = .ok (.getfield 7, 3) := dX9_mayBeSet_9
theorem ddX9_mayBeSet_12 : decode mX9_mayBeSet.2.1 12 = .ok (.iconst 2, 1) := dX9_mayBeSet_12
theorem ddX9_mayBeSet_13 : decode mX9_mayBeSet.2.1 13 = .ok (.iaload, 1) := dX9_mayBeSet_13
theorem ddX9_mayBeSet_14 : decode mX9_mayBeSet.2.1 14 = .ok (.iconst 1, 1) := dX9_mayBeSet_14
theorem ddX9_mayBeSet_15 : decode mX9_mayBeSet.2.1 15 = .ok (.if_icmp .ne 6, 3) := dX9_mayBeSet_15
theorem ddX9_mayBeSet_18 : decode mX9_mayBeSet.2.1 18 = .ok (.ldc 193, 2) := dX9_mayBeSet_18
theorem ddX9_mayBeSet_20 : decode mX9_mayBeSet.2.1 20 = .ok (.ireturn, 1) := dX9_mayBeSet_20
theorem ddX9_mayBeSet_21 : decode mX9_mayBeSet.2.1 21 = .ok (.aload_n 0, 1) := dX9_mayBeSet_21
theorem ddX9_mayBeSet_22 : decode mX9_mayBeSet.2.1 22 = .ok (.getfield 7, 3) := dX9_mayBeSet_22
theorem ddX9_mayBeSet_25 : decode mX9_mayBeSet.2.1 25 = .ok (.iconst 3, 1) := dX9_mayBeSet_25
theorem ddX9_mayBeSet_26 : decode mX9_mayBeSet.2.1 26 = .ok (.iaload, 1) := dX9_mayBeSet_26
theorem ddX9_mayBeSet_27 : decode mX9_mayBeSet.2.1 27 = .ok (.bipush 8, 2) := dX9_mayBeSet_27
theorem ddX9_mayBeSet_29 : decode mX9_mayBeSet.2.1 29 = .ok (.if_icmp .ne 8, 3) := dX9_mayBeSet_29
theorem ddX9_mayBeSet_32 : decode mX9_mayBeSet.2.1 32 = .ok (.ldc 105, 2) := dX9_mayBeSet_32
theorem ddX9_mayBeSet_34 : decode mX9_mayBeSet.2.1 34 = .ok (.goto 4, 3) := dX9_mayBeSet_34
theorem ddX9_mayBeSet_37 : decode mX9_mayBeSet.2.1 37 = .ok (.iconst 1, 1) := dX9_mayBeSet_37
theorem ddX9_mayBeSet_38 : decode mX9_mayBeSet.2.1 38 = .ok (.ireturn, 1) := dX9_mayBeSet_38
theorem ddX9_layHand_0 : decode mX9_layHand.2.1 0 = .ok (.aload_n 0, 1) := dX9_layHand_0
theorem ddX9_layHand_1 : decode mX9_layHand.2.1 1 = .ok (.getfield 7, 3) := dX9_layHand_1
theorem ddX9_layHand_4 : decode mX9_layHand.2.1 4 = .ok (.iconst 3, 1) := dX9_layHand_4
theorem ddX9_layHand_5 : decode mX9_layHand.2.1 5 = .ok (.iaload, 1) := dX9_layHand_5
theorem ddX9_layHand_6 : decode mX9_layHand.2.1 6 = .ok (.istore 4, 2) := dX9_layHand_6
theorem ddX9_layHand_8 : decode mX9_layHand.2.1 8 = .ok (.iload 4, 2) := dX9_layHand_8
theorem ddX9_layHand_10 : decode mX9_layHand.2.1 10 = .ok (.ifCond .le 98, 3) := dX9_layHand_10
theorem ddX9_layHand_13 : decode mX9_layHand.2.1 13 = .ok (.aload_n 0, 1) := dX9_layHand_13
theorem ddX9_layHand_14 : decode mX9_layHand.2.1 14 = .ok (.getfield 7, 3) := dX9_layHand_14
theorem ddX9_layHand_17 : decode mX9_layHand.2.1 17 = .ok (.sipush 320, 3) := dX9_layHand_17
theorem ddX9_layHand_20 : decode mX9_layHand.2.1 20 = .ok (.iload 4, 2) := dX9_layHand_20
theorem ddX9_layHand_22 : decode mX9_layHand.2.1 22 = .ok (.iadd, 1) := dX9_layHand_22
theorem ddX9_layHand_23 : decode mX9_layHand.2.1 23 = .ok (.iconst 1, 1) := dX9_layHand_23
theorem ddX9_layHand_24 : decode mX9_layHand.2.1 24 = .ok (.isub, 1) := dX9_layHand_24
theorem ddX9_layHand_25 : decode mX9_layHand.2.1 25 = .ok (.iaload, 1) := dX9_layHand_25
theorem ddX9_layHand_26 : decode mX9_layHand.2.1 26 = .ok (.iload_n 3, 1) := dX9_layHand_26
theorem ddX9_layHand_27 : decode mX9_layHand.2.1 27 = .ok (.if_icmp .le 81, 3) := dX9_layHand_27
theorem ddX9_layHand_30 : decode mX9_layHand.2.1 30 = .ok (.aload_n 0, 1) := dX9_layHand_30
theorem ddX9_layHand_31 : decode mX9_layHand.2.1 31 = .ok (.getfield 7, 3) := dX9_layHand_31
theorem ddX9_layHand_34 : decode mX9_layHand.2.1 34 = .ok (.sipush 320, 3) := dX9_layHand_34
theorem ddX9_layHand_37 : decode mX9_layHand.2.1 37 = .ok (.iload 4, 2) := dX9_layHand_37
theorem ddX9_layHand_39 : decode mX9_layHand.2.1 39 = .ok (.iadd, 1) := dX9_layHand_39
theorem ddX9_layHand_40 : decode mX9_layHand.2.1 40 = .ok (.aload_n 0, 1) := dX9_layHand_40
theorem ddX9_layHand_41 : decode mX9_layHand.2.1 41 = .ok (.getfield 7, 3) := dX9_layHand_41
theorem ddX9_layHand_44 : decode mX9_layHand.2.1 44 = .ok (.sipush 320, 3) := dX9_layHand_44
theorem ddX9_layHand_47 : decode mX9_layHand.2.1 47 = .ok (.iload 4, 2) := dX9_layHand_47
theorem ddX9_layHand_49 : decode mX9_layHand.2.1 49 = .ok (.iadd, 1) := dX9_layHand_49
theorem ddX9_layHand_50 : decode mX9_layHand.2.1 50 = .ok (.iconst 1, 1) := dX9_layHand_50
theorem ddX9_layHand_51 : decode mX9_layHand.2.1 51 = .ok (.isub, 1) := dX9_layHand_51
theorem ddX9_layHand_52 : decode mX9_layHand.2.1 52 = .ok (.iaload, 1) := dX9_layHand_52
theorem ddX9_layHand_53 : decode mX9_layHand.2.1 53 = .ok (.iastore, 1) := dX9_layHand_53
theorem ddX9_layHand_54 : decode mX9_layHand.2.1 54 = .ok (.aload_n 0, 1) := dX9_layHand_54
theorem ddX9_layHand_55 : decode mX9_layHand.2.1 55 = .ok (.getfield 7, 3) := dX9_layHand_55
theorem ddX9_layHand_58 : decode mX9_layHand.2.1 58 = .ok (.sipush 328, 3) := dX9_layHand_58
theorem ddX9_layHand_61 : decode mX9_layHand.2.1 61 = .ok (.iload 4, 2) := dX9_layHand_61
theorem ddX9_layHand_63 : decode mX9_layHand.2.1 63 = .ok (.iadd, 1) := dX9_layHand_63
theorem ddX9_layHand_64 : decode mX9_layHand.2.1 64 = .ok (.aload_n 0, 1) := dX9_layHand_64
theorem ddX9_layHand_65 : decode mX9_layHand.2.1 65 = .ok (.getfield 7, 3) := dX9_layHand_65
theorem ddX9_layHand_68 : decode mX9_layHand.2.1 68 = .ok (.sipush 328, 3) := dX9_layHand_68
theorem ddX9_layHand_71 : decode mX9_layHand.2.1 71 = .ok (.iload 4, 2) := dX9_layHand_71
theorem ddX9_layHand_73 : decode mX9_layHand.2.1 73 = .ok (.iadd, 1) := dX9_layHand_73
theorem ddX9_layHand_74 : decode mX9_layHand.2.1 74 = .ok (.iconst 1, 1) := dX9_layHand_74
theorem ddX9_layHand_75 : decode mX9_layHand.2.1 75 = .ok (.isub, 1) := dX9_layHand_75
theorem ddX9_layHand_76 : decode mX9_layHand.2.1 76 = .ok (.iaload, 1) := dX9_layHand_76
theorem ddX9_layHand_77 : decode mX9_layHand.2.1 77 = .ok (.iastore, 1) := dX9_layHand_77
theorem ddX9_layHand_78 : decode mX9_layHand.2.1 78 = .ok (.aload_n 0, 1) := dX9_layHand_78
theorem ddX9_layHand_79 : decode mX9_layHand.2.1 79 = .ok (.getfield 7, 3) := dX9_layHand_79
theorem ddX9_layHand_82 : decode mX9_layHand.2.1 82 = .ok (.sipush 336, 3) := dX9_layHand_82
theorem ddX9_layHand_85 : decode mX9_layHand.2.1 85 = .ok (.iload 4, 2) := dX9_layHand_85
theorem ddX9_layHand_87 : decode mX9_layHand.2.1 87 = .ok (.iadd, 1) := dX9_layHand_87
theorem ddX9_layHand_88 : decode mX9_layHand.2.1 88 = .ok (.aload_n 0, 1) := dX9_layHand_88
theorem ddX9_layHand_89 : decode mX9_layHand.2.1 89 = .ok (.getfield 7, 3) := dX9_layHand_89
theorem ddX9_layHand_92 : decode mX9_layHand.2.1 92 = .ok (.sipush 336, 3) := dX9_layHand_92
theorem ddX9_layHand_95 : decode mX9_layHand.2.1 95 = .ok (.iload 4, 2) := dX9_layHand_95
theorem ddX9_layHand_97 : decode mX9_layHand.2.1 97 = .ok (.iadd, 1) := dX9_layHand_97
theorem ddX9_layHand_98 : decode mX9_layHand.2.1 98 = .ok (.iconst 1, 1) := dX9_layHand_98
theorem ddX9_layHand_99 : decode mX9_layHand.2.1 99 = .ok (.isub, 1) := dX9_layHand_99
theorem ddX9_layHand_100 : decode mX9_layHand.2.1 100 = .ok (.iaload, 1) := dX9_layHand_100
theorem ddX9_layHand_101 : decode mX9_layHand.2.1 101 = .ok (.iastore, 1) := dX9_layHand_101
theorem ddX9_layHand_102 : decode mX9_layHand.2.1 102 = .ok (.iinc 4 (-1), 3) := dX9_layHand_102
theorem ddX9_layHand_105 : decode mX9_layHand.2.1 105 = .ok (.goto (-97), 3) := dX9_layHand_105
theorem ddX9_layHand_108 : decode mX9_layHand.2.1 108 = .ok (.aload_n 0, 1) := dX9_layHand_108
theorem ddX9_layHand_109 : decode mX9_layHand.2.1 109 = .ok (.getfield 7, 3) := dX9_layHand_109
theorem ddX9_layHand_112 : decode mX9_layHand.2.1 112 = .ok (.sipush 320, 3) := dX9_layHand_112
theorem ddX9_layHand_115 : decode mX9_layHand.2.1 115 = .ok (.iload 4, 2) := dX9_layHand_115
theorem ddX9_layHand_117 : decode mX9_layHand.2.1 117 = .ok (.iadd, 1) := dX9_layHand_117
theorem ddX9_layHand_118 : decode mX9_layHand.2.1 118 = .ok (.iload_n 3, 1) := dX9_layHand_118
theorem ddX9_layHand_119 : decode mX9_layHand.2.1 119 = .ok (.iastore, 1) := dX9_layHand_119
theorem ddX9_layHand_120 : decode mX9_layHand.2.1 120 = .ok (.aload_n 0, 1) := dX9_layHand_120
theorem ddX9_layHand_121 : decode mX9_layHand.2.1 121 = .ok (.getfield 7, 3) := dX9_layHand_121
theorem ddX9_layHand_124 : decode mX9_layHand.2.1 124 = .ok (.sipush 328, 3) := dX9_layHand_124
theorem ddX9_layHand_127 : decode mX9_layHand.2.1 127 = .ok (.iload 4, 2) := dX9_layHand_127
theorem ddX9_layHand_129 : decode mX9_layHand.2.1 129 = .ok (.iadd, 1) := dX9_layHand_129
theorem ddX9_layHand_130 : decode mX9_layHand.2.1 130 = .ok (.iload_n 1, 1) := dX9_layHand_130
theorem ddX9_layHand_131 : decode mX9_layHand.2.1 131 = .ok (.iastore, 1) := dX9_layHand_131
theorem ddX9_layHand_132 : decode mX9_layHand.2.1 132 = .ok (.aload_n 0, 1) := dX9_layHand_132
theorem ddX9_layHand_133 : decode mX9_layHand.2.1 133 = .ok (.getfield 7, 3) := dX9_layHand_133
theorem ddX9_layHand_136 : decode mX9_layHand.2.1 136 = .ok (.sipush 336, 3) := dX9_layHand_136
theorem ddX9_layHand_139 : decode mX9_layHand.2.1 139 = .ok (.iload 4, 2) := dX9_layHand_139
theorem ddX9_layHand_141 : decode mX9_layHand.2.1 141 = .ok (.iadd, 1) := dX9_layHand_141
theorem ddX9_layHand_142 : decode mX9_layHand.2.1 142 = .ok (.iload_n 2, 1) := dX9_layHand_142
theorem ddX9_layHand_143 : decode mX9_layHand.2.1 143 = .ok (.iastore, 1) := dX9_layHand_143
theorem ddX9_layHand_144 : decode mX9_layHand.2.1 144 = .ok (.aload_n 0, 1) := dX9_layHand_144
theorem ddX9_layHand_145 : decode mX9_layHand.2.1 145 = .ok (.getfield 7, 3) := dX9_layHand_145
theorem ddX9_layHand_148 : decode mX9_layHand.2.1 148 = .ok (.iconst 3, 1) := dX9_layHand_148
theorem ddX9_layHand_149 : decode mX9_layHand.2.1 149 = .ok (.dup2, 1) := dX9_layHand_149
theorem ddX9_layHand_150 : decode mX9_layHand.2.1 150 = .ok (.iaload, 1) := dX9_layHand_150
theorem ddX9_layHand_151 : decode mX9_layHand.2.1 151 = .ok (.iconst 1, 1) := dX9_layHand_151
theorem ddX9_layHand_152 : decode mX9_layHand.2.1 152 = .ok (.iadd, 1) := dX9_layHand_152
theorem ddX9_layHand_153 : decode mX9_layHand.2.1 153 = .ok (.iastore, 1) := dX9_layHand_153
theorem ddX9_layHand_154 : decode mX9_layHand.2.1 154 = .ok (.return_, 1) := dX9_layHand_154
theorem ddX9_set_0 : decode mX9_set.2.1 0 = .ok (.aload_n 0, 1) := dX9_set_0
theorem ddX9_set_1 : decode mX9_set.2.1 1 = .ok (.iload_n 1, 1) := dX9_set_1
theorem ddX9_set_2 : decode mX9_set.2.1 2 = .ok (.invokevirtual 168, 3) := dX9_set_2
theorem ddX9_set_5 : decode mX9_set.2.1 5 = .ok (.ifCond .eq 10, 3) := dX9_set_5
theorem ddX9_set_8 : decode mX9_set.2.1 8 = .ok (.iload_n 2, 1) := dX9_set_8
theorem ddX9_set_9 : decode mX9_set.2.1 9 = .ok (.invokestatic 190, 3) := dX9_set_9
theorem ddX9_set_12 : decode mX9_set.2.1 12 = .ok (.ifCond .ne 6, 3) := dX9_set_12
theorem ddX9_set_15 : decode mX9_set.2.1 15 = .ok (.ldc 183, 2) := dX9_set_15
theorem ddX9_set_17 : decode mX9_set.2.1 17 = .ok (.ireturn, 1) := dX9_set_17
theorem ddX9_set_18 : decode mX9_set.2.1 18 = .ok (.iload_n 3, 1) := dX9_set_18
theorem ddX9_set_19 : decode mX9_set.2.1 19 = .ok (.iconst 0, 1) := dX9_set_19
theorem ddX9_set_20 : decode mX9_set.2.1 20 = .ok (.bipush 20, 2) := dX9_set_20
theorem ddX9_set_22 : decode mX9_set.2.1 22 = .ok (.invokestatic 41, 3) := dX9_set_22
theorem ddX9_set_25 : decode mX9_set.2.1 25 = .ok (.ifCond .ne 6, 3) := dX9_set_25
theorem ddX9_set_28 : decode mX9_set.2.1 28 = .ok (.ldc 101, 2) := dX9_set_28
theorem ddX9_set_30 : decode mX9_set.2.1 30 = .ok (.ireturn, 1) := dX9_set_30
theorem ddX9_set_31 : decode mX9_set.2.1 31 = .ok (.aload_n 0, 1) := dX9_set_31
theorem ddX9_set_32 : decode mX9_set.2.1 32 = .ok (.iload_n 1, 1) := dX9_set_32
theorem ddX9_set_33 : decode mX9_set.2.1 33 = .ok (.invokevirtual 197, 3) := dX9_set_33
theorem ddX9_set_36 : decode mX9_set.2.1 36 = .ok (.istore 4, 2) := dX9_set_36
theorem ddX9_set_38 : decode mX9_set.2.1 38 = .ok (.iload 4, 2) := dX9_set_38
theorem ddX9_set_40 : decode mX9_set.2.1 40 = .ok (.iconst 1, 1) := dX9_set_40
theorem ddX9_set_41 : decode mX9_set.2.1 41 = .ok (.if_icmp .eq 6, 3) := dX9_set_41
theorem ddX9_set_44 : decode mX9_set.2.1 44 = .ok (.iload 4, 2) := dX9_set_44
theorem ddX9_set_46 : decode mX9_set.2.1 46 = .ok (.ireturn, 1) := dX9_set_46
theorem ddX9_set_47 : decode mX9_set.2.1 47 = .ok (.aload_n 0, 1) := dX9_set_47
theorem ddX9_set_48 : decode mX9_set.2.1 48 = .ok (.invokevirtual 194, 3) := dX9_set_48
theorem ddX9_set_51 : decode mX9_set.2.1 51 = .ok (.aload_n 0, 1) := dX9_set_51
theorem ddX9_set_52 : decode mX9_set.2.1 52 = .ok (.iload_n 1, 1) := dX9_set_52
theorem ddX9_set_53 : decode mX9_set.2.1 53 = .ok (.iload_n 2, 1) := dX9_set_53
theorem ddX9_set_54 : decode mX9_set.2.1 54 = .ok (.aload_n 0, 1) := dX9_set_54
theorem ddX9_set_55 : decode mX9_set.2.1 55 = .ok (.getfield 7, 3) := dX9_set_55
theorem ddX9_set_58 : decode mX9_set.2.1 58 = .ok (.iconst 0, 1) := dX9_set_58
theorem ddX9_set_59 : decode mX9_set.2.1 59 = .ok (.iaload, 1) := dX9_set_59
theorem ddX9_set_60 : decode mX9_set.2.1 60 = .ok (.iload_n 3, 1) := dX9_set_60
theorem ddX9_set_61 : decode mX9_set.2.1 61 = .ok (.iadd, 1) := dX9_set_61
theorem ddX9_set_62 : decode mX9_set.2.1 62 = .ok (.invokevirtual 200, 3) := dX9_set_62
theorem ddX9_set_65 : decode mX9_set.2.1 65 = .ok (.aload_n 0, 1) := dX9_set_65
theorem ddX9_set_66 : decode mX9_set.2.1 66 = .ok (.getfield 7, 3) := dX9_set_66
theorem ddX9_set_69 : decode mX9_set.2.1 69 = .ok (.iconst 3, 1) := dX9_set_69
theorem ddX9_set_70 : decode mX9_set.2.1 70 = .ok (.iaload, 1) := dX9_set_70
theorem ddX9_set_71 : decode mX9_set.2.1 71 = .ok (.ireturn, 1) := dX9_set_71
theorem ddX9_calm_0 : decode mX9_calm.2.1 0 = .ok (.aload_n 0, 1) := dX9_calm_0
theorem ddX9_calm_1 : decode mX9_calm.2.1 1 = .ok (.getfield 7, 3) := dX9_calm_1
theorem ddX9_calm_4 : decode mX9_calm.2.1 4 = .ok (.iconst 2, 1) := dX9_calm_4
theorem ddX9_calm_5 : decode mX9_calm.2.1 5 = .ok (.iaload, 1) := dX9_calm_5
theorem ddX9_calm_6 : decode mX9_calm.2.1 6 = .ok (.ifCond .ne 6, 3) := dX9_calm_6
theorem ddX9_calm_9 : decode mX9_calm.2.1 9 = .ok (.ldc 193, 2) := dX9_calm_9
theorem ddX9_calm_11 : decode mX9_calm.2.1 11 = .ok (.ireturn, 1) := dX9_calm_11
theorem ddX9_calm_12 : decode mX9_calm.2.1 12 = .ok (.aload_n 0, 1) := dX9_calm_12
theorem ddX9_calm_13 : decode mX9_calm.2.1 13 = .ok (.invokevirtual 194, 3) := dX9_calm_13
theorem ddX9_calm_16 : decode mX9_calm.2.1 16 = .ok (.aload_n 0, 1) := dX9_calm_16
theorem ddX9_calm_17 : decode mX9_calm.2.1 17 = .ok (.getfield 7, 3) := dX9_calm_17
theorem ddX9_calm_20 : decode mX9_calm.2.1 20 = .ok (.iconst 2, 1) := dX9_calm_20
theorem ddX9_calm_21 : decode mX9_calm.2.1 21 = .ok (.iconst 0, 1) := dX9_calm_21
theorem ddX9_calm_22 : decode mX9_calm.2.1 22 = .ok (.iastore, 1) := dX9_calm_22
theorem ddX9_calm_23 : decode mX9_calm.2.1 23 = .ok (.aload_n 0, 1) := dX9_calm_23
theorem ddX9_calm_24 : decode mX9_calm.2.1 24 = .ok (.iconst 0, 1) := dX9_calm_24
theorem ddX9_calm_25 : decode mX9_calm.2.1 25 = .ok (.invokevirtual 140, 3) := dX9_calm_25
theorem ddX9_calm_28 : decode mX9_calm.2.1 28 = .ok (.aload_n 0, 1) := dX9_calm_28
theorem ddX9_calm_29 : decode mX9_calm.2.1 29 = .ok (.getfield 7, 3) := dX9_calm_29
theorem ddX9_calm_32 : decode mX9_calm.2.1 32 = .ok (.iconst 0, 1) := dX9_calm_32
theorem ddX9_calm_33 : decode mX9_calm.2.1 33 = .ok (.iaload, 1) := dX9_calm_33
theorem ddX9_calm_34 : decode mX9_calm.2.1 34 = .ok (.ireturn, 1) := dX9_calm_34
theorem ddX9_draw_0 : decode mX9_draw.2.1 0 = .ok (.aload_n 0, 1) := dX9_draw_0
theorem ddX9_draw_1 : decode mX9_draw.2.1 1 = .ok (.getfield 203, 3) := dX9_draw_1
theorem ddX9_draw_4 : decode mX9_draw.2.1 4 = .ok (.i2l, 1) := dX9_draw_4
theorem ddX9_draw_5 : decode mX9_draw.2.1 5 = .ok (.ldc2_w 206, 3) := dX9_draw_5
theorem ddX9_draw_8 : decode mX9_draw.2.1 8 = .ok (.lmul, 1) := dX9_draw_8
theorem ddX9_draw_9 : decode mX9_draw.2.1 9 = .ok (.ldc2_w 208, 3) := dX9_draw_9
theorem ddX9_draw_12 : decode mX9_draw.2.1 12 = .ok (.ladd, 1) := dX9_draw_12
theorem ddX9_draw_13 : decode mX9_draw.2.1 13 = .ok (.ldc2_w 210, 3) := dX9_draw_13
theorem ddX9_draw_16 : decode mX9_draw.2.1 16 = .ok (.lrem, 1) := dX9_draw_16
theorem ddX9_draw_17 : decode mX9_draw.2.1 17 = .ok (.lstore_n 2, 1) := dX9_draw_17
theorem ddX9_draw_18 : decode mX9_draw.2.1 18 = .ok (.aload_n 0, 1) := dX9_draw_18
theorem ddX9_draw_19 : decode mX9_draw.2.1 19 = .ok (.lload_n 2, 1) := dX9_draw_19
theorem ddX9_draw_20 : decode mX9_draw.2.1 20 = .ok (.l2i, 1) := dX9_draw_20
theorem ddX9_draw_21 : decode mX9_draw.2.1 21 = .ok (.putfield 203, 3) := dX9_draw_21
theorem ddX9_draw_24 : decode mX9_draw.2.1 24 = .ok (.aload_n 0, 1) := dX9_draw_24
theorem ddX9_draw_25 : decode mX9_draw.2.1 25 = .ok (.getfield 203, 3) := dX9_draw_25
theorem ddX9_draw_28 : decode mX9_draw.2.1 28 = .ok (.ldc 212, 2) := dX9_draw_28
theorem ddX9_draw_30 : decode mX9_draw.2.1 30 = .ok (.idiv, 1) := dX9_draw_30
theorem ddX9_draw_31 : decode mX9_draw.2.1 31 = .ok (.iload_n 1, 1) := dX9_draw_31
theorem ddX9_draw_32 : decode mX9_draw.2.1 32 = .ok (.irem, 1) := dX9_draw_32
theorem ddX9_draw_33 : decode mX9_draw.2.1 33 = .ok (.ireturn, 1) := dX9_draw_33
theorem ddX9_time_0 : decode mX9_time.2.1 0 = .ok (.aload_n 0, 1) := dX9_time_0
theorem ddX9_time_1 : decode mX9_time.2.1 1 = .ok (.aload_n 0, 1) := dX9_time_1
theorem ddX9_time_2 : decode mX9_time.2.1 2 = .ok (.getfield 38, 3) := dX9_time_2
theorem ddX9_time_5 : decode mX9_time.2.1 5 = .ok (.invokevirtual 213, 3) := dX9_time_5
theorem ddX9_time_8 : decode mX9_time.2.1 8 = .ok (.istore_n 1, 1) := dX9_time_8
theorem ddX9_time_9 : decode mX9_time.2.1 9 = .ok (.aload_n 0, 1) := dX9_time_9
theorem ddX9_time_10 : decode mX9_time.2.1 10 = .ok (.iconst 4, 1) := dX9_time_10
theorem ddX9_time_11 : decode mX9_time.2.1 11 = .ok (.invokevirtual 213, 3) := dX9_time_11
theorem ddX9_time_14 : decode mX9_time.2.1 14 = .ok (.istore_n 2, 1) := dX9_time_14
theorem ddX9_time_15 : decode mX9_time.2.1 15 = .ok (.aload_n 0, 1) := dX9_time_15
theorem ddX9_time_16 : decode mX9_time.2.1 16 = .ok (.bipush 21, 2) := dX9_time_16
theorem ddX9_time_18 : decode mX9_time.2.1 18 = .ok (.invokevirtual 213, 3) := dX9_time_18
theorem ddX9_time_21 : decode mX9_time.2.1 21 = .ok (.istore_n 3, 1) := dX9_time_21
theorem ddX9_time_22 : decode mX9_time.2.1 22 = .ok (.aload_n 0, 1) := dX9_time_22
theorem ddX9_time_23 : decode mX9_time.2.1 23 = .ok (.iload_n 1, 1) := dX9_time_23
theorem ddX9_time_24 : decode mX9_time.2.1 24 = .ok (.invokevirtual 197, 3) := dX9_time_24
theorem ddX9_time_27 : decode mX9_time.2.1 27 = .ok (.iconst 1, 1) := dX9_time_27
theorem ddX9_time_28 : decode mX9_time.2.1 28 = .ok (.if_icmp .ne 17, 3) := dX9_time_28
theorem ddX9_time_31 : decode mX9_time.2.1 31 = .ok (.aload_n 0, 1) := dX9_time_31
theorem ddX9_time_32 : decode mX9_time.2.1 32 = .ok (.iload_n 1, 1) := dX9_time_32
theorem ddX9_time_33 : decode mX9_time.2.1 33 = .ok (.iload_n 2, 1) := dX9_time_33
theorem ddX9_time_34 : decode mX9_time.2.1 34 = .ok (.aload_n 0, 1) := dX9_time_34
theorem ddX9_time_35 : decode mX9_time.2.1 35 = .ok (.getfield 7, 3) := dX9_time_35
theorem ddX9_time_38 : decode mX9_time.2.1 38 = .ok (.iconst 0, 1) := dX9_time_38
theorem ddX9_time_39 : decode mX9_time.2.1 39 = .ok (.iaload, 1) := dX9_time_39
theorem ddX9_time_40 : decode mX9_time.2.1 40 = .ok (.iload_n 3, 1) := dX9_time_40
theorem ddX9_time_41 : decode mX9_time.2.1 41 = .ok (.iadd, 1) := dX9_time_41
theorem ddX9_time_42 : decode mX9_time.2.1 42 = .ok (.invokevirtual 200, 3) := dX9_time_42
theorem ddX9_time_45 : decode mX9_time.2.1 45 = .ok (.aload_n 0, 1) := dX9_time_45
theorem ddX9_time_46 : decode mX9_time.2.1 46 = .ok (.iconst 0, 1) := dX9_time_46
theorem ddX9_time_47 : decode mX9_time.2.1 47 = .ok (.invokevirtual 161, 3) := dX9_time_47
theorem ddX9_time_50 : decode mX9_time.2.1 50 = .ok (.ifCond .ne 17, 3) := dX9_time_50
theorem ddX9_time_53 : decode mX9_time.2.1 53 = .ok (.aload_n 0, 1) := dX9_time_53
theorem ddX9_time_54 : decode mX9_time.2.1 54 = .ok (.getfield 7, 3) := dX9_time_54
theorem ddX9_time_57 : decode mX9_time.2.1 57 = .ok (.iconst 2, 1) := dX9_time_57
theorem ddX9_time_58 : decode mX9_time.2.1 58 = .ok (.iaload, 1) := dX9_time_58
theorem ddX9_time_59 : decode mX9_time.2.1 59 = .ok (.ifCond .ne 8, 3) := dX9_time_59
theorem ddX9_time_62 : decode mX9_time.2.1 62 = .ok (.aload_n 0, 1) := dX9_time_62
theorem ddX9_time_63 : decode mX9_time.2.1 63 = .ok (.iconst 0, 1) := dX9_time_63
theorem ddX9_time_64 : decode mX9_time.2.1 64 = .ok (.invokevirtual 165, 3) := dX9_time_64
theorem ddX9_time_67 : decode mX9_time.2.1 67 = .ok (.return_, 1) := dX9_time_67
theorem ddX9_drift_0 : decode mX9_drift.2.1 0 = .ok (.iload_n 1, 1) := dX9_drift_0
theorem ddX9_drift_1 : decode mX9_drift.2.1 1 = .ok (.iconst 1, 1) := dX9_drift_1
theorem ddX9_drift_2 : decode mX9_drift.2.1 2 = .ok (.bipush 16, 2) := dX9_drift_2
theorem ddX9_drift_4 : decode mX9_drift.2.1 4 = .ok (.invokestatic 41, 3) := dX9_drift_4
theorem ddX9_drift_7 : decode mX9_drift.2.1 7 = .ok (.ifCond .ne 6, 3) := dX9_drift_7
theorem ddX9_drift_10 : decode mX9_drift.2.1 10 = .ok (.ldc 101, 2) := dX9_drift_10
theorem ddX9_drift_12 : decode mX9_drift.2.1 12 = .ok (.ireturn, 1) := dX9_drift_12
theorem ddX9_drift_13 : decode mX9_drift.2.1 13 = .ok (.iconst 0, 1) := dX9_drift_13
theorem ddX9_drift_14 : decode mX9_drift.2.1 14 = .ok (.istore_n 2, 1) := dX9_drift_14
theorem ddX9_drift_15 : decode mX9_drift.2.1 15 = .ok (.iload_n 2, 1) := dX9_drift_15
theorem ddX9_drift_16 : decode mX9_drift.2.1 16 = .ok (.iload_n 1, 1) := dX9_drift_16
theorem ddX9_drift_17 : decode mX9_drift.2.1 17 = .ok (.if_icmp .ge 24, 3) := dX9_drift_17
theorem ddX9_drift_20 : decode mX9_drift.2.1 20 = .ok (.aload_n 0, 1) := dX9_drift_20
theorem ddX9_drift_21 : decode mX9_drift.2.1 21 = .ok (.getfield 38, 3) := dX9_drift_21
theorem ddX9_drift_24 : decode mX9_drift.2.1 24 = .ok (.ifCond .le 17, 3) := dX9_drift_24
theorem ddX9_drift_27 : decode mX9_drift.2.1 27 = .ok (.aload_n 0, 1) := dX9_drift_27
theorem ddX9_drift_28 : decode mX9_drift.2.1 28 = .ok (.invokevirtual 194, 3) := dX9_drift_28
theorem ddX9_drift_31 : decode mX9_drift.2.1 31 = .ok (.aload_n 0, 1) := dX9_drift_31
theorem ddX9_drift_32 : decode mX9_drift.2.1 32 = .ok (.invokevirtual 216, 3) := dX9_drift_32
theorem ddX9_drift_35 : decode mX9_drift.2.1 35 = .ok (.iinc 2 1, 3) := dX9_drift_35
theorem ddX9_drift_38 : decode mX9_drift.2.1 38 = .ok (.goto (-23), 3) := dX9_drift_38
theorem ddX9_drift_41 : decode mX9_drift.2.1 41 = .ok (.aload_n 0, 1) := dX9_drift_41
theorem ddX9_drift_42 : decode mX9_drift.2.1 42 = .ok (.getfield 7, 3) := dX9_drift_42
theorem ddX9_drift_45 : decode mX9_drift.2.1 45 = .ok (.iconst 0, 1) := dX9_drift_45
theorem ddX9_drift_46 : decode mX9_drift.2.1 46 = .ok (.iaload, 1) := dX9_drift_46
theorem ddX9_drift_47 : decode mX9_drift.2.1 47 = .ok (.ireturn, 1) := dX9_drift_47
theorem ddX9_undo_0 : decode mX9_undo.2.1 0 = .ok (.iload_n 1, 1) := dX9_undo_0
theorem ddX9_undo_1 : decode mX9_undo.2.1 1 = .ok (.iconst 1, 1) := dX9_undo_1
theorem ddX9_undo_2 : decode mX9_undo.2.1 2 = .ok (.bipush 16, 2) := dX9_undo_2
theorem ddX9_undo_4 : decode mX9_undo.2.1 4 = .ok (.invokestatic 41, 3) := dX9_undo_4
theorem ddX9_undo_7 : decode mX9_undo.2.1 7 = .ok (.ifCond .ne 6, 3) := dX9_undo_7
theorem ddX9_undo_10 : decode mX9_undo.2.1 10 = .ok (.ldc 101, 2) := dX9_undo_10
theorem ddX9_undo_12 : decode mX9_undo.2.1 12 = .ok (.ireturn, 1) := dX9_undo_12
theorem ddX9_undo_13 : decode mX9_undo.2.1 13 = .ok (.iload_n 1, 1) := dX9_undo_13
theorem ddX9_undo_14 : decode mX9_undo.2.1 14 = .ok (.aload_n 0, 1) := dX9_undo_14
theorem ddX9_undo_15 : decode mX9_undo.2.1 15 = .ok (.getfield 143, 3) := dX9_undo_15
theorem ddX9_undo_18 : decode mX9_undo.2.1 18 = .ok (.if_icmp .le 6, 3) := dX9_undo_18
theorem ddX9_undo_21 : decode mX9_undo.2.1 21 = .ok (.ldc 193, 2) := dX9_undo_21
theorem ddX9_undo_23 : decode mX9_undo.2.1 23 = .ok (.ireturn, 1) := dX9_undo_23
theorem ddX9_undo_24 : decode mX9_undo.2.1 24 = .ok (.aload_n 0, 1) := dX9_undo_24
theorem ddX9_undo_25 : decode mX9_undo.2.1 25 = .ok (.dup, 1) := dX9_undo_25
theorem ddX9_undo_26 : decode mX9_undo.2.1 26 = .ok (.getfield 143, 3) := dX9_undo_26
theorem ddX9_undo_29 : decode mX9_undo.2.1 29 = .ok (.iload_n 1, 1) := dX9_undo_29
theorem ddX9_undo_30 : decode mX9_undo.2.1 30 = .ok (.isub, 1) := dX9_undo_30
theorem ddX9_undo_31 : decode mX9_undo.2.1 31 = .ok (.putfield 143, 3) := dX9_undo_31
theorem ddX9_undo_34 : decode mX9_undo.2.1 34 = .ok (.aload_n 0, 1) := dX9_undo_34
theorem ddX9_undo_35 : decode mX9_undo.2.1 35 = .ok (.sipush 344, 3) := dX9_undo_35
theorem ddX9_undo_38 : decode mX9_undo.2.1 38 = .ok (.aload_n 0, 1) := dX9_undo_38
theorem ddX9_undo_39 : decode mX9_undo.2.1 39 = .ok (.getfield 143, 3) := dX9_undo_39
theorem ddX9_undo_42 : decode mX9_undo.2.1 42 = .ok (.iconst 1, 1) := dX9_undo_42
theorem ddX9_undo_43 : decode mX9_undo.2.1 43 = .ok (.iadd, 1) := dX9_undo_43
theorem ddX9_undo_44 : decode mX9_undo.2.1 44 = .ok (.imul, 1) := dX9_undo_44
theorem ddX9_undo_45 : decode mX9_undo.2.1 45 = .ok (.iconst 0, 1) := dX9_undo_45
theorem ddX9_undo_46 : decode mX9_undo.2.1 46 = .ok (.invokevirtual 158, 3) := dX9_undo_46
theorem ddX9_undo_49 : decode mX9_undo.2.1 49 = .ok (.aload_n 0, 1) := dX9_undo_49
theorem ddX9_undo_50 : decode mX9_undo.2.1 50 = .ok (.getfield 7, 3) := dX9_undo_50
theorem ddX9_undo_53 : decode mX9_undo.2.1 53 = .ok (.iconst 0, 1) := dX9_undo_53
theorem ddX9_undo_54 : decode mX9_undo.2.1 54 = .ok (.iaload, 1) := dX9_undo_54
theorem ddX9_undo_55 : decode mX9_undo.2.1 55 = .ok (.ireturn, 1) := dX9_undo_55
theorem ddX9_write_0 : decode mX9_write.2.1 0 = .ok (.aload_n 0, 1) := dX9_write_0
theorem ddX9_write_1 : decode mX9_write.2.1 1 = .ok (.iload_n 1, 1) := dX9_write_1
theorem ddX9_write_2 : decode mX9_write.2.1 2 = .ok (.invokevirtual 168, 3) := dX9_write_2
theorem ddX9_write_5 : decode mX9_write.2.1 5 = .ok (.ifCond .eq 10, 3) := dX9_write_5
theorem ddX9_write_8 : decode mX9_write.2.1 8 = .ok (.iload_n 2, 1) := dX9_write_8
theorem ddX9_write_9 : decode mX9_write.2.1 9 = .ok (.invokestatic 190, 3) := dX9_write_9
theorem ddX9_write_12 : decode mX9_write.2.1 12 = .ok (.ifCond .ne 6, 3) := dX9_write_12
theorem ddX9_write_15 : decode mX9_write.2.1 15 = .ok (.ldc 183, 2) := dX9_write_15
theorem ddX9_write_17 : decode mX9_write.2.1 17 = .ok (.ireturn, 1) := dX9_write_17
theorem ddX9_write_18 : decode mX9_write.2.1 18 = .ok (.aload_n 0, 1) := dX9_write_18
theorem ddX9_write_19 : decode mX9_write.2.1 19 = .ok (.getfield 149, 3) := dX9_write_19
theorem ddX9_write_22 : decode mX9_write.2.1 22 = .ok (.bipush 20, 2) := dX9_write_22
theorem ddX9_write_24 : decode mX9_write.2.1 24 = .ok (.if_icmp .ne 6, 3) := dX9_write_24
theorem ddX9_write_27 : decode mX9_write.2.1 27 = .ok (.ldc 105, 2) := dX9_write_27
theorem ddX9_write_29 : decode mX9_write.2.1 29 = .ok (.ireturn, 1) := dX9_write_29
theorem ddX9_write_30 : decode mX9_write.2.1 30 = .ok (.aload_n 0, 1) := dX9_write_30
theorem ddX9_write_31 : decode mX9_write.2.1 31 = .ok (.getfield 19, 3) := dX9_write_31
theorem ddX9_write_34 : decode mX9_write.2.1 34 = .ok (.aload_n 0, 1) := dX9_write_34
theorem ddX9_write_35 : decode mX9_write.2.1 35 = .ok (.getfield 149, 3) := dX9_write_35
theorem ddX9_write_38 : decode mX9_write.2.1 38 = .ok (.iload_n 1, 1) := dX9_write_38
theorem ddX9_write_39 : decode mX9_write.2.1 39 = .ok (.iastore, 1) := dX9_write_39
theorem ddX9_write_40 : decode mX9_write.2.1 40 = .ok (.aload_n 0, 1) := dX9_write_40
theorem ddX9_write_41 : decode mX9_write.2.1 41 = .ok (.getfield 22, 3) := dX9_write_41
theorem ddX9_write_44 : decode mX9_write.2.1 44 = .ok (.aload_n 0, 1) := dX9_write_44
theorem ddX9_write_45 : decode mX9_write.2.1 45 = .ok (.getfield 149, 3) := dX9_write_45
theorem ddX9_write_48 : decode mX9_write.2.1 48 = .ok (.iload_n 2, 1) := dX9_write_48
theorem ddX9_write_49 : decode mX9_write.2.1 49 = .ok (.iastore, 1) := dX9_write_49
theorem ddX9_write_50 : decode mX9_write.2.1 50 = .ok (.aload_n 0, 1) := dX9_write_50
theorem ddX9_write_51 : decode mX9_write.2.1 51 = .ok (.dup, 1) := dX9_write_51
theorem ddX9_write_52 : decode mX9_write.2.1 52 = .ok (.getfield 149, 3) := dX9_write_52
theorem ddX9_write_55 : decode mX9_write.2.1 55 = .ok (.iconst 1, 1) := dX9_write_55
theorem ddX9_write_56 : decode mX9_write.2.1 56 = .ok (.iadd, 1) := dX9_write_56
theorem ddX9_write_57 : decode mX9_write.2.1 57 = .ok (.putfield 149, 3) := dX9_write_57
theorem ddX9_write_60 : decode mX9_write.2.1 60 = .ok (.aload_n 0, 1) := dX9_write_60
theorem ddX9_write_61 : decode mX9_write.2.1 61 = .ok (.getfield 149, 3) := dX9_write_61
theorem ddX9_write_64 : decode mX9_write.2.1 64 = .ok (.ireturn, 1) := dX9_write_64
theorem ddX9_tear_0 : decode mX9_tear.2.1 0 = .ok (.aload_n 0, 1) := dX9_tear_0
theorem ddX9_tear_1 : decode mX9_tear.2.1 1 = .ok (.getfield 149, 3) := dX9_tear_1
theorem ddX9_tear_4 : decode mX9_tear.2.1 4 = .ok (.istore_n 1, 1) := dX9_tear_4
theorem ddX9_tear_5 : decode mX9_tear.2.1 5 = .ok (.aload_n 0, 1) := dX9_tear_5
theorem ddX9_tear_6 : decode mX9_tear.2.1 6 = .ok (.iconst 0, 1) := dX9_tear_6
theorem ddX9_tear_7 : decode mX9_tear.2.1 7 = .ok (.putfield 149, 3) := dX9_tear_7
theorem ddX9_tear_10 : decode mX9_tear.2.1 10 = .ok (.iload_n 1, 1) := dX9_tear_10
theorem ddX9_tear_11 : decode mX9_tear.2.1 11 = .ok (.ireturn, 1) := dX9_tear_11
theorem ddX9_seed_0 : decode mX9_seed.2.1 0 = .ok (.iload_n 1, 1) := dX9_seed_0
theorem ddX9_seed_1 : decode mX9_seed.2.1 1 = .ok (.ifCond .ge 6, 3) := dX9_seed_1
theorem ddX9_seed_4 : decode mX9_seed.2.1 4 = .ok (.ldc 101, 2) := dX9_seed_4
theorem ddX9_seed_6 : decode mX9_seed.2.1 6 = .ok (.ireturn, 1) := dX9_seed_6
theorem ddX9_seed_7 : decode mX9_seed.2.1 7 = .ok (.aload_n 0, 1) := dX9_seed_7
theorem ddX9_seed_8 : decode mX9_seed.2.1 8 = .ok (.getfield 203, 3) := dX9_seed_8
theorem ddX9_seed_11 : decode mX9_seed.2.1 11 = .ok (.istore_n 2, 1) := dX9_seed_11
theorem ddX9_seed_12 : decode mX9_seed.2.1 12 = .ok (.aload_n 0, 1) := dX9_seed_12
theorem ddX9_seed_13 : decode mX9_seed.2.1 13 = .ok (.iload_n 1, 1) := dX9_seed_13
theorem ddX9_seed_14 : decode mX9_seed.2.1 14 = .ok (.putfield 203, 3) := dX9_seed_14
theorem ddX9_seed_17 : decode mX9_seed.2.1 17 = .ok (.iload_n 2, 1) := dX9_seed_17
theorem ddX9_seed_18 : decode mX9_seed.2.1 18 = .ok (.ireturn, 1) := dX9_seed_18
theorem ddX9_keep_0 : decode mX9_keep.2.1 0 = .ok (.iload_n 1, 1) := dX9_keep_0
theorem ddX9_keep_1 : decode mX9_keep.2.1 1 = .ok (.iconst 0, 1) := dX9_keep_1
theorem ddX9_keep_2 : decode mX9_keep.2.1 2 = .ok (.iconst 1, 1) := dX9_keep_2
theorem ddX9_keep_3 : decode mX9_keep.2.1 3 = .ok (.invokestatic 41, 3) := dX9_keep_3
theorem ddX9_keep_6 : decode mX9_keep.2.1 6 = .ok (.ifCond .ne 6, 3) := dX9_keep_6
theorem ddX9_keep_9 : decode mX9_keep.2.1 9 = .ok (.ldc 183, 2) := dX9_keep_9
theorem ddX9_keep_11 : decode mX9_keep.2.1 11 = .ok (.ireturn, 1) := dX9_keep_11
theorem ddX9_keep_12 : decode mX9_keep.2.1 12 = .ok (.aload_n 0, 1) := dX9_keep_12
theorem ddX9_keep_13 : decode mX9_keep.2.1 13 = .ok (.iconst 0, 1) := dX9_keep_13
theorem ddX9_keep_14 : decode mX9_keep.2.1 14 = .ok (.sipush 5848, 3) := dX9_keep_14
theorem ddX9_keep_17 : decode mX9_keep.2.1 17 = .ok (.sipush 344, 3) := dX9_keep_17
theorem ddX9_keep_20 : decode mX9_keep.2.1 20 = .ok (.iload_n 1, 1) := dX9_keep_20
theorem ddX9_keep_21 : decode mX9_keep.2.1 21 = .ok (.imul, 1) := dX9_keep_21
theorem ddX9_keep_22 : decode mX9_keep.2.1 22 = .ok (.iadd, 1) := dX9_keep_22
theorem ddX9_keep_23 : decode mX9_keep.2.1 23 = .ok (.invokevirtual 158, 3) := dX9_keep_23
theorem ddX9_keep_26 : decode mX9_keep.2.1 26 = .ok (.aload_n 0, 1) := dX9_keep_26
theorem ddX9_keep_27 : decode mX9_keep.2.1 27 = .ok (.getfield 16, 3) := dX9_keep_27
theorem ddX9_keep_30 : decode mX9_keep.2.1 30 = .ok (.iload_n 1, 1) := dX9_keep_30
theorem ddX9_keep_31 : decode mX9_keep.2.1 31 = .ok (.aload_n 0, 1) := dX9_keep_31
theorem ddX9_keep_32 : decode mX9_keep.2.1 32 = .ok (.getfield 203, 3) := dX9_keep_32
theorem ddX9_keep_35 : decode mX9_keep.2.1 35 = .ok (.iastore, 1) := dX9_keep_35
theorem ddX9_keep_36 : decode mX9_keep.2.1 36 = .ok (.aload_n 0, 1) := dX9_keep_36
theorem ddX9_keep_37 : decode mX9_keep.2.1 37 = .ok (.dup, 1) := dX9_keep_37
theorem ddX9_keep_38 : decode mX9_keep.2.1 38 = .ok (.getfield 146, 3) := dX9_keep_38
theorem ddX9_keep_41 : decode mX9_keep.2.1 41 = .ok (.iconst 1, 1) := dX9_keep_41
theorem ddX9_keep_42 : decode mX9_keep.2.1 42 = .ok (.iload_n 1, 1) := dX9_keep_42
theorem ddX9_keep_43 : decode mX9_keep.2.1 43 = .ok (.ishl, 1) := dX9_keep_43
theorem ddX9_keep_44 : decode mX9_keep.2.1 44 = .ok (.ior, 1) := dX9_keep_44
theorem ddX9_keep_45 : decode mX9_keep.2.1 45 = .ok (.putfield 146, 3) := dX9_keep_45
theorem ddX9_keep_48 : decode mX9_keep.2.1 48 = .ok (.aload_n 0, 1) := dX9_keep_48
theorem ddX9_keep_49 : decode mX9_keep.2.1 49 = .ok (.iconst 0, 1) := dX9_keep_49
theorem ddX9_keep_50 : decode mX9_keep.2.1 50 = .ok (.putfield 143, 3) := dX9_keep_50
theorem ddX9_keep_53 : decode mX9_keep.2.1 53 = .ok (.iconst 1, 1) := dX9_keep_53
theorem ddX9_keep_54 : decode mX9_keep.2.1 54 = .ok (.ireturn, 1) := dX9_keep_54
theorem ddX9_goBack_0 : decode mX9_goBack.2.1 0 = .ok (.iload_n 1, 1) := dX9_goBack_0
theorem ddX9_goBack_1 : decode mX9_goBack.2.1 1 = .ok (.iconst 0, 1) := dX9_goBack_1
theorem ddX9_goBack_2 : decode mX9_goBack.2.1 2 = .ok (.iconst 1, 1) := dX9_goBack_2
theorem ddX9_goBack_3 : decode mX9_goBack.2.1 3 = .ok (.invokestatic 41, 3) := dX9_goBack_3
theorem ddX9_goBack_6 : decode mX9_goBack.2.1 6 = .ok (.ifCond .ne 6, 3) := dX9_goBack_6
theorem ddX9_goBack_9 : decode mX9_goBack.2.1 9 = .ok (.ldc 183, 2) := dX9_goBack_9
theorem ddX9_goBack_11 : decode mX9_goBack.2.1 11 = .ok (.ireturn, 1) := dX9_goBack_11
theorem ddX9_goBack_12 : decode mX9_goBack.2.1 12 = .ok (.aload_n 0, 1) := dX9_goBack_12
theorem ddX9_goBack_13 : decode mX9_goBack.2.1 13 = .ok (.getfield 146, 3) := dX9_goBack_13
theorem ddX9_goBack_16 : decode mX9_goBack.2.1 16 = .ok (.iload_n 1, 1) := dX9_goBack_16
theorem ddX9_goBack_17 : decode mX9_goBack.2.1 17 = .ok (.ishr, 1) := dX9_goBack_17
theorem ddX9_goBack_18 : decode mX9_goBack.2.1 18 = .ok (.iconst 1, 1) := dX9_goBack_18
theorem ddX9_goBack_19 : decode mX9_goBack.2.1 19 = .ok (.iand, 1) := dX9_goBack_19
theorem ddX9_goBack_20 : decode mX9_goBack.2.1 20 = .ok (.ifCond .ne 6, 3) := dX9_goBack_20
theorem ddX9_goBack_23 : decode mX9_goBack.2.1 23 = .ok (.ldc 193, 2) := dX9_goBack_23
theorem ddX9_goBack_25 : decode mX9_goBack.2.1 25 = .ok (.ireturn, 1) := dX9_goBack_25
theorem ddX9_goBack_26 : decode mX9_goBack.2.1 26 = .ok (.aload_n 0, 1) := dX9_goBack_26
theorem ddX9_goBack_27 : decode mX9_goBack.2.1 27 = .ok (.sipush 5848, 3) := dX9_goBack_27
theorem ddX9_goBack_30 : decode mX9_goBack.2.1 30 = .ok (.sipush 344, 3) := dX9_goBack_30
theorem ddX9_goBack_33 : decode mX9_goBack.2.1 33 = .ok (.iload_n 1, 1) := dX9_goBack_33
theorem ddX9_goBack_34 : decode mX9_goBack.2.1 34 = .ok (.imul, 1) := dX9_goBack_34
theorem ddX9_goBack_35 : decode mX9_goBack.2.1 35 = .ok (.iadd, 1) := dX9_goBack_35
theorem ddX9_goBack_36 : decode mX9_goBack.2.1 36 = .ok (.iconst 0, 1) := dX9_goBack_36
theorem ddX9_goBack_37 : decode mX9_goBack.2.1 37 = .ok (.invokevirtual 158, 3) := dX9_goBack_37
theorem ddX9_goBack_40 : decode mX9_goBack.2.1 40 = .ok (.aload_n 0, 1) := dX9_goBack_40
theorem ddX9_goBack_41 : decode mX9_goBack.2.1 41 = .ok (.aload_n 0, 1) := dX9_goBack_41
theorem ddX9_goBack_42 : decode mX9_goBack.2.1 42 = .ok (.getfield 16, 3) := dX9_goBack_42
theorem ddX9_goBack_45 : decode mX9_goBack.2.1 45 = .ok (.iload_n 1, 1) := dX9_goBack_45
theorem ddX9_goBack_46 : decode mX9_goBack.2.1 46 = .ok (.iaload, 1) := dX9_goBack_46
theorem ddX9_goBack_47 : decode mX9_goBack.2.1 47 = .ok (.putfield 203, 3) := dX9_goBack_47
theorem ddX9_goBack_50 : decode mX9_goBack.2.1 50 = .ok (.aload_n 0, 1) := dX9_goBack_50
theorem ddX9_goBack_51 : decode mX9_goBack.2.1 51 = .ok (.iconst 0, 1) := dX9_goBack_51
theorem ddX9_goBack_52 : decode mX9_goBack.2.1 52 = .ok (.putfield 143, 3) := dX9_goBack_52
theorem ddX9_goBack_55 : decode mX9_goBack.2.1 55 = .ok (.iconst 1, 1) := dX9_goBack_55
theorem ddX9_goBack_56 : decode mX9_goBack.2.1 56 = .ok (.ireturn, 1) := dX9_goBack_56
theorem ddL_law_0 : decode mL_law.2.1 0 = .ok (.new 7, 3) := dL_law_0
theorem ddL_law_3 : decode mL_law.2.1 3 = .ok (.dup, 1) := dL_law_3
theorem ddL_law_4 : decode mL_law.2.1 4 = .ok (.invokespecial 9, 3) := dL_law_4
theorem ddL_law_7 : decode mL_law.2.1 7 = .ok (.astore_n 1, 1) := dL_law_7
theorem ddL_law_8 : decode mL_law.2.1 8 = .ok (.new 10, 3) := dL_law_8
theorem ddL_law_11 : decode mL_law.2.1 11 = .ok (.dup, 1) := dL_law_11
theorem ddL_law_12 : decode mL_law.2.1 12 = .ok (.invokespecial 12, 3) := dL_law_12
theorem ddL_law_15 : decode mL_law.2.1 15 = .ok (.astore_n 2, 1) := dL_law_15
theorem ddL_law_16 : decode mL_law.2.1 16 = .ok (.iconst 0, 1) := dL_law_16
theorem ddL_law_17 : decode mL_law.2.1 17 = .ok (.istore_n 3, 1) := dL_law_17
theorem ddL_law_18 : decode mL_law.2.1 18 = .ok (.iload_n 3, 1) := dL_law_18
theorem ddL_law_19 : decode mL_law.2.1 19 = .ok (.aload_n 0, 1) := dL_law_19
theorem ddL_law_20 : decode mL_law.2.1 20 = .ok (.arraylength, 1) := dL_law_20
theorem ddL_law_21 : decode mL_law.2.1 21 = .ok (.iconst 4, 1) := dL_law_21
theorem ddL_law_22 : decode mL_law.2.1 22 = .ok (.isub, 1) := dL_law_22
theorem ddL_law_23 : decode mL_law.2.1 23 = .ok (.if_icmp .gt 668, 3) := dL_law_23
theorem ddL_law_26 : decode mL_law.2.1 26 = .ok (.aload_n 0, 1) := dL_law_26
theorem ddL_law_27 : decode mL_law.2.1 27 = .ok (.iload_n 3, 1) := dL_law_27
theorem ddL_law_28 : decode mL_law.2.1 28 = .ok (.iaload, 1) := dL_law_28
theorem ddL_law_29 : decode mL_law.2.1 29 = .ok (.bipush 31, 2) := dL_law_29
theorem ddL_law_31 : decode mL_law.2.1 31 = .ok (.iand, 1) := dL_law_31
theorem ddL_law_32 : decode mL_law.2.1 32 = .ok (.tableswitch 653 0 20 #[100, 123, 136, 149, 172, 205, 248, 281, 324, 357, 400, 413, 436, 479, 492, 515, 538, 571, 584, 607, 630], 100) := dL_law_32
theorem ddL_law_132 : decode mL_law.2.1 132 = .ok (.aload_n 1, 1) := dL_law_132
theorem ddL_law_133 : decode mL_law.2.1 133 = .ok (.aload_n 0, 1) := dL_law_133
theorem ddL_law_134 : decode mL_law.2.1 134 = .ok (.iload_n 3, 1) := dL_law_134
theorem ddL_law_135 : decode mL_law.2.1 135 = .ok (.iconst 1, 1) := dL_law_135
theorem ddL_law_136 : decode mL_law.2.1 136 = .ok (.iadd, 1) := dL_law_136
theorem ddL_law_137 : decode mL_law.2.1 137 = .ok (.iaload, 1) := dL_law_137
theorem ddL_law_138 : decode mL_law.2.1 138 = .ok (.invokevirtual 13, 3) := dL_law_138
theorem ddL_law_141 : decode mL_law.2.1 141 = .ok (.aload_n 2, 1) := dL_law_141
theorem ddL_law_142 : decode mL_law.2.1 142 = .ok (.aload_n 0, 1) := dL_law_142
theorem ddL_law_143 : decode mL_law.2.1 143 = .ok (.iload_n 3, 1) := dL_law_143
theorem ddL_law_144 : decode mL_law.2.1 144 = .ok (.iconst 1, 1) := dL_law_144
theorem ddL_law_145 : decode mL_law.2.1 145 = .ok (.iadd, 1) := dL_law_145
theorem ddL_law_146 : decode mL_law.2.1 146 = .ok (.iaload, 1) := dL_law_146
theorem ddL_law_147 : decode mL_law.2.1 147 = .ok (.invokevirtual 17, 3) := dL_law_147
theorem ddL_law_150 : decode mL_law.2.1 150 = .ok (.if_icmp .eq 535, 3) := dL_law_150
theorem ddL_law_153 : decode mL_law.2.1 153 = .ok (.iconst 0, 1) := dL_law_153
theorem ddL_law_154 : decode mL_law.2.1 154 = .ok (.ireturn, 1) := dL_law_154
theorem ddL_law_155 : decode mL_law.2.1 155 = .ok (.aload_n 1, 1) := dL_law_155
theorem ddL_law_156 : decode mL_law.2.1 156 = .ok (.invokevirtual 18, 3) := dL_law_156
theorem ddL_law_159 : decode mL_law.2.1 159 = .ok (.aload_n 2, 1) := dL_law_159
theorem ddL_law_160 : decode mL_law.2.1 160 = .ok (.invokevirtual 22, 3) := dL_law_160
theorem ddL_law_163 : decode mL_law.2.1 163 = .ok (.if_icmp .eq 522, 3) := dL_law_163
theorem ddL_law_166 : decode mL_law.2.1 166 = .ok (.iconst 0, 1) := dL_law_166
theorem ddL_law_167 : decode mL_law.2.1 167 = .ok (.ireturn, 1) := dL_law_167
theorem ddL_law_168 : decode mL_law.2.1 168 = .ok (.aload_n 1, 1) := dL_law_168
theorem ddL_law_169 : decode mL_law.2.1 169 = .ok (.invokevirtual 23, 3) := dL_law_169
theorem ddL_law_172 : decode mL_law.2.1 172 = .ok (.aload_n 2, 1) := dL_law_172
theorem ddL_law_173 : decode mL_law.2.1 173 = .ok (.invokevirtual 26, 3) := dL_law_173
theorem ddL_law_176 : decode mL_law.2.1 176 = .ok (.if_icmp .eq 509, 3) := dL_law_176
theorem ddL_law_179 : decode mL_law.2.1 179 = .ok (.iconst 0, 1) := dL_law_179
theorem ddL_law_180 : decode mL_law.2.1 180 = .ok (.ireturn, 1) := dL_law_180
theorem ddL_law_181 : decode mL_law.2.1 181 = .ok (.aload_n 1, 1) := dL_law_181
theorem ddL_law_182 : decode mL_law.2.1 182 = .ok (.aload_n 0, 1) := dL_law_182
theorem ddL_law_183 : decode mL_law.2.1 183 = .ok (.iload_n 3, 1) := dL_law_183
theorem ddL_law_184 : decode mL_law.2.1 184 = .ok (.iconst 1, 1) := dL_law_184
theorem ddL_law_185 : decode mL_law.2.1 185 = .ok (.iadd, 1) := dL_law_185
theorem ddL_law_186 : decode mL_law.2.1 186 = .ok (.iaload, 1) := dL_law_186
theorem ddL_law_187 : decode mL_law.2.1 187 = .ok (.invokevirtual 27, 3) := dL_law_187
theorem ddL_law_190 : decode mL_law.2.1 190 = .ok (.aload_n 2, 1) := dL_law_190
theorem ddL_law_191 : decode mL_law.2.1 191 = .ok (.aload_n 0, 1) := dL_law_191
theorem ddL_law_192 : decode mL_law.2.1 192 = .ok (.iload_n 3, 1) := dL_law_192
theorem ddL_law_193 : decode mL_law.2.1 193 = .ok (.iconst 1, 1) := dL_law_193
theorem ddL_law_194 : decode mL_law.2.1 194 = .ok (.iadd, 1) := dL_law_194
theorem ddL_law_195 : decode mL_law.2.1 195 = .ok (.iaload, 1) := dL_law_195
theorem ddL_law_196 : decode mL_law.2.1 196 = .ok (.invokevirtual 30, 3) := dL_law_196
theorem ddL_law_199 : decode mL_law.2.1 199 = .ok (.if_icmp .eq 486, 3) := dL_law_199
theorem ddL_law_202 : decode mL_law.2.1 202 = .ok (.iconst 0, 1) := dL_law_202
theorem ddL_law_203 : decode mL_law.2.1 203 = .ok (.ireturn, 1) := dL_law_203
theorem ddL_law_204 : decode mL_law.2.1 204 = .ok (.aload_n 1, 1) := dL_law_204
theorem ddL_law_205 : decode mL_law.2.1 205 = .ok (.aload_n 0, 1) := dL_law_205
theorem ddL_law_206 : decode mL_law.2.1 206 = .ok (.iload_n 3, 1) := dL_law_206
theorem ddL_law_207 : decode mL_law.2.1 207 = .ok (.iconst 1, 1) := dL_law_207
theorem ddL_law_208 : decode mL_law.2.1 208 = .ok (.iadd, 1) := dL_law_208
theorem ddL_law_209 : decode mL_law.2.1 209 = .ok (.iaload, 1) := dL_law_209
theorem ddL_law_210 : decode mL_law.2.1 210 = .ok (.aload_n 0, 1) := dL_law_210
theorem ddL_law_211 : decode mL_law.2.1 211 = .ok (.iload_n 3, 1) := dL_law_211
theorem ddL_law_212 : decode mL_law.2.1 212 = .ok (.iconst 2, 1) := dL_law_212
theorem ddL_law_213 : decode mL_law.2.1 213 = .ok (.iadd, 1) := dL_law_213
theorem ddL_law_214 : decode mL_law.2.1 214 = .ok (.iaload, 1) := dL_law_214
theorem ddL_law_215 : decode mL_law.2.1 215 = .ok (.invokevirtual 31, 3) := dL_law_215
theorem ddL_law_218 : decode mL_law.2.1 218 = .ok (.aload_n 2, 1) := dL_law_218
theorem ddL_law_219 : decode mL_law.2.1 219 = .ok (.aload_n 0, 1) := dL_law_219
theorem ddL_law_220 : decode mL_law.2.1 220 = .ok (.iload_n 3, 1) := dL_law_220
theorem ddL_law_221 : decode mL_law.2.1 221 = .ok (.iconst 1, 1) := dL_law_221
theorem ddL_law_222 : decode mL_law.2.1 222 = .ok (.iadd, 1) := dL_law_222
theorem ddL_law_223 : decode mL_law.2.1 223 = .ok (.iaload, 1) := dL_law_223
theorem ddL_law_224 : decode mL_law.2.1 224 = .ok (.aload_n 0, 1) := dL_law_224
theorem ddL_law_225 : decode mL_law.2.1 225 = .ok (.iload_n 3, 1) := dL_law_225
theorem ddL_law_226 : decode mL_law.2.1 226 = .ok (.iconst 2, 1) := dL_law_226
theorem ddL_law_227 : decode mL_law.2.1 227 = .ok (.iadd, 1) := dL_law_227
theorem ddL_law_228 : decode mL_law.2.1 228 = .ok (.iaload, 1) := dL_law_228
theorem ddL_law_229 : decode mL_law.2.1 229 = .ok (.invokevirtual 35, 3) := dL_law_229
theorem ddL_law_232 : decode mL_law.2.1 232 = .ok (.if_icmp .eq 453, 3) := dL_law_232
theorem ddL_law_235 : decode mL_law.2.1 235 = .ok (.iconst 0, 1) := dL_law_235
theorem ddL_law_236 : decode mL_law.2.1 236 = .ok (.ireturn, 1) := dL_law_236
theorem ddL_law_237 : decode mL_law.2.1 237 = .ok (.aload_n 1, 1) := dL_law_237
theorem ddL_law_238 : decode mL_law.2.1 238 = .ok (.aload_n 0, 1) := dL_law_238
theorem ddL_law_239 : decode mL_law.2.1 239 = .ok (.iload_n 3, 1) := dL_law_239
theorem ddL_law_240 : decode mL_law.2.1 240 = .ok (.iconst 1, 1) := dL_law_240
theorem ddL_law_241 : decode mL_law.2.1 241 = .ok (.iadd, 1) := dL_law_241
theorem ddL_law_242 : decode mL_law.2.1 242 = .ok (.iaload, 1) := dL_law_242
theorem ddL_law_243 : decode mL_law.2.1 243 = .ok (.aload_n 0, 1) := dL_law_243
theorem ddL_law_244 : decode mL_law.2.1 244 = .ok (.iload_n 3, 1) := dL_law_244
theorem ddL_law_245 : decode mL_law.2.1 245 = .ok (.iconst 2, 1) := dL_law_245
theorem ddL_law_246 : decode mL_law.2.1 246 = .ok (.iadd, 1) := dL_law_246
theorem ddL_law_247 : decode mL_law.2.1 247 = .ok (.iaload, 1) := dL_law_247
theorem ddL_law_248 : decode mL_law.2.1 248 = .ok (.aload_n 0, 1) := dL_law_248
theorem ddL_law_249 : decode mL_law.2.1 249 = .ok (.iload_n 3, 1) := dL_law_249
theorem ddL_law_250 : decode mL_law.2.1 250 = .ok (.iconst 3, 1) := dL_law_250
theorem ddL_law_251 : decode mL_law.2.1 251 = .ok (.iadd, 1) := dL_law_251
theorem ddL_law_252 : decode mL_law.2.1 252 = .ok (.iaload, 1) := dL_law_252
theorem ddL_law_253 : decode mL_law.2.1 253 = .ok (.invokevirtual 36, 3) := dL_law_253
theorem ddL_law_256 : decode mL_law.2.1 256 = .ok (.aload_n 2, 1) := dL_law_256
theorem ddL_law_257 : decode mL_law.2.1 257 = .ok (.aload_n 0, 1) := dL_law_257
theorem ddL_law_258 : decode mL_law.2.1 258 = .ok (.iload_n 3, 1) := dL_law_258
theorem ddL_law_259 : decode mL_law.2.1 259 = .ok (.iconst 1, 1) := dL_law_259
theorem ddL_law_260 : decode mL_law.2.1 260 = .ok (.iadd, 1) := dL_law_260
theorem ddL_law_261 : decode mL_law.2.1 261 = .ok (.iaload, 1) := dL_law_261
theorem ddL_law_262 : decode mL_law.2.1 262 = .ok (.aload_n 0, 1) := dL_law_262
theorem ddL_law_263 : decode mL_law.2.1 263 = .ok (.iload_n 3, 1) := dL_law_263
theorem ddL_law_264 : decode mL_law.2.1 264 = .ok (.iconst 2, 1) := dL_law_264
theorem ddL_law_265 : decode mL_law.2.1 265 = .ok (.iadd, 1) := dL_law_265
theorem ddL_law_266 : decode mL_law.2.1 266 = .ok (.iaload, 1) := dL_law_266
theorem ddL_law_267 : decode mL_law.2.1 267 = .ok (.aload_n 0, 1) := dL_law_267
theorem ddL_law_268 : decode mL_law.2.1 268 = .ok (.iload_n 3, 1) := dL_law_268
theorem ddL_law_269 : decode mL_law.2.1 269 = .ok (.iconst 3, 1) := dL_law_269
theorem ddL_law_270 : decode mL_law.2.1 270 = .ok (.iadd, 1) := dL_law_270
theorem ddL_law_271 : decode mL_law.2.1 271 = .ok (.iaload, 1) := dL_law_271
theorem ddL_law_272 : decode mL_law.2.1 272 = .ok (.invokevirtual 40, 3) := dL_law_272
theorem ddL_law_275 : decode mL_law.2.1 275 = .ok (.if_icmp .eq 410, 3) := dL_law_275
theorem ddL_law_278 : decode mL_law.2.1 278 = .ok (.iconst 0, 1) := dL_law_278
theorem ddL_law_279 : decode mL_law.2.1 279 = .ok (.ireturn, 1) := dL_law_279
theorem ddL_law_280 : decode mL_law.2.1 280 = .ok (.aload_n 1, 1) := dL_law_280
theorem ddL_law_281 : decode mL_law.2.1 281 = .ok (.aload_n 0, 1) := dL_law_281
theorem ddL_law_282 : decode mL_law.2.1 282 = .ok (.iload_n 3, 1) := dL_law_282
theorem ddL_law_283 : decode mL_law.2.1 283 = .ok (.iconst 1, 1) := dL_law_283
theorem ddL_law_284 : decode mL_law.2.1 284 = .ok (.iadd, 1) := dL_law_284
theorem ddL_law_285 : decode mL_law.2.1 285 = .ok (.iaload, 1) := dL_law_285
theorem ddL_law_286 : decode mL_law.2.1 286 = .ok (.aload_n 0, 1) := dL_law_286
theorem ddL_law_287 : decode mL_law.2.1 287 = .ok (.iload_n 3, 1) := dL_law_287
theorem ddL_law_288 : decode mL_law.2.1 288 = .ok (.iconst 2, 1) := dL_law_288
theorem ddL_law_289 : decode mL_law.2.1 289 = .ok (.iadd, 1) := dL_law_289
theorem ddL_law_290 : decode mL_law.2.1 290 = .ok (.iaload, 1) := dL_law_290
theorem ddL_law_291 : decode mL_law.2.1 291 = .ok (.invokevirtual 41, 3) := dL_law_291
theorem ddL_law_294 : decode mL_law.2.1 294 = .ok (.aload_n 2, 1) := dL_law_294
theorem ddL_law_295 : decode mL_law.2.1 295 = .ok (.aload_n 0, 1) := dL_law_295
theorem ddL_law_296 : decode mL_law.2.1 296 = .ok (.iload_n 3, 1) := dL_law_296
theorem ddL_law_297 : decode mL_law.2.1 297 = .ok (.iconst 1, 1) := dL_law_297
theorem ddL_law_298 : decode mL_law.2.1 298 = .ok (.iadd, 1) := dL_law_298
theorem ddL_law_299 : decode mL_law.2.1 299 = .ok (.iaload, 1) := dL_law_299
theorem ddL_law_300 : decode mL_law.2.1 300 = .ok (.aload_n 0, 1) := dL_law_300
theorem ddL_law_301 : decode mL_law.2.1 301 = .ok (.iload_n 3, 1) := dL_law_301
theorem ddL_law_302 : decode mL_law.2.1 302 = .ok (.iconst 2, 1) := dL_law_302
theorem ddL_law_303 : decode mL_law.2.1 303 = .ok (.iadd, 1) := dL_law_303
theorem ddL_law_304 : decode mL_law.2.1 304 = .ok (.iaload, 1) := dL_law_304
theorem ddL_law_305 : decode mL_law.2.1 305 = .ok (.invokevirtual 44, 3) := dL_law_305
theorem ddL_law_308 : decode mL_law.2.1 308 = .ok (.if_icmp .eq 377, 3) := dL_law_308
theorem ddL_law_311 : decode mL_law.2.1 311 = .ok (.iconst 0, 1) := dL_law_311
theorem ddL_law_312 : decode mL_law.2.1 312 = .ok (.ireturn, 1) := dL_law_312
theorem ddL_law_313 : decode mL_law.2.1 313 = .ok (.aload_n 1, 1) := dL_law_313
theorem ddL_law_314 : decode mL_law.2.1 314 = .ok (.aload_n 0, 1) := dL_law_314
theorem ddL_law_315 : decode mL_law.2.1 315 = .ok (.iload_n 3, 1) := dL_law_315
theorem ddL_law_316 : decode mL_law.2.1 316 = .ok (.iconst 1, 1) := dL_law_316
theorem ddL_law_317 : decode mL_law.2.1 317 = .ok (.iadd, 1) := dL_law_317
theorem ddL_law_318 : decode mL_law.2.1 318 = .ok (.iaload, 1) := dL_law_318
theorem ddL_law_319 : decode mL_law.2.1 319 = .ok (.aload_n 0, 1) := dL_law_319
theorem ddL_law_320 : decode mL_law.2.1 320 = .ok (.iload_n 3, 1) := dL_law_320
theorem ddL_law_321 : decode mL_law.2.1 321 = .ok (.iconst 2, 1) := dL_law_321
theorem ddL_law_322 : decode mL_law.2.1 322 = .ok (.iadd, 1) := dL_law_322
theorem ddL_law_323 : decode mL_law.2.1 323 = .ok (.iaload, 1) := dL_law_323
theorem ddL_law_324 : decode mL_law.2.1 324 = .ok (.aload_n 0, 1) := dL_law_324
theorem ddL_law_325 : decode mL_law.2.1 325 = .ok (.iload_n 3, 1) := dL_law_325
theorem ddL_law_326 : decode mL_law.2.1 326 = .ok (.iconst 3, 1) := dL_law_326
theorem ddL_law_327 : decode mL_law.2.1 327 = .ok (.iadd, 1) := dL_law_327
theorem ddL_law_328 : decode mL_law.2.1 328 = .ok (.iaload, 1) := dL_law_328
theorem ddL_law_329 : decode mL_law.2.1 329 = .ok (.invokevirtual 45, 3) := dL_law_329
theorem ddL_law_332 : decode mL_law.2.1 332 = .ok (.aload_n 2, 1) := dL_law_332
theorem ddL_law_333 : decode mL_law.2.1 333 = .ok (.aload_n 0, 1) := dL_law_333
theorem ddL_law_334 : decode mL_law.2.1 334 = .ok (.iload_n 3, 1) := dL_law_334
theorem ddL_law_335 : decode mL_law.2.1 335 = .ok (.iconst 1, 1) := dL_law_335
theorem ddL_law_336 : decode mL_law.2.1 336 = .ok (.iadd, 1) := dL_law_336
theorem ddL_law_337 : decode mL_law.2.1 337 = .ok (.iaload, 1) := dL_law_337
theorem ddL_law_338 : decode mL_law.2.1 338 = .ok (.aload_n 0, 1) := dL_law_338
theorem ddL_law_339 : decode mL_law.2.1 339 = .ok (.iload_n 3, 1) := dL_law_339
theorem ddL_law_340 : decode mL_law.2.1 340 = .ok (.iconst 2, 1) := dL_law_340
theorem ddL_law_341 : decode mL_law.2.1 341 = .ok (.iadd, 1) := dL_law_341
theorem ddL_law_342 : decode mL_law.2.1 342 = .ok (.iaload, 1) := dL_law_342
theorem ddL_law_343 : decode mL_law.2.1 343 = .ok (.aload_n 0, 1) := dL_law_343
theorem ddL_law_344 : decode mL_law.2.1 344 = .ok (.iload_n 3, 1) := dL_law_344
theorem ddL_law_345 : decode mL_law.2.1 345 = .ok (.iconst 3, 1) := dL_law_345
theorem ddL_law_346 : decode mL_law.2.1 346 = .ok (.iadd, 1) := dL_law_346
theorem ddL_law_347 : decode mL_law.2.1 347 = .ok (.iaload, 1) := dL_law_347
theorem ddL_law_348 : decode mL_law.2.1 348 = .ok (.invokevirtual 48, 3) := dL_law_348
theorem ddL_law_351 : decode mL_law.2.1 351 = .ok (.if_icmp .eq 334, 3) := dL_law_351
theorem ddL_law_354 : decode mL_law.2.1 354 = .ok (.iconst 0, 1) := dL_law_354
theorem ddL_law_355 : decode mL_law.2.1 355 = .ok (.ireturn, 1) := dL_law_355
theorem ddL_law_356 : decode mL_law.2.1 356 = .ok (.aload_n 1, 1) := dL_law_356
theorem ddL_law_357 : decode mL_law.2.1 357 = .ok (.aload_n 0, 1) := dL_law_357
theorem ddL_law_358 : decode mL_law.2.1 358 = .ok (.iload_n 3, 1) := dL_law_358
theorem ddL_law_359 : decode mL_law.2.1 359 = .ok (.iconst 1, 1) := dL_law_359
theorem ddL_law_360 : decode mL_law.2.1 360 = .ok (.iadd, 1) := dL_law_360
theorem ddL_law_361 : decode mL_law.2.1 361 = .ok (.iaload, 1) := dL_law_361
theorem ddL_law_362 : decode mL_law.2.1 362 = .ok (.aload_n 0, 1) := dL_law_362
theorem ddL_law_363 : decode mL_law.2.1 363 = .ok (.iload_n 3, 1) := dL_law_363
theorem ddL_law_364 : decode mL_law.2.1 364 = .ok (.iconst 2, 1) := dL_law_364
theorem ddL_law_365 : decode mL_law.2.1 365 = .ok (.iadd, 1) := dL_law_365
theorem ddL_law_366 : decode mL_law.2.1 366 = .ok (.iaload, 1) := dL_law_366
theorem ddL_law_367 : decode mL_law.2.1 367 = .ok (.invokevirtual 49, 3) := dL_law_367
theorem ddL_law_370 : decode mL_law.2.1 370 = .ok (.aload_n 2, 1) := dL_law_370
theorem ddL_law_371 : decode mL_law.2.1 371 = .ok (.aload_n 0, 1) := dL_law_371
theorem ddL_law_372 : decode mL_law.2.1 372 = .ok (.iload_n 3, 1) := dL_law_372
theorem ddL_law_373 : decode mL_law.2.1 373 = .ok (.iconst 1, 1) := dL_law_373
theorem ddL_law_374 : decode mL_law.2.1 374 = .ok (.iadd, 1) := dL_law_374
theorem ddL_law_375 : decode mL_law.2.1 375 = .ok (.iaload, 1) := dL_law_375
theorem ddL_law_376 : decode mL_law.2.1 376 = .ok (.aload_n 0, 1) := dL_law_376
theorem ddL_law_377 : decode mL_law.2.1 377 = .ok (.iload_n 3, 1) := dL_law_377
theorem ddL_law_378 : decode mL_law.2.1 378 = .ok (.iconst 2, 1) := dL_law_378
theorem ddL_law_379 : decode mL_law.2.1 379 = .ok (.iadd, 1) := dL_law_379
theorem ddL_law_380 : decode mL_law.2.1 380 = .ok (.iaload, 1) := dL_law_380
theorem ddL_law_381 : decode mL_law.2.1 381 = .ok (.invokevirtual 52, 3) := dL_law_381
theorem ddL_law_384 : decode mL_law.2.1 384 = .ok (.if_icmp .eq 301, 3) := dL_law_384
theorem ddL_law_387 : decode mL_law.2.1 387 = .ok (.iconst 0, 1) := dL_law_387
theorem ddL_law_388 : decode mL_law.2.1 388 = .ok (.ireturn, 1) := dL_law_388
theorem ddL_law_389 : decode mL_law.2.1 389 = .ok (.aload_n 1, 1) := dL_law_389
theorem ddL_law_390 : decode mL_law.2.1 390 = .ok (.aload_n 0, 1) := dL_law_390
theorem ddL_law_391 : decode mL_law.2.1 391 = .ok (.iload_n 3, 1) := dL_law_391
theorem ddL_law_392 : decode mL_law.2.1 392 = .ok (.iconst 1, 1) := dL_law_392
theorem ddL_law_393 : decode mL_law.2.1 393 = .ok (.iadd, 1) := dL_law_393
theorem ddL_law_394 : decode mL_law.2.1 394 = .ok (.iaload, 1) := dL_law_394
theorem ddL_law_395 : decode mL_law.2.1 395 = .ok (.aload_n 0, 1) := dL_law_395
theorem ddL_law_396 : decode mL_law.2.1 396 = .ok (.iload_n 3, 1) := dL_law_396
theorem ddL_law_397 : decode mL_law.2.1 397 = .ok (.iconst 2, 1) := dL_law_397
theorem ddL_law_398 : decode mL_law.2.1 398 = .ok (.iadd, 1) := dL_law_398
theorem ddL_law_399 : decode mL_law.2.1 399 = .ok (.iaload, 1) := dL_law_399
theorem ddL_law_400 : decode mL_law.2.1 400 = .ok (.aload_n 0, 1) := dL_law_400
theorem ddL_law_401 : decode mL_law.2.1 401 = .ok (.iload_n 3, 1) := dL_law_401
theorem ddL_law_402 : decode mL_law.2.1 402 = .ok (.iconst 3, 1) := dL_law_402
theorem ddL_law_403 : decode mL_law.2.1 403 = .ok (.iadd, 1) := dL_law_403
theorem ddL_law_404 : decode mL_law.2.1 404 = .ok (.iaload, 1) := dL_law_404
theorem ddL_law_405 : decode mL_law.2.1 405 = .ok (.invokevirtual 53, 3) := dL_law_405
theorem ddL_law_408 : decode mL_law.2.1 408 = .ok (.aload_n 2, 1) := dL_law_408
theorem ddL_law_409 : decode mL_law.2.1 409 = .ok (.aload_n 0, 1) := dL_law_409
theorem ddL_law_410 : decode mL_law.2.1 410 = .ok (.iload_n 3, 1) := dL_law_410
theorem ddL_law_411 : decode mL_law.2.1 411 = .ok (.iconst 1, 1) := dL_law_411
theorem ddL_law_412 : decode mL_law.2.1 412 = .ok (.iadd, 1) := dL_law_412
theorem ddL_law_413 : decode mL_law.2.1 413 = .ok (.iaload, 1) := dL_law_413
theorem ddL_law_414 : decode mL_law.2.1 414 = .ok (.aload_n 0, 1) := dL_law_414
theorem ddL_law_415 : decode mL_law.2.1 415 = .ok (.iload_n 3, 1) := dL_law_415
theorem ddL_law_416 : decode mL_law.2.1 416 = .ok (.iconst 2, 1) := dL_law_416
theorem ddL_law_417 : decode mL_law.2.1 417 = .ok (.iadd, 1) := dL_law_417
theorem ddL_law_418 : decode mL_law.2.1 418 = .ok (.iaload, 1) := dL_law_418
theorem ddL_law_419 : decode mL_law.2.1 419 = .ok (.aload_n 0, 1) := dL_law_419
theorem ddL_law_420 : decode mL_law.2.1 420 = .ok (.iload_n 3, 1) := dL_law_420
theorem ddL_law_421 : decode mL_law.2.1 421 = .ok (.iconst 3, 1) := dL_law_421
theorem ddL_law_422 : decode mL_law.2.1 422 = .ok (.iadd, 1) := dL_law_422
theorem ddL_law_423 : decode mL_law.2.1 423 = .ok (.iaload, 1) := dL_law_423
theorem ddL_law_424 : decode mL_law.2.1 424 = .ok (.invokevirtual 56, 3) := dL_law_424
theorem ddL_law_427 : decode mL_law.2.1 427 = .ok (.if_icmp .eq 258, 3) := dL_law_427
theorem ddL_law_430 : decode mL_law.2.1 430 = .ok (.iconst 0, 1) := dL_law_430
theorem ddL_law_431 : decode mL_law.2.1 431 = .ok (.ireturn, 1) := dL_law_431
theorem ddL_law_432 : decode mL_law.2.1 432 = .ok (.aload_n 1, 1) := dL_law_432
theorem ddL_law_433 : decode mL_law.2.1 433 = .ok (.invokevirtual 57, 3) := dL_law_433
theorem ddL_law_436 : decode mL_law.2.1 436 = .ok (.aload_n 2, 1) := dL_law_436
theorem ddL_law_437 : decode mL_law.2.1 437 = .ok (.invokevirtual 60, 3) := dL_law_437
theorem ddL_law_440 : decode mL_law.2.1 440 = .ok (.if_icmp .eq 245, 3) := dL_law_440
theorem ddL_law_443 : decode mL_law.2.1 443 = .ok (.iconst 0, 1) := dL_law_443
theorem ddL_law_444 : decode mL_law.2.1 444 = .ok (.ireturn, 1) := dL_law_444
theorem ddL_law_445 : decode mL_law.2.1 445 = .ok (.aload_n 1, 1) := dL_law_445
theorem ddL_law_446 : decode mL_law.2.1 446 = .ok (.aload_n 0, 1) := dL_law_446
theorem ddL_law_447 : decode mL_law.2.1 447 = .ok (.iload_n 3, 1) := dL_law_447
theorem ddL_law_448 : decode mL_law.2.1 448 = .ok (.iconst 1, 1) := dL_law_448
theorem ddL_law_449 : decode mL_law.2.1 449 = .ok (.iadd, 1) := dL_law_449
theorem ddL_law_450 : decode mL_law.2.1 450 = .ok (.iaload, 1) := dL_law_450
theorem ddL_law_451 : decode mL_law.2.1 451 = .ok (.invokevirtual 61, 3) := dL_law_451
theorem ddL_law_454 : decode mL_law.2.1 454 = .ok (.aload_n 2, 1) := dL_law_454
theorem ddL_law_455 : decode mL_law.2.1 455 = .ok (.aload_n 0, 1) := dL_law_455
theorem ddL_law_456 : decode mL_law.2.1 456 = .ok (.iload_n 3, 1) := dL_law_456
theorem ddL_law_457 : decode mL_law.2.1 457 = .ok (.iconst 1, 1) := dL_law_457
theorem ddL_law_458 : decode mL_law.2.1 458 = .ok (.iadd, 1) := dL_law_458
theorem ddL_law_459 : decode mL_law.2.1 459 = .ok (.iaload, 1) := dL_law_459
theorem ddL_law_460 : decode mL_law.2.1 460 = .ok (.invokevirtual 64, 3) := dL_law_460
theorem ddL_law_463 : decode mL_law.2.1 463 = .ok (.if_icmp .eq 222, 3) := dL_law_463
theorem ddL_law_466 : decode mL_law.2.1 466 = .ok (.iconst 0, 1) := dL_law_466
theorem ddL_law_467 : decode mL_law.2.1 467 = .ok (.ireturn, 1) := dL_law_467
theorem ddL_law_468 : decode mL_law.2.1 468 = .ok (.aload_n 1, 1) := dL_law_468
theorem ddL_law_469 : decode mL_law.2.1 469 = .ok (.aload_n 0, 1) := dL_law_469
theorem ddL_law_470 : decode mL_law.2.1 470 = .ok (.iload_n 3, 1) := dL_law_470
theorem ddL_law_471 : decode mL_law.2.1 471 = .ok (.iconst 1, 1) := dL_law_471
theorem ddL_law_472 : decode mL_law.2.1 472 = .ok (.iadd, 1) := dL_law_472
theorem ddL_law_473 : decode mL_law.2.1 473 = .ok (.iaload, 1) := dL_law_473
theorem ddL_law_474 : decode mL_law.2.1 474 = .ok (.aload_n 0, 1) := dL_law_474
theorem ddL_law_475 : decode mL_law.2.1 475 = .ok (.iload_n 3, 1) := dL_law_475
theorem ddL_law_476 : decode mL_law.2.1 476 = .ok (.iconst 2, 1) := dL_law_476
theorem ddL_law_477 : decode mL_law.2.1 477 = .ok (.iadd, 1) := dL_law_477
theorem ddL_law_478 : decode mL_law.2.1 478 = .ok (.iaload, 1) := dL_law_478
theorem ddL_law_479 : decode mL_law.2.1 479 = .ok (.aload_n 0, 1) := dL_law_479
theorem ddL_law_480 : decode mL_law.2.1 480 = .ok (.iload_n 3, 1) := dL_law_480
theorem ddL_law_481 : decode mL_law.2.1 481 = .ok (.iconst 3, 1) := dL_law_481
theorem ddL_law_482 : decode mL_law.2.1 482 = .ok (.iadd, 1) := dL_law_482
theorem ddL_law_483 : decode mL_law.2.1 483 = .ok (.iaload, 1) := dL_law_483
theorem ddL_law_484 : decode mL_law.2.1 484 = .ok (.invokevirtual 65, 3) := dL_law_484
theorem ddL_law_487 : decode mL_law.2.1 487 = .ok (.aload_n 2, 1) := dL_law_487
theorem ddL_law_488 : decode mL_law.2.1 488 = .ok (.aload_n 0, 1) := dL_law_488
theorem ddL_law_489 : decode mL_law.2.1 489 = .ok (.iload_n 3, 1) := dL_law_489
theorem ddL_law_490 : decode mL_law.2.1 490 = .ok (.iconst 1, 1) := dL_law_490
theorem ddL_law_491 : decode mL_law.2.1 491 = .ok (.iadd, 1) := dL_law_491
theorem ddL_law_492 : decode mL_law.2.1 492 = .ok (.iaload, 1) := dL_law_492
theorem ddL_law_493 : decode mL_law.2.1 493 = .ok (.aload_n 0, 1) := dL_law_493
theorem ddL_law_494 : decode mL_law.2.1 494 = .ok (.iload_n 3, 1) := dL_law_494
theorem ddL_law_495 : decode mL_law.2.1 495 = .ok (.iconst 2, 1) := dL_law_495
theorem ddL_law_496 : decode mL_law.2.1 496 = .ok (.iadd, 1) := dL_law_496
theorem ddL_law_497 : decode mL_law.2.1 497 = .ok (.iaload, 1) := dL_law_497
theorem ddL_law_498 : decode mL_law.2.1 498 = .ok (.aload_n 0, 1) := dL_law_498
theorem ddL_law_499 : decode mL_law.2.1 499 = .ok (.iload_n 3, 1) := dL_law_499
theorem ddL_law_500 : decode mL_law.2.1 500 = .ok (.iconst 3, 1) := dL_law_500
theorem ddL_law_501 : decode mL_law.2.1 501 = .ok (.iadd, 1) := dL_law_501
theorem ddL_law_502 : decode mL_law.2.1 502 = .ok (.iaload, 1) := dL_law_502
theorem ddL_law_503 : decode mL_law.2.1 503 = .ok (.invokevirtual 68, 3) := dL_law_503
theorem ddL_law_506 : decode mL_law.2.1 506 = .ok (.if_icmp .eq 179, 3) := dL_law_506
theorem ddL_law_509 : decode mL_law.2.1 509 = .ok (.iconst 0, 1) := dL_law_509
theorem ddL_law_510 : decode mL_law.2.1 510 = .ok (.ireturn, 1) := dL_law_510
theorem ddL_law_511 : decode mL_law.2.1 511 = .ok (.aload_n 1, 1) := dL_law_511
theorem ddL_law_512 : decode mL_law.2.1 512 = .ok (.invokevirtual 69, 3) := dL_law_512
theorem ddL_law_515 : decode mL_law.2.1 515 = .ok (.aload_n 2, 1) := dL_law_515
theorem ddL_law_516 : decode mL_law.2.1 516 = .ok (.invokevirtual 72, 3) := dL_law_516
theorem ddL_law_519 : decode mL_law.2.1 519 = .ok (.if_icmp .eq 166, 3) := dL_law_519
theorem ddL_law_522 : decode mL_law.2.1 522 = .ok (.iconst 0, 1) := dL_law_522
theorem ddL_law_523 : decode mL_law.2.1 523 = .ok (.ireturn, 1) := dL_law_523
theorem ddL_law_524 : decode mL_law.2.1 524 = .ok (.aload_n 1, 1) := dL_law_524
theorem ddL_law_525 : decode mL_law.2.1 525 = .ok (.aload_n 0, 1) := dL_law_525
theorem ddL_law_526 : decode mL_law.2.1 526 = .ok (.iload_n 3, 1) := dL_law_526
theorem ddL_law_527 : decode mL_law.2.1 527 = .ok (.iconst 1, 1) := dL_law_527
theorem ddL_law_528 : decode mL_law.2.1 528 = .ok (.iadd, 1) := dL_law_528
theorem ddL_law_529 : decode mL_law.2.1 529 = .ok (.iaload, 1) := dL_law_529
theorem ddL_law_530 : decode mL_law.2.1 530 = .ok (.invokevirtual 73, 3) := dL_law_530
theorem ddL_law_533 : decode mL_law.2.1 533 = .ok (.aload_n 2, 1) := dL_law_533
theorem ddL_law_534 : decode mL_law.2.1 534 = .ok (.aload_n 0, 1) := dL_law_534
theorem ddL_law_535 : decode mL_law.2.1 535 = .ok (.iload_n 3, 1) := dL_law_535
theorem ddL_law_536 : decode mL_law.2.1 536 = .ok (.iconst 1, 1) := dL_law_536
theorem ddL_law_537 : decode mL_law.2.1 537 = .ok (.iadd, 1) := dL_law_537
theorem ddL_law_538 : decode mL_law.2.1 538 = .ok (.iaload, 1) := dL_law_538
theorem ddL_law_539 : decode mL_law.2.1 539 = .ok (.invokevirtual 76, 3) := dL_law_539
theorem ddL_law_542 : decode mL_law.2.1 542 = .ok (.if_icmp .eq 143, 3) := dL_law_542
theorem ddL_law_545 : decode mL_law.2.1 545 = .ok (.iconst 0, 1) := dL_law_545
theorem ddL_law_546 : decode mL_law.2.1 546 = .ok (.ireturn, 1) := dL_law_546
theorem ddL_law_547 : decode mL_law.2.1 547 = .ok (.aload_n 1, 1) := dL_law_547
theorem ddL_law_548 : decode mL_law.2.1 548 = .ok (.aload_n 0, 1) := dL_law_548
theorem ddL_law_549 : decode mL_law.2.1 549 = .ok (.iload_n 3, 1) := dL_law_549
theorem ddL_law_550 : decode mL_law.2.1 550 = .ok (.iconst 1, 1) := dL_law_550
theorem ddL_law_551 : decode mL_law.2.1 551 = .ok (.iadd, 1) := dL_law_551
theorem ddL_law_552 : decode mL_law.2.1 552 = .ok (.iaload, 1) := dL_law_552
theorem ddL_law_553 : decode mL_law.2.1 553 = .ok (.invokevirtual 77, 3) := dL_law_553
theorem ddL_law_556 : decode mL_law.2.1 556 = .ok (.aload_n 2, 1) := dL_law_556
theorem ddL_law_557 : decode mL_law.2.1 557 = .ok (.aload_n 0, 1) := dL_law_557
theorem ddL_law_558 : decode mL_law.2.1 558 = .ok (.iload_n 3, 1) := dL_law_558
theorem ddL_law_559 : decode mL_law.2.1 559 = .ok (.iconst 1, 1) := dL_law_559
theorem ddL_law_560 : decode mL_law.2.1 560 = .ok (.iadd, 1) := dL_law_560
theorem ddL_law_561 : decode mL_law.2.1 561 = .ok (.iaload, 1) := dL_law_561
theorem ddL_law_562 : decode mL_law.2.1 562 = .ok (.invokevirtual 80, 3) := dL_law_562
theorem ddL_law_565 : decode mL_law.2.1 565 = .ok (.if_icmp .eq 120, 3) := dL_law_565
theorem ddL_law_568 : decode mL_law.2.1 568 = .ok (.iconst 0, 1) := dL_law_568
theorem ddL_law_569 : decode mL_law.2.1 569 = .ok (.ireturn, 1) := dL_law_569
theorem ddL_law_570 : decode mL_law.2.1 570 = .ok (.aload_n 1, 1) := dL_law_570
theorem ddL_law_571 : decode mL_law.2.1 571 = .ok (.aload_n 0, 1) := dL_law_571
theorem ddL_law_572 : decode mL_law.2.1 572 = .ok (.iload_n 3, 1) := dL_law_572
theorem ddL_law_573 : decode mL_law.2.1 573 = .ok (.iconst 1, 1) := dL_law_573
theorem ddL_law_574 : decode mL_law.2.1 574 = .ok (.iadd, 1) := dL_law_574
theorem ddL_law_575 : decode mL_law.2.1 575 = .ok (.iaload, 1) := dL_law_575
theorem ddL_law_576 : decode mL_law.2.1 576 = .ok (.aload_n 0, 1) := dL_law_576
theorem ddL_law_577 : decode mL_law.2.1 577 = .ok (.iload_n 3, 1) := dL_law_577
theorem ddL_law_578 : decode mL_law.2.1 578 = .ok (.iconst 2, 1) := dL_law_578
theorem ddL_law_579 : decode mL_law.2.1 579 = .ok (.iadd, 1) := dL_law_579
theorem ddL_law_580 : decode mL_law.2.1 580 = .ok (.iaload, 1) := dL_law_580
theorem ddL_law_581 : decode mL_law.2.1 581 = .ok (.invokevirtual 81, 3) := dL_law_581
theorem ddL_law_584 : decode mL_law.2.1 584 = .ok (.aload_n 2, 1) := dL_law_584
theorem ddL_law_585 : decode mL_law.2.1 585 = .ok (.aload_n 0, 1) := dL_law_585
theorem ddL_law_586 : decode mL_law.2.1 586 = .ok (.iload_n 3, 1) := dL_law_586
theorem ddL_law_587 : decode mL_law.2.1 587 = .ok (.iconst 1, 1) := dL_law_587
theorem ddL_law_588 : decode mL_law.2.1 588 = .ok (.iadd, 1) := dL_law_588
theorem ddL_law_589 : decode mL_law.2.1 589 = .ok (.iaload, 1) := dL_law_589
theorem ddL_law_590 : decode mL_law.2.1 590 = .ok (.aload_n 0, 1) := dL_law_590
theorem ddL_law_591 : decode mL_law.2.1 591 = .ok (.iload_n 3, 1) := dL_law_591
theorem ddL_law_592 : decode mL_law.2.1 592 = .ok (.iconst 2, 1) := dL_law_592
theorem ddL_law_593 : decode mL_law.2.1 593 = .ok (.iadd, 1) := dL_law_593
theorem ddL_law_594 : decode mL_law.2.1 594 = .ok (.iaload, 1) := dL_law_594
theorem ddL_law_595 : decode mL_law.2.1 595 = .ok (.invokevirtual 84, 3) := dL_law_595
theorem ddL_law_598 : decode mL_law.2.1 598 = .ok (.if_icmp .eq 87, 3) := dL_law_598
theorem ddL_law_601 : decode mL_law.2.1 601 = .ok (.iconst 0, 1) := dL_law_601
theorem ddL_law_602 : decode mL_law.2.1 602 = .ok (.ireturn, 1) := dL_law_602
theorem ddL_law_603 : decode mL_law.2.1 603 = .ok (.aload_n 1, 1) := dL_law_603
theorem ddL_law_604 : decode mL_law.2.1 604 = .ok (.invokevirtual 85, 3) := dL_law_604
theorem ddL_law_607 : decode mL_law.2.1 607 = .ok (.aload_n 2, 1) := dL_law_607
theorem ddL_law_608 : decode mL_law.2.1 608 = .ok (.invokevirtual 88, 3) := dL_law_608
theorem ddL_law_611 : decode mL_law.2.1 611 = .ok (.if_icmp .eq 74, 3) := dL_law_611
theorem ddL_law_614 : decode mL_law.2.1 614 = .ok (.iconst 0, 1) := dL_law_614
theorem ddL_law_615 : decode mL_law.2.1 615 = .ok (.ireturn, 1) := dL_law_615
theorem ddL_law_616 : decode mL_law.2.1 616 = .ok (.aload_n 1, 1) := dL_law_616
theorem ddL_law_617 : decode mL_law.2.1 617 = .ok (.aload_n 0, 1) := dL_law_617
theorem ddL_law_618 : decode mL_law.2.1 618 = .ok (.iload_n 3, 1) := dL_law_618
theorem ddL_law_619 : decode mL_law.2.1 619 = .ok (.iconst 1, 1) := dL_law_619
theorem ddL_law_620 : decode mL_law.2.1 620 = .ok (.iadd, 1) := dL_law_620
theorem ddL_law_621 : decode mL_law.2.1 621 = .ok (.iaload, 1) := dL_law_621
theorem ddL_law_622 : decode mL_law.2.1 622 = .ok (.invokevirtual 89, 3) := dL_law_622
theorem ddL_law_625 : decode mL_law.2.1 625 = .ok (.aload_n 2, 1) := dL_law_625
theorem ddL_law_626 : decode mL_law.2.1 626 = .ok (.aload_n 0, 1) := dL_law_626
theorem ddL_law_627 : decode mL_law.2.1 627 = .ok (.iload_n 3, 1) := dL_law_627
theorem ddL_law_628 : decode mL_law.2.1 628 = .ok (.iconst 1, 1) := dL_law_628
theorem ddL_law_629 : decode mL_law.2.1 629 = .ok (.iadd, 1) := dL_law_629
theorem ddL_law_630 : decode mL_law.2.1 630 = .ok (.iaload, 1) := dL_law_630
theorem ddL_law_631 : decode mL_law.2.1 631 = .ok (.invokevirtual 92, 3) := dL_law_631
theorem ddL_law_634 : decode mL_law.2.1 634 = .ok (.if_icmp .eq 51, 3) := dL_law_634
theorem ddL_law_637 : decode mL_law.2.1 637 = .ok (.iconst 0, 1) := dL_law_637
theorem ddL_law_638 : decode mL_law.2.1 638 = .ok (.ireturn, 1) := dL_law_638
theorem ddL_law_639 : decode mL_law.2.1 639 = .ok (.aload_n 1, 1) := dL_law_639
theorem ddL_law_640 : decode mL_law.2.1 640 = .ok (.aload_n 0, 1) := dL_law_640
theorem ddL_law_641 : decode mL_law.2.1 641 = .ok (.iload_n 3, 1) := dL_law_641
theorem ddL_law_642 : decode mL_law.2.1 642 = .ok (.iconst 1, 1) := dL_law_642
theorem ddL_law_643 : decode mL_law.2.1 643 = .ok (.iadd, 1) := dL_law_643
theorem ddL_law_644 : decode mL_law.2.1 644 = .ok (.iaload, 1) := dL_law_644
theorem ddL_law_645 : decode mL_law.2.1 645 = .ok (.invokevirtual 93, 3) := dL_law_645
theorem ddL_law_648 : decode mL_law.2.1 648 = .ok (.aload_n 2, 1) := dL_law_648
theorem ddL_law_649 : decode mL_law.2.1 649 = .ok (.aload_n 0, 1) := dL_law_649
theorem ddL_law_650 : decode mL_law.2.1 650 = .ok (.iload_n 3, 1) := dL_law_650
theorem ddL_law_651 : decode mL_law.2.1 651 = .ok (.iconst 1, 1) := dL_law_651
theorem ddL_law_652 : decode mL_law.2.1 652 = .ok (.iadd, 1) := dL_law_652
theorem ddL_law_653 : decode mL_law.2.1 653 = .ok (.iaload, 1) := dL_law_653
theorem ddL_law_654 : decode mL_law.2.1 654 = .ok (.invokevirtual 96, 3) := dL_law_654
theorem ddL_law_657 : decode mL_law.2.1 657 = .ok (.if_icmp .eq 28, 3) := dL_law_657
theorem ddL_law_660 : decode mL_law.2.1 660 = .ok (.iconst 0, 1) := dL_law_660
theorem ddL_law_661 : decode mL_law.2.1 661 = .ok (.ireturn, 1) := dL_law_661
theorem ddL_law_662 : decode mL_law.2.1 662 = .ok (.aload_n 1, 1) := dL_law_662
theorem ddL_law_663 : decode mL_law.2.1 663 = .ok (.aload_n 0, 1) := dL_law_663
theorem ddL_law_664 : decode mL_law.2.1 664 = .ok (.iload_n 3, 1) := dL_law_664
theorem ddL_law_665 : decode mL_law.2.1 665 = .ok (.iconst 1, 1) := dL_law_665
theorem ddL_law_666 : decode mL_law.2.1 666 = .ok (.iadd, 1) := dL_law_666
theorem ddL_law_667 : decode mL_law.2.1 667 = .ok (.iaload, 1) := dL_law_667
theorem ddL_law_668 : decode mL_law.2.1 668 = .ok (.invokevirtual 97, 3) := dL_law_668
theorem ddL_law_671 : decode mL_law.2.1 671 = .ok (.aload_n 2, 1) := dL_law_671
theorem ddL_law_672 : decode mL_law.2.1 672 = .ok (.aload_n 0, 1) := dL_law_672
theorem ddL_law_673 : decode mL_law.2.1 673 = .ok (.iload_n 3, 1) := dL_law_673
theorem ddL_law_674 : decode mL_law.2.1 674 = .ok (.iconst 1, 1) := dL_law_674
theorem ddL_law_675 : decode mL_law.2.1 675 = .ok (.iadd, 1) := dL_law_675
theorem ddL_law_676 : decode mL_law.2.1 676 = .ok (.iaload, 1) := dL_law_676
theorem ddL_law_677 : decode mL_law.2.1 677 = .ok (.invokevirtual 100, 3) := dL_law_677
theorem ddL_law_680 : decode mL_law.2.1 680 = .ok (.if_icmp .eq 5, 3) := dL_law_680
theorem ddL_law_683 : decode mL_law.2.1 683 = .ok (.iconst 0, 1) := dL_law_683
theorem ddL_law_684 : decode mL_law.2.1 684 = .ok (.ireturn, 1) := dL_law_684
theorem ddL_law_685 : decode mL_law.2.1 685 = .ok (.iinc 3 4, 3) := dL_law_685
theorem ddL_law_688 : decode mL_law.2.1 688 = .ok (.goto (-670), 3) := dL_law_688
theorem ddL_law_691 : decode mL_law.2.1 691 = .ok (.iconst 1, 1) := dL_law_691
theorem ddL_law_692 : decode mL_law.2.1 692 = .ok (.ireturn, 1) := dL_law_692
