theorem dX8_calm_37 : decode cX8_calm 37 = .ok (.getfield 19, 3) := by decide +kernel
theorem dX8_calm_40 : decode cX8_calm 40 = .ok (.invokevirtual 241, 3) := by decide +kernel
theorem dX8_calm_43 : decode cX8_calm 43 = .ok (.aload_n 0, 1) := by decide +kernel
theorem dX8_calm_44 : decode cX8_calm 44 = .ok (.getfield 29, 3) := by decide +kernel
theorem dX8_calm_47 : decode cX8_calm 47 = .ok (.getfield 103, 3) := by decide +kernel
theorem dX8_calm_50 : decode cX8_calm 50 = .ok (.ireturn, 1) := by decide +kernel
theorem dX8_drift_0 : decode cX8_drift 0 = .ok (.iload_n 1, 1) := by decide +kernel
theorem dX8_drift_1 : decode cX8_drift 1 = .ok (.iconst 1, 1) := by decide +kernel
theorem dX8_drift_2 : decode cX8_drift 2 = .ok (.if_icmp .lt 9, 3) := by decide +kernel
theorem dX8_drift_5 : decode cX8_drift 5 = .ok (.iload_n 1, 1) := by decide +kernel
theorem dX8_drift_6 : decode cX8_drift 6 = .ok (.bipush 16, 2) := by decide +kernel
theorem dX8_drift_8 : decode cX8_drift 8 = .ok (.if_icmp .le 6, 3) := by decide +kernel
theorem dX8_drift_11 : decode cX8_drift 11 = .ok (.ldc 67, 2) := by decide +kernel
theorem dX8_drift_13 : decode cX8_drift 13 = .ok (.ireturn, 1) := by decide +kernel
theorem dX8_drift_14 : decode cX8_drift 14 = .ok (.aload_n 0, 1) := by decide +kernel
theorem dX8_drift_15 : decode cX8_drift 15 = .ok (.getfield 19, 3) := by decide +kernel
theorem dX8_drift_18 : decode cX8_drift 18 = .ok (.getfield 90, 3) := by decide +kernel
theorem dX8_drift_21 : decode cX8_drift 21 = .ok (.ifCond .le 20, 3) := by decide +kernel
theorem dX8_drift_24 : decode cX8_drift 24 = .ok (.iconst 0, 1) := by decide +kernel
theorem dX8_drift_25 : decode cX8_drift 25 = .ok (.istore_n 2, 1) := by decide +kernel
theorem dX8_drift_26 : decode cX8_drift 26 = .ok (.iload_n 2, 1) := by decide +kernel
theorem dX8_drift_27 : decode cX8_drift 27 = .ok (.iload_n 1, 1) := by decide +kernel
theorem dX8_drift_28 : decode cX8_drift 28 = .ok (.if_icmp .ge 13, 3) := by decide +kernel
theorem dX8_drift_31 : decode cX8_drift 31 = .ok (.aload_n 0, 1) := by decide +kernel
theorem dX8_drift_32 : decode cX8_drift 32 = .ok (.invokevirtual 244, 3) := by decide +kernel
theorem dX8_drift_35 : decode cX8_drift 35 = .ok (.iinc 2 1, 3) := by decide +kernel
theorem dX8_drift_38 : decode cX8_drift 38 = .ok (.goto (-12), 3) := by decide +kernel
theorem dX8_drift_41 : decode cX8_drift 41 = .ok (.aload_n 0, 1) := by decide +kernel
theorem dX8_drift_42 : decode cX8_drift 42 = .ok (.getfield 29, 3) := by decide +kernel
theorem dX8_drift_45 : decode cX8_drift 45 = .ok (.getfield 103, 3) := by decide +kernel
theorem dX8_drift_48 : decode cX8_drift 48 = .ok (.ireturn, 1) := by decide +kernel
theorem dX8_undo_0 : decode cX8_undo 0 = .ok (.iload_n 1, 1) := by decide +kernel
theorem dX8_undo_1 : decode cX8_undo 1 = .ok (.iconst 1, 1) := by decide +kernel
theorem dX8_undo_2 : decode cX8_undo 2 = .ok (.if_icmp .lt 9, 3) := by decide +kernel
theorem dX8_undo_5 : decode cX8_undo 5 = .ok (.iload_n 1, 1) := by decide +kernel
theorem dX8_undo_6 : decode cX8_undo 6 = .ok (.bipush 16, 2) := by decide +kernel
theorem dX8_undo_8 : decode cX8_undo 8 = .ok (.if_icmp .le 6, 3) := by decide +kernel
theorem dX8_undo_11 : decode cX8_undo 11 = .ok (.ldc 67, 2) := by decide +kernel
theorem dX8_undo_13 : decode cX8_undo 13 = .ok (.ireturn, 1) := by decide +kernel
theorem dX8_undo_14 : decode cX8_undo 14 = .ok (.iload_n 1, 1) := by decide +kernel
theorem dX8_undo_15 : decode cX8_undo 15 = .ok (.aload_n 0, 1) := by decide +kernel
theorem dX8_undo_16 : decode cX8_undo 16 = .ok (.getfield 39, 3) := by decide +kernel
theorem dX8_undo_19 : decode cX8_undo 19 = .ok (.getfield 137, 3) := by decide +kernel
theorem dX8_undo_22 : decode cX8_undo 22 = .ok (.if_icmp .le 6, 3) := by decide +kernel
theorem dX8_undo_25 : decode cX8_undo 25 = .ok (.ldc 219, 2) := by decide +kernel
theorem dX8_undo_27 : decode cX8_undo 27 = .ok (.ireturn, 1) := by decide +kernel
theorem dX8_undo_28 : decode cX8_undo 28 = .ok (.aload_n 0, 1) := by decide +kernel
theorem dX8_undo_29 : decode cX8_undo 29 = .ok (.getfield 39, 3) := by decide +kernel
theorem dX8_undo_32 : decode cX8_undo 32 = .ok (.iload_n 1, 1) := by decide +kernel
theorem dX8_undo_33 : decode cX8_undo 33 = .ok (.aload_n 0, 1) := by decide +kernel
theorem dX8_undo_34 : decode cX8_undo 34 = .ok (.getfield 29, 3) := by decide +kernel
theorem dX8_undo_37 : decode cX8_undo 37 = .ok (.invokevirtual 247, 3) := by decide +kernel
theorem dX8_undo_40 : decode cX8_undo 40 = .ok (.aload_n 0, 1) := by decide +kernel
theorem dX8_undo_41 : decode cX8_undo 41 = .ok (.getfield 29, 3) := by decide +kernel
theorem dX8_undo_44 : decode cX8_undo 44 = .ok (.getfield 103, 3) := by decide +kernel
theorem dX8_undo_47 : decode cX8_undo 47 = .ok (.ireturn, 1) := by decide +kernel
theorem dX8_write_0 : decode cX8_write 0 = .ok (.aload_n 0, 1) := by decide +kernel
theorem dX8_write_1 : decode cX8_write 1 = .ok (.getfield 19, 3) := by decide +kernel
theorem dX8_write_4 : decode cX8_write 4 = .ok (.iload_n 1, 1) := by decide +kernel
theorem dX8_write_5 : decode cX8_write 5 = .ok (.invokevirtual 138, 3) := by decide +kernel
theorem dX8_write_8 : decode cX8_write 8 = .ok (.ifCond .eq 10, 3) := by decide +kernel
theorem dX8_write_11 : decode cX8_write 11 = .ok (.iload_n 2, 1) := by decide +kernel
theorem dX8_write_12 : decode cX8_write 12 = .ok (.invokestatic 207, 3) := by decide +kernel
theorem dX8_write_15 : decode cX8_write 15 = .ok (.ifCond .ne 6, 3) := by decide +kernel
theorem dX8_write_18 : decode cX8_write 18 = .ok (.ldc 142, 2) := by decide +kernel
theorem dX8_write_20 : decode cX8_write 20 = .ok (.ireturn, 1) := by decide +kernel
theorem dX8_write_21 : decode cX8_write 21 = .ok (.aload_n 0, 1) := by decide +kernel
theorem dX8_write_22 : decode cX8_write 22 = .ok (.getfield 56, 3) := by decide +kernel
theorem dX8_write_25 : decode cX8_write 25 = .ok (.iload_n 1, 1) := by decide +kernel
theorem dX8_write_26 : decode cX8_write 26 = .ok (.iload_n 2, 1) := by decide +kernel
theorem dX8_write_27 : decode cX8_write 27 = .ok (.invokevirtual 251, 3) := by decide +kernel
theorem dX8_write_30 : decode cX8_write 30 = .ok (.ireturn, 1) := by decide +kernel
theorem dX8_tear_0 : decode cX8_tear 0 = .ok (.aload_n 0, 1) := by decide +kernel
theorem dX8_tear_1 : decode cX8_tear 1 = .ok (.getfield 56, 3) := by decide +kernel
theorem dX8_tear_4 : decode cX8_tear 4 = .ok (.getfield 130, 3) := by decide +kernel
theorem dX8_tear_7 : decode cX8_tear 7 = .ok (.istore_n 1, 1) := by decide +kernel
theorem dX8_tear_8 : decode cX8_tear 8 = .ok (.aload_n 0, 1) := by decide +kernel
theorem dX8_tear_9 : decode cX8_tear 9 = .ok (.getfield 56, 3) := by decide +kernel
theorem dX8_tear_12 : decode cX8_tear 12 = .ok (.invokevirtual 87, 3) := by decide +kernel
theorem dX8_tear_15 : decode cX8_tear 15 = .ok (.iload_n 1, 1) := by decide +kernel
theorem dX8_tear_16 : decode cX8_tear 16 = .ok (.ireturn, 1) := by decide +kernel
theorem dX8_seed_0 : decode cX8_seed 0 = .ok (.iload_n 1, 1) := by decide +kernel
theorem dX8_seed_1 : decode cX8_seed 1 = .ok (.ifCond .ge 6, 3) := by decide +kernel
theorem dX8_seed_4 : decode cX8_seed 4 = .ok (.ldc 67, 2) := by decide +kernel
theorem dX8_seed_6 : decode cX8_seed 6 = .ok (.ireturn, 1) := by decide +kernel
theorem dX8_seed_7 : decode cX8_seed 7 = .ok (.aload_n 0, 1) := by decide +kernel
theorem dX8_seed_8 : decode cX8_seed 8 = .ok (.getfield 63, 3) := by decide +kernel
theorem dX8_seed_11 : decode cX8_seed 11 = .ok (.getfield 254, 3) := by decide +kernel
theorem dX8_seed_14 : decode cX8_seed 14 = .ok (.istore_n 2, 1) := by decide +kernel
theorem dX8_seed_15 : decode cX8_seed 15 = .ok (.aload_n 0, 1) := by decide +kernel
theorem dX8_seed_16 : decode cX8_seed 16 = .ok (.getfield 63, 3) := by decide +kernel
theorem dX8_seed_19 : decode cX8_seed 19 = .ok (.iload_n 1, 1) := by decide +kernel
theorem dX8_seed_20 : decode cX8_seed 20 = .ok (.putfield 254, 3) := by decide +kernel
theorem dX8_seed_23 : decode cX8_seed 23 = .ok (.iload_n 2, 1) := by decide +kernel
theorem dX8_seed_24 : decode cX8_seed 24 = .ok (.ireturn, 1) := by decide +kernel
theorem dX8_keep_0 : decode cX8_keep 0 = .ok (.aload_n 0, 1) := by decide +kernel
theorem dX8_keep_1 : decode cX8_keep 1 = .ok (.iload_n 1, 1) := by decide +kernel
theorem dX8_keep_2 : decode cX8_keep 2 = .ok (.invokevirtual 257, 3) := by decide +kernel
theorem dX8_keep_5 : decode cX8_keep 5 = .ok (.astore_n 2, 1) := by decide +kernel
theorem dX8_keep_6 : decode cX8_keep 6 = .ok (.aload_n 2, 1) := by decide +kernel
theorem dX8_keep_7 : decode cX8_keep 7 = .ok (.ifnonnull 6, 3) := by decide +kernel
theorem dX8_keep_10 : decode cX8_keep 10 = .ok (.ldc 142, 2) := by decide +kernel
theorem dX8_keep_12 : decode cX8_keep 12 = .ok (.ireturn, 1) := by decide +kernel
theorem dX8_keep_13 : decode cX8_keep 13 = .ok (.aload_n 2, 1) := by decide +kernel
theorem dX8_keep_14 : decode cX8_keep 14 = .ok (.aload_n 0, 1) := by decide +kernel
theorem dX8_keep_15 : decode cX8_keep 15 = .ok (.getfield 29, 3) := by decide +kernel
theorem dX8_keep_18 : decode cX8_keep 18 = .ok (.aload_n 0, 1) := by decide +kernel
theorem dX8_keep_19 : decode cX8_keep 19 = .ok (.getfield 63, 3) := by decide +kernel
theorem dX8_keep_22 : decode cX8_keep 22 = .ok (.invokevirtual 261, 3) := by decide +kernel
theorem dX8_keep_25 : decode cX8_keep 25 = .ok (.aload_n 0, 1) := by decide +kernel
theorem dX8_keep_26 : decode cX8_keep 26 = .ok (.getfield 39, 3) := by decide +kernel
theorem dX8_keep_29 : decode cX8_keep 29 = .ok (.invokevirtual 83, 3) := by decide +kernel
theorem dX8_keep_32 : decode cX8_keep 32 = .ok (.iconst 1, 1) := by decide +kernel
theorem dX8_keep_33 : decode cX8_keep 33 = .ok (.ireturn, 1) := by decide +kernel
theorem dX8_goBack_0 : decode cX8_goBack 0 = .ok (.aload_n 0, 1) := by decide +kernel
theorem dX8_goBack_1 : decode cX8_goBack 1 = .ok (.iload_n 1, 1) := by decide +kernel
theorem dX8_goBack_2 : decode cX8_goBack 2 = .ok (.invokevirtual 257, 3) := by decide +kernel
theorem dX8_goBack_5 : decode cX8_goBack 5 = .ok (.astore_n 2, 1) := by decide +kernel
theorem dX8_goBack_6 : decode cX8_goBack 6 = .ok (.aload_n 2, 1) := by decide +kernel
theorem dX8_goBack_7 : decode cX8_goBack 7 = .ok (.ifnonnull 6, 3) := by decide +kernel
theorem dX8_goBack_10 : decode cX8_goBack 10 = .ok (.ldc 142, 2) := by decide +kernel
theorem dX8_goBack_12 : decode cX8_goBack 12 = .ok (.ireturn, 1) := by decide +kernel
theorem dX8_goBack_13 : decode cX8_goBack 13 = .ok (.aload_n 2, 1) := by decide +kernel
theorem dX8_goBack_14 : decode cX8_goBack 14 = .ok (.getfield 265, 3) := by decide +kernel
theorem dX8_goBack_17 : decode cX8_goBack 17 = .ok (.ifCond .ne 6, 3) := by decide +kernel
theorem dX8_goBack_20 : decode cX8_goBack 20 = .ok (.ldc 219, 2) := by decide +kernel
theorem dX8_goBack_22 : decode cX8_goBack 22 = .ok (.ireturn, 1) := by decide +kernel
theorem dX8_goBack_23 : decode cX8_goBack 23 = .ok (.aload_n 2, 1) := by decide +kernel
theorem dX8_goBack_24 : decode cX8_goBack 24 = .ok (.aload_n 0, 1) := by decide +kernel
theorem dX8_goBack_25 : decode cX8_goBack 25 = .ok (.getfield 29, 3) := by decide +kernel
theorem dX8_goBack_28 : decode cX8_goBack 28 = .ok (.aload_n 0, 1) := by decide +kernel
theorem dX8_goBack_29 : decode cX8_goBack 29 = .ok (.getfield 63, 3) := by decide +kernel
theorem dX8_goBack_32 : decode cX8_goBack 32 = .ok (.invokevirtual 268, 3) := by decide +kernel
theorem dX8_goBack_35 : decode cX8_goBack 35 = .ok (.aload_n 0, 1) := by decide +kernel
theorem dX8_goBack_36 : decode cX8_goBack 36 = .ok (.getfield 39, 3) := by decide +kernel
theorem dX8_goBack_39 : decode cX8_goBack 39 = .ok (.invokevirtual 83, 3) := by decide +kernel
theorem dX8_goBack_42 : decode cX8_goBack 42 = .ok (.iconst 1, 1) := by decide +kernel
theorem dX8_goBack_43 : decode cX8_goBack 43 = .ok (.ireturn, 1) := by decide +kernel
theorem dX8_imageOf_0 : decode cX8_imageOf 0 = .ok (.iload_n 1, 1) := by decide +kernel
theorem dX8_imageOf_1 : decode cX8_imageOf 1 = .ok (.ifCond .ne 8, 3) := by decide +kernel
theorem dX8_imageOf_4 : decode cX8_imageOf 4 = .ok (.aload_n 0, 1) := by decide +kernel
theorem dX8_imageOf_5 : decode cX8_imageOf 5 = .ok (.getfield 46, 3) := by decide +kernel
theorem dX8_imageOf_8 : decode cX8_imageOf 8 = .ok (.areturn, 1) := by decide +kernel
theorem dX8_imageOf_9 : decode cX8_imageOf 9 = .ok (.iload_n 1, 1) := by decide +kernel
theorem dX8_imageOf_10 : decode cX8_imageOf 10 = .ok (.iconst 1, 1) := by decide +kernel
theorem dX8_imageOf_11 : decode cX8_imageOf 11 = .ok (.if_icmp .ne 10, 3) := by decide +kernel
theorem dX8_imageOf_14 : decode cX8_imageOf 14 = .ok (.aload_n 0, 1) := by decide +kernel
theorem dX8_imageOf_15 : decode cX8_imageOf 15 = .ok (.getfield 50, 3) := by decide +kernel
theorem dX8_imageOf_18 : decode cX8_imageOf 18 = .ok (.goto 4, 3) := by decide +kernel
theorem dX8_imageOf_21 : decode cX8_imageOf 21 = .ok (.aconst_null, 1) := by decide +kernel
theorem dX8_imageOf_22 : decode cX8_imageOf 22 = .ok (.areturn, 1) := by decide +kernel
theorem dX8_maySetByHand_0 : decode cX8_maySetByHand 0 = .ok (.aload_n 0, 1) := by decide +kernel
theorem dX8_maySetByHand_1 : decode cX8_maySetByHand 1 = .ok (.getfield 29, 3) := by decide +kernel
theorem dX8_maySetByHand_4 : decode cX8_maySetByHand 4 = .ok (.getfield 109, 3) := by decide +kernel
theorem dX8_maySetByHand_7 : decode cX8_maySetByHand 7 = .ok (.ifCond .ne 18, 3) := by decide +kernel
theorem dX8_maySetByHand_10 : decode cX8_maySetByHand 10 = .ok (.aload_n 0, 1) := by decide +kernel
theorem dX8_maySetByHand_11 : decode cX8_maySetByHand 11 = .ok (.getfield 19, 3) := by decide +kernel
theorem dX8_maySetByHand_14 : decode cX8_maySetByHand 14 = .ok (.iload_n 1, 1) := by decide +kernel
theorem dX8_maySetByHand_15 : decode cX8_maySetByHand 15 = .ok (.invokevirtual 147, 3) := by decide +kernel
theorem dX8_maySetByHand_18 : decode cX8_maySetByHand 18 = .ok (.ifCond .ne 7, 3) := by decide +kernel
theorem dX8_maySetByHand_21 : decode cX8_maySetByHand 21 = .ok (.iconst 1, 1) := by decide +kernel
theorem dX8_maySetByHand_22 : decode cX8_maySetByHand 22 = .ok (.goto 4, 3) := by decide +kernel
theorem dX8_maySetByHand_25 : decode cX8_maySetByHand 25 = .ok (.iconst 0, 1) := by decide +kernel
theorem dX8_maySetByHand_26 : decode cX8_maySetByHand 26 = .ok (.ireturn, 1) := by decide +kernel
theorem dX8_driftOnce_0 : decode cX8_driftOnce 0 = .ok (.aload_n 0, 1) := by decide +kernel
theorem dX8_driftOnce_1 : decode cX8_driftOnce 1 = .ok (.getfield 39, 3) := by decide +kernel
theorem dX8_driftOnce_4 : decode cX8_driftOnce 4 = .ok (.aload_n 0, 1) := by decide +kernel
theorem dX8_driftOnce_5 : decode cX8_driftOnce 5 = .ok (.getfield 29, 3) := by decide +kernel
theorem dX8_driftOnce_8 : decode cX8_driftOnce 8 = .ok (.invokevirtual 220, 3) := by decide +kernel
theorem dX8_driftOnce_11 : decode cX8_driftOnce 11 = .ok (.aload_n 0, 1) := by decide +kernel
theorem dX8_driftOnce_12 : decode cX8_driftOnce 12 = .ok (.getfield 63, 3) := by decide +kernel
theorem dX8_driftOnce_15 : decode cX8_driftOnce 15 = .ok (.aload_n 0, 1) := by decide +kernel
theorem dX8_driftOnce_16 : decode cX8_driftOnce 16 = .ok (.getfield 19, 3) := by decide +kernel
theorem dX8_driftOnce_19 : decode cX8_driftOnce 19 = .ok (.getfield 90, 3) := by decide +kernel
theorem dX8_driftOnce_22 : decode cX8_driftOnce 22 = .ok (.invokevirtual 271, 3) := by decide +kernel
theorem dX8_driftOnce_25 : decode cX8_driftOnce 25 = .ok (.istore_n 1, 1) := by decide +kernel
theorem dX8_driftOnce_26 : decode cX8_driftOnce 26 = .ok (.aload_n 0, 1) := by decide +kernel
theorem dX8_driftOnce_27 : decode cX8_driftOnce 27 = .ok (.getfield 63, 3) := by decide +kernel
theorem dX8_driftOnce_30 : decode cX8_driftOnce 30 = .ok (.iconst 4, 1) := by decide +kernel
theorem dX8_driftOnce_31 : decode cX8_driftOnce 31 = .ok (.invokevirtual 271, 3) := by decide +kernel
theorem dX8_driftOnce_34 : decode cX8_driftOnce 34 = .ok (.istore_n 2, 1) := by decide +kernel
theorem dX8_driftOnce_35 : decode cX8_driftOnce 35 = .ok (.aload_n 0, 1) := by decide +kernel
theorem dX8_driftOnce_36 : decode cX8_driftOnce 36 = .ok (.getfield 63, 3) := by decide +kernel
theorem dX8_driftOnce_39 : decode cX8_driftOnce 39 = .ok (.bipush 21, 2) := by decide +kernel
theorem dX8_driftOnce_41 : decode cX8_driftOnce 41 = .ok (.invokevirtual 271, 3) := by decide +kernel
theorem dX8_driftOnce_44 : decode cX8_driftOnce 44 = .ok (.istore_n 3, 1) := by decide +kernel
theorem dX8_driftOnce_45 : decode cX8_driftOnce 45 = .ok (.aload_n 0, 1) := by decide +kernel
theorem dX8_driftOnce_46 : decode cX8_driftOnce 46 = .ok (.iload_n 1, 1) := by decide +kernel
theorem dX8_driftOnce_47 : decode cX8_driftOnce 47 = .ok (.invokevirtual 230, 3) := by decide +kernel
theorem dX8_driftOnce_50 : decode cX8_driftOnce 50 = .ok (.ifCond .eq 31, 3) := by decide +kernel
theorem dX8_driftOnce_53 : decode cX8_driftOnce 53 = .ok (.aload_n 0, 1) := by decide +kernel
theorem dX8_driftOnce_54 : decode cX8_driftOnce 54 = .ok (.getfield 29, 3) := by decide +kernel
theorem dX8_driftOnce_57 : decode cX8_driftOnce 57 = .ok (.invokevirtual 233, 3) := by decide +kernel
theorem dX8_driftOnce_60 : decode cX8_driftOnce 60 = .ok (.ifCond .ne 21, 3) := by decide +kernel
theorem dX8_driftOnce_63 : decode cX8_driftOnce 63 = .ok (.aload_n 0, 1) := by decide +kernel
theorem dX8_driftOnce_64 : decode cX8_driftOnce 64 = .ok (.getfield 29, 3) := by decide +kernel
theorem dX8_driftOnce_67 : decode cX8_driftOnce 67 = .ok (.iload_n 1, 1) := by decide +kernel
theorem dX8_driftOnce_68 : decode cX8_driftOnce 68 = .ok (.iload_n 2, 1) := by decide +kernel
theorem dX8_driftOnce_69 : decode cX8_driftOnce 69 = .ok (.aload_n 0, 1) := by decide +kernel
theorem dX8_driftOnce_70 : decode cX8_driftOnce 70 = .ok (.getfield 29, 3) := by decide +kernel
theorem dX8_driftOnce_73 : decode cX8_driftOnce 73 = .ok (.getfield 103, 3) := by decide +kernel
theorem dX8_driftOnce_76 : decode cX8_driftOnce 76 = .ok (.iload_n 3, 1) := by decide +kernel
theorem dX8_driftOnce_77 : decode cX8_driftOnce 77 = .ok (.iadd, 1) := by decide +kernel
theorem dX8_driftOnce_78 : decode cX8_driftOnce 78 = .ok (.invokevirtual 237, 3) := by decide +kernel
theorem dX8_driftOnce_81 : decode cX8_driftOnce 81 = .ok (.aload_n 0, 1) := by decide +kernel
theorem dX8_driftOnce_82 : decode cX8_driftOnce 82 = .ok (.getfield 29, 3) := by decide +kernel
theorem dX8_driftOnce_85 : decode cX8_driftOnce 85 = .ok (.getfield 109, 3) := by decide +kernel
theorem dX8_driftOnce_88 : decode cX8_driftOnce 88 = .ok (.ifCond .ne 24, 3) := by decide +kernel
theorem dX8_driftOnce_91 : decode cX8_driftOnce 91 = .ok (.aload_n 0, 1) := by decide +kernel
theorem dX8_driftOnce_92 : decode cX8_driftOnce 92 = .ok (.getfield 29, 3) := by decide +kernel
theorem dX8_driftOnce_95 : decode cX8_driftOnce 95 = .ok (.invokevirtual 113, 3) := by decide +kernel
theorem dX8_driftOnce_98 : decode cX8_driftOnce 98 = .ok (.ifCond .ne 14, 3) := by decide +kernel
theorem dX8_driftOnce_101 : decode cX8_driftOnce 101 = .ok (.aload_n 0, 1) := by decide +kernel
theorem dX8_driftOnce_102 : decode cX8_driftOnce 102 = .ok (.getfield 29, 3) := by decide +kernel
theorem dX8_driftOnce_105 : decode cX8_driftOnce 105 = .ok (.aload_n 0, 1) := by decide +kernel
theorem dX8_driftOnce_106 : decode cX8_driftOnce 106 = .ok (.getfield 19, 3) := by decide +kernel
theorem dX8_driftOnce_109 : decode cX8_driftOnce 109 = .ok (.invokevirtual 224, 3) := by decide +kernel
theorem dX8_driftOnce_112 : decode cX8_driftOnce 112 = .ok (.return_, 1) := by decide +kernel
theorem dX8_stepsTillStill_0 : decode cX8_stepsTillStill 0 = .ok (.aload_n 0, 1) := by decide +kernel
theorem dX8_stepsTillStill_1 : decode cX8_stepsTillStill 1 = .ok (.getfield 33, 3) := by decide +kernel
theorem dX8_stepsTillStill_4 : decode cX8_stepsTillStill 4 = .ok (.aload_n 0, 1) := by decide +kernel
theorem dX8_stepsTillStill_5 : decode cX8_stepsTillStill 5 = .ok (.getfield 29, 3) := by decide +kernel
theorem dX8_stepsTillStill_8 : decode cX8_stepsTillStill 8 = .ok (.invokevirtual 274, 3) := by decide +kernel
theorem dX8_stepsTillStill_11 : decode cX8_stepsTillStill 11 = .ok (.iconst 0, 1) := by decide +kernel
theorem dX8_stepsTillStill_12 : decode cX8_stepsTillStill 12 = .ok (.istore_n 1, 1) := by decide +kernel
theorem dX8_stepsTillStill_13 : decode cX8_stepsTillStill 13 = .ok (.iload_n 1, 1) := by decide +kernel
theorem dX8_stepsTillStill_14 : decode cX8_stepsTillStill 14 = .ok (.bipush 100, 2) := by decide +kernel
theorem dX8_stepsTillStill_16 : decode cX8_stepsTillStill 16 = .ok (.if_icmp .ge 40, 3) := by decide +kernel
theorem dX8_stepsTillStill_19 : decode cX8_stepsTillStill 19 = .ok (.aload_n 0, 1) := by decide +kernel
theorem dX8_stepsTillStill_20 : decode cX8_stepsTillStill 20 = .ok (.getfield 33, 3) := by decide +kernel
theorem dX8_stepsTillStill_23 : decode cX8_stepsTillStill 23 = .ok (.getfield 109, 3) := by decide +kernel
theorem dX8_stepsTillStill_26 : decode cX8_stepsTillStill 26 = .ok (.ifCond .ne 30, 3) := by decide +kernel
theorem dX8_stepsTillStill_29 : decode cX8_stepsTillStill 29 = .ok (.aload_n 0, 1) := by decide +kernel
theorem dX8_stepsTillStill_30 : decode cX8_stepsTillStill 30 = .ok (.getfield 33, 3) := by decide +kernel
theorem dX8_stepsTillStill_33 : decode cX8_stepsTillStill 33 = .ok (.invokevirtual 113, 3) := by decide +kernel
theorem dX8_stepsTillStill_36 : decode cX8_stepsTillStill 36 = .ok (.ifCond .ne 20, 3) := by decide +kernel
theorem dX8_stepsTillStill_39 : decode cX8_stepsTillStill 39 = .ok (.aload_n 0, 1) := by decide +kernel
theorem dX8_stepsTillStill_40 : decode cX8_stepsTillStill 40 = .ok (.getfield 33, 3) := by decide +kernel
theorem dX8_stepsTillStill_43 : decode cX8_stepsTillStill 43 = .ok (.aload_n 0, 1) := by decide +kernel
theorem dX8_stepsTillStill_44 : decode cX8_stepsTillStill 44 = .ok (.getfield 19, 3) := by decide +kernel
theorem dX8_stepsTillStill_47 : decode cX8_stepsTillStill 47 = .ok (.invokevirtual 224, 3) := by decide +kernel
theorem dX8_stepsTillStill_50 : decode cX8_stepsTillStill 50 = .ok (.iinc 1 1, 3) := by decide +kernel
theorem dX8_stepsTillStill_53 : decode cX8_stepsTillStill 53 = .ok (.goto (-40), 3) := by decide +kernel
theorem dX8_stepsTillStill_56 : decode cX8_stepsTillStill 56 = .ok (.aload_n 0, 1) := by decide +kernel
theorem dX8_stepsTillStill_57 : decode cX8_stepsTillStill 57 = .ok (.getfield 33, 3) := by decide +kernel
theorem dX8_stepsTillStill_60 : decode cX8_stepsTillStill 60 = .ok (.getfield 109, 3) := by decide +kernel
theorem dX8_stepsTillStill_63 : decode cX8_stepsTillStill 63 = .ok (.ifCond .ne 13, 3) := by decide +kernel
theorem dX8_stepsTillStill_66 : decode cX8_stepsTillStill 66 = .ok (.aload_n 0, 1) := by decide +kernel
theorem dX8_stepsTillStill_67 : decode cX8_stepsTillStill 67 = .ok (.getfield 33, 3) := by decide +kernel
theorem dX8_stepsTillStill_70 : decode cX8_stepsTillStill 70 = .ok (.invokevirtual 113, 3) := by decide +kernel
theorem dX8_stepsTillStill_73 : decode cX8_stepsTillStill 73 = .ok (.ifCond .ne 7, 3) := by decide +kernel
theorem dX8_stepsTillStill_76 : decode cX8_stepsTillStill 76 = .ok (.iconst (-1), 1) := by decide +kernel
theorem dX8_stepsTillStill_77 : decode cX8_stepsTillStill 77 = .ok (.goto 4, 3) := by decide +kernel
theorem dX8_stepsTillStill_80 : decode cX8_stepsTillStill 80 = .ok (.iload_n 1, 1) := by decide +kernel
theorem dX8_stepsTillStill_81 : decode cX8_stepsTillStill 81 = .ok (.ireturn, 1) := by decide +kernel
theorem dJ9_floorMod_7cf53_0 : decode cJ9_floorMod_7cf53 0 = .ok (.iload_n 0, 1) := by decide +kernel
theorem dJ9_floorMod_7cf53_1 : decode cJ9_floorMod_7cf53 1 = .ok (.iload_n 1, 1) := by decide +kernel
theorem dJ9_floorMod_7cf53_2 : decode cJ9_floorMod_7cf53 2 = .ok (.irem, 1) := by decide +kernel
theorem dJ9_floorMod_7cf53_3 : decode cJ9_floorMod_7cf53 3 = .ok (.istore_n 2, 1) := by decide +kernel
theorem dJ9_floorMod_7cf53_4 : decode cJ9_floorMod_7cf53 4 = .ok (.iload_n 0, 1) := by decide +kernel
theorem dJ9_floorMod_7cf53_5 : decode cJ9_floorMod_7cf53 5 = .ok (.iload_n 1, 1) := by decide +kernel
theorem dJ9_floorMod_7cf53_6 : decode cJ9_floorMod_7cf53 6 = .ok (.ixor, 1) := by decide +kernel
theorem dJ9_floorMod_7cf53_7 : decode cJ9_floorMod_7cf53 7 = .ok (.ifCond .ge 11, 3) := by decide +kernel
theorem dJ9_floorMod_7cf53_10 : decode cJ9_floorMod_7cf53 10 = .ok (.iload_n 2, 1) := by decide +kernel
theorem dJ9_floorMod_7cf53_11 : decode cJ9_floorMod_7cf53 11 = .ok (.ifCond .eq 7, 3) := by decide +kernel
theorem dJ9_floorMod_7cf53_14 : decode cJ9_floorMod_7cf53 14 = .ok (.iload_n 2, 1) := by decide +kernel
theorem dJ9_floorMod_7cf53_15 : decode cJ9_floorMod_7cf53 15 = .ok (.iload_n 1, 1) := by decide +kernel
theorem dJ9_floorMod_7cf53_16 : decode cJ9_floorMod_7cf53 16 = .ok (.iadd, 1) := by decide +kernel
theorem dJ9_floorMod_7cf53_17 : decode cJ9_floorMod_7cf53 17 = .ok (.ireturn, 1) := by decide +kernel
theorem dJ9_floorMod_7cf53_18 : decode cJ9_floorMod_7cf53 18 = .ok (.iload_n 2, 1) := by decide +kernel
theorem dJ9_floorMod_7cf53_19 : decode cJ9_floorMod_7cf53 19 = .ok (.ireturn, 1) := by decide +kernel
theorem dJ9_max_7cf53_0 : decode cJ9_max_7cf53 0 = .ok (.iload_n 0, 1) := by decide +kernel
theorem dJ9_max_7cf53_1 : decode cJ9_max_7cf53 1 = .ok (.iload_n 1, 1) := by decide +kernel
theorem dJ9_max_7cf53_2 : decode cJ9_max_7cf53 2 = .ok (.if_icmp .lt 7, 3) := by decide +kernel
theorem dJ9_max_7cf53_5 : decode cJ9_max_7cf53 5 = .ok (.iload_n 0, 1) := by decide +kernel
theorem dJ9_max_7cf53_6 : decode cJ9_max_7cf53 6 = .ok (.goto 4, 3) := by decide +kernel
theorem dJ9_max_7cf53_9 : decode cJ9_max_7cf53 9 = .ok (.iload_n 1, 1) := by decide +kernel
theorem dJ9_max_7cf53_10 : decode cJ9_max_7cf53 10 = .ok (.ireturn, 1) := by decide +kernel
theorem dJ9_min_7cf53_0 : decode cJ9_min_7cf53 0 = .ok (.iload_n 0, 1) := by decide +kernel
theorem dJ9_min_7cf53_1 : decode cJ9_min_7cf53 1 = .ok (.iload_n 1, 1) := by decide +kernel
theorem dJ9_min_7cf53_2 : decode cJ9_min_7cf53 2 = .ok (.if_icmp .gt 7, 3) := by decide +kernel
theorem dJ9_min_7cf53_5 : decode cJ9_min_7cf53 5 = .ok (.iload_n 0, 1) := by decide +kernel
theorem dJ9_min_7cf53_6 : decode cJ9_min_7cf53 6 = .ok (.goto 4, 3) := by decide +kernel
theorem dJ9_min_7cf53_9 : decode cJ9_min_7cf53 9 = .ok (.iload_n 1, 1) := by decide +kernel
theorem dJ9_min_7cf53_10 : decode cJ9_min_7cf53 10 = .ok (.ireturn, 1) := by decide +kernel
