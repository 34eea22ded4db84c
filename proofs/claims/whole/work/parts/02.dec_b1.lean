theorem dX9_feed_37 : decode cX9_feed 37 = .ok (.aload_n 0, 1) := by decide +kernel
theorem dX9_feed_38 : decode cX9_feed 38 = .ok (.dup, 1) := by decide +kernel
theorem dX9_feed_39 : decode cX9_feed 39 = .ok (.getfield 102, 3) := by decide +kernel
theorem dX9_feed_42 : decode cX9_feed 42 = .ok (.iconst 1, 1) := by decide +kernel
theorem dX9_feed_43 : decode cX9_feed 43 = .ok (.iadd, 1) := by decide +kernel
theorem dX9_feed_44 : decode cX9_feed 44 = .ok (.putfield 102, 3) := by decide +kernel
theorem dX9_feed_47 : decode cX9_feed 47 = .ok (.aload_n 0, 1) := by decide +kernel
theorem dX9_feed_48 : decode cX9_feed 48 = .ok (.getfield 102, 3) := by decide +kernel
theorem dX9_feed_51 : decode cX9_feed 51 = .ok (.ireturn, 1) := by decide +kernel
theorem dX9_fail_0 : decode cX9_fail 0 = .ok (.aload_n 0, 1) := by decide +kernel
theorem dX9_fail_1 : decode cX9_fail 1 = .ok (.getfield 106, 3) := by decide +kernel
theorem dX9_fail_4 : decode cX9_fail 4 = .ok (.ifCond .ne 13, 3) := by decide +kernel
theorem dX9_fail_7 : decode cX9_fail 7 = .ok (.aload_n 0, 1) := by decide +kernel
theorem dX9_fail_8 : decode cX9_fail 8 = .ok (.iload_n 1, 1) := by decide +kernel
theorem dX9_fail_9 : decode cX9_fail 9 = .ok (.putfield 106, 3) := by decide +kernel
theorem dX9_fail_12 : decode cX9_fail 12 = .ok (.aload_n 0, 1) := by decide +kernel
theorem dX9_fail_13 : decode cX9_fail 13 = .ok (.iload_n 2, 1) := by decide +kernel
theorem dX9_fail_14 : decode cX9_fail 14 = .ok (.putfield 109, 3) := by decide +kernel
theorem dX9_fail_17 : decode cX9_fail 17 = .ok (.return_, 1) := by decide +kernel
theorem dX9_here_0 : decode cX9_here 0 = .ok (.aload_n 0, 1) := by decide +kernel
theorem dX9_here_1 : decode cX9_here 1 = .ok (.getfield 112, 3) := by decide +kernel
theorem dX9_here_4 : decode cX9_here 4 = .ok (.aload_n 0, 1) := by decide +kernel
theorem dX9_here_5 : decode cX9_here 5 = .ok (.getfield 102, 3) := by decide +kernel
theorem dX9_here_8 : decode cX9_here 8 = .ok (.if_icmp .ge 30, 3) := by decide +kernel
theorem dX9_here_11 : decode cX9_here 11 = .ok (.aload_n 0, 1) := by decide +kernel
theorem dX9_here_12 : decode cX9_here 12 = .ok (.getfield 25, 3) := by decide +kernel
theorem dX9_here_15 : decode cX9_here 15 = .ok (.aload_n 0, 1) := by decide +kernel
theorem dX9_here_16 : decode cX9_here 16 = .ok (.getfield 112, 3) := by decide +kernel
theorem dX9_here_19 : decode cX9_here 19 = .ok (.iaload, 1) := by decide +kernel
theorem dX9_here_20 : decode cX9_here 20 = .ok (.bipush 32, 2) := by decide +kernel
theorem dX9_here_22 : decode cX9_here 22 = .ok (.if_icmp .ne 16, 3) := by decide +kernel
theorem dX9_here_25 : decode cX9_here 25 = .ok (.aload_n 0, 1) := by decide +kernel
theorem dX9_here_26 : decode cX9_here 26 = .ok (.dup, 1) := by decide +kernel
theorem dX9_here_27 : decode cX9_here 27 = .ok (.getfield 112, 3) := by decide +kernel
theorem dX9_here_30 : decode cX9_here 30 = .ok (.iconst 1, 1) := by decide +kernel
theorem dX9_here_31 : decode cX9_here 31 = .ok (.iadd, 1) := by decide +kernel
theorem dX9_here_32 : decode cX9_here 32 = .ok (.putfield 112, 3) := by decide +kernel
theorem dX9_here_35 : decode cX9_here 35 = .ok (.goto (-35), 3) := by decide +kernel
theorem dX9_here_38 : decode cX9_here 38 = .ok (.aload_n 0, 1) := by decide +kernel
theorem dX9_here_39 : decode cX9_here 39 = .ok (.getfield 112, 3) := by decide +kernel
theorem dX9_here_42 : decode cX9_here 42 = .ok (.aload_n 0, 1) := by decide +kernel
theorem dX9_here_43 : decode cX9_here 43 = .ok (.getfield 102, 3) := by decide +kernel
theorem dX9_here_46 : decode cX9_here 46 = .ok (.if_icmp .ge 15, 3) := by decide +kernel
theorem dX9_here_49 : decode cX9_here 49 = .ok (.aload_n 0, 1) := by decide +kernel
theorem dX9_here_50 : decode cX9_here 50 = .ok (.getfield 25, 3) := by decide +kernel
theorem dX9_here_53 : decode cX9_here 53 = .ok (.aload_n 0, 1) := by decide +kernel
theorem dX9_here_54 : decode cX9_here 54 = .ok (.getfield 112, 3) := by decide +kernel
theorem dX9_here_57 : decode cX9_here 57 = .ok (.iaload, 1) := by decide +kernel
theorem dX9_here_58 : decode cX9_here 58 = .ok (.goto 4, 3) := by decide +kernel
theorem dX9_here_61 : decode cX9_here 61 = .ok (.iconst (-1), 1) := by decide +kernel
theorem dX9_here_62 : decode cX9_here 62 = .ok (.ireturn, 1) := by decide +kernel
theorem dX9_number_0 : decode cX9_number 0 = .ok (.aload_n 0, 1) := by decide +kernel
theorem dX9_number_1 : decode cX9_number 1 = .ok (.invokevirtual 115, 3) := by decide +kernel
theorem dX9_number_4 : decode cX9_number 4 = .ok (.istore_n 3, 1) := by decide +kernel
theorem dX9_number_5 : decode cX9_number 5 = .ok (.aload_n 0, 1) := by decide +kernel
theorem dX9_number_6 : decode cX9_number 6 = .ok (.getfield 106, 3) := by decide +kernel
theorem dX9_number_9 : decode cX9_number 9 = .ok (.ifCond .ne 14, 3) := by decide +kernel
theorem dX9_number_12 : decode cX9_number 12 = .ok (.iload_n 3, 1) := by decide +kernel
theorem dX9_number_13 : decode cX9_number 13 = .ok (.bipush 48, 2) := by decide +kernel
theorem dX9_number_15 : decode cX9_number 15 = .ok (.bipush 57, 2) := by decide +kernel
theorem dX9_number_17 : decode cX9_number 17 = .ok (.invokestatic 41, 3) := by decide +kernel
theorem dX9_number_20 : decode cX9_number 20 = .ok (.ifCond .ne 14, 3) := by decide +kernel
theorem dX9_number_23 : decode cX9_number 23 = .ok (.aload_n 0, 1) := by decide +kernel
theorem dX9_number_24 : decode cX9_number 24 = .ok (.iconst 1, 1) := by decide +kernel
theorem dX9_number_25 : decode cX9_number 25 = .ok (.aload_n 0, 1) := by decide +kernel
theorem dX9_number_26 : decode cX9_number 26 = .ok (.getfield 112, 3) := by decide +kernel
theorem dX9_number_29 : decode cX9_number 29 = .ok (.invokevirtual 119, 3) := by decide +kernel
theorem dX9_number_32 : decode cX9_number 32 = .ok (.iload_n 1, 1) := by decide +kernel
theorem dX9_number_33 : decode cX9_number 33 = .ok (.ireturn, 1) := by decide +kernel
theorem dX9_number_34 : decode cX9_number 34 = .ok (.aload_n 0, 1) := by decide +kernel
theorem dX9_number_35 : decode cX9_number 35 = .ok (.aload_n 0, 1) := by decide +kernel
theorem dX9_number_36 : decode cX9_number 36 = .ok (.getfield 112, 3) := by decide +kernel
theorem dX9_number_39 : decode cX9_number 39 = .ok (.putfield 122, 3) := by decide +kernel
theorem dX9_number_42 : decode cX9_number 42 = .ok (.iconst 0, 1) := by decide +kernel
theorem dX9_number_43 : decode cX9_number 43 = .ok (.istore 4, 2) := by decide +kernel
theorem dX9_number_45 : decode cX9_number 45 = .ok (.aload_n 0, 1) := by decide +kernel
theorem dX9_number_46 : decode cX9_number 46 = .ok (.getfield 112, 3) := by decide +kernel
theorem dX9_number_49 : decode cX9_number 49 = .ok (.aload_n 0, 1) := by decide +kernel
theorem dX9_number_50 : decode cX9_number 50 = .ok (.getfield 102, 3) := by decide +kernel
theorem dX9_number_53 : decode cX9_number 53 = .ok (.if_icmp .ge 73, 3) := by decide +kernel
theorem dX9_number_56 : decode cX9_number 56 = .ok (.aload_n 0, 1) := by decide +kernel
theorem dX9_number_57 : decode cX9_number 57 = .ok (.getfield 25, 3) := by decide +kernel
theorem dX9_number_60 : decode cX9_number 60 = .ok (.aload_n 0, 1) := by decide +kernel
theorem dX9_number_61 : decode cX9_number 61 = .ok (.getfield 112, 3) := by decide +kernel
theorem dX9_number_64 : decode cX9_number 64 = .ok (.iaload, 1) := by decide +kernel
theorem dX9_number_65 : decode cX9_number 65 = .ok (.bipush 48, 2) := by decide +kernel
theorem dX9_number_67 : decode cX9_number 67 = .ok (.bipush 57, 2) := by decide +kernel
theorem dX9_number_69 : decode cX9_number 69 = .ok (.invokestatic 41, 3) := by decide +kernel
theorem dX9_number_72 : decode cX9_number 72 = .ok (.ifCond .eq 54, 3) := by decide +kernel
theorem dX9_number_75 : decode cX9_number 75 = .ok (.aload_n 0, 1) := by decide +kernel
theorem dX9_number_76 : decode cX9_number 76 = .ok (.getfield 112, 3) := by decide +kernel
theorem dX9_number_79 : decode cX9_number 79 = .ok (.aload_n 0, 1) := by decide +kernel
theorem dX9_number_80 : decode cX9_number 80 = .ok (.getfield 122, 3) := by decide +kernel
theorem dX9_number_83 : decode cX9_number 83 = .ok (.isub, 1) := by decide +kernel
theorem dX9_number_84 : decode cX9_number 84 = .ok (.iconst 2, 1) := by decide +kernel
theorem dX9_number_85 : decode cX9_number 85 = .ok (.if_icmp .ge 24, 3) := by decide +kernel
theorem dX9_number_88 : decode cX9_number 88 = .ok (.bipush 10, 2) := by decide +kernel
theorem dX9_number_90 : decode cX9_number 90 = .ok (.iload 4, 2) := by decide +kernel
theorem dX9_number_92 : decode cX9_number 92 = .ok (.imul, 1) := by decide +kernel
theorem dX9_number_93 : decode cX9_number 93 = .ok (.aload_n 0, 1) := by decide +kernel
theorem dX9_number_94 : decode cX9_number 94 = .ok (.getfield 25, 3) := by decide +kernel
theorem dX9_number_97 : decode cX9_number 97 = .ok (.aload_n 0, 1) := by decide +kernel
theorem dX9_number_98 : decode cX9_number 98 = .ok (.getfield 112, 3) := by decide +kernel
theorem dX9_number_101 : decode cX9_number 101 = .ok (.iaload, 1) := by decide +kernel
theorem dX9_number_102 : decode cX9_number 102 = .ok (.iadd, 1) := by decide +kernel
theorem dX9_number_103 : decode cX9_number 103 = .ok (.bipush 48, 2) := by decide +kernel
theorem dX9_number_105 : decode cX9_number 105 = .ok (.isub, 1) := by decide +kernel
theorem dX9_number_106 : decode cX9_number 106 = .ok (.goto 5, 3) := by decide +kernel
theorem dX9_number_109 : decode cX9_number 109 = .ok (.iload 4, 2) := by decide +kernel
theorem dX9_number_111 : decode cX9_number 111 = .ok (.istore 4, 2) := by decide +kernel
theorem dX9_number_113 : decode cX9_number 113 = .ok (.aload_n 0, 1) := by decide +kernel
theorem dX9_number_114 : decode cX9_number 114 = .ok (.dup, 1) := by decide +kernel
theorem dX9_number_115 : decode cX9_number 115 = .ok (.getfield 112, 3) := by decide +kernel
theorem dX9_number_118 : decode cX9_number 118 = .ok (.iconst 1, 1) := by decide +kernel
theorem dX9_number_119 : decode cX9_number 119 = .ok (.iadd, 1) := by decide +kernel
theorem dX9_number_120 : decode cX9_number 120 = .ok (.putfield 112, 3) := by decide +kernel
theorem dX9_number_123 : decode cX9_number 123 = .ok (.goto (-78), 3) := by decide +kernel
theorem dX9_number_126 : decode cX9_number 126 = .ok (.aload_n 0, 1) := by decide +kernel
theorem dX9_number_127 : decode cX9_number 127 = .ok (.getfield 112, 3) := by decide +kernel
theorem dX9_number_130 : decode cX9_number 130 = .ok (.aload_n 0, 1) := by decide +kernel
theorem dX9_number_131 : decode cX9_number 131 = .ok (.getfield 122, 3) := by decide +kernel
theorem dX9_number_134 : decode cX9_number 134 = .ok (.isub, 1) := by decide +kernel
theorem dX9_number_135 : decode cX9_number 135 = .ok (.iconst 2, 1) := by decide +kernel
theorem dX9_number_136 : decode cX9_number 136 = .ok (.if_icmp .gt 13, 3) := by decide +kernel
theorem dX9_number_139 : decode cX9_number 139 = .ok (.iload 4, 2) := by decide +kernel
theorem dX9_number_141 : decode cX9_number 141 = .ok (.iload_n 1, 1) := by decide +kernel
theorem dX9_number_142 : decode cX9_number 142 = .ok (.iload_n 2, 1) := by decide +kernel
theorem dX9_number_143 : decode cX9_number 143 = .ok (.invokestatic 41, 3) := by decide +kernel
theorem dX9_number_146 : decode cX9_number 146 = .ok (.ifCond .ne 14, 3) := by decide +kernel
theorem dX9_number_149 : decode cX9_number 149 = .ok (.aload_n 0, 1) := by decide +kernel
theorem dX9_number_150 : decode cX9_number 150 = .ok (.iconst 2, 1) := by decide +kernel
theorem dX9_number_151 : decode cX9_number 151 = .ok (.aload_n 0, 1) := by decide +kernel
theorem dX9_number_152 : decode cX9_number 152 = .ok (.getfield 122, 3) := by decide +kernel
theorem dX9_number_155 : decode cX9_number 155 = .ok (.invokevirtual 119, 3) := by decide +kernel
theorem dX9_number_158 : decode cX9_number 158 = .ok (.iload_n 1, 1) := by decide +kernel
theorem dX9_number_159 : decode cX9_number 159 = .ok (.ireturn, 1) := by decide +kernel
theorem dX9_number_160 : decode cX9_number 160 = .ok (.iload 4, 2) := by decide +kernel
theorem dX9_number_162 : decode cX9_number 162 = .ok (.ireturn, 1) := by decide +kernel
theorem dX9_readWire_0 : decode cX9_readWire 0 = .ok (.aload_n 0, 1) := by decide +kernel
theorem dX9_readWire_1 : decode cX9_readWire 1 = .ok (.getfield 125, 3) := by decide +kernel
theorem dX9_readWire_4 : decode cX9_readWire 4 = .ok (.bipush 8, 2) := by decide +kernel
theorem dX9_readWire_6 : decode cX9_readWire 6 = .ok (.if_icmp .ne 10, 3) := by decide +kernel
theorem dX9_readWire_9 : decode cX9_readWire 9 = .ok (.aload_n 0, 1) := by decide +kernel
theorem dX9_readWire_10 : decode cX9_readWire 10 = .ok (.iconst 3, 1) := by decide +kernel
theorem dX9_readWire_11 : decode cX9_readWire 11 = .ok (.iload_n 1, 1) := by decide +kernel
theorem dX9_readWire_12 : decode cX9_readWire 12 = .ok (.invokevirtual 119, 3) := by decide +kernel
theorem dX9_readWire_15 : decode cX9_readWire 15 = .ok (.return_, 1) := by decide +kernel
theorem dX9_readWire_16 : decode cX9_readWire 16 = .ok (.aload_n 0, 1) := by decide +kernel
theorem dX9_readWire_17 : decode cX9_readWire 17 = .ok (.getfield 32, 3) := by decide +kernel
theorem dX9_readWire_20 : decode cX9_readWire 20 = .ok (.aload_n 0, 1) := by decide +kernel
theorem dX9_readWire_21 : decode cX9_readWire 21 = .ok (.getfield 125, 3) := by decide +kernel
theorem dX9_readWire_24 : decode cX9_readWire 24 = .ok (.aload_n 0, 1) := by decide +kernel
theorem dX9_readWire_25 : decode cX9_readWire 25 = .ok (.iconst 0, 1) := by decide +kernel
theorem dX9_readWire_26 : decode cX9_readWire 26 = .ok (.iconst 3, 1) := by decide +kernel
theorem dX9_readWire_27 : decode cX9_readWire 27 = .ok (.invokevirtual 128, 3) := by decide +kernel
theorem dX9_readWire_30 : decode cX9_readWire 30 = .ok (.iastore, 1) := by decide +kernel
theorem dX9_readWire_31 : decode cX9_readWire 31 = .ok (.aload_n 0, 1) := by decide +kernel
theorem dX9_readWire_32 : decode cX9_readWire 32 = .ok (.dup, 1) := by decide +kernel
theorem dX9_readWire_33 : decode cX9_readWire 33 = .ok (.getfield 125, 3) := by decide +kernel
theorem dX9_readWire_36 : decode cX9_readWire 36 = .ok (.iconst 1, 1) := by decide +kernel
theorem dX9_readWire_37 : decode cX9_readWire 37 = .ok (.iadd, 1) := by decide +kernel
theorem dX9_readWire_38 : decode cX9_readWire 38 = .ok (.putfield 125, 3) := by decide +kernel
theorem dX9_readWire_41 : decode cX9_readWire 41 = .ok (.return_, 1) := by decide +kernel
theorem dX9_readGate_0 : decode cX9_readGate 0 = .ok (.aload_n 0, 1) := by decide +kernel
theorem dX9_readGate_1 : decode cX9_readGate 1 = .ok (.getfield 131, 3) := by decide +kernel
theorem dX9_readGate_4 : decode cX9_readGate 4 = .ok (.bipush 8, 2) := by decide +kernel
theorem dX9_readGate_6 : decode cX9_readGate 6 = .ok (.if_icmp .ne 10, 3) := by decide +kernel
theorem dX9_readGate_9 : decode cX9_readGate 9 = .ok (.aload_n 0, 1) := by decide +kernel
theorem dX9_readGate_10 : decode cX9_readGate 10 = .ok (.iconst 3, 1) := by decide +kernel
theorem dX9_readGate_11 : decode cX9_readGate 11 = .ok (.iload_n 1, 1) := by decide +kernel
theorem dX9_readGate_12 : decode cX9_readGate 12 = .ok (.invokevirtual 119, 3) := by decide +kernel
theorem dX9_readGate_15 : decode cX9_readGate 15 = .ok (.return_, 1) := by decide +kernel
theorem dX9_readGate_16 : decode cX9_readGate 16 = .ok (.bipush 6, 2) := by decide +kernel
theorem dX9_readGate_18 : decode cX9_readGate 18 = .ok (.aload_n 0, 1) := by decide +kernel
theorem dX9_readGate_19 : decode cX9_readGate 19 = .ok (.getfield 131, 3) := by decide +kernel
theorem dX9_readGate_22 : decode cX9_readGate 22 = .ok (.imul, 1) := by decide +kernel
theorem dX9_readGate_23 : decode cX9_readGate 23 = .ok (.istore_n 2, 1) := by decide +kernel
theorem dX9_readGate_24 : decode cX9_readGate 24 = .ok (.aload_n 0, 1) := by decide +kernel
theorem dX9_readGate_25 : decode cX9_readGate 25 = .ok (.getfield 35, 3) := by decide +kernel
theorem dX9_readGate_28 : decode cX9_readGate 28 = .ok (.iload_n 2, 1) := by decide +kernel
theorem dX9_readGate_29 : decode cX9_readGate 29 = .ok (.iconst 0, 1) := by decide +kernel
theorem dX9_readGate_30 : decode cX9_readGate 30 = .ok (.iadd, 1) := by decide +kernel
theorem dX9_readGate_31 : decode cX9_readGate 31 = .ok (.aload_n 0, 1) := by decide +kernel
theorem dX9_readGate_32 : decode cX9_readGate 32 = .ok (.iconst 0, 1) := by decide +kernel
theorem dX9_readGate_33 : decode cX9_readGate 33 = .ok (.iconst 5, 1) := by decide +kernel
theorem dX9_readGate_34 : decode cX9_readGate 34 = .ok (.invokevirtual 128, 3) := by decide +kernel
theorem dX9_readGate_37 : decode cX9_readGate 37 = .ok (.iastore, 1) := by decide +kernel
theorem dX9_readGate_38 : decode cX9_readGate 38 = .ok (.aload_n 0, 1) := by decide +kernel
theorem dX9_readGate_39 : decode cX9_readGate 39 = .ok (.getfield 35, 3) := by decide +kernel
theorem dX9_readGate_42 : decode cX9_readGate 42 = .ok (.iload_n 2, 1) := by decide +kernel
theorem dX9_readGate_43 : decode cX9_readGate 43 = .ok (.iconst 1, 1) := by decide +kernel
theorem dX9_readGate_44 : decode cX9_readGate 44 = .ok (.iadd, 1) := by decide +kernel
theorem dX9_readGate_45 : decode cX9_readGate 45 = .ok (.aload_n 0, 1) := by decide +kernel
theorem dX9_readGate_46 : decode cX9_readGate 46 = .ok (.iconst 0, 1) := by decide +kernel
theorem dX9_readGate_47 : decode cX9_readGate 47 = .ok (.aload_n 0, 1) := by decide +kernel
theorem dX9_readGate_48 : decode cX9_readGate 48 = .ok (.getfield 125, 3) := by decide +kernel
theorem dX9_readGate_51 : decode cX9_readGate 51 = .ok (.iconst 1, 1) := by decide +kernel
theorem dX9_readGate_52 : decode cX9_readGate 52 = .ok (.isub, 1) := by decide +kernel
theorem dX9_readGate_53 : decode cX9_readGate 53 = .ok (.invokevirtual 128, 3) := by decide +kernel
theorem dX9_readGate_56 : decode cX9_readGate 56 = .ok (.iastore, 1) := by decide +kernel
theorem dX9_readGate_57 : decode cX9_readGate 57 = .ok (.aload_n 0, 1) := by decide +kernel
theorem dX9_readGate_58 : decode cX9_readGate 58 = .ok (.getfield 35, 3) := by decide +kernel
theorem dX9_readGate_61 : decode cX9_readGate 61 = .ok (.iload_n 2, 1) := by decide +kernel
theorem dX9_readGate_62 : decode cX9_readGate 62 = .ok (.iconst 2, 1) := by decide +kernel
theorem dX9_readGate_63 : decode cX9_readGate 63 = .ok (.iadd, 1) := by decide +kernel
theorem dX9_readGate_64 : decode cX9_readGate 64 = .ok (.aload_n 0, 1) := by decide +kernel
theorem dX9_readGate_65 : decode cX9_readGate 65 = .ok (.iconst 0, 1) := by decide +kernel
theorem dX9_readGate_66 : decode cX9_readGate 66 = .ok (.aload_n 0, 1) := by decide +kernel
theorem dX9_readGate_67 : decode cX9_readGate 67 = .ok (.getfield 125, 3) := by decide +kernel
theorem dX9_readGate_70 : decode cX9_readGate 70 = .ok (.iconst 1, 1) := by decide +kernel
theorem dX9_readGate_71 : decode cX9_readGate 71 = .ok (.isub, 1) := by decide +kernel
theorem dX9_readGate_72 : decode cX9_readGate 72 = .ok (.invokevirtual 128, 3) := by decide +kernel
theorem dX9_readGate_75 : decode cX9_readGate 75 = .ok (.iastore, 1) := by decide +kernel
theorem dX9_readGate_76 : decode cX9_readGate 76 = .ok (.aload_n 0, 1) := by decide +kernel
theorem dX9_readGate_77 : decode cX9_readGate 77 = .ok (.getfield 35, 3) := by decide +kernel
theorem dX9_readGate_80 : decode cX9_readGate 80 = .ok (.iload_n 2, 1) := by decide +kernel
theorem dX9_readGate_81 : decode cX9_readGate 81 = .ok (.iconst 3, 1) := by decide +kernel
theorem dX9_readGate_82 : decode cX9_readGate 82 = .ok (.iadd, 1) := by decide +kernel
theorem dX9_readGate_83 : decode cX9_readGate 83 = .ok (.aload_n 0, 1) := by decide +kernel
theorem dX9_readGate_84 : decode cX9_readGate 84 = .ok (.iconst 0, 1) := by decide +kernel
theorem dX9_readGate_85 : decode cX9_readGate 85 = .ok (.aload_n 0, 1) := by decide +kernel
theorem dX9_readGate_86 : decode cX9_readGate 86 = .ok (.getfield 125, 3) := by decide +kernel
theorem dX9_readGate_89 : decode cX9_readGate 89 = .ok (.iconst 1, 1) := by decide +kernel
theorem dX9_readGate_90 : decode cX9_readGate 90 = .ok (.isub, 1) := by decide +kernel
theorem dX9_readGate_91 : decode cX9_readGate 91 = .ok (.invokevirtual 128, 3) := by decide +kernel
theorem dX9_readGate_94 : decode cX9_readGate 94 = .ok (.iastore, 1) := by decide +kernel
theorem dX9_readGate_95 : decode cX9_readGate 95 = .ok (.aload_n 0, 1) := by decide +kernel
theorem dX9_readGate_96 : decode cX9_readGate 96 = .ok (.getfield 35, 3) := by decide +kernel
theorem dX9_readGate_99 : decode cX9_readGate 99 = .ok (.iload_n 2, 1) := by decide +kernel
theorem dX9_readGate_100 : decode cX9_readGate 100 = .ok (.iconst 4, 1) := by decide +kernel
theorem dX9_readGate_101 : decode cX9_readGate 101 = .ok (.iadd, 1) := by decide +kernel
theorem dX9_readGate_102 : decode cX9_readGate 102 = .ok (.aload_n 0, 1) := by decide +kernel
theorem dX9_readGate_103 : decode cX9_readGate 103 = .ok (.iconst 0, 1) := by decide +kernel
theorem dX9_readGate_104 : decode cX9_readGate 104 = .ok (.bipush 20, 2) := by decide +kernel
theorem dX9_readGate_106 : decode cX9_readGate 106 = .ok (.invokevirtual 128, 3) := by decide +kernel
theorem dX9_readGate_109 : decode cX9_readGate 109 = .ok (.iastore, 1) := by decide +kernel
theorem dX9_readGate_110 : decode cX9_readGate 110 = .ok (.aload_n 0, 1) := by decide +kernel
theorem dX9_readGate_111 : decode cX9_readGate 111 = .ok (.getfield 35, 3) := by decide +kernel
theorem dX9_readGate_114 : decode cX9_readGate 114 = .ok (.iload_n 2, 1) := by decide +kernel
theorem dX9_readGate_115 : decode cX9_readGate 115 = .ok (.iconst 1, 1) := by decide +kernel
theorem dX9_readGate_116 : decode cX9_readGate 116 = .ok (.iadd, 1) := by decide +kernel
theorem dX9_readGate_117 : decode cX9_readGate 117 = .ok (.iaload, 1) := by decide +kernel
theorem dX9_readGate_118 : decode cX9_readGate 118 = .ok (.aload_n 0, 1) := by decide +kernel
theorem dX9_readGate_119 : decode cX9_readGate 119 = .ok (.getfield 35, 3) := by decide +kernel
theorem dX9_readGate_122 : decode cX9_readGate 122 = .ok (.iload_n 2, 1) := by decide +kernel
theorem dX9_readGate_123 : decode cX9_readGate 123 = .ok (.iconst 3, 1) := by decide +kernel
theorem dX9_readGate_124 : decode cX9_readGate 124 = .ok (.iadd, 1) := by decide +kernel
theorem dX9_readGate_125 : decode cX9_readGate 125 = .ok (.iaload, 1) := by decide +kernel
theorem dX9_readGate_126 : decode cX9_readGate 126 = .ok (.if_icmp .eq 33, 3) := by decide +kernel
theorem dX9_readGate_129 : decode cX9_readGate 129 = .ok (.aload_n 0, 1) := by decide +kernel
theorem dX9_readGate_130 : decode cX9_readGate 130 = .ok (.getfield 35, 3) := by decide +kernel
theorem dX9_readGate_133 : decode cX9_readGate 133 = .ok (.iload_n 2, 1) := by decide +kernel
theorem dX9_readGate_134 : decode cX9_readGate 134 = .ok (.iconst 0, 1) := by decide +kernel
theorem dX9_readGate_135 : decode cX9_readGate 135 = .ok (.iadd, 1) := by decide +kernel
theorem dX9_readGate_136 : decode cX9_readGate 136 = .ok (.iaload, 1) := by decide +kernel
theorem dX9_readGate_137 : decode cX9_readGate 137 = .ok (.ifCond .eq 26, 3) := by decide +kernel
theorem dX9_readGate_140 : decode cX9_readGate 140 = .ok (.aload_n 0, 1) := by decide +kernel
theorem dX9_readGate_141 : decode cX9_readGate 141 = .ok (.getfield 35, 3) := by decide +kernel
theorem dX9_readGate_144 : decode cX9_readGate 144 = .ok (.iload_n 2, 1) := by decide +kernel
theorem dX9_readGate_145 : decode cX9_readGate 145 = .ok (.iconst 2, 1) := by decide +kernel
theorem dX9_readGate_146 : decode cX9_readGate 146 = .ok (.iadd, 1) := by decide +kernel
theorem dX9_readGate_147 : decode cX9_readGate 147 = .ok (.iaload, 1) := by decide +kernel
theorem dX9_readGate_148 : decode cX9_readGate 148 = .ok (.aload_n 0, 1) := by decide +kernel
theorem dX9_readGate_149 : decode cX9_readGate 149 = .ok (.getfield 35, 3) := by decide +kernel
theorem dX9_readGate_152 : decode cX9_readGate 152 = .ok (.iload_n 2, 1) := by decide +kernel
theorem dX9_readGate_153 : decode cX9_readGate 153 = .ok (.iconst 3, 1) := by decide +kernel
theorem dX9_readGate_154 : decode cX9_readGate 154 = .ok (.iadd, 1) := by decide +kernel
theorem dX9_readGate_155 : decode cX9_readGate 155 = .ok (.iaload, 1) := by decide +kernel
theorem dX9_readGate_156 : decode cX9_readGate 156 = .ok (.if_icmp .ne 7, 3) := by decide +kernel
theorem dX9_readGate_159 : decode cX9_readGate 159 = .ok (.iconst 1, 1) := by decide +kernel
theorem dX9_readGate_160 : decode cX9_readGate 160 = .ok (.goto 4, 3) := by decide +kernel
theorem dX9_readGate_163 : decode cX9_readGate 163 = .ok (.iconst 0, 1) := by decide +kernel
theorem dX9_readGate_164 : decode cX9_readGate 164 = .ok (.istore_n 3, 1) := by decide +kernel
theorem dX9_readGate_165 : decode cX9_readGate 165 = .ok (.iload_n 3, 1) := by decide +kernel
theorem dX9_readGate_166 : decode cX9_readGate 166 = .ok (.ifCond .eq 23, 3) := by decide +kernel
theorem dX9_readGate_169 : decode cX9_readGate 169 = .ok (.aload_n 0, 1) := by decide +kernel
theorem dX9_readGate_170 : decode cX9_readGate 170 = .ok (.getfield 35, 3) := by decide +kernel
theorem dX9_readGate_173 : decode cX9_readGate 173 = .ok (.iload_n 2, 1) := by decide +kernel
theorem dX9_readGate_174 : decode cX9_readGate 174 = .ok (.iconst 4, 1) := by decide +kernel
theorem dX9_readGate_175 : decode cX9_readGate 175 = .ok (.iadd, 1) := by decide +kernel
theorem dX9_readGate_176 : decode cX9_readGate 176 = .ok (.iaload, 1) := by decide +kernel
theorem dX9_readGate_177 : decode cX9_readGate 177 = .ok (.ifCond .ne 12, 3) := by decide +kernel
theorem dX9_readGate_180 : decode cX9_readGate 180 = .ok (.aload_n 0, 1) := by decide +kernel
theorem dX9_readGate_181 : decode cX9_readGate 181 = .ok (.iconst 4, 1) := by decide +kernel
theorem dX9_readGate_182 : decode cX9_readGate 182 = .ok (.aload_n 0, 1) := by decide +kernel
theorem dX9_readGate_183 : decode cX9_readGate 183 = .ok (.getfield 122, 3) := by decide +kernel
theorem dX9_readGate_186 : decode cX9_readGate 186 = .ok (.invokevirtual 119, 3) := by decide +kernel
theorem dX9_readGate_189 : decode cX9_readGate 189 = .ok (.aload_n 0, 1) := by decide +kernel
theorem dX9_readGate_190 : decode cX9_readGate 190 = .ok (.getfield 35, 3) := by decide +kernel
theorem dX9_readGate_193 : decode cX9_readGate 193 = .ok (.iload_n 2, 1) := by decide +kernel
theorem dX9_readGate_194 : decode cX9_readGate 194 = .ok (.iconst 5, 1) := by decide +kernel
theorem dX9_readGate_195 : decode cX9_readGate 195 = .ok (.iadd, 1) := by decide +kernel
theorem dX9_readGate_196 : decode cX9_readGate 196 = .ok (.aload_n 0, 1) := by decide +kernel
theorem dX9_readGate_197 : decode cX9_readGate 197 = .ok (.iconst 0, 1) := by decide +kernel
theorem dX9_readGate_198 : decode cX9_readGate 198 = .ok (.iconst 1, 1) := by decide +kernel
theorem dX9_readGate_199 : decode cX9_readGate 199 = .ok (.invokevirtual 128, 3) := by decide +kernel
theorem dX9_readGate_202 : decode cX9_readGate 202 = .ok (.iastore, 1) := by decide +kernel
theorem dX9_readGate_203 : decode cX9_readGate 203 = .ok (.aload_n 0, 1) := by decide +kernel
theorem dX9_readGate_204 : decode cX9_readGate 204 = .ok (.dup, 1) := by decide +kernel
theorem dX9_readGate_205 : decode cX9_readGate 205 = .ok (.getfield 131, 3) := by decide +kernel
theorem dX9_readGate_208 : decode cX9_readGate 208 = .ok (.iconst 1, 1) := by decide +kernel
theorem dX9_readGate_209 : decode cX9_readGate 209 = .ok (.iadd, 1) := by decide +kernel
theorem dX9_readGate_210 : decode cX9_readGate 210 = .ok (.putfield 131, 3) := by decide +kernel
theorem dX9_readGate_213 : decode cX9_readGate 213 = .ok (.return_, 1) := by decide +kernel
theorem dX9_readClause_0 : decode cX9_readClause 0 = .ok (.aload_n 0, 1) := by decide +kernel
theorem dX9_readClause_1 : decode cX9_readClause 1 = .ok (.invokevirtual 115, 3) := by decide +kernel
theorem dX9_readClause_4 : decode cX9_readClause 4 = .ok (.istore_n 1, 1) := by decide +kernel
theorem dX9_readClause_5 : decode cX9_readClause 5 = .ok (.aload_n 0, 1) := by decide +kernel
theorem dX9_readClause_6 : decode cX9_readClause 6 = .ok (.getfield 112, 3) := by decide +kernel
theorem dX9_readClause_9 : decode cX9_readClause 9 = .ok (.istore_n 2, 1) := by decide +kernel
theorem dX9_readClause_10 : decode cX9_readClause 10 = .ok (.aload_n 0, 1) := by decide +kernel
theorem dX9_readClause_11 : decode cX9_readClause 11 = .ok (.dup, 1) := by decide +kernel
theorem dX9_readClause_12 : decode cX9_readClause 12 = .ok (.getfield 112, 3) := by decide +kernel
theorem dX9_readClause_15 : decode cX9_readClause 15 = .ok (.iconst 1, 1) := by decide +kernel
theorem dX9_readClause_16 : decode cX9_readClause 16 = .ok (.iadd, 1) := by decide +kernel
theorem dX9_readClause_17 : decode cX9_readClause 17 = .ok (.putfield 112, 3) := by decide +kernel
theorem dX9_readClause_20 : decode cX9_readClause 20 = .ok (.iload_n 1, 1) := by decide +kernel
theorem dX9_readClause_21 : decode cX9_readClause 21 = .ok (.bipush 119, 2) := by decide +kernel
theorem dX9_readClause_23 : decode cX9_readClause 23 = .ok (.if_icmp .ne 11, 3) := by decide +kernel
theorem dX9_readClause_26 : decode cX9_readClause 26 = .ok (.aload_n 0, 1) := by decide +kernel
theorem dX9_readClause_27 : decode cX9_readClause 27 = .ok (.iload_n 2, 1) := by decide +kernel
theorem dX9_readClause_28 : decode cX9_readClause 28 = .ok (.invokevirtual 134, 3) := by decide +kernel
theorem dX9_readClause_31 : decode cX9_readClause 31 = .ok (.goto 23, 3) := by decide +kernel
theorem dX9_readClause_34 : decode cX9_readClause 34 = .ok (.iload_n 1, 1) := by decide +kernel
theorem dX9_readClause_35 : decode cX9_readClause 35 = .ok (.bipush 103, 2) := by decide +kernel
theorem dX9_readClause_37 : decode cX9_readClause 37 = .ok (.if_icmp .ne 11, 3) := by decide +kernel
theorem dX9_readClause_40 : decode cX9_readClause 40 = .ok (.aload_n 0, 1) := by decide +kernel
theorem dX9_readClause_41 : decode cX9_readClause 41 = .ok (.iload_n 2, 1) := by decide +kernel
theorem dX9_readClause_42 : decode cX9_readClause 42 = .ok (.invokevirtual 137, 3) := by decide +kernel
theorem dX9_readClause_45 : decode cX9_readClause 45 = .ok (.goto 9, 3) := by decide +kernel
theorem dX9_readClause_48 : decode cX9_readClause 48 = .ok (.aload_n 0, 1) := by decide +kernel
theorem dX9_readClause_49 : decode cX9_readClause 49 = .ok (.iconst 1, 1) := by decide +kernel
theorem dX9_readClause_50 : decode cX9_readClause 50 = .ok (.iload_n 2, 1) := by decide +kernel
theorem dX9_readClause_51 : decode cX9_readClause 51 = .ok (.invokevirtual 119, 3) := by decide +kernel
theorem dX9_readClause_54 : decode cX9_readClause 54 = .ok (.aload_n 0, 1) := by decide +kernel
theorem dX9_readClause_55 : decode cX9_readClause 55 = .ok (.getfield 106, 3) := by decide +kernel
theorem dX9_readClause_58 : decode cX9_readClause 58 = .ok (.ifCond .ne 21, 3) := by decide +kernel
theorem dX9_readClause_61 : decode cX9_readClause 61 = .ok (.aload_n 0, 1) := by decide +kernel
theorem dX9_readClause_62 : decode cX9_readClause 62 = .ok (.invokevirtual 115, 3) := by decide +kernel
theorem dX9_readClause_65 : decode cX9_readClause 65 = .ok (.bipush 59, 2) := by decide +kernel
theorem dX9_readClause_67 : decode cX9_readClause 67 = .ok (.if_icmp .eq 12, 3) := by decide +kernel
theorem dX9_readClause_70 : decode cX9_readClause 70 = .ok (.aload_n 0, 1) := by decide +kernel
theorem dX9_readClause_71 : decode cX9_readClause 71 = .ok (.iconst 1, 1) := by decide +kernel
theorem dX9_readClause_72 : decode cX9_readClause 72 = .ok (.aload_n 0, 1) := by decide +kernel
theorem dX9_readClause_73 : decode cX9_readClause 73 = .ok (.getfield 112, 3) := by decide +kernel
theorem dX9_readClause_76 : decode cX9_readClause 76 = .ok (.invokevirtual 119, 3) := by decide +kernel
theorem dX9_readClause_79 : decode cX9_readClause 79 = .ok (.aload_n 0, 1) := by decide +kernel
theorem dX9_readClause_80 : decode cX9_readClause 80 = .ok (.dup, 1) := by decide +kernel
theorem dX9_readClause_81 : decode cX9_readClause 81 = .ok (.getfield 112, 3) := by decide +kernel
theorem dX9_readClause_84 : decode cX9_readClause 84 = .ok (.iconst 1, 1) := by decide +kernel
theorem dX9_readClause_85 : decode cX9_readClause 85 = .ok (.iadd, 1) := by decide +kernel
theorem dX9_readClause_86 : decode cX9_readClause 86 = .ok (.putfield 112, 3) := by decide +kernel
theorem dX9_readClause_89 : decode cX9_readClause 89 = .ok (.return_, 1) := by decide +kernel
theorem dX9_begin_0 : decode cX9_begin 0 = .ok (.aload_n 0, 1) := by decide +kernel
theorem dX9_begin_1 : decode cX9_begin 1 = .ok (.aload_n 0, 1) := by decide +kernel
theorem dX9_begin_2 : decode cX9_begin 2 = .ok (.getfield 125, 3) := by decide +kernel
theorem dX9_begin_5 : decode cX9_begin 5 = .ok (.putfield 38, 3) := by decide +kernel
theorem dX9_begin_8 : decode cX9_begin 8 = .ok (.aload_n 0, 1) := by decide +kernel
theorem dX9_begin_9 : decode cX9_begin 9 = .ok (.aload_n 0, 1) := by decide +kernel
theorem dX9_begin_10 : decode cX9_begin 10 = .ok (.getfield 131, 3) := by decide +kernel
theorem dX9_begin_13 : decode cX9_begin 13 = .ok (.putfield 45, 3) := by decide +kernel
theorem dX9_begin_16 : decode cX9_begin 16 = .ok (.iconst 0, 1) := by decide +kernel
theorem dX9_begin_17 : decode cX9_begin 17 = .ok (.istore_n 1, 1) := by decide +kernel
theorem dX9_begin_18 : decode cX9_begin 18 = .ok (.iload_n 1, 1) := by decide +kernel
theorem dX9_begin_19 : decode cX9_begin 19 = .ok (.sipush 344, 3) := by decide +kernel
theorem dX9_begin_22 : decode cX9_begin 22 = .ok (.if_icmp .ge 16, 3) := by decide +kernel
theorem dX9_begin_25 : decode cX9_begin 25 = .ok (.aload_n 0, 1) := by decide +kernel
theorem dX9_begin_26 : decode cX9_begin 26 = .ok (.getfield 7, 3) := by decide +kernel
theorem dX9_begin_29 : decode cX9_begin 29 = .ok (.iload_n 1, 1) := by decide +kernel
theorem dX9_begin_30 : decode cX9_begin 30 = .ok (.iconst 0, 1) := by decide +kernel
theorem dX9_begin_31 : decode cX9_begin 31 = .ok (.iastore, 1) := by decide +kernel
theorem dX9_begin_32 : decode cX9_begin 32 = .ok (.iinc 1 1, 3) := by decide +kernel
theorem dX9_begin_35 : decode cX9_begin 35 = .ok (.goto (-17), 3) := by decide +kernel
theorem dX9_begin_38 : decode cX9_begin 38 = .ok (.iconst 0, 1) := by decide +kernel
theorem dX9_begin_39 : decode cX9_begin 39 = .ok (.istore_n 1, 1) := by decide +kernel
theorem dX9_begin_40 : decode cX9_begin 40 = .ok (.iload_n 1, 1) := by decide +kernel
theorem dX9_begin_41 : decode cX9_begin 41 = .ok (.bipush 8, 2) := by decide +kernel
theorem dX9_begin_43 : decode cX9_begin 43 = .ok (.if_icmp .ge 34, 3) := by decide +kernel
theorem dX9_begin_46 : decode cX9_begin 46 = .ok (.aload_n 0, 1) := by decide +kernel
theorem dX9_begin_47 : decode cX9_begin 47 = .ok (.getfield 7, 3) := by decide +kernel
theorem dX9_begin_50 : decode cX9_begin 50 = .ok (.bipush 8, 2) := by decide +kernel
theorem dX9_begin_52 : decode cX9_begin 52 = .ok (.iload_n 1, 1) := by decide +kernel
theorem dX9_begin_53 : decode cX9_begin 53 = .ok (.iadd, 1) := by decide +kernel
theorem dX9_begin_54 : decode cX9_begin 54 = .ok (.aload_n 0, 1) := by decide +kernel
theorem dX9_begin_55 : decode cX9_begin 55 = .ok (.getfield 32, 3) := by decide +kernel
theorem dX9_begin_58 : decode cX9_begin 58 = .ok (.iload_n 1, 1) := by decide +kernel
theorem dX9_begin_59 : decode cX9_begin 59 = .ok (.iaload, 1) := by decide +kernel
theorem dX9_begin_60 : decode cX9_begin 60 = .ok (.iastore, 1) := by decide +kernel
theorem dX9_begin_61 : decode cX9_begin 61 = .ok (.aload_n 0, 1) := by decide +kernel
theorem dX9_begin_62 : decode cX9_begin 62 = .ok (.getfield 7, 3) := by decide +kernel
theorem dX9_begin_65 : decode cX9_begin 65 = .ok (.bipush 24, 2) := by decide +kernel
theorem dX9_begin_67 : decode cX9_begin 67 = .ok (.iload_n 1, 1) := by decide +kernel
theorem dX9_begin_68 : decode cX9_begin 68 = .ok (.iadd, 1) := by decide +kernel
theorem dX9_begin_69 : decode cX9_begin 69 = .ok (.iconst (-1), 1) := by decide +kernel
theorem dX9_begin_70 : decode cX9_begin 70 = .ok (.iastore, 1) := by decide +kernel
theorem dX9_begin_71 : decode cX9_begin 71 = .ok (.iinc 1 1, 3) := by decide +kernel
theorem dX9_begin_74 : decode cX9_begin 74 = .ok (.goto (-34), 3) := by decide +kernel
theorem dX9_begin_77 : decode cX9_begin 77 = .ok (.iconst 0, 1) := by decide +kernel
theorem dX9_begin_78 : decode cX9_begin 78 = .ok (.istore_n 1, 1) := by decide +kernel
theorem dX9_begin_79 : decode cX9_begin 79 = .ok (.iload_n 1, 1) := by decide +kernel
theorem dX9_begin_80 : decode cX9_begin 80 = .ok (.bipush 6, 2) := by decide +kernel
theorem dX9_begin_82 : decode cX9_begin 82 = .ok (.aload_n 0, 1) := by decide +kernel
theorem dX9_begin_83 : decode cX9_begin 83 = .ok (.getfield 45, 3) := by decide +kernel
theorem dX9_begin_86 : decode cX9_begin 86 = .ok (.imul, 1) := by decide +kernel
theorem dX9_begin_87 : decode cX9_begin 87 = .ok (.if_icmp .ge 21, 3) := by decide +kernel
theorem dX9_begin_90 : decode cX9_begin 90 = .ok (.aload_n 0, 1) := by decide +kernel
theorem dX9_begin_91 : decode cX9_begin 91 = .ok (.getfield 13, 3) := by decide +kernel
theorem dX9_begin_94 : decode cX9_begin 94 = .ok (.iload_n 1, 1) := by decide +kernel
theorem dX9_begin_95 : decode cX9_begin 95 = .ok (.aload_n 0, 1) := by decide +kernel
theorem dX9_begin_96 : decode cX9_begin 96 = .ok (.getfield 35, 3) := by decide +kernel
theorem dX9_begin_99 : decode cX9_begin 99 = .ok (.iload_n 1, 1) := by decide +kernel
theorem dX9_begin_100 : decode cX9_begin 100 = .ok (.iaload, 1) := by decide +kernel
theorem dX9_begin_101 : decode cX9_begin 101 = .ok (.iastore, 1) := by decide +kernel
theorem dX9_begin_102 : decode cX9_begin 102 = .ok (.iinc 1 1, 3) := by decide +kernel
theorem dX9_begin_105 : decode cX9_begin 105 = .ok (.goto (-26), 3) := by decide +kernel
theorem dX9_begin_108 : decode cX9_begin 108 = .ok (.iconst 0, 1) := by decide +kernel
theorem dX9_begin_109 : decode cX9_begin 109 = .ok (.istore_n 1, 1) := by decide +kernel
theorem dX9_begin_110 : decode cX9_begin 110 = .ok (.iload_n 1, 1) := by decide +kernel
theorem dX9_begin_111 : decode cX9_begin 111 = .ok (.aload_n 0, 1) := by decide +kernel
theorem dX9_begin_112 : decode cX9_begin 112 = .ok (.getfield 45, 3) := by decide +kernel
theorem dX9_begin_115 : decode cX9_begin 115 = .ok (.if_icmp .ge 33, 3) := by decide +kernel
theorem dX9_begin_118 : decode cX9_begin 118 = .ok (.aload_n 0, 1) := by decide +kernel
theorem dX9_begin_119 : decode cX9_begin 119 = .ok (.getfield 7, 3) := by decide +kernel
theorem dX9_begin_122 : decode cX9_begin 122 = .ok (.sipush 176, 3) := by decide +kernel
theorem dX9_begin_125 : decode cX9_begin 125 = .ok (.iload_n 1, 1) := by decide +kernel
theorem dX9_begin_126 : decode cX9_begin 126 = .ok (.iadd, 1) := by decide +kernel
theorem dX9_begin_127 : decode cX9_begin 127 = .ok (.aload_n 0, 1) := by decide +kernel
theorem dX9_begin_128 : decode cX9_begin 128 = .ok (.getfield 7, 3) := by decide +kernel
theorem dX9_begin_131 : decode cX9_begin 131 = .ok (.bipush 8, 2) := by decide +kernel
theorem dX9_begin_133 : decode cX9_begin 133 = .ok (.aload_n 0, 1) := by decide +kernel
theorem dX9_begin_134 : decode cX9_begin 134 = .ok (.iload_n 1, 1) := by decide +kernel
theorem dX9_begin_135 : decode cX9_begin 135 = .ok (.iconst 3, 1) := by decide +kernel
theorem dX9_begin_136 : decode cX9_begin 136 = .ok (.invokevirtual 52, 3) := by decide +kernel
theorem dX9_begin_139 : decode cX9_begin 139 = .ok (.iadd, 1) := by decide +kernel
theorem dX9_begin_140 : decode cX9_begin 140 = .ok (.iaload, 1) := by decide +kernel
theorem dX9_begin_141 : decode cX9_begin 141 = .ok (.iastore, 1) := by decide +kernel
theorem dX9_begin_142 : decode cX9_begin 142 = .ok (.iinc 1 1, 3) := by decide +kernel
theorem dX9_begin_145 : decode cX9_begin 145 = .ok (.goto (-35), 3) := by decide +kernel
theorem dX9_begin_148 : decode cX9_begin 148 = .ok (.aload_n 0, 1) := by decide +kernel
theorem dX9_begin_149 : decode cX9_begin 149 = .ok (.iconst 0, 1) := by decide +kernel
theorem dX9_begin_150 : decode cX9_begin 150 = .ok (.invokevirtual 140, 3) := by decide +kernel
theorem dX9_begin_153 : decode cX9_begin 153 = .ok (.aload_n 0, 1) := by decide +kernel
theorem dX9_begin_154 : decode cX9_begin 154 = .ok (.iconst 0, 1) := by decide +kernel
theorem dX9_begin_155 : decode cX9_begin 155 = .ok (.putfield 143, 3) := by decide +kernel
theorem dX9_begin_158 : decode cX9_begin 158 = .ok (.aload_n 0, 1) := by decide +kernel
theorem dX9_begin_159 : decode cX9_begin 159 = .ok (.iconst 0, 1) := by decide +kernel
theorem dX9_begin_160 : decode cX9_begin 160 = .ok (.putfield 146, 3) := by decide +kernel
theorem dX9_begin_163 : decode cX9_begin 163 = .ok (.aload_n 0, 1) := by decide +kernel
theorem dX9_begin_164 : decode cX9_begin 164 = .ok (.iconst 0, 1) := by decide +kernel
theorem dX9_begin_165 : decode cX9_begin 165 = .ok (.putfield 149, 3) := by decide +kernel
theorem dX9_begin_168 : decode cX9_begin 168 = .ok (.return_, 1) := by decide +kernel
theorem dX9_wires_0 : decode cX9_wires 0 = .ok (.aload_n 0, 1) := by decide +kernel
theorem dX9_wires_1 : decode cX9_wires 1 = .ok (.iconst 0, 1) := by decide +kernel
theorem dX9_wires_2 : decode cX9_wires 2 = .ok (.putfield 112, 3) := by decide +kernel
theorem dX9_wires_5 : decode cX9_wires 5 = .ok (.aload_n 0, 1) := by decide +kernel
theorem dX9_wires_6 : decode cX9_wires 6 = .ok (.iconst 0, 1) := by decide +kernel
theorem dX9_wires_7 : decode cX9_wires 7 = .ok (.putfield 106, 3) := by decide +kernel
theorem dX9_wires_10 : decode cX9_wires 10 = .ok (.aload_n 0, 1) := by decide +kernel
theorem dX9_wires_11 : decode cX9_wires 11 = .ok (.iconst 0, 1) := by decide +kernel
theorem dX9_wires_12 : decode cX9_wires 12 = .ok (.putfield 125, 3) := by decide +kernel
theorem dX9_wires_15 : decode cX9_wires 15 = .ok (.aload_n 0, 1) := by decide +kernel
theorem dX9_wires_16 : decode cX9_wires 16 = .ok (.iconst 0, 1) := by decide +kernel
theorem dX9_wires_17 : decode cX9_wires 17 = .ok (.putfield 131, 3) := by decide +kernel
theorem dX9_wires_20 : decode cX9_wires 20 = .ok (.aload_n 0, 1) := by decide +kernel
theorem dX9_wires_21 : decode cX9_wires 21 = .ok (.iconst (-1), 1) := by decide +kernel
theorem dX9_wires_22 : decode cX9_wires 22 = .ok (.putfield 28, 3) := by decide +kernel
theorem dX9_wires_25 : decode cX9_wires 25 = .ok (.aload_n 0, 1) := by decide +kernel
theorem dX9_wires_26 : decode cX9_wires 26 = .ok (.getfield 106, 3) := by decide +kernel
theorem dX9_wires_29 : decode cX9_wires 29 = .ok (.ifCond .ne 18, 3) := by decide +kernel
theorem dX9_wires_32 : decode cX9_wires 32 = .ok (.aload_n 0, 1) := by decide +kernel
theorem dX9_wires_33 : decode cX9_wires 33 = .ok (.invokevirtual 115, 3) := by decide +kernel
theorem dX9_wires_36 : decode cX9_wires 36 = .ok (.iconst (-1), 1) := by decide +kernel
theorem dX9_wires_37 : decode cX9_wires 37 = .ok (.if_icmp .eq 10, 3) := by decide +kernel
theorem dX9_wires_40 : decode cX9_wires 40 = .ok (.aload_n 0, 1) := by decide +kernel
theorem dX9_wires_41 : decode cX9_wires 41 = .ok (.invokevirtual 152, 3) := by decide +kernel
theorem dX9_wires_44 : decode cX9_wires 44 = .ok (.goto (-19), 3) := by decide +kernel
theorem dX9_wires_47 : decode cX9_wires 47 = .ok (.aload_n 0, 1) := by decide +kernel
theorem dX9_wires_48 : decode cX9_wires 48 = .ok (.iconst 0, 1) := by decide +kernel
theorem dX9_wires_49 : decode cX9_wires 49 = .ok (.putfield 102, 3) := by decide +kernel
theorem dX9_wires_52 : decode cX9_wires 52 = .ok (.aload_n 0, 1) := by decide +kernel
theorem dX9_wires_53 : decode cX9_wires 53 = .ok (.getfield 106, 3) := by decide +kernel
theorem dX9_wires_56 : decode cX9_wires 56 = .ok (.ifCond .eq 19, 3) := by decide +kernel
theorem dX9_wires_59 : decode cX9_wires 59 = .ok (.aload_n 0, 1) := by decide +kernel
theorem dX9_wires_60 : decode cX9_wires 60 = .ok (.aload_n 0, 1) := by decide +kernel
theorem dX9_wires_61 : decode cX9_wires 61 = .ok (.getfield 109, 3) := by decide +kernel
theorem dX9_wires_64 : decode cX9_wires 64 = .ok (.putfield 28, 3) := by decide +kernel
theorem dX9_wires_67 : decode cX9_wires 67 = .ok (.bipush (-10), 2) := by decide +kernel
theorem dX9_wires_69 : decode cX9_wires 69 = .ok (.aload_n 0, 1) := by decide +kernel
theorem dX9_wires_70 : decode cX9_wires 70 = .ok (.getfield 106, 3) := by decide +kernel
theorem dX9_wires_73 : decode cX9_wires 73 = .ok (.isub, 1) := by decide +kernel
theorem dX9_wires_74 : decode cX9_wires 74 = .ok (.ireturn, 1) := by decide +kernel
theorem dX9_wires_75 : decode cX9_wires 75 = .ok (.aload_n 0, 1) := by decide +kernel
theorem dX9_wires_76 : decode cX9_wires 76 = .ok (.invokevirtual 155, 3) := by decide +kernel
theorem dX9_wires_79 : decode cX9_wires 79 = .ok (.aload_n 0, 1) := by decide +kernel
theorem dX9_wires_80 : decode cX9_wires 80 = .ok (.getfield 38, 3) := by decide +kernel
theorem dX9_wires_83 : decode cX9_wires 83 = .ok (.ireturn, 1) := by decide +kernel
theorem dX9_fault_0 : decode cX9_fault 0 = .ok (.aload_n 0, 1) := by decide +kernel
theorem dX9_fault_1 : decode cX9_fault 1 = .ok (.getfield 28, 3) := by decide +kernel
theorem dX9_fault_4 : decode cX9_fault 4 = .ok (.ireturn, 1) := by decide +kernel
theorem dX9_isStill_0 : decode cX9_isStill 0 = .ok (.aload_n 0, 1) := by decide +kernel
theorem dX9_isStill_1 : decode cX9_isStill 1 = .ok (.iload_n 1, 1) := by decide +kernel
theorem dX9_isStill_2 : decode cX9_isStill 2 = .ok (.invokevirtual 95, 3) := by decide +kernel
theorem dX9_isStill_5 : decode cX9_isStill 5 = .ok (.iconst (-1), 1) := by decide +kernel
theorem dX9_isStill_6 : decode cX9_isStill 6 = .ok (.if_icmp .ne 7, 3) := by decide +kernel
theorem dX9_isStill_9 : decode cX9_isStill 9 = .ok (.iconst 1, 1) := by decide +kernel
theorem dX9_isStill_10 : decode cX9_isStill 10 = .ok (.goto 4, 3) := by decide +kernel
theorem dX9_isStill_13 : decode cX9_isStill 13 = .ok (.iconst 0, 1) := by decide +kernel
theorem dX9_isStill_14 : decode cX9_isStill 14 = .ok (.ireturn, 1) := by decide +kernel
theorem dX9_holds_0 : decode cX9_holds 0 = .ok (.iconst 0, 1) := by decide +kernel
theorem dX9_holds_1 : decode cX9_holds 1 = .ok (.istore_n 1, 1) := by decide +kernel
theorem dX9_holds_2 : decode cX9_holds 2 = .ok (.iconst 0, 1) := by decide +kernel
theorem dX9_holds_3 : decode cX9_holds 3 = .ok (.istore_n 2, 1) := by decide +kernel
theorem dX9_holds_4 : decode cX9_holds 4 = .ok (.iload_n 2, 1) := by decide +kernel
theorem dX9_holds_5 : decode cX9_holds 5 = .ok (.aload_n 0, 1) := by decide +kernel
theorem dX9_holds_6 : decode cX9_holds 6 = .ok (.getfield 45, 3) := by decide +kernel
theorem dX9_holds_9 : decode cX9_holds 9 = .ok (.if_icmp .ge 38, 3) := by decide +kernel
theorem dX9_holds_12 : decode cX9_holds 12 = .ok (.iload_n 1, 1) := by decide +kernel
theorem dX9_holds_13 : decode cX9_holds 13 = .ok (.aload_n 0, 1) := by decide +kernel
theorem dX9_holds_14 : decode cX9_holds 14 = .ok (.getfield 7, 3) := by decide +kernel
theorem dX9_holds_17 : decode cX9_holds 17 = .ok (.sipush 176, 3) := by decide +kernel
theorem dX9_holds_20 : decode cX9_holds 20 = .ok (.iload_n 2, 1) := by decide +kernel
theorem dX9_holds_21 : decode cX9_holds 21 = .ok (.iadd, 1) := by decide +kernel
theorem dX9_holds_22 : decode cX9_holds 22 = .ok (.iaload, 1) := by decide +kernel
theorem dX9_holds_23 : decode cX9_holds 23 = .ok (.aload_n 0, 1) := by decide +kernel
theorem dX9_holds_24 : decode cX9_holds 24 = .ok (.iconst 0, 1) := by decide +kernel
theorem dX9_holds_25 : decode cX9_holds 25 = .ok (.iload_n 2, 1) := by decide +kernel
theorem dX9_holds_26 : decode cX9_holds 26 = .ok (.invokevirtual 63, 3) := by decide +kernel
theorem dX9_holds_29 : decode cX9_holds 29 = .ok (.if_icmp .ne 9, 3) := by decide +kernel
theorem dX9_holds_32 : decode cX9_holds 32 = .ok (.iconst 1, 1) := by decide +kernel
theorem dX9_holds_33 : decode cX9_holds 33 = .ok (.iload_n 2, 1) := by decide +kernel
theorem dX9_holds_34 : decode cX9_holds 34 = .ok (.ishl, 1) := by decide +kernel
theorem dX9_holds_35 : decode cX9_holds 35 = .ok (.goto 4, 3) := by decide +kernel
theorem dX9_holds_38 : decode cX9_holds 38 = .ok (.iconst 0, 1) := by decide +kernel
theorem dX9_holds_39 : decode cX9_holds 39 = .ok (.ior, 1) := by decide +kernel
theorem dX9_holds_40 : decode cX9_holds 40 = .ok (.istore_n 1, 1) := by decide +kernel
theorem dX9_holds_41 : decode cX9_holds 41 = .ok (.iinc 2 1, 3) := by decide +kernel
theorem dX9_holds_44 : decode cX9_holds 44 = .ok (.goto (-40), 3) := by decide +kernel
theorem dX9_holds_47 : decode cX9_holds 47 = .ok (.iload_n 1, 1) := by decide +kernel
theorem dX9_holds_48 : decode cX9_holds 48 = .ok (.ireturn, 1) := by decide +kernel
theorem dX9_flickers_0 : decode cX9_flickers 0 = .ok (.iconst 0, 1) := by decide +kernel
theorem dX9_flickers_1 : decode cX9_flickers 1 = .ok (.istore_n 1, 1) := by decide +kernel
theorem dX9_flickers_2 : decode cX9_flickers 2 = .ok (.iconst 0, 1) := by decide +kernel
theorem dX9_flickers_3 : decode cX9_flickers 3 = .ok (.istore_n 2, 1) := by decide +kernel
theorem dX9_flickers_4 : decode cX9_flickers 4 = .ok (.iload_n 2, 1) := by decide +kernel
theorem dX9_flickers_5 : decode cX9_flickers 5 = .ok (.aload_n 0, 1) := by decide +kernel
theorem dX9_flickers_6 : decode cX9_flickers 6 = .ok (.getfield 38, 3) := by decide +kernel
theorem dX9_flickers_9 : decode cX9_flickers 9 = .ok (.if_icmp .ge 23, 3) := by decide +kernel
theorem dX9_flickers_12 : decode cX9_flickers 12 = .ok (.iload_n 1, 1) := by decide +kernel
theorem dX9_flickers_13 : decode cX9_flickers 13 = .ok (.aload_n 0, 1) := by decide +kernel
theorem dX9_flickers_14 : decode cX9_flickers 14 = .ok (.getfield 7, 3) := by decide +kernel
theorem dX9_flickers_17 : decode cX9_flickers 17 = .ok (.bipush 32, 2) := by decide +kernel
theorem dX9_flickers_19 : decode cX9_flickers 19 = .ok (.iload_n 2, 1) := by decide +kernel
theorem dX9_flickers_20 : decode cX9_flickers 20 = .ok (.iadd, 1) := by decide +kernel
theorem dX9_flickers_21 : decode cX9_flickers 21 = .ok (.iaload, 1) := by decide +kernel
theorem dX9_flickers_22 : decode cX9_flickers 22 = .ok (.iload_n 2, 1) := by decide +kernel
theorem dX9_flickers_23 : decode cX9_flickers 23 = .ok (.ishl, 1) := by decide +kernel
theorem dX9_flickers_24 : decode cX9_flickers 24 = .ok (.ior, 1) := by decide +kernel
theorem dX9_flickers_25 : decode cX9_flickers 25 = .ok (.istore_n 1, 1) := by decide +kernel
theorem dX9_flickers_26 : decode cX9_flickers 26 = .ok (.iinc 2 1, 3) := by decide +kernel
theorem dX9_flickers_29 : decode cX9_flickers 29 = .ok (.goto (-25), 3) := by decide +kernel
theorem dX9_flickers_32 : decode cX9_flickers 32 = .ok (.iload_n 1, 1) := by decide +kernel
theorem dX9_flickers_33 : decode cX9_flickers 33 = .ok (.ireturn, 1) := by decide +kernel
theorem dX9_settles_0 : decode cX9_settles 0 = .ok (.aload_n 0, 1) := by decide +kernel
theorem dX9_settles_1 : decode cX9_settles 1 = .ok (.iconst 0, 1) := by decide +kernel
theorem dX9_settles_2 : decode cX9_settles 2 = .ok (.sipush 6536, 3) := by decide +kernel
theorem dX9_settles_5 : decode cX9_settles 5 = .ok (.invokevirtual 158, 3) := by decide +kernel
theorem dX9_settles_8 : decode cX9_settles 8 = .ok (.iconst 0, 1) := by decide +kernel
theorem dX9_settles_9 : decode cX9_settles 9 = .ok (.istore_n 1, 1) := by decide +kernel
theorem dX9_settles_10 : decode cX9_settles 10 = .ok (.iload_n 1, 1) := by decide +kernel
theorem dX9_settles_11 : decode cX9_settles 11 = .ok (.bipush 100, 2) := by decide +kernel
theorem dX9_settles_13 : decode cX9_settles 13 = .ok (.if_icmp .gt 39, 3) := by decide +kernel
theorem dX9_settles_16 : decode cX9_settles 16 = .ok (.aload_n 0, 1) := by decide +kernel
theorem dX9_settles_17 : decode cX9_settles 17 = .ok (.getfield 7, 3) := by decide +kernel
theorem dX9_settles_20 : decode cX9_settles 20 = .ok (.sipush 6538, 3) := by decide +kernel
theorem dX9_settles_23 : decode cX9_settles 23 = .ok (.iaload, 1) := by decide +kernel
theorem dX9_settles_24 : decode cX9_settles 24 = .ok (.ifCond .ne 28, 3) := by decide +kernel
theorem dX9_settles_27 : decode cX9_settles 27 = .ok (.aload_n 0, 1) := by decide +kernel
theorem dX9_settles_28 : decode cX9_settles 28 = .ok (.sipush 6536, 3) := by decide +kernel
theorem dX9_settles_31 : decode cX9_settles 31 = .ok (.invokevirtual 161, 3) := by decide +kernel
theorem dX9_settles_34 : decode cX9_settles 34 = .ok (.ifCond .eq 5, 3) := by decide +kernel
theorem dX9_settles_37 : decode cX9_settles 37 = .ok (.iload_n 1, 1) := by decide +kernel
theorem dX9_settles_38 : decode cX9_settles 38 = .ok (.ireturn, 1) := by decide +kernel
theorem dX9_settles_39 : decode cX9_settles 39 = .ok (.aload_n 0, 1) := by decide +kernel
theorem dX9_settles_40 : decode cX9_settles 40 = .ok (.sipush 6536, 3) := by decide +kernel
theorem dX9_settles_43 : decode cX9_settles 43 = .ok (.invokevirtual 165, 3) := by decide +kernel
theorem dX9_settles_46 : decode cX9_settles 46 = .ok (.iinc 1 1, 3) := by decide +kernel
theorem dX9_settles_49 : decode cX9_settles 49 = .ok (.goto (-39), 3) := by decide +kernel
theorem dX9_settles_52 : decode cX9_settles 52 = .ok (.iconst (-1), 1) := by decide +kernel
theorem dX9_settles_53 : decode cX9_settles 53 = .ok (.ireturn, 1) := by decide +kernel
theorem dX9_wrongEntry_0 : decode cX9_wrongEntry 0 = .ok (.iconst 0, 1) := by decide +kernel
theorem dX9_wrongEntry_1 : decode cX9_wrongEntry 1 = .ok (.istore_n 1, 1) := by decide +kernel
theorem dX9_wrongEntry_2 : decode cX9_wrongEntry 2 = .ok (.iload_n 1, 1) := by decide +kernel
theorem dX9_wrongEntry_3 : decode cX9_wrongEntry 3 = .ok (.aload_n 0, 1) := by decide +kernel
theorem dX9_wrongEntry_4 : decode cX9_wrongEntry 4 = .ok (.getfield 149, 3) := by decide +kernel
theorem dX9_wrongEntry_7 : decode cX9_wrongEntry 7 = .ok (.if_icmp .ge 47, 3) := by decide +kernel
theorem dX9_wrongEntry_10 : decode cX9_wrongEntry 10 = .ok (.aload_n 0, 1) := by decide +kernel
theorem dX9_wrongEntry_11 : decode cX9_wrongEntry 11 = .ok (.aload_n 0, 1) := by decide +kernel
theorem dX9_wrongEntry_12 : decode cX9_wrongEntry 12 = .ok (.getfield 19, 3) := by decide +kernel
theorem dX9_wrongEntry_15 : decode cX9_wrongEntry 15 = .ok (.iload_n 1, 1) := by decide +kernel
theorem dX9_wrongEntry_16 : decode cX9_wrongEntry 16 = .ok (.iaload, 1) := by decide +kernel
theorem dX9_wrongEntry_17 : decode cX9_wrongEntry 17 = .ok (.invokevirtual 168, 3) := by decide +kernel
theorem dX9_wrongEntry_20 : decode cX9_wrongEntry 20 = .ok (.ifCond .eq 26, 3) := by decide +kernel
theorem dX9_wrongEntry_23 : decode cX9_wrongEntry 23 = .ok (.aload_n 0, 1) := by decide +kernel
theorem dX9_wrongEntry_24 : decode cX9_wrongEntry 24 = .ok (.getfield 7, 3) := by decide +kernel
theorem dX9_wrongEntry_27 : decode cX9_wrongEntry 27 = .ok (.bipush 8, 2) := by decide +kernel
theorem dX9_wrongEntry_29 : decode cX9_wrongEntry 29 = .ok (.aload_n 0, 1) := by decide +kernel
theorem dX9_wrongEntry_30 : decode cX9_wrongEntry 30 = .ok (.getfield 19, 3) := by decide +kernel
theorem dX9_wrongEntry_33 : decode cX9_wrongEntry 33 = .ok (.iload_n 1, 1) := by decide +kernel
theorem dX9_wrongEntry_34 : decode cX9_wrongEntry 34 = .ok (.iaload, 1) := by decide +kernel
theorem dX9_wrongEntry_35 : decode cX9_wrongEntry 35 = .ok (.iadd, 1) := by decide +kernel
theorem dX9_wrongEntry_36 : decode cX9_wrongEntry 36 = .ok (.iaload, 1) := by decide +kernel
theorem dX9_wrongEntry_37 : decode cX9_wrongEntry 37 = .ok (.aload_n 0, 1) := by decide +kernel
theorem dX9_wrongEntry_38 : decode cX9_wrongEntry 38 = .ok (.getfield 22, 3) := by decide +kernel
theorem dX9_wrongEntry_41 : decode cX9_wrongEntry 41 = .ok (.iload_n 1, 1) := by decide +kernel
theorem dX9_wrongEntry_42 : decode cX9_wrongEntry 42 = .ok (.iaload, 1) := by decide +kernel
theorem dX9_wrongEntry_43 : decode cX9_wrongEntry 43 = .ok (.if_icmp .eq 5, 3) := by decide +kernel
theorem dX9_wrongEntry_46 : decode cX9_wrongEntry 46 = .ok (.iload_n 1, 1) := by decide +kernel
theorem dX9_wrongEntry_47 : decode cX9_wrongEntry 47 = .ok (.ireturn, 1) := by decide +kernel
theorem dX9_wrongEntry_48 : decode cX9_wrongEntry 48 = .ok (.iinc 1 1, 3) := by decide +kernel
theorem dX9_wrongEntry_51 : decode cX9_wrongEntry 51 = .ok (.goto (-49), 3) := by decide +kernel
theorem dX9_wrongEntry_54 : decode cX9_wrongEntry 54 = .ok (.iconst (-1), 1) := by decide +kernel
theorem dX9_wrongEntry_55 : decode cX9_wrongEntry 55 = .ok (.ireturn, 1) := by decide +kernel
theorem dX9_told_0 : decode cX9_told 0 = .ok (.iload_n 1, 1) := by decide +kernel
theorem dX9_told_1 : decode cX9_told 1 = .ok (.tableswitch 158 0 13 #[71, 76, 81, 86, 93, 100, 107, 121, 126, 131, 136, 143, 148, 153], 71) := by decide +kernel
theorem dX9_told_72 : decode cX9_told 72 = .ok (.aload_n 0, 1) := by decide +kernel
theorem dX9_told_73 : decode cX9_told 73 = .ok (.getfield 38, 3) := by decide +kernel
theorem dX9_told_76 : decode cX9_told 76 = .ok (.ireturn, 1) := by decide +kernel
theorem dX9_told_77 : decode cX9_told 77 = .ok (.aload_n 0, 1) := by decide +kernel
theorem dX9_told_78 : decode cX9_told 78 = .ok (.getfield 45, 3) := by decide +kernel
theorem dX9_told_81 : decode cX9_told 81 = .ok (.ireturn, 1) := by decide +kernel
theorem dX9_told_82 : decode cX9_told 82 = .ok (.aload_n 0, 1) := by decide +kernel
theorem dX9_told_83 : decode cX9_told 83 = .ok (.getfield 102, 3) := by decide +kernel
theorem dX9_told_86 : decode cX9_told 86 = .ok (.ireturn, 1) := by decide +kernel
theorem dX9_told_87 : decode cX9_told 87 = .ok (.aload_n 0, 1) := by decide +kernel
theorem dX9_told_88 : decode cX9_told 88 = .ok (.getfield 7, 3) := by decide +kernel
theorem dX9_told_91 : decode cX9_told 91 = .ok (.iconst 0, 1) := by decide +kernel
theorem dX9_told_92 : decode cX9_told 92 = .ok (.iaload, 1) := by decide +kernel
theorem dX9_told_93 : decode cX9_told 93 = .ok (.ireturn, 1) := by decide +kernel
theorem dX9_told_94 : decode cX9_told 94 = .ok (.aload_n 0, 1) := by decide +kernel
theorem dX9_told_95 : decode cX9_told 95 = .ok (.getfield 7, 3) := by decide +kernel
theorem dX9_told_98 : decode cX9_told 98 = .ok (.iconst 1, 1) := by decide +kernel
theorem dX9_told_99 : decode cX9_told 99 = .ok (.iaload, 1) := by decide +kernel
theorem dX9_told_100 : decode cX9_told 100 = .ok (.ireturn, 1) := by decide +kernel
theorem dX9_told_101 : decode cX9_told 101 = .ok (.aload_n 0, 1) := by decide +kernel
theorem dX9_told_102 : decode cX9_told 102 = .ok (.getfield 7, 3) := by decide +kernel
theorem dX9_told_105 : decode cX9_told 105 = .ok (.iconst 2, 1) := by decide +kernel
theorem dX9_told_106 : decode cX9_told 106 = .ok (.iaload, 1) := by decide +kernel
theorem dX9_told_107 : decode cX9_told 107 = .ok (.ireturn, 1) := by decide +kernel
theorem dX9_told_108 : decode cX9_told 108 = .ok (.aload_n 0, 1) := by decide +kernel
theorem dX9_told_109 : decode cX9_told 109 = .ok (.iconst 0, 1) := by decide +kernel
theorem dX9_told_110 : decode cX9_told 110 = .ok (.invokevirtual 161, 3) := by decide +kernel
theorem dX9_told_113 : decode cX9_told 113 = .ok (.ifCond .eq 7, 3) := by decide +kernel
theorem dX9_told_116 : decode cX9_told 116 = .ok (.iconst 1, 1) := by decide +kernel
theorem dX9_told_117 : decode cX9_told 117 = .ok (.goto 4, 3) := by decide +kernel
theorem dX9_told_120 : decode cX9_told 120 = .ok (.iconst 0, 1) := by decide +kernel
theorem dX9_told_121 : decode cX9_told 121 = .ok (.ireturn, 1) := by decide +kernel
theorem dX9_told_122 : decode cX9_told 122 = .ok (.aload_n 0, 1) := by decide +kernel
theorem dX9_told_123 : decode cX9_told 123 = .ok (.invokevirtual 171, 3) := by decide +kernel
theorem dX9_told_126 : decode cX9_told 126 = .ok (.ireturn, 1) := by decide +kernel
theorem dX9_told_127 : decode cX9_told 127 = .ok (.aload_n 0, 1) := by decide +kernel
theorem dX9_told_128 : decode cX9_told 128 = .ok (.invokevirtual 174, 3) := by decide +kernel
theorem dX9_told_131 : decode cX9_told 131 = .ok (.ireturn, 1) := by decide +kernel
theorem dX9_told_132 : decode cX9_told 132 = .ok (.aload_n 0, 1) := by decide +kernel
theorem dX9_told_133 : decode cX9_told 133 = .ok (.invokevirtual 177, 3) := by decide +kernel
theorem dX9_told_136 : decode cX9_told 136 = .ok (.ireturn, 1) := by decide +kernel
theorem dX9_told_137 : decode cX9_told 137 = .ok (.aload_n 0, 1) := by decide +kernel
theorem dX9_told_138 : decode cX9_told 138 = .ok (.getfield 7, 3) := by decide +kernel
theorem dX9_told_141 : decode cX9_told 141 = .ok (.iconst 3, 1) := by decide +kernel
theorem dX9_told_142 : decode cX9_told 142 = .ok (.iaload, 1) := by decide +kernel
theorem dX9_told_143 : decode cX9_told 143 = .ok (.ireturn, 1) := by decide +kernel
theorem dX9_told_144 : decode cX9_told 144 = .ok (.aload_n 0, 1) := by decide +kernel
theorem dX9_told_145 : decode cX9_told 145 = .ok (.getfield 149, 3) := by decide +kernel
theorem dX9_told_148 : decode cX9_told 148 = .ok (.ireturn, 1) := by decide +kernel
theorem dX9_told_149 : decode cX9_told 149 = .ok (.aload_n 0, 1) := by decide +kernel
theorem dX9_told_150 : decode cX9_told 150 = .ok (.invokevirtual 180, 3) := by decide +kernel
theorem dX9_told_153 : decode cX9_told 153 = .ok (.ireturn, 1) := by decide +kernel
theorem dX9_told_154 : decode cX9_told 154 = .ok (.aload_n 0, 1) := by decide +kernel
theorem dX9_told_155 : decode cX9_told 155 = .ok (.getfield 143, 3) := by decide +kernel
theorem dX9_told_158 : decode cX9_told 158 = .ok (.ireturn, 1) := by decide +kernel
theorem dX9_told_159 : decode cX9_told 159 = .ok (.ldc 101, 2) := by decide +kernel
theorem dX9_told_161 : decode cX9_told 161 = .ok (.ireturn, 1) := by decide +kernel
theorem dX9_lookersAt_0 : decode cX9_lookersAt 0 = .ok (.iconst 0, 1) := by decide +kernel
theorem dX9_lookersAt_1 : decode cX9_lookersAt 1 = .ok (.istore_n 2, 1) := by decide +kernel
theorem dX9_lookersAt_2 : decode cX9_lookersAt 2 = .ok (.iconst 0, 1) := by decide +kernel
theorem dX9_lookersAt_3 : decode cX9_lookersAt 3 = .ok (.istore_n 3, 1) := by decide +kernel
theorem dX9_lookersAt_4 : decode cX9_lookersAt 4 = .ok (.iload_n 3, 1) := by decide +kernel
theorem dX9_lookersAt_5 : decode cX9_lookersAt 5 = .ok (.aload_n 0, 1) := by decide +kernel
theorem dX9_lookersAt_6 : decode cX9_lookersAt 6 = .ok (.getfield 45, 3) := by decide +kernel
theorem dX9_lookersAt_9 : decode cX9_lookersAt 9 = .ok (.if_icmp .ge 26, 3) := by decide +kernel
theorem dX9_lookersAt_12 : decode cX9_lookersAt 12 = .ok (.iload_n 2, 1) := by decide +kernel
theorem dX9_lookersAt_13 : decode cX9_lookersAt 13 = .ok (.aload_n 0, 1) := by decide +kernel
theorem dX9_lookersAt_14 : decode cX9_lookersAt 14 = .ok (.iload_n 3, 1) := by decide +kernel
theorem dX9_lookersAt_15 : decode cX9_lookersAt 15 = .ok (.iload_n 1, 1) := by decide +kernel
theorem dX9_lookersAt_16 : decode cX9_lookersAt 16 = .ok (.invokevirtual 91, 3) := by decide +kernel
theorem dX9_lookersAt_19 : decode cX9_lookersAt 19 = .ok (.ifCond .eq 7, 3) := by decide +kernel
theorem dX9_lookersAt_22 : decode cX9_lookersAt 22 = .ok (.iconst 1, 1) := by decide +kernel
theorem dX9_lookersAt_23 : decode cX9_lookersAt 23 = .ok (.goto 4, 3) := by decide +kernel
theorem dX9_lookersAt_26 : decode cX9_lookersAt 26 = .ok (.iconst 0, 1) := by decide +kernel
theorem dX9_lookersAt_27 : decode cX9_lookersAt 27 = .ok (.iadd, 1) := by decide +kernel
theorem dX9_lookersAt_28 : decode cX9_lookersAt 28 = .ok (.istore_n 2, 1) := by decide +kernel
theorem dX9_lookersAt_29 : decode cX9_lookersAt 29 = .ok (.iinc 3 1, 3) := by decide +kernel
theorem dX9_lookersAt_32 : decode cX9_lookersAt 32 = .ok (.goto (-28), 3) := by decide +kernel
theorem dX9_lookersAt_35 : decode cX9_lookersAt 35 = .ok (.iload_n 2, 1) := by decide +kernel
theorem dX9_lookersAt_36 : decode cX9_lookersAt 36 = .ok (.ireturn, 1) := by decide +kernel
theorem dX9_wire_0 : decode cX9_wire 0 = .ok (.aload_n 0, 1) := by decide +kernel
theorem dX9_wire_1 : decode cX9_wire 1 = .ok (.iload_n 1, 1) := by decide +kernel
theorem dX9_wire_2 : decode cX9_wire 2 = .ok (.invokevirtual 168, 3) := by decide +kernel
theorem dX9_wire_5 : decode cX9_wire 5 = .ok (.ifCond .ne 6, 3) := by decide +kernel
theorem dX9_wire_8 : decode cX9_wire 8 = .ok (.ldc 183, 2) := by decide +kernel
theorem dX9_wire_10 : decode cX9_wire 10 = .ok (.ireturn, 1) := by decide +kernel
theorem dX9_wire_11 : decode cX9_wire 11 = .ok (.iload_n 2, 1) := by decide +kernel
theorem dX9_wire_12 : decode cX9_wire 12 = .ok (.tableswitch 78 0 4 #[36, 46, 52, 62, 72], 36) := by decide +kernel
theorem dX9_wire_48 : decode cX9_wire 48 = .ok (.aload_n 0, 1) := by decide +kernel
theorem dX9_wire_49 : decode cX9_wire 49 = .ok (.getfield 7, 3) := by decide +kernel
theorem dX9_wire_52 : decode cX9_wire 52 = .ok (.bipush 8, 2) := by decide +kernel
theorem dX9_wire_54 : decode cX9_wire 54 = .ok (.iload_n 1, 1) := by decide +kernel
theorem dX9_wire_55 : decode cX9_wire 55 = .ok (.iadd, 1) := by decide +kernel
theorem dX9_wire_56 : decode cX9_wire 56 = .ok (.iaload, 1) := by decide +kernel
theorem dX9_wire_57 : decode cX9_wire 57 = .ok (.ireturn, 1) := by decide +kernel
theorem dX9_wire_58 : decode cX9_wire 58 = .ok (.aload_n 0, 1) := by decide +kernel
theorem dX9_wire_59 : decode cX9_wire 59 = .ok (.iload_n 1, 1) := by decide +kernel
theorem dX9_wire_60 : decode cX9_wire 60 = .ok (.invokevirtual 82, 3) := by decide +kernel
theorem dX9_wire_63 : decode cX9_wire 63 = .ok (.ireturn, 1) := by decide +kernel
theorem dX9_wire_64 : decode cX9_wire 64 = .ok (.aload_n 0, 1) := by decide +kernel
theorem dX9_wire_65 : decode cX9_wire 65 = .ok (.getfield 7, 3) := by decide +kernel
theorem dX9_wire_68 : decode cX9_wire 68 = .ok (.bipush 16, 2) := by decide +kernel
theorem dX9_wire_70 : decode cX9_wire 70 = .ok (.iload_n 1, 1) := by decide +kernel
theorem dX9_wire_71 : decode cX9_wire 71 = .ok (.iadd, 1) := by decide +kernel
theorem dX9_wire_72 : decode cX9_wire 72 = .ok (.iaload, 1) := by decide +kernel
theorem dX9_wire_73 : decode cX9_wire 73 = .ok (.ireturn, 1) := by decide +kernel
theorem dX9_wire_74 : decode cX9_wire 74 = .ok (.aload_n 0, 1) := by decide +kernel
theorem dX9_wire_75 : decode cX9_wire 75 = .ok (.getfield 7, 3) := by decide +kernel
theorem dX9_wire_78 : decode cX9_wire 78 = .ok (.bipush 24, 2) := by decide +kernel
theorem dX9_wire_80 : decode cX9_wire 80 = .ok (.iload_n 1, 1) := by decide +kernel
theorem dX9_wire_81 : decode cX9_wire 81 = .ok (.iadd, 1) := by decide +kernel
theorem dX9_wire_82 : decode cX9_wire 82 = .ok (.iaload, 1) := by decide +kernel
theorem dX9_wire_83 : decode cX9_wire 83 = .ok (.ireturn, 1) := by decide +kernel
theorem dX9_wire_84 : decode cX9_wire 84 = .ok (.aload_n 0, 1) := by decide +kernel
theorem dX9_wire_85 : decode cX9_wire 85 = .ok (.iload_n 1, 1) := by decide +kernel
theorem dX9_wire_86 : decode cX9_wire 86 = .ok (.invokevirtual 184, 3) := by decide +kernel
theorem dX9_wire_89 : decode cX9_wire 89 = .ok (.ireturn, 1) := by decide +kernel
theorem dX9_wire_90 : decode cX9_wire 90 = .ok (.ldc 101, 2) := by decide +kernel
theorem dX9_wire_92 : decode cX9_wire 92 = .ok (.ireturn, 1) := by decide +kernel
theorem dX9_wave_0 : decode cX9_wave 0 = .ok (.aload_n 0, 1) := by decide +kernel
theorem dX9_wave_1 : decode cX9_wave 1 = .ok (.iload_n 1, 1) := by decide +kernel
theorem dX9_wave_2 : decode cX9_wave 2 = .ok (.invokevirtual 168, 3) := by decide +kernel
theorem dX9_wave_5 : decode cX9_wave 5 = .ok (.ifCond .ne 6, 3) := by decide +kernel
theorem dX9_wave_8 : decode cX9_wave 8 = .ok (.ldc 183, 2) := by decide +kernel
theorem dX9_wave_10 : decode cX9_wave 10 = .ok (.ireturn, 1) := by decide +kernel
theorem dX9_wave_11 : decode cX9_wave 11 = .ok (.iload_n 3, 1) := by decide +kernel
theorem dX9_wave_12 : decode cX9_wave 12 = .ok (.iconst 0, 1) := by decide +kernel
theorem dX9_wave_13 : decode cX9_wave 13 = .ok (.iconst 1, 1) := by decide +kernel
theorem dX9_wave_14 : decode cX9_wave 14 = .ok (.invokestatic 41, 3) := by decide +kernel
theorem dX9_wave_17 : decode cX9_wave 17 = .ok (.ifCond .ne 6, 3) := by decide +kernel
theorem dX9_wave_20 : decode cX9_wave 20 = .ok (.ldc 101, 2) := by decide +kernel
theorem dX9_wave_22 : decode cX9_wave 22 = .ok (.ireturn, 1) := by decide +kernel
theorem dX9_wave_23 : decode cX9_wave 23 = .ok (.iload_n 2, 1) := by decide +kernel
theorem dX9_wave_24 : decode cX9_wave 24 = .ok (.iconst 0, 1) := by decide +kernel
theorem dX9_wave_25 : decode cX9_wave 25 = .ok (.aload_n 0, 1) := by decide +kernel
theorem dX9_wave_26 : decode cX9_wave 26 = .ok (.getfield 7, 3) := by decide +kernel
theorem dX9_wave_29 : decode cX9_wave 29 = .ok (.bipush 40, 2) := by decide +kernel
theorem dX9_wave_31 : decode cX9_wave 31 = .ok (.iload_n 1, 1) := by decide +kernel
theorem dX9_wave_32 : decode cX9_wave 32 = .ok (.iadd, 1) := by decide +kernel
theorem dX9_wave_33 : decode cX9_wave 33 = .ok (.iaload, 1) := by decide +kernel
theorem dX9_wave_34 : decode cX9_wave 34 = .ok (.iconst 1, 1) := by decide +kernel
theorem dX9_wave_35 : decode cX9_wave 35 = .ok (.isub, 1) := by decide +kernel
theorem dX9_wave_36 : decode cX9_wave 36 = .ok (.invokestatic 41, 3) := by decide +kernel
theorem dX9_wave_39 : decode cX9_wave 39 = .ok (.ifCond .ne 5, 3) := by decide +kernel
theorem dX9_wave_42 : decode cX9_wave 42 = .ok (.iconst (-1), 1) := by decide +kernel
theorem dX9_wave_43 : decode cX9_wave 43 = .ok (.ireturn, 1) := by decide +kernel
theorem dX9_wave_44 : decode cX9_wave 44 = .ok (.aload_n 0, 1) := by decide +kernel
theorem dX9_wave_45 : decode cX9_wave 45 = .ok (.getfield 7, 3) := by decide +kernel
theorem dX9_wave_48 : decode cX9_wave 48 = .ok (.iload_n 3, 1) := by decide +kernel
theorem dX9_wave_49 : decode cX9_wave 49 = .ok (.ifCond .ne 8, 3) := by decide +kernel
theorem dX9_wave_52 : decode cX9_wave 52 = .ok (.bipush 48, 2) := by decide +kernel
theorem dX9_wave_54 : decode cX9_wave 54 = .ok (.goto 5, 3) := by decide +kernel
theorem dX9_wave_57 : decode cX9_wave 57 = .ok (.bipush 112, 2) := by decide +kernel
theorem dX9_wave_59 : decode cX9_wave 59 = .ok (.bipush 8, 2) := by decide +kernel
theorem dX9_wave_61 : decode cX9_wave 61 = .ok (.iload_n 1, 1) := by decide +kernel
theorem dX9_wave_62 : decode cX9_wave 62 = .ok (.imul, 1) := by decide +kernel
theorem dX9_wave_63 : decode cX9_wave 63 = .ok (.iadd, 1) := by decide +kernel
theorem dX9_wave_64 : decode cX9_wave 64 = .ok (.iload_n 2, 1) := by decide +kernel
theorem dX9_wave_65 : decode cX9_wave 65 = .ok (.iadd, 1) := by decide +kernel
theorem dX9_wave_66 : decode cX9_wave 66 = .ok (.iaload, 1) := by decide +kernel
theorem dX9_wave_67 : decode cX9_wave 67 = .ok (.ireturn, 1) := by decide +kernel
theorem dX9_gate_0 : decode cX9_gate 0 = .ok (.aload_n 0, 1) := by decide +kernel
theorem dX9_gate_1 : decode cX9_gate 1 = .ok (.iload_n 1, 1) := by decide +kernel
theorem dX9_gate_2 : decode cX9_gate 2 = .ok (.invokevirtual 187, 3) := by decide +kernel
theorem dX9_gate_5 : decode cX9_gate 5 = .ok (.ifCond .ne 6, 3) := by decide +kernel
theorem dX9_gate_8 : decode cX9_gate 8 = .ok (.ldc 183, 2) := by decide +kernel
theorem dX9_gate_10 : decode cX9_gate 10 = .ok (.ireturn, 1) := by decide +kernel
theorem dX9_gate_11 : decode cX9_gate 11 = .ok (.iload_n 2, 1) := by decide +kernel
theorem dX9_gate_12 : decode cX9_gate 12 = .ok (.tableswitch 105 0 9 #[56, 56, 56, 56, 56, 56, 63, 74, 81, 92], 56) := by decide +kernel
theorem dX9_gate_68 : decode cX9_gate 68 = .ok (.aload_n 0, 1) := by decide +kernel
theorem dX9_gate_69 : decode cX9_gate 69 = .ok (.iload_n 1, 1) := by decide +kernel
theorem dX9_gate_70 : decode cX9_gate 70 = .ok (.iload_n 2, 1) := by decide +kernel
theorem dX9_gate_71 : decode cX9_gate 71 = .ok (.invokevirtual 52, 3) := by decide +kernel
theorem dX9_gate_74 : decode cX9_gate 74 = .ok (.ireturn, 1) := by decide +kernel
theorem dX9_gate_75 : decode cX9_gate 75 = .ok (.aload_n 0, 1) := by decide +kernel
theorem dX9_gate_76 : decode cX9_gate 76 = .ok (.getfield 7, 3) := by decide +kernel
theorem dX9_gate_79 : decode cX9_gate 79 = .ok (.sipush 176, 3) := by decide +kernel
theorem dX9_gate_82 : decode cX9_gate 82 = .ok (.iload_n 1, 1) := by decide +kernel
theorem dX9_gate_83 : decode cX9_gate 83 = .ok (.iadd, 1) := by decide +kernel
theorem dX9_gate_84 : decode cX9_gate 84 = .ok (.iaload, 1) := by decide +kernel
theorem dX9_gate_85 : decode cX9_gate 85 = .ok (.ireturn, 1) := by decide +kernel
theorem dX9_gate_86 : decode cX9_gate 86 = .ok (.aload_n 0, 1) := by decide +kernel
theorem dX9_gate_87 : decode cX9_gate 87 = .ok (.iconst 0, 1) := by decide +kernel
theorem dX9_gate_88 : decode cX9_gate 88 = .ok (.iload_n 1, 1) := by decide +kernel
theorem dX9_gate_89 : decode cX9_gate 89 = .ok (.invokevirtual 63, 3) := by decide +kernel
theorem dX9_gate_92 : decode cX9_gate 92 = .ok (.ireturn, 1) := by decide +kernel
theorem dX9_gate_93 : decode cX9_gate 93 = .ok (.aload_n 0, 1) := by decide +kernel
theorem dX9_gate_94 : decode cX9_gate 94 = .ok (.getfield 7, 3) := by decide +kernel
theorem dX9_gate_97 : decode cX9_gate 97 = .ok (.sipush 184, 3) := by decide +kernel
theorem dX9_gate_100 : decode cX9_gate 100 = .ok (.iload_n 1, 1) := by decide +kernel
theorem dX9_gate_101 : decode cX9_gate 101 = .ok (.iadd, 1) := by decide +kernel
theorem dX9_gate_102 : decode cX9_gate 102 = .ok (.iaload, 1) := by decide +kernel
theorem dX9_gate_103 : decode cX9_gate 103 = .ok (.ireturn, 1) := by decide +kernel
theorem dX9_gate_104 : decode cX9_gate 104 = .ok (.aload_n 0, 1) := by decide +kernel
theorem dX9_gate_105 : decode cX9_gate 105 = .ok (.iconst 0, 1) := by decide +kernel
theorem dX9_gate_106 : decode cX9_gate 106 = .ok (.aload_n 0, 1) := by decide +kernel
theorem dX9_gate_107 : decode cX9_gate 107 = .ok (.iload_n 1, 1) := by decide +kernel
theorem dX9_gate_108 : decode cX9_gate 108 = .ok (.iconst 3, 1) := by decide +kernel
theorem dX9_gate_109 : decode cX9_gate 109 = .ok (.invokevirtual 52, 3) := by decide +kernel
theorem dX9_gate_112 : decode cX9_gate 112 = .ok (.iload_n 1, 1) := by decide +kernel
theorem dX9_gate_113 : decode cX9_gate 113 = .ok (.invokevirtual 85, 3) := by decide +kernel
theorem dX9_gate_116 : decode cX9_gate 116 = .ok (.ireturn, 1) := by decide +kernel
theorem dX9_gate_117 : decode cX9_gate 117 = .ok (.ldc 101, 2) := by decide +kernel
theorem dX9_gate_119 : decode cX9_gate 119 = .ok (.ireturn, 1) := by decide +kernel
theorem dX9_queue_0 : decode cX9_queue 0 = .ok (.aload_n 0, 1) := by decide +kernel
theorem dX9_queue_1 : decode cX9_queue 1 = .ok (.iload_n 1, 1) := by decide +kernel
theorem dX9_queue_2 : decode cX9_queue 2 = .ok (.invokevirtual 187, 3) := by decide +kernel
theorem dX9_queue_5 : decode cX9_queue 5 = .ok (.ifCond .ne 6, 3) := by decide +kernel
theorem dX9_queue_8 : decode cX9_queue 8 = .ok (.ldc 183, 2) := by decide +kernel
theorem dX9_queue_10 : decode cX9_queue 10 = .ok (.ireturn, 1) := by decide +kernel
theorem dX9_queue_11 : decode cX9_queue 11 = .ok (.iload_n 3, 1) := by decide +kernel
theorem dX9_queue_12 : decode cX9_queue 12 = .ok (.iconst 0, 1) := by decide +kernel
theorem dX9_queue_13 : decode cX9_queue 13 = .ok (.iconst 1, 1) := by decide +kernel
theorem dX9_queue_14 : decode cX9_queue 14 = .ok (.invokestatic 41, 3) := by decide +kernel
theorem dX9_queue_17 : decode cX9_queue 17 = .ok (.ifCond .ne 6, 3) := by decide +kernel
theorem dX9_queue_20 : decode cX9_queue 20 = .ok (.ldc 101, 2) := by decide +kernel
theorem dX9_queue_22 : decode cX9_queue 22 = .ok (.ireturn, 1) := by decide +kernel
theorem dX9_queue_23 : decode cX9_queue 23 = .ok (.iload_n 2, 1) := by decide +kernel
theorem dX9_queue_24 : decode cX9_queue 24 = .ok (.iconst 0, 1) := by decide +kernel
theorem dX9_queue_25 : decode cX9_queue 25 = .ok (.aload_n 0, 1) := by decide +kernel
theorem dX9_queue_26 : decode cX9_queue 26 = .ok (.getfield 7, 3) := by decide +kernel
theorem dX9_queue_29 : decode cX9_queue 29 = .ok (.sipush 184, 3) := by decide +kernel
theorem dX9_queue_32 : decode cX9_queue 32 = .ok (.iload_n 1, 1) := by decide +kernel
theorem dX9_queue_33 : decode cX9_queue 33 = .ok (.iadd, 1) := by decide +kernel
theorem dX9_queue_34 : decode cX9_queue 34 = .ok (.iaload, 1) := by decide +kernel
theorem dX9_queue_35 : decode cX9_queue 35 = .ok (.iconst 1, 1) := by decide +kernel
theorem dX9_queue_36 : decode cX9_queue 36 = .ok (.isub, 1) := by decide +kernel
theorem dX9_queue_37 : decode cX9_queue 37 = .ok (.invokestatic 41, 3) := by decide +kernel
theorem dX9_queue_40 : decode cX9_queue 40 = .ok (.ifCond .ne 5, 3) := by decide +kernel
theorem dX9_queue_43 : decode cX9_queue 43 = .ok (.iconst (-1), 1) := by decide +kernel
theorem dX9_queue_44 : decode cX9_queue 44 = .ok (.ireturn, 1) := by decide +kernel
theorem dX9_queue_45 : decode cX9_queue 45 = .ok (.aload_n 0, 1) := by decide +kernel
theorem dX9_queue_46 : decode cX9_queue 46 = .ok (.getfield 7, 3) := by decide +kernel
theorem dX9_queue_49 : decode cX9_queue 49 = .ok (.iload_n 3, 1) := by decide +kernel
theorem dX9_queue_50 : decode cX9_queue 50 = .ok (.ifCond .ne 9, 3) := by decide +kernel
theorem dX9_queue_53 : decode cX9_queue 53 = .ok (.sipush 192, 3) := by decide +kernel
theorem dX9_queue_56 : decode cX9_queue 56 = .ok (.goto 6, 3) := by decide +kernel
theorem dX9_queue_59 : decode cX9_queue 59 = .ok (.sipush 256, 3) := by decide +kernel
theorem dX9_queue_62 : decode cX9_queue 62 = .ok (.bipush 8, 2) := by decide +kernel
theorem dX9_queue_64 : decode cX9_queue 64 = .ok (.iload_n 1, 1) := by decide +kernel
theorem dX9_queue_65 : decode cX9_queue 65 = .ok (.imul, 1) := by decide +kernel
theorem dX9_queue_66 : decode cX9_queue 66 = .ok (.iadd, 1) := by decide +kernel
theorem dX9_queue_67 : decode cX9_queue 67 = .ok (.iload_n 2, 1) := by decide +kernel
theorem dX9_queue_68 : decode cX9_queue 68 = .ok (.iadd, 1) := by decide +kernel
theorem dX9_queue_69 : decode cX9_queue 69 = .ok (.iaload, 1) := by decide +kernel
theorem dX9_queue_70 : decode cX9_queue 70 = .ok (.ireturn, 1) := by decide +kernel
theorem dX9_resolved_0 : decode cX9_resolved 0 = .ok (.iload_n 1, 1) := by decide +kernel
theorem dX9_resolved_1 : decode cX9_resolved 1 = .ok (.invokestatic 190, 3) := by decide +kernel
theorem dX9_resolved_4 : decode cX9_resolved 4 = .ok (.ifCond .eq 18, 3) := by decide +kernel
theorem dX9_resolved_7 : decode cX9_resolved 7 = .ok (.iload_n 2, 1) := by decide +kernel
theorem dX9_resolved_8 : decode cX9_resolved 8 = .ok (.invokestatic 190, 3) := by decide +kernel
theorem dX9_resolved_11 : decode cX9_resolved 11 = .ok (.ifCond .eq 11, 3) := by decide +kernel
theorem dX9_resolved_14 : decode cX9_resolved 14 = .ok (.iload_n 1, 1) := by decide +kernel
theorem dX9_resolved_15 : decode cX9_resolved 15 = .ok (.iload_n 2, 1) := by decide +kernel
theorem dX9_resolved_16 : decode cX9_resolved 16 = .ok (.invokestatic 60, 3) := by decide +kernel
theorem dX9_resolved_19 : decode cX9_resolved 19 = .ok (.goto 5, 3) := by decide +kernel
theorem dX9_resolved_22 : decode cX9_resolved 22 = .ok (.ldc 183, 2) := by decide +kernel
theorem dX9_resolved_24 : decode cX9_resolved 24 = .ok (.ireturn, 1) := by decide +kernel
theorem dX9_comes_0 : decode cX9_comes 0 = .ok (.iload_n 2, 1) := by decide +kernel
theorem dX9_comes_1 : decode cX9_comes 1 = .ok (.invokestatic 190, 3) := by decide +kernel
theorem dX9_comes_4 : decode cX9_comes 4 = .ok (.ifCond .eq 10, 3) := by decide +kernel
theorem dX9_comes_7 : decode cX9_comes 7 = .ok (.iload_n 3, 1) := by decide +kernel
theorem dX9_comes_8 : decode cX9_comes 8 = .ok (.invokestatic 190, 3) := by decide +kernel
theorem dX9_comes_11 : decode cX9_comes 11 = .ok (.ifCond .ne 6, 3) := by decide +kernel
theorem dX9_comes_14 : decode cX9_comes 14 = .ok (.ldc 183, 2) := by decide +kernel
theorem dX9_comes_16 : decode cX9_comes 16 = .ok (.ireturn, 1) := by decide +kernel
theorem dX9_comes_17 : decode cX9_comes 17 = .ok (.iload_n 1, 1) := by decide +kernel
theorem dX9_comes_18 : decode cX9_comes 18 = .ok (.iconst 0, 1) := by decide +kernel
theorem dX9_comes_19 : decode cX9_comes 19 = .ok (.iconst 4, 1) := by decide +kernel
theorem dX9_comes_20 : decode cX9_comes 20 = .ok (.invokestatic 41, 3) := by decide +kernel
theorem dX9_comes_23 : decode cX9_comes 23 = .ok (.ifCond .eq 12, 3) := by decide +kernel
theorem dX9_comes_26 : decode cX9_comes 26 = .ok (.iload_n 1, 1) := by decide +kernel
theorem dX9_comes_27 : decode cX9_comes 27 = .ok (.iload_n 2, 1) := by decide +kernel
theorem dX9_comes_28 : decode cX9_comes 28 = .ok (.iload_n 3, 1) := by decide +kernel
theorem dX9_comes_29 : decode cX9_comes 29 = .ok (.invokestatic 56, 3) := by decide +kernel
theorem dX9_comes_32 : decode cX9_comes 32 = .ok (.goto 5, 3) := by decide +kernel
theorem dX9_comes_35 : decode cX9_comes 35 = .ok (.ldc 101, 2) := by decide +kernel
theorem dX9_comes_37 : decode cX9_comes 37 = .ok (.ireturn, 1) := by decide +kernel
theorem dX9_remember_0 : decode cX9_remember 0 = .ok (.aload_n 0, 1) := by decide +kernel
theorem dX9_remember_1 : decode cX9_remember 1 = .ok (.getfield 143, 3) := by decide +kernel
theorem dX9_remember_4 : decode cX9_remember 4 = .ok (.bipush 16, 2) := by decide +kernel
theorem dX9_remember_6 : decode cX9_remember 6 = .ok (.if_icmp .ne 43, 3) := by decide +kernel
theorem dX9_remember_9 : decode cX9_remember 9 = .ok (.iconst 1, 1) := by decide +kernel
theorem dX9_remember_10 : decode cX9_remember 10 = .ok (.istore_n 1, 1) := by decide +kernel
theorem dX9_remember_11 : decode cX9_remember 11 = .ok (.iload_n 1, 1) := by decide +kernel
theorem dX9_remember_12 : decode cX9_remember 12 = .ok (.bipush 16, 2) := by decide +kernel
theorem dX9_remember_14 : decode cX9_remember 14 = .ok (.if_icmp .ge 25, 3) := by decide +kernel
theorem dX9_remember_17 : decode cX9_remember 17 = .ok (.aload_n 0, 1) := by decide +kernel
theorem dX9_remember_18 : decode cX9_remember 18 = .ok (.sipush 344, 3) := by decide +kernel
theorem dX9_remember_21 : decode cX9_remember 21 = .ok (.iload_n 1, 1) := by decide +kernel
theorem dX9_remember_22 : decode cX9_remember 22 = .ok (.iconst 1, 1) := by decide +kernel
theorem dX9_remember_23 : decode cX9_remember 23 = .ok (.iadd, 1) := by decide +kernel
theorem dX9_remember_24 : decode cX9_remember 24 = .ok (.imul, 1) := by decide +kernel
theorem dX9_remember_25 : decode cX9_remember 25 = .ok (.sipush 344, 3) := by decide +kernel
theorem dX9_remember_28 : decode cX9_remember 28 = .ok (.iload_n 1, 1) := by decide +kernel
theorem dX9_remember_29 : decode cX9_remember 29 = .ok (.imul, 1) := by decide +kernel
theorem dX9_remember_30 : decode cX9_remember 30 = .ok (.invokevirtual 158, 3) := by decide +kernel
theorem dX9_remember_33 : decode cX9_remember 33 = .ok (.iinc 1 1, 3) := by decide +kernel
theorem dX9_remember_36 : decode cX9_remember 36 = .ok (.goto (-25), 3) := by decide +kernel
theorem dX9_remember_39 : decode cX9_remember 39 = .ok (.aload_n 0, 1) := by decide +kernel
theorem dX9_remember_40 : decode cX9_remember 40 = .ok (.dup, 1) := by decide +kernel
theorem dX9_remember_41 : decode cX9_remember 41 = .ok (.getfield 143, 3) := by decide +kernel
theorem dX9_remember_44 : decode cX9_remember 44 = .ok (.iconst 1, 1) := by decide +kernel
theorem dX9_remember_45 : decode cX9_remember 45 = .ok (.isub, 1) := by decide +kernel
theorem dX9_remember_46 : decode cX9_remember 46 = .ok (.putfield 143, 3) := by decide +kernel
theorem dX9_remember_49 : decode cX9_remember 49 = .ok (.aload_n 0, 1) := by decide +kernel
theorem dX9_remember_50 : decode cX9_remember 50 = .ok (.iconst 0, 1) := by decide +kernel
theorem dX9_remember_51 : decode cX9_remember 51 = .ok (.sipush 344, 3) := by decide +kernel
theorem dX9_remember_54 : decode cX9_remember 54 = .ok (.aload_n 0, 1) := by decide +kernel
theorem dX9_remember_55 : decode cX9_remember 55 = .ok (.getfield 143, 3) := by decide +kernel
theorem dX9_remember_58 : decode cX9_remember 58 = .ok (.iconst 1, 1) := by decide +kernel
theorem dX9_remember_59 : decode cX9_remember 59 = .ok (.iadd, 1) := by decide +kernel
theorem dX9_remember_60 : decode cX9_remember 60 = .ok (.imul, 1) := by decide +kernel
theorem dX9_remember_61 : decode cX9_remember 61 = .ok (.invokevirtual 158, 3) := by decide +kernel
theorem dX9_remember_64 : decode cX9_remember 64 = .ok (.aload_n 0, 1) := by decide +kernel
theorem dX9_remember_65 : decode cX9_remember 65 = .ok (.dup, 1) := by decide +kernel
theorem dX9_remember_66 : decode cX9_remember 66 = .ok (.getfield 143, 3) := by decide +kernel
theorem dX9_remember_69 : decode cX9_remember 69 = .ok (.iconst 1, 1) := by decide +kernel
theorem dX9_remember_70 : decode cX9_remember 70 = .ok (.iadd, 1) := by decide +kernel
theorem dX9_remember_71 : decode cX9_remember 71 = .ok (.putfield 143, 3) := by decide +kernel
theorem dX9_remember_74 : decode cX9_remember 74 = .ok (.return_, 1) := by decide +kernel
theorem dX9_step_0 : decode cX9_step 0 = .ok (.aload_n 0, 1) := by decide +kernel
theorem dX9_step_1 : decode cX9_step 1 = .ok (.iconst 0, 1) := by decide +kernel
theorem dX9_step_2 : decode cX9_step 2 = .ok (.invokevirtual 161, 3) := by decide +kernel
theorem dX9_step_5 : decode cX9_step 5 = .ok (.ifCond .ne 13, 3) := by decide +kernel
theorem dX9_step_8 : decode cX9_step 8 = .ok (.aload_n 0, 1) := by decide +kernel
theorem dX9_step_9 : decode cX9_step 9 = .ok (.getfield 7, 3) := by decide +kernel
theorem dX9_step_12 : decode cX9_step 12 = .ok (.iconst 2, 1) := by decide +kernel
theorem dX9_step_13 : decode cX9_step 13 = .ok (.iaload, 1) := by decide +kernel
theorem dX9_step_14 : decode cX9_step 14 = .ok (.iconst 1, 1) := by decide +kernel
theorem dX9_step_15 : decode cX9_step 15 = .ok (.if_icmp .ne 6, 3) := by decide +kernel
theorem dX9_step_18 : decode cX9_step 18 = .ok (.ldc 193, 2) := by decide +kernel
theorem dX9_step_20 : decode cX9_step 20 = .ok (.ireturn, 1) := by decide +kernel
theorem dX9_step_21 : decode cX9_step 21 = .ok (.aload_n 0, 1) := by decide +kernel
theorem dX9_step_22 : decode cX9_step 22 = .ok (.invokevirtual 194, 3) := by decide +kernel
theorem dX9_step_25 : decode cX9_step 25 = .ok (.aload_n 0, 1) := by decide +kernel
theorem dX9_step_26 : decode cX9_step 26 = .ok (.iconst 0, 1) := by decide +kernel
theorem dX9_step_27 : decode cX9_step 27 = .ok (.invokevirtual 165, 3) := by decide +kernel
theorem dX9_step_30 : decode cX9_step 30 = .ok (.aload_n 0, 1) := by decide +kernel
theorem dX9_step_31 : decode cX9_step 31 = .ok (.getfield 7, 3) := by decide +kernel
theorem dX9_step_34 : decode cX9_step 34 = .ok (.iconst 0, 1) := by decide +kernel
theorem dX9_step_35 : decode cX9_step 35 = .ok (.iaload, 1) := by decide +kernel
theorem dX9_step_36 : decode cX9_step 36 = .ok (.ireturn, 1) := by decide +kernel
theorem dX9_run_0 : decode cX9_run 0 = .ok (.iload_n 1, 1) := by decide +kernel
theorem dX9_run_1 : decode cX9_run 1 = .ok (.iconst 1, 1) := by decide +kernel
theorem dX9_run_2 : decode cX9_run 2 = .ok (.sipush 200, 3) := by decide +kernel
theorem dX9_run_5 : decode cX9_run 5 = .ok (.invokestatic 41, 3) := by decide +kernel
theorem dX9_run_8 : decode cX9_run 8 = .ok (.ifCond .ne 6, 3) := by decide +kernel
theorem dX9_run_11 : decode cX9_run 11 = .ok (.ldc 101, 2) := by decide +kernel
theorem dX9_run_13 : decode cX9_run 13 = .ok (.ireturn, 1) := by decide +kernel
theorem dX9_run_14 : decode cX9_run 14 = .ok (.aload_n 0, 1) := by decide +kernel
theorem dX9_run_15 : decode cX9_run 15 = .ok (.getfield 7, 3) := by decide +kernel
theorem dX9_run_18 : decode cX9_run 18 = .ok (.iconst 2, 1) := by decide +kernel
theorem dX9_run_19 : decode cX9_run 19 = .ok (.iaload, 1) := by decide +kernel
theorem dX9_run_20 : decode cX9_run 20 = .ok (.iconst 1, 1) := by decide +kernel
theorem dX9_run_21 : decode cX9_run 21 = .ok (.if_icmp .ne 6, 3) := by decide +kernel
theorem dX9_run_24 : decode cX9_run 24 = .ok (.ldc 193, 2) := by decide +kernel
theorem dX9_run_26 : decode cX9_run 26 = .ok (.ireturn, 1) := by decide +kernel
theorem dX9_run_27 : decode cX9_run 27 = .ok (.aload_n 0, 1) := by decide +kernel
theorem dX9_run_28 : decode cX9_run 28 = .ok (.invokevirtual 194, 3) := by decide +kernel
theorem dX9_run_31 : decode cX9_run 31 = .ok (.aload_n 0, 1) := by decide +kernel
theorem dX9_run_32 : decode cX9_run 32 = .ok (.getfield 7, 3) := by decide +kernel
theorem dX9_run_35 : decode cX9_run 35 = .ok (.iconst 0, 1) := by decide +kernel
theorem dX9_run_36 : decode cX9_run 36 = .ok (.iaload, 1) := by decide +kernel
theorem dX9_run_37 : decode cX9_run 37 = .ok (.iload_n 1, 1) := by decide +kernel
theorem dX9_run_38 : decode cX9_run 38 = .ok (.iadd, 1) := by decide +kernel
theorem dX9_run_39 : decode cX9_run 39 = .ok (.istore_n 2, 1) := by decide +kernel
theorem dX9_run_40 : decode cX9_run 40 = .ok (.iconst 0, 1) := by decide +kernel
theorem dX9_run_41 : decode cX9_run 41 = .ok (.istore_n 3, 1) := by decide +kernel
theorem dX9_run_42 : decode cX9_run 42 = .ok (.aload_n 0, 1) := by decide +kernel
theorem dX9_run_43 : decode cX9_run 43 = .ok (.iconst 0, 1) := by decide +kernel
theorem dX9_run_44 : decode cX9_run 44 = .ok (.invokevirtual 161, 3) := by decide +kernel
theorem dX9_run_47 : decode cX9_run 47 = .ok (.ifCond .ne 23, 3) := by decide +kernel
theorem dX9_run_50 : decode cX9_run 50 = .ok (.aload_n 0, 1) := by decide +kernel
theorem dX9_run_51 : decode cX9_run 51 = .ok (.iconst 0, 1) := by decide +kernel
theorem dX9_run_52 : decode cX9_run 52 = .ok (.invokevirtual 95, 3) := by decide +kernel
theorem dX9_run_55 : decode cX9_run 55 = .ok (.iload_n 2, 1) := by decide +kernel
theorem dX9_run_56 : decode cX9_run 56 = .ok (.if_icmp .gt 14, 3) := by decide +kernel
theorem dX9_run_59 : decode cX9_run 59 = .ok (.aload_n 0, 1) := by decide +kernel
theorem dX9_run_60 : decode cX9_run 60 = .ok (.iconst 0, 1) := by decide +kernel
theorem dX9_run_61 : decode cX9_run 61 = .ok (.invokevirtual 165, 3) := by decide +kernel
theorem dX9_run_64 : decode cX9_run 64 = .ok (.iinc 3 1, 3) := by decide +kernel
theorem dX9_run_67 : decode cX9_run 67 = .ok (.goto (-25), 3) := by decide +kernel
theorem dX9_run_70 : decode cX9_run 70 = .ok (.aload_n 0, 1) := by decide +kernel
theorem dX9_run_71 : decode cX9_run 71 = .ok (.getfield 7, 3) := by decide +kernel
theorem dX9_run_74 : decode cX9_run 74 = .ok (.iconst 0, 1) := by decide +kernel
theorem dX9_run_75 : decode cX9_run 75 = .ok (.aload_n 0, 1) := by decide +kernel
theorem dX9_run_76 : decode cX9_run 76 = .ok (.getfield 7, 3) := by decide +kernel
theorem dX9_run_79 : decode cX9_run 79 = .ok (.iconst 2, 1) := by decide +kernel
theorem dX9_run_80 : decode cX9_run 80 = .ok (.iaload, 1) := by decide +kernel
theorem dX9_run_81 : decode cX9_run 81 = .ok (.iconst 1, 1) := by decide +kernel
theorem dX9_run_82 : decode cX9_run 82 = .ok (.if_icmp .ne 12, 3) := by decide +kernel
theorem dX9_run_85 : decode cX9_run 85 = .ok (.aload_n 0, 1) := by decide +kernel
theorem dX9_run_86 : decode cX9_run 86 = .ok (.getfield 7, 3) := by decide +kernel
theorem dX9_run_89 : decode cX9_run 89 = .ok (.iconst 0, 1) := by decide +kernel
theorem dX9_run_90 : decode cX9_run 90 = .ok (.iaload, 1) := by decide +kernel
theorem dX9_run_91 : decode cX9_run 91 = .ok (.goto 4, 3) := by decide +kernel
theorem dX9_run_94 : decode cX9_run 94 = .ok (.iload_n 2, 1) := by decide +kernel
theorem dX9_run_95 : decode cX9_run 95 = .ok (.iastore, 1) := by decide +kernel
theorem dX9_run_96 : decode cX9_run 96 = .ok (.iload_n 3, 1) := by decide +kernel
theorem dX9_run_97 : decode cX9_run 97 = .ok (.ireturn, 1) := by decide +kernel
theorem dX9_mayBeSet_0 : decode cX9_mayBeSet 0 = .ok (.aload_n 0, 1) := by decide +kernel
theorem dX9_mayBeSet_1 : decode cX9_mayBeSet 1 = .ok (.iload_n 1, 1) := by decide +kernel
theorem dX9_mayBeSet_2 : decode cX9_mayBeSet 2 = .ok (.invokevirtual 82, 3) := by decide +kernel
theorem dX9_mayBeSet_5 : decode cX9_mayBeSet 5 = .ok (.ifCond .gt 13, 3) := by decide +kernel
theorem dX9_mayBeSet_8 : decode cX9_mayBeSet 8 = .ok (.aload_n 0, 1) := by decide +kernel
theorem dX9_mayBeSet_9 : decode cX9_mayBeSet 9 = .ok (.getfield 7, 3) := by decide +kernel
theorem dX9_mayBeSet_12 : decode cX9_mayBeSet 12 = .ok (.iconst 2, 1) := by decide +kernel
theorem dX9_mayBeSet_13 : decode cX9_mayBeSet 13 = .ok (.iaload, 1) := by decide +kernel
theorem dX9_mayBeSet_14 : decode cX9_mayBeSet 14 = .ok (.iconst 1, 1) := by decide +kernel
theorem dX9_mayBeSet_15 : decode cX9_mayBeSet 15 = .ok (.if_icmp .ne 6, 3) := by decide +kernel
theorem dX9_mayBeSet_18 : decode cX9_mayBeSet 18 = .ok (.ldc 193, 2) := by decide +kernel
theorem dX9_mayBeSet_20 : decode cX9_mayBeSet 20 = .ok (.ireturn, 1) := by decide +kernel
theorem dX9_mayBeSet_21 : decode cX9_mayBeSet 21 = .ok (.aload_n 0, 1) := by decide +kernel
theorem dX9_mayBeSet_22 : decode cX9_mayBeSet 22 = .ok (.getfield 7, 3) := by decide +kernel
theorem dX9_mayBeSet_25 : decode cX9_mayBeSet 25 = .ok (.iconst 3, 1) := by decide +kernel
theorem dX9_mayBeSet_26 : decode cX9_mayBeSet 26 = .ok (.iaload, 1) := by decide +kernel
theorem dX9_mayBeSet_27 : decode cX9_mayBeSet 27 = .ok (.bipush 8, 2) := by decide +kernel
theorem dX9_mayBeSet_29 : decode cX9_mayBeSet 29 = .ok (.if_icmp .ne 8, 3) := by decide +kernel
theorem dX9_mayBeSet_32 : decode cX9_mayBeSet 32 = .ok (.ldc 105, 2) := by decide +kernel
theorem dX9_mayBeSet_34 : decode cX9_mayBeSet 34 = .ok (.goto 4, 3) := by decide +kernel
theorem dX9_mayBeSet_37 : decode cX9_mayBeSet 37 = .ok (.iconst 1, 1) := by decide +kernel
theorem dX9_mayBeSet_38 : decode cX9_mayBeSet 38 = .ok (.ireturn, 1) := by decide +kernel
theorem dX9_layHand_0 : decode cX9_layHand 0 = .ok (.aload_n 0, 1) := by decide +kernel
theorem dX9_layHand_1 : decode cX9_layHand 1 = .ok (.getfield 7, 3) := by decide +kernel
theorem dX9_layHand_4 : decode cX9_layHand 4 = .ok (.iconst 3, 1) := by decide +kernel
theorem dX9_layHand_5 : decode cX9_layHand 5 = .ok (.iaload, 1) := by decide +kernel
theorem dX9_layHand_6 : decode cX9_layHand 6 = .ok (.istore 4, 2) := by decide +kernel
theorem dX9_layHand_8 : decode cX9_layHand 8 = .ok (.iload 4, 2) := by decide +kernel
theorem dX9_layHand_10 : decode cX9_layHand 10 = .ok (.ifCond .le 98, 3) := by decide +kernel
theorem dX9_layHand_13 : decode cX9_layHand 13 = .ok (.aload_n 0, 1) := by decide +kernel
theorem dX9_layHand_14 : decode cX9_layHand 14 = .ok (.getfield 7, 3) := by decide +kernel
theorem dX9_layHand_17 : decode cX9_layHand 17 = .ok (.sipush 320, 3) := by decide +kernel
theorem dX9_layHand_20 : decode cX9_layHand 20 = .ok (.iload 4, 2) := by decide +kernel
theorem dX9_layHand_22 : decode cX9_layHand 22 = .ok (.iadd, 1) := by decide +kernel
theorem dX9_layHand_23 : decode cX9_layHand 23 = .ok (.iconst 1, 1) := by decide +kernel
theorem dX9_layHand_24 : decode cX9_layHand 24 = .ok (.isub, 1) := by decide +kernel
theorem dX9_layHand_25 : decode cX9_layHand 25 = .ok (.iaload, 1) := by decide +kernel
theorem dX9_layHand_26 : decode cX9_layHand 26 = .ok (.iload_n 3, 1) := by decide +kernel
theorem dX9_layHand_27 : decode cX9_layHand 27 = .ok (.if_icmp .le 81, 3) := by decide +kernel
theorem dX9_layHand_30 : decode cX9_layHand 30 = .ok (.aload_n 0, 1) := by decide +kernel
theorem dX9_layHand_31 : decode cX9_layHand 31 = .ok (.getfield 7, 3) := by decide +kernel
theorem dX9_layHand_34 : decode cX9_layHand 34 = .ok (.sipush 320, 3) := by decide +kernel
theorem dX9_layHand_37 : decode cX9_layHand 37 = .ok (.iload 4, 2) := by decide +kernel
theorem dX9_layHand_39 : decode cX9_layHand 39 = .ok (.iadd, 1) := by decide +kernel
theorem dX9_layHand_40 : decode cX9_layHand 40 = .ok (.aload_n 0, 1) := by decide +kernel
theorem dX9_layHand_41 : decode cX9_layHand 41 = .ok (.getfield 7, 3) := by decide +kernel
theorem dX9_layHand_44 : decode cX9_layHand 44 = .ok (.sipush 320, 3) := by decide +kernel
theorem dX9_layHand_47 : decode cX9_layHand 47 = .ok (.iload 4, 2) := by decide +kernel
theorem dX9_layHand_49 : decode cX9_layHand 49 = .ok (.iadd, 1) := by decide +kernel
theorem dX9_layHand_50 : decode cX9_layHand 50 = .ok (.iconst 1, 1) := by decide +kernel
theorem dX9_layHand_51 : decode cX9_layHand 51 = .ok (.isub, 1) := by decide +kernel
theorem dX9_layHand_52 : decode cX9_layHand 52 = .ok (.iaload, 1) := by decide +kernel
theorem dX9_layHand_53 : decode cX9_layHand 53 = .ok (.iastore, 1) := by decide +kernel
theorem dX9_layHand_54 : decode cX9_layHand 54 = .ok (.aload_n 0, 1) := by decide +kernel
theorem dX9_layHand_55 : decode cX9_layHand 55 = .ok (.getfield 7, 3) := by decide +kernel
theorem dX9_layHand_58 : decode cX9_layHand 58 = .ok (.sipush 328, 3) := by decide +kernel
theorem dX9_layHand_61 : decode cX9_layHand 61 = .ok (.iload 4, 2) := by decide +kernel
theorem dX9_layHand_63 : decode cX9_layHand 63 = .ok (.iadd, 1) := by decide +kernel
theorem dX9_layHand_64 : decode cX9_layHand 64 = .ok (.aload_n 0, 1) := by decide +kernel
theorem dX9_layHand_65 : decode cX9_layHand 65 = .ok (.getfield 7, 3) := by decide +kernel
theorem dX9_layHand_68 : decode cX9_layHand 68 = .ok (.sipush 328, 3) := by decide +kernel
theorem dX9_layHand_71 : decode cX9_layHand 71 = .ok (.iload 4, 2) := by decide +kernel
theorem dX9_layHand_73 : decode cX9_layHand 73 = .ok (.iadd, 1) := by decide +kernel
theorem dX9_layHand_74 : decode cX9_layHand 74 = .ok (.iconst 1, 1) := by decide +kernel
theorem dX9_layHand_75 : decode cX9_layHand 75 = .ok (.isub, 1) := by decide +kernel
theorem dX9_layHand_76 : decode cX9_layHand 76 = .ok (.iaload, 1) := by decide +kernel
theorem dX9_layHand_77 : decode cX9_layHand 77 = .ok (.iastore, 1) := by decide +kernel
theorem dX9_layHand_78 : decode cX9_layHand 78 = .ok (.aload_n 0, 1) := by decide +kernel
theorem dX9_layHand_79 : decode cX9_layHand 79 = .ok (.getfield 7, 3) := by decide +kernel
theorem dX9_layHand_82 : decode cX9_layHand 82 = .ok (.sipush 336, 3) := by decide +kernel
theorem dX9_layHand_85 : decode cX9_layHand 85 = .ok (.iload 4, 2) := by decide +kernel
theorem dX9_layHand_87 : decode cX9_layHand 87 = .ok (.iadd, 1) := by decide +kernel
theorem dX9_layHand_88 : decode cX9_layHand 88 = .ok (.aload_n 0, 1) := by decide +kernel
theorem dX9_layHand_89 : decode cX9_layHand 89 = .ok (.getfield 7, 3) := by decide +kernel
theorem dX9_layHand_92 : decode cX9_layHand 92 = .ok (.sipush 336, 3) := by decide +kernel
theorem dX9_layHand_95 : decode cX9_layHand 95 = .ok (.iload 4, 2) := by decide +kernel
theorem dX9_layHand_97 : decode cX9_layHand 97 = .ok (.iadd, 1) := by decide +kernel
theorem dX9_layHand_98 : decode cX9_layHand 98 = .ok (.iconst 1, 1) := by decide +kernel
theorem dX9_layHand_99 : decode cX9_layHand 99 = .ok (.isub, 1) := by decide +kernel
theorem dX9_layHand_100 : decode cX9_layHand 100 = .ok (.iaload, 1) := by decide +kernel
theorem dX9_layHand_101 : decode cX9_layHand 101 = .ok (.iastore, 1) := by decide +kernel
theorem dX9_layHand_102 : decode cX9_layHand 102 = .ok (.iinc 4 (-1), 3) := by decide +kernel
theorem dX9_layHand_105 : decode cX9_layHand 105 = .ok (.goto (-97), 3) := by decide +kernel
theorem dX9_layHand_108 : decode cX9_layHand 108 = .ok (.aload_n 0, 1) := by decide +kernel
theorem dX9_layHand_109 : decode cX9_layHand 109 = .ok (.getfield 7, 3) := by decide +kernel
theorem dX9_layHand_112 : decode cX9_layHand 112 = .ok (.sipush 320, 3) := by decide +kernel
theorem dX9_layHand_115 : decode cX9_layHand 115 = .ok (.iload 4, 2) := by decide +kernel
theorem dX9_layHand_117 : decode cX9_layHand 117 = .ok (.iadd, 1) := by decide +kernel
theorem dX9_layHand_118 : decode cX9_layHand 118 = .ok (.iload_n 3, 1) := by decide +kernel
theorem dX9_layHand_119 : decode cX9_layHand 119 = .ok (.iastore, 1) := by decide +kernel
theorem dX9_layHand_120 : decode cX9_layHand 120 = .ok (.aload_n 0, 1) := by decide +kernel
theorem dX9_layHand_121 : decode cX9_layHand 121 = .ok (.getfield 7, 3) := by decide +kernel
theorem dX9_layHand_124 : decode cX9_layHand 124 = .ok (.sipush 328, 3) := by decide +kernel
theorem dX9_layHand_127 : decode cX9_layHand 127 = .ok (.iload 4, 2) := by decide +kernel
theorem dX9_layHand_129 : decode cX9_layHand 129 = .ok (.iadd, 1) := by decide +kernel
theorem dX9_layHand_130 : decode cX9_layHand 130 = .ok (.iload_n 1, 1) := by decide +kernel
theorem dX9_layHand_131 : decode cX9_layHand 131 = .ok (.iastore, 1) := by decide +kernel
theorem dX9_layHand_132 : decode cX9_layHand 132 = .ok (.aload_n 0, 1) := by decide +kernel
theorem dX9_layHand_133 : decode cX9_layHand 133 = .ok (.getfield 7, 3) := by decide +kernel
theorem dX9_layHand_136 : decode cX9_layHand 136 = .ok (.sipush 336, 3) := by decide +kernel
theorem dX9_layHand_139 : decode cX9_layHand 139 = .ok (.iload 4, 2) := by decide +kernel
theorem dX9_layHand_141 : decode cX9_layHand 141 = .ok (.iadd, 1) := by decide +kernel
theorem dX9_layHand_142 : decode cX9_layHand 142 = .ok (.iload_n 2, 1) := by decide +kernel
theorem dX9_layHand_143 : decode cX9_layHand 143 = .ok (.iastore, 1) := by decide +kernel
theorem dX9_layHand_144 : decode cX9_layHand 144 = .ok (.aload_n 0, 1) := by decide +kernel
theorem dX9_layHand_145 : decode cX9_layHand 145 = .ok (.getfield 7, 3) := by decide +kernel
theorem dX9_layHand_148 : decode cX9_layHand 148 = .ok (.iconst 3, 1) := by decide +kernel
theorem dX9_layHand_149 : decode cX9_layHand 149 = .ok (.dup2, 1) := by decide +kernel
theorem dX9_layHand_150 : decode cX9_layHand 150 = .ok (.iaload, 1) := by decide +kernel
theorem dX9_layHand_151 : decode cX9_layHand 151 = .ok (.iconst 1, 1) := by decide +kernel
theorem dX9_layHand_152 : decode cX9_layHand 152 = .ok (.iadd, 1) := by decide +kernel
theorem dX9_layHand_153 : decode cX9_layHand 153 = .ok (.iastore, 1) := by decide +kernel
theorem dX9_layHand_154 : decode cX9_layHand 154 = .ok (.return_, 1) := by decide +kernel
theorem dX9_set_0 : decode cX9_set 0 = .ok (.aload_n 0, 1) := by decide +kernel
theorem dX9_set_1 : decode cX9_set 1 = .ok (.iload_n 1, 1) := by decide +kernel
theorem dX9_set_2 : decode cX9_set 2 = .ok (.invokevirtual 168, 3) := by decide +kernel
theorem dX9_set_5 : decode cX9_set 5 = .ok (.ifCond .eq 10, 3) := by decide +kernel
theorem dX9_set_8 : decode cX9_set 8 = .ok (.iload_n 2, 1) := by decide +kernel
theorem dX9_set_9 : decode cX9_set 9 = .ok (.invokestatic 190, 3) := by decide +kernel
theorem dX9_set_12 : decode cX9_set 12 = .ok (.ifCond .ne 6, 3) := by decide +kernel
theorem dX9_set_15 : decode cX9_set 15 = .ok (.ldc 183, 2) := by decide +kernel
theorem dX9_set_17 : decode cX9_set 17 = .ok (.ireturn, 1) := by decide +kernel
theorem dX9_set_18 : decode cX9_set 18 = .ok (.iload_n 3, 1) := by decide +kernel
theorem dX9_set_19 : decode cX9_set 19 = .ok (.iconst 0, 1) := by decide +kernel
theorem dX9_set_20 : decode cX9_set 20 = .ok (.bipush 20, 2) := by decide +kernel
theorem dX9_set_22 : decode cX9_set 22 = .ok (.invokestatic 41, 3) := by decide +kernel
theorem dX9_set_25 : decode cX9_set 25 = .ok (.ifCond .ne 6, 3) := by decide +kernel
theorem dX9_set_28 : decode cX9_set 28 = .ok (.ldc 101, 2) := by decide +kernel
theorem dX9_set_30 : decode cX9_set 30 = .ok (.ireturn, 1) := by decide +kernel
theorem dX9_set_31 : decode cX9_set 31 = .ok (.aload_n 0, 1) := by decide +kernel
theorem dX9_set_32 : decode cX9_set 32 = .ok (.iload_n 1, 1) := by decide +kernel
theorem dX9_set_33 : decode cX9_set 33 = .ok (.invokevirtual 197, 3) := by decide +kernel
theorem dX9_set_36 : decode cX9_set 36 = .ok (.istore 4, 2) := by decide +kernel
theorem dX9_set_38 : decode cX9_set 38 = .ok (.iload 4, 2) := by decide +kernel
theorem dX9_set_40 : decode cX9_set 40 = .ok (.iconst 1, 1) := by decide +kernel
theorem dX9_set_41 : decode cX9_set 41 = .ok (.if_icmp .eq 6, 3) := by decide +kernel
theorem dX9_set_44 : decode cX9_set 44 = .ok (.iload 4, 2) := by decide +kernel
theorem dX9_set_46 : decode cX9_set 46 = .ok (.ireturn, 1) := by decide +kernel
theorem dX9_set_47 : decode cX9_set 47 = .ok (.aload_n 0, 1) := by decide +kernel
theorem dX9_set_48 : decode cX9_set 48 = .ok (.invokevirtual 194, 3) := by decide +kernel
theorem dX9_set_51 : decode cX9_set 51 = .ok (.aload_n 0, 1) := by decide +kernel
theorem dX9_set_52 : decode cX9_set 52 = .ok (.iload_n 1, 1) := by decide +kernel
theorem dX9_set_53 : decode cX9_set 53 = .ok (.iload_n 2, 1) := by decide +kernel
theorem dX9_set_54 : decode cX9_set 54 = .ok (.aload_n 0, 1) := by decide +kernel
theorem dX9_set_55 : decode cX9_set 55 = .ok (.getfield 7, 3) := by decide +kernel
theorem dX9_set_58 : decode cX9_set 58 = .ok (.iconst 0, 1) := by decide +kernel
theorem dX9_set_59 : decode cX9_set 59 = .ok (.iaload, 1) := by decide +kernel
theorem dX9_set_60 : decode cX9_set 60 = .ok (.iload_n 3, 1) := by decide +kernel
theorem dX9_set_61 : decode cX9_set 61 = .ok (.iadd, 1) := by decide +kernel
theorem dX9_set_62 : decode cX9_set 62 = .ok (.invokevirtual 200, 3) := by decide +kernel
theorem dX9_set_65 : decode cX9_set 65 = .ok (.aload_n 0, 1) := by decide +kernel
theorem dX9_set_66 : decode cX9_set 66 = .ok (.getfield 7, 3) := by decide +kernel
theorem dX9_set_69 : decode cX9_set 69 = .ok (.iconst 3, 1) := by decide +kernel
theorem dX9_set_70 : decode cX9_set 70 = .ok (.iaload, 1) := by decide +kernel
theorem dX9_set_71 : decode cX9_set 71 = .ok (.ireturn, 1) := by decide +kernel
theorem dX9_calm_0 : decode cX9_calm 0 = .ok (.aload_n 0, 1) := by decide +kernel
theorem dX9_calm_1 : decode cX9_calm 1 = .ok (.getfield 7, 3) := by decide +kernel
theorem dX9_calm_4 : decode cX9_calm 4 = .ok (.iconst 2, 1) := by decide +kernel
theorem dX9_calm_5 : decode cX9_calm 5 = .ok (.iaload, 1) := by decide +kernel
theorem dX9_calm_6 : decode cX9_calm 6 = .ok (.ifCond .ne 6, 3) := by decide +kernel
theorem dX9_calm_9 : decode cX9_calm 9 = .ok (.ldc 193, 2) := by decide +kernel
theorem dX9_calm_11 : decode cX9_calm 11 = .ok (.ireturn, 1) := by decide +kernel
theorem dX9_calm_12 : decode cX9_calm 12 = .ok (.aload_n 0, 1) := by decide +kernel
theorem dX9_calm_13 : decode cX9_calm 13 = .ok (.invokevirtual 194, 3) := by decide +kernel
theorem dX9_calm_16 : decode cX9_calm 16 = .ok (.aload_n 0, 1) := by decide +kernel
theorem dX9_calm_17 : decode cX9_calm 17 = .ok (.getfield 7, 3) := by decide +kernel
theorem dX9_calm_20 : decode cX9_calm 20 = .ok (.iconst 2, 1) := by decide +kernel
theorem dX9_calm_21 : decode cX9_calm 21 = .ok (.iconst 0, 1) := by decide +kernel
theorem dX9_calm_22 : decode cX9_calm 22 = .ok (.iastore, 1) := by decide +kernel
theorem dX9_calm_23 : decode cX9_calm 23 = .ok (.aload_n 0, 1) := by decide +kernel
theorem dX9_calm_24 : decode cX9_calm 24 = .ok (.iconst 0, 1) := by decide +kernel
theorem dX9_calm_25 : decode cX9_calm 25 = .ok (.invokevirtual 140, 3) := by decide +kernel
theorem dX9_calm_28 : decode cX9_calm 28 = .ok (.aload_n 0, 1) := by decide +kernel
theorem dX9_calm_29 : decode cX9_calm 29 = .ok (.getfield 7, 3) := by decide +kernel
theorem dX9_calm_32 : decode cX9_calm 32 = .ok (.iconst 0, 1) := by decide +kernel
