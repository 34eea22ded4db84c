theorem dX9_init_0 : decode cX9_init 0 = .ok (.aload_n 0, 1) := by decide +kernel
theorem dX9_init_1 : decode cX9_init 1 = .ok (.invokespecial 1, 3) := by decide +kernel
theorem dX9_init_4 : decode cX9_init 4 = .ok (.aload_n 0, 1) := by decide +kernel
theorem dX9_init_5 : decode cX9_init 5 = .ok (.sipush 6880, 3) := by decide +kernel
theorem dX9_init_8 : decode cX9_init 8 = .ok (.newarray .int, 2) := by decide +kernel
theorem dX9_init_10 : decode cX9_init 10 = .ok (.putfield 7, 3) := by decide +kernel
theorem dX9_init_13 : decode cX9_init 13 = .ok (.aload_n 0, 1) := by decide +kernel
theorem dX9_init_14 : decode cX9_init 14 = .ok (.bipush 48, 2) := by decide +kernel
theorem dX9_init_16 : decode cX9_init 16 = .ok (.newarray .int, 2) := by decide +kernel
theorem dX9_init_18 : decode cX9_init 18 = .ok (.putfield 13, 3) := by decide +kernel
theorem dX9_init_21 : decode cX9_init 21 = .ok (.aload_n 0, 1) := by decide +kernel
theorem dX9_init_22 : decode cX9_init 22 = .ok (.iconst 2, 1) := by decide +kernel
theorem dX9_init_23 : decode cX9_init 23 = .ok (.newarray .int, 2) := by decide +kernel
theorem dX9_init_25 : decode cX9_init 25 = .ok (.putfield 16, 3) := by decide +kernel
theorem dX9_init_28 : decode cX9_init 28 = .ok (.aload_n 0, 1) := by decide +kernel
theorem dX9_init_29 : decode cX9_init 29 = .ok (.bipush 20, 2) := by decide +kernel
theorem dX9_init_31 : decode cX9_init 31 = .ok (.newarray .int, 2) := by decide +kernel
theorem dX9_init_33 : decode cX9_init 33 = .ok (.putfield 19, 3) := by decide +kernel
theorem dX9_init_36 : decode cX9_init 36 = .ok (.aload_n 0, 1) := by decide +kernel
theorem dX9_init_37 : decode cX9_init 37 = .ok (.bipush 20, 2) := by decide +kernel
theorem dX9_init_39 : decode cX9_init 39 = .ok (.newarray .int, 2) := by decide +kernel
theorem dX9_init_41 : decode cX9_init 41 = .ok (.putfield 22, 3) := by decide +kernel
theorem dX9_init_44 : decode cX9_init 44 = .ok (.aload_n 0, 1) := by decide +kernel
theorem dX9_init_45 : decode cX9_init 45 = .ok (.sipush 200, 3) := by decide +kernel
theorem dX9_init_48 : decode cX9_init 48 = .ok (.newarray .int, 2) := by decide +kernel
theorem dX9_init_50 : decode cX9_init 50 = .ok (.putfield 25, 3) := by decide +kernel
theorem dX9_init_53 : decode cX9_init 53 = .ok (.aload_n 0, 1) := by decide +kernel
theorem dX9_init_54 : decode cX9_init 54 = .ok (.iconst (-1), 1) := by decide +kernel
theorem dX9_init_55 : decode cX9_init 55 = .ok (.putfield 28, 3) := by decide +kernel
theorem dX9_init_58 : decode cX9_init 58 = .ok (.aload_n 0, 1) := by decide +kernel
theorem dX9_init_59 : decode cX9_init 59 = .ok (.bipush 8, 2) := by decide +kernel
theorem dX9_init_61 : decode cX9_init 61 = .ok (.newarray .int, 2) := by decide +kernel
theorem dX9_init_63 : decode cX9_init 63 = .ok (.putfield 32, 3) := by decide +kernel
theorem dX9_init_66 : decode cX9_init 66 = .ok (.aload_n 0, 1) := by decide +kernel
theorem dX9_init_67 : decode cX9_init 67 = .ok (.bipush 48, 2) := by decide +kernel
theorem dX9_init_69 : decode cX9_init 69 = .ok (.newarray .int, 2) := by decide +kernel
theorem dX9_init_71 : decode cX9_init 71 = .ok (.putfield 35, 3) := by decide +kernel
theorem dX9_init_74 : decode cX9_init 74 = .ok (.return_, 1) := by decide +kernel
theorem dX9_in_0 : decode cX9_in 0 = .ok (.iload_n 0, 1) := by decide +kernel
theorem dX9_in_1 : decode cX9_in 1 = .ok (.iload_n 1, 1) := by decide +kernel
theorem dX9_in_2 : decode cX9_in 2 = .ok (.if_icmp .lt 12, 3) := by decide +kernel
theorem dX9_in_5 : decode cX9_in 5 = .ok (.iload_n 0, 1) := by decide +kernel
theorem dX9_in_6 : decode cX9_in 6 = .ok (.iload_n 2, 1) := by decide +kernel
theorem dX9_in_7 : decode cX9_in 7 = .ok (.if_icmp .gt 7, 3) := by decide +kernel
theorem dX9_in_10 : decode cX9_in 10 = .ok (.iconst 1, 1) := by decide +kernel
theorem dX9_in_11 : decode cX9_in 11 = .ok (.goto 4, 3) := by decide +kernel
theorem dX9_in_14 : decode cX9_in 14 = .ok (.iconst 0, 1) := by decide +kernel
theorem dX9_in_15 : decode cX9_in 15 = .ok (.ireturn, 1) := by decide +kernel
theorem dX9_least_0 : decode cX9_least 0 = .ok (.iload_n 0, 1) := by decide +kernel
theorem dX9_least_1 : decode cX9_least 1 = .ok (.iload_n 1, 1) := by decide +kernel
theorem dX9_least_2 : decode cX9_least 2 = .ok (.if_icmp .ge 7, 3) := by decide +kernel
theorem dX9_least_5 : decode cX9_least 5 = .ok (.iload_n 0, 1) := by decide +kernel
theorem dX9_least_6 : decode cX9_least 6 = .ok (.goto 4, 3) := by decide +kernel
theorem dX9_least_9 : decode cX9_least 9 = .ok (.iload_n 1, 1) := by decide +kernel
theorem dX9_least_10 : decode cX9_least 10 = .ok (.ireturn, 1) := by decide +kernel
theorem dX9_copyRow_0 : decode cX9_copyRow 0 = .ok (.iconst 0, 1) := by decide +kernel
theorem dX9_copyRow_1 : decode cX9_copyRow 1 = .ok (.istore_n 3, 1) := by decide +kernel
theorem dX9_copyRow_2 : decode cX9_copyRow 2 = .ok (.iload_n 3, 1) := by decide +kernel
theorem dX9_copyRow_3 : decode cX9_copyRow 3 = .ok (.sipush 344, 3) := by decide +kernel
theorem dX9_copyRow_6 : decode cX9_copyRow 6 = .ok (.if_icmp .ge 25, 3) := by decide +kernel
theorem dX9_copyRow_9 : decode cX9_copyRow 9 = .ok (.aload_n 0, 1) := by decide +kernel
theorem dX9_copyRow_10 : decode cX9_copyRow 10 = .ok (.getfield 7, 3) := by decide +kernel
theorem dX9_copyRow_13 : decode cX9_copyRow 13 = .ok (.iload_n 2, 1) := by decide +kernel
theorem dX9_copyRow_14 : decode cX9_copyRow 14 = .ok (.iload_n 3, 1) := by decide +kernel
theorem dX9_copyRow_15 : decode cX9_copyRow 15 = .ok (.iadd, 1) := by decide +kernel
theorem dX9_copyRow_16 : decode cX9_copyRow 16 = .ok (.aload_n 0, 1) := by decide +kernel
theorem dX9_copyRow_17 : decode cX9_copyRow 17 = .ok (.getfield 7, 3) := by decide +kernel
theorem dX9_copyRow_20 : decode cX9_copyRow 20 = .ok (.iload_n 1, 1) := by decide +kernel
theorem dX9_copyRow_21 : decode cX9_copyRow 21 = .ok (.iload_n 3, 1) := by decide +kernel
theorem dX9_copyRow_22 : decode cX9_copyRow 22 = .ok (.iadd, 1) := by decide +kernel
theorem dX9_copyRow_23 : decode cX9_copyRow 23 = .ok (.iaload, 1) := by decide +kernel
theorem dX9_copyRow_24 : decode cX9_copyRow 24 = .ok (.iastore, 1) := by decide +kernel
theorem dX9_copyRow_25 : decode cX9_copyRow 25 = .ok (.iinc 3 1, 3) := by decide +kernel
theorem dX9_copyRow_28 : decode cX9_copyRow 28 = .ok (.goto (-26), 3) := by decide +kernel
theorem dX9_copyRow_31 : decode cX9_copyRow 31 = .ok (.return_, 1) := by decide +kernel
theorem dX9_isWire_0 : decode cX9_isWire 0 = .ok (.iload_n 1, 1) := by decide +kernel
theorem dX9_isWire_1 : decode cX9_isWire 1 = .ok (.iconst 0, 1) := by decide +kernel
theorem dX9_isWire_2 : decode cX9_isWire 2 = .ok (.aload_n 0, 1) := by decide +kernel
theorem dX9_isWire_3 : decode cX9_isWire 3 = .ok (.getfield 38, 3) := by decide +kernel
theorem dX9_isWire_6 : decode cX9_isWire 6 = .ok (.iconst 1, 1) := by decide +kernel
theorem dX9_isWire_7 : decode cX9_isWire 7 = .ok (.isub, 1) := by decide +kernel
theorem dX9_isWire_8 : decode cX9_isWire 8 = .ok (.invokestatic 41, 3) := by decide +kernel
theorem dX9_isWire_11 : decode cX9_isWire 11 = .ok (.ireturn, 1) := by decide +kernel
theorem dX9_isGate_0 : decode cX9_isGate 0 = .ok (.iload_n 1, 1) := by decide +kernel
theorem dX9_isGate_1 : decode cX9_isGate 1 = .ok (.iconst 0, 1) := by decide +kernel
theorem dX9_isGate_2 : decode cX9_isGate 2 = .ok (.aload_n 0, 1) := by decide +kernel
theorem dX9_isGate_3 : decode cX9_isGate 3 = .ok (.getfield 45, 3) := by decide +kernel
theorem dX9_isGate_6 : decode cX9_isGate 6 = .ok (.iconst 1, 1) := by decide +kernel
theorem dX9_isGate_7 : decode cX9_isGate 7 = .ok (.isub, 1) := by decide +kernel
theorem dX9_isGate_8 : decode cX9_isGate 8 = .ok (.invokestatic 41, 3) := by decide +kernel
theorem dX9_isGate_11 : decode cX9_isGate 11 = .ok (.ireturn, 1) := by decide +kernel
theorem dX9_isLevel_0 : decode cX9_isLevel 0 = .ok (.iload_n 0, 1) := by decide +kernel
theorem dX9_isLevel_1 : decode cX9_isLevel 1 = .ok (.iconst 0, 1) := by decide +kernel
theorem dX9_isLevel_2 : decode cX9_isLevel 2 = .ok (.iconst 3, 1) := by decide +kernel
theorem dX9_isLevel_3 : decode cX9_isLevel 3 = .ok (.invokestatic 41, 3) := by decide +kernel
theorem dX9_isLevel_6 : decode cX9_isLevel 6 = .ok (.ireturn, 1) := by decide +kernel
theorem dX9_of_0 : decode cX9_of 0 = .ok (.aload_n 0, 1) := by decide +kernel
theorem dX9_of_1 : decode cX9_of 1 = .ok (.getfield 13, 3) := by decide +kernel
theorem dX9_of_4 : decode cX9_of 4 = .ok (.bipush 6, 2) := by decide +kernel
theorem dX9_of_6 : decode cX9_of 6 = .ok (.iload_n 1, 1) := by decide +kernel
theorem dX9_of_7 : decode cX9_of 7 = .ok (.imul, 1) := by decide +kernel
theorem dX9_of_8 : decode cX9_of 8 = .ok (.iload_n 2, 1) := by decide +kernel
theorem dX9_of_9 : decode cX9_of 9 = .ok (.iadd, 1) := by decide +kernel
theorem dX9_of_10 : decode cX9_of 10 = .ok (.iaload, 1) := by decide +kernel
theorem dX9_of_11 : decode cX9_of 11 = .ok (.ireturn, 1) := by decide +kernel
theorem dX9_firm_0 : decode cX9_firm 0 = .ok (.iload_n 0, 1) := by decide +kernel
theorem dX9_firm_1 : decode cX9_firm 1 = .ok (.iconst 2, 1) := by decide +kernel
theorem dX9_firm_2 : decode cX9_firm 2 = .ok (.if_icmp .ne 7, 3) := by decide +kernel
theorem dX9_firm_5 : decode cX9_firm 5 = .ok (.iconst 3, 1) := by decide +kernel
theorem dX9_firm_6 : decode cX9_firm 6 = .ok (.goto 4, 3) := by decide +kernel
theorem dX9_firm_9 : decode cX9_firm 9 = .ok (.iload_n 0, 1) := by decide +kernel
theorem dX9_firm_10 : decode cX9_firm 10 = .ok (.ireturn, 1) := by decide +kernel
theorem dX9_together_0 : decode cX9_together 0 = .ok (.iload_n 0, 1) := by decide +kernel
theorem dX9_together_1 : decode cX9_together 1 = .ok (.iconst 2, 1) := by decide +kernel
theorem dX9_together_2 : decode cX9_together 2 = .ok (.if_icmp .ne 5, 3) := by decide +kernel
theorem dX9_together_5 : decode cX9_together 5 = .ok (.iload_n 1, 1) := by decide +kernel
theorem dX9_together_6 : decode cX9_together 6 = .ok (.ireturn, 1) := by decide +kernel
theorem dX9_together_7 : decode cX9_together 7 = .ok (.iload_n 1, 1) := by decide +kernel
theorem dX9_together_8 : decode cX9_together 8 = .ok (.iconst 2, 1) := by decide +kernel
theorem dX9_together_9 : decode cX9_together 9 = .ok (.if_icmp .eq 8, 3) := by decide +kernel
theorem dX9_together_12 : decode cX9_together 12 = .ok (.iload_n 0, 1) := by decide +kernel
theorem dX9_together_13 : decode cX9_together 13 = .ok (.iload_n 1, 1) := by decide +kernel
theorem dX9_together_14 : decode cX9_together 14 = .ok (.if_icmp .ne 7, 3) := by decide +kernel
theorem dX9_together_17 : decode cX9_together 17 = .ok (.iload_n 0, 1) := by decide +kernel
theorem dX9_together_18 : decode cX9_together 18 = .ok (.goto 4, 3) := by decide +kernel
theorem dX9_together_21 : decode cX9_together 21 = .ok (.iconst 3, 1) := by decide +kernel
theorem dX9_together_22 : decode cX9_together 22 = .ok (.ireturn, 1) := by decide +kernel
theorem dX9_made_0 : decode cX9_made 0 = .ok (.iload_n 1, 1) := by decide +kernel
theorem dX9_made_1 : decode cX9_made 1 = .ok (.invokestatic 48, 3) := by decide +kernel
theorem dX9_made_4 : decode cX9_made 4 = .ok (.istore_n 3, 1) := by decide +kernel
theorem dX9_made_5 : decode cX9_made 5 = .ok (.iload_n 2, 1) := by decide +kernel
theorem dX9_made_6 : decode cX9_made 6 = .ok (.invokestatic 48, 3) := by decide +kernel
theorem dX9_made_9 : decode cX9_made 9 = .ok (.istore 4, 2) := by decide +kernel
theorem dX9_made_11 : decode cX9_made 11 = .ok (.iload_n 0, 1) := by decide +kernel
theorem dX9_made_12 : decode cX9_made 12 = .ok (.tableswitch 132 0 3 #[32, 45, 75, 105], 32) := by decide +kernel
theorem dX9_made_44 : decode cX9_made 44 = .ok (.iload_n 3, 1) := by decide +kernel
theorem dX9_made_45 : decode cX9_made 45 = .ok (.iconst 3, 1) := by decide +kernel
theorem dX9_made_46 : decode cX9_made 46 = .ok (.if_icmp .ne 7, 3) := by decide +kernel
theorem dX9_made_49 : decode cX9_made 49 = .ok (.iconst 3, 1) := by decide +kernel
theorem dX9_made_50 : decode cX9_made 50 = .ok (.goto 6, 3) := by decide +kernel
theorem dX9_made_53 : decode cX9_made 53 = .ok (.iconst 1, 1) := by decide +kernel
theorem dX9_made_54 : decode cX9_made 54 = .ok (.iload_n 3, 1) := by decide +kernel
theorem dX9_made_55 : decode cX9_made 55 = .ok (.isub, 1) := by decide +kernel
theorem dX9_made_56 : decode cX9_made 56 = .ok (.ireturn, 1) := by decide +kernel
theorem dX9_made_57 : decode cX9_made 57 = .ok (.iload_n 3, 1) := by decide +kernel
theorem dX9_made_58 : decode cX9_made 58 = .ok (.ifCond .eq 8, 3) := by decide +kernel
theorem dX9_made_61 : decode cX9_made 61 = .ok (.iload 4, 2) := by decide +kernel
theorem dX9_made_63 : decode cX9_made 63 = .ok (.ifCond .ne 7, 3) := by decide +kernel
theorem dX9_made_66 : decode cX9_made 66 = .ok (.iconst 0, 1) := by decide +kernel
theorem dX9_made_67 : decode cX9_made 67 = .ok (.goto 19, 3) := by decide +kernel
theorem dX9_made_70 : decode cX9_made 70 = .ok (.iload_n 3, 1) := by decide +kernel
theorem dX9_made_71 : decode cX9_made 71 = .ok (.iconst 1, 1) := by decide +kernel
theorem dX9_made_72 : decode cX9_made 72 = .ok (.if_icmp .ne 13, 3) := by decide +kernel
theorem dX9_made_75 : decode cX9_made 75 = .ok (.iload 4, 2) := by decide +kernel
theorem dX9_made_77 : decode cX9_made 77 = .ok (.iconst 1, 1) := by decide +kernel
theorem dX9_made_78 : decode cX9_made 78 = .ok (.if_icmp .ne 7, 3) := by decide +kernel
theorem dX9_made_81 : decode cX9_made 81 = .ok (.iconst 1, 1) := by decide +kernel
theorem dX9_made_82 : decode cX9_made 82 = .ok (.goto 4, 3) := by decide +kernel
theorem dX9_made_85 : decode cX9_made 85 = .ok (.iconst 3, 1) := by decide +kernel
theorem dX9_made_86 : decode cX9_made 86 = .ok (.ireturn, 1) := by decide +kernel
theorem dX9_made_87 : decode cX9_made 87 = .ok (.iload_n 3, 1) := by decide +kernel
theorem dX9_made_88 : decode cX9_made 88 = .ok (.iconst 1, 1) := by decide +kernel
theorem dX9_made_89 : decode cX9_made 89 = .ok (.if_icmp .eq 9, 3) := by decide +kernel
theorem dX9_made_92 : decode cX9_made 92 = .ok (.iload 4, 2) := by decide +kernel
theorem dX9_made_94 : decode cX9_made 94 = .ok (.iconst 1, 1) := by decide +kernel
theorem dX9_made_95 : decode cX9_made 95 = .ok (.if_icmp .ne 7, 3) := by decide +kernel
theorem dX9_made_98 : decode cX9_made 98 = .ok (.iconst 1, 1) := by decide +kernel
theorem dX9_made_99 : decode cX9_made 99 = .ok (.goto 17, 3) := by decide +kernel
theorem dX9_made_102 : decode cX9_made 102 = .ok (.iload_n 3, 1) := by decide +kernel
theorem dX9_made_103 : decode cX9_made 103 = .ok (.ifCond .ne 12, 3) := by decide +kernel
theorem dX9_made_106 : decode cX9_made 106 = .ok (.iload 4, 2) := by decide +kernel
theorem dX9_made_108 : decode cX9_made 108 = .ok (.ifCond .ne 7, 3) := by decide +kernel
theorem dX9_made_111 : decode cX9_made 111 = .ok (.iconst 0, 1) := by decide +kernel
theorem dX9_made_112 : decode cX9_made 112 = .ok (.goto 4, 3) := by decide +kernel
theorem dX9_made_115 : decode cX9_made 115 = .ok (.iconst 3, 1) := by decide +kernel
theorem dX9_made_116 : decode cX9_made 116 = .ok (.ireturn, 1) := by decide +kernel
theorem dX9_made_117 : decode cX9_made 117 = .ok (.iload_n 3, 1) := by decide +kernel
theorem dX9_made_118 : decode cX9_made 118 = .ok (.iconst 3, 1) := by decide +kernel
theorem dX9_made_119 : decode cX9_made 119 = .ok (.if_icmp .eq 9, 3) := by decide +kernel
theorem dX9_made_122 : decode cX9_made 122 = .ok (.iload 4, 2) := by decide +kernel
theorem dX9_made_124 : decode cX9_made 124 = .ok (.iconst 3, 1) := by decide +kernel
theorem dX9_made_125 : decode cX9_made 125 = .ok (.if_icmp .ne 7, 3) := by decide +kernel
theorem dX9_made_128 : decode cX9_made 128 = .ok (.iconst 3, 1) := by decide +kernel
theorem dX9_made_129 : decode cX9_made 129 = .ok (.goto 14, 3) := by decide +kernel
theorem dX9_made_132 : decode cX9_made 132 = .ok (.iload_n 3, 1) := by decide +kernel
theorem dX9_made_133 : decode cX9_made 133 = .ok (.iload 4, 2) := by decide +kernel
theorem dX9_made_135 : decode cX9_made 135 = .ok (.if_icmp .ne 7, 3) := by decide +kernel
theorem dX9_made_138 : decode cX9_made 138 = .ok (.iconst 0, 1) := by decide +kernel
theorem dX9_made_139 : decode cX9_made 139 = .ok (.goto 4, 3) := by decide +kernel
theorem dX9_made_142 : decode cX9_made 142 = .ok (.iconst 1, 1) := by decide +kernel
theorem dX9_made_143 : decode cX9_made 143 = .ok (.ireturn, 1) := by decide +kernel
theorem dX9_made_144 : decode cX9_made 144 = .ok (.iload 4, 2) := by decide +kernel
theorem dX9_made_146 : decode cX9_made 146 = .ok (.ifCond .ne 7, 3) := by decide +kernel
theorem dX9_made_149 : decode cX9_made 149 = .ok (.iconst 2, 1) := by decide +kernel
theorem dX9_made_150 : decode cX9_made 150 = .ok (.goto 14, 3) := by decide +kernel
theorem dX9_made_153 : decode cX9_made 153 = .ok (.iload 4, 2) := by decide +kernel
theorem dX9_made_155 : decode cX9_made 155 = .ok (.iconst 1, 1) := by decide +kernel
theorem dX9_made_156 : decode cX9_made 156 = .ok (.if_icmp .ne 7, 3) := by decide +kernel
theorem dX9_made_159 : decode cX9_made 159 = .ok (.iload_n 3, 1) := by decide +kernel
theorem dX9_made_160 : decode cX9_made 160 = .ok (.goto 4, 3) := by decide +kernel
theorem dX9_made_163 : decode cX9_made 163 = .ok (.iconst 3, 1) := by decide +kernel
theorem dX9_made_164 : decode cX9_made 164 = .ok (.ireturn, 1) := by decide +kernel
theorem dX9_comesOf_0 : decode cX9_comesOf 0 = .ok (.aload_n 0, 1) := by decide +kernel
theorem dX9_comesOf_1 : decode cX9_comesOf 1 = .ok (.getfield 7, 3) := by decide +kernel
theorem dX9_comesOf_4 : decode cX9_comesOf 4 = .ok (.iload_n 1, 1) := by decide +kernel
theorem dX9_comesOf_5 : decode cX9_comesOf 5 = .ok (.bipush 8, 2) := by decide +kernel
theorem dX9_comesOf_7 : decode cX9_comesOf 7 = .ok (.iadd, 1) := by decide +kernel
theorem dX9_comesOf_8 : decode cX9_comesOf 8 = .ok (.aload_n 0, 1) := by decide +kernel
theorem dX9_comesOf_9 : decode cX9_comesOf 9 = .ok (.iload_n 2, 1) := by decide +kernel
theorem dX9_comesOf_10 : decode cX9_comesOf 10 = .ok (.iconst 1, 1) := by decide +kernel
theorem dX9_comesOf_11 : decode cX9_comesOf 11 = .ok (.invokevirtual 52, 3) := by decide +kernel
theorem dX9_comesOf_14 : decode cX9_comesOf 14 = .ok (.iadd, 1) := by decide +kernel
theorem dX9_comesOf_15 : decode cX9_comesOf 15 = .ok (.iaload, 1) := by decide +kernel
theorem dX9_comesOf_16 : decode cX9_comesOf 16 = .ok (.istore_n 3, 1) := by decide +kernel
theorem dX9_comesOf_17 : decode cX9_comesOf 17 = .ok (.aload_n 0, 1) := by decide +kernel
theorem dX9_comesOf_18 : decode cX9_comesOf 18 = .ok (.getfield 7, 3) := by decide +kernel
theorem dX9_comesOf_21 : decode cX9_comesOf 21 = .ok (.iload_n 1, 1) := by decide +kernel
theorem dX9_comesOf_22 : decode cX9_comesOf 22 = .ok (.bipush 8, 2) := by decide +kernel
theorem dX9_comesOf_24 : decode cX9_comesOf 24 = .ok (.iadd, 1) := by decide +kernel
theorem dX9_comesOf_25 : decode cX9_comesOf 25 = .ok (.aload_n 0, 1) := by decide +kernel
theorem dX9_comesOf_26 : decode cX9_comesOf 26 = .ok (.iload_n 2, 1) := by decide +kernel
theorem dX9_comesOf_27 : decode cX9_comesOf 27 = .ok (.iconst 2, 1) := by decide +kernel
theorem dX9_comesOf_28 : decode cX9_comesOf 28 = .ok (.invokevirtual 52, 3) := by decide +kernel
theorem dX9_comesOf_31 : decode cX9_comesOf 31 = .ok (.iadd, 1) := by decide +kernel
theorem dX9_comesOf_32 : decode cX9_comesOf 32 = .ok (.iaload, 1) := by decide +kernel
theorem dX9_comesOf_33 : decode cX9_comesOf 33 = .ok (.istore 4, 2) := by decide +kernel
theorem dX9_comesOf_35 : decode cX9_comesOf 35 = .ok (.aload_n 0, 1) := by decide +kernel
theorem dX9_comesOf_36 : decode cX9_comesOf 36 = .ok (.iload_n 2, 1) := by decide +kernel
theorem dX9_comesOf_37 : decode cX9_comesOf 37 = .ok (.iconst 0, 1) := by decide +kernel
theorem dX9_comesOf_38 : decode cX9_comesOf 38 = .ok (.invokevirtual 52, 3) := by decide +kernel
theorem dX9_comesOf_41 : decode cX9_comesOf 41 = .ok (.iconst 5, 1) := by decide +kernel
theorem dX9_comesOf_42 : decode cX9_comesOf 42 = .ok (.if_icmp .ne 29, 3) := by decide +kernel
theorem dX9_comesOf_45 : decode cX9_comesOf 45 = .ok (.iload 4, 2) := by decide +kernel
theorem dX9_comesOf_47 : decode cX9_comesOf 47 = .ok (.iconst 1, 1) := by decide +kernel
theorem dX9_comesOf_48 : decode cX9_comesOf 48 = .ok (.if_icmp .ne 10, 3) := by decide +kernel
theorem dX9_comesOf_51 : decode cX9_comesOf 51 = .ok (.iload_n 3, 1) := by decide +kernel
theorem dX9_comesOf_52 : decode cX9_comesOf 52 = .ok (.invokestatic 48, 3) := by decide +kernel
theorem dX9_comesOf_55 : decode cX9_comesOf 55 = .ok (.goto 15, 3) := by decide +kernel
theorem dX9_comesOf_58 : decode cX9_comesOf 58 = .ok (.aload_n 0, 1) := by decide +kernel
theorem dX9_comesOf_59 : decode cX9_comesOf 59 = .ok (.getfield 7, 3) := by decide +kernel
theorem dX9_comesOf_62 : decode cX9_comesOf 62 = .ok (.iload_n 1, 1) := by decide +kernel
theorem dX9_comesOf_63 : decode cX9_comesOf 63 = .ok (.sipush 176, 3) := by decide +kernel
theorem dX9_comesOf_66 : decode cX9_comesOf 66 = .ok (.iadd, 1) := by decide +kernel
theorem dX9_comesOf_67 : decode cX9_comesOf 67 = .ok (.iload_n 2, 1) := by decide +kernel
theorem dX9_comesOf_68 : decode cX9_comesOf 68 = .ok (.iadd, 1) := by decide +kernel
theorem dX9_comesOf_69 : decode cX9_comesOf 69 = .ok (.iaload, 1) := by decide +kernel
theorem dX9_comesOf_70 : decode cX9_comesOf 70 = .ok (.ireturn, 1) := by decide +kernel
theorem dX9_comesOf_71 : decode cX9_comesOf 71 = .ok (.aload_n 0, 1) := by decide +kernel
theorem dX9_comesOf_72 : decode cX9_comesOf 72 = .ok (.iload_n 2, 1) := by decide +kernel
theorem dX9_comesOf_73 : decode cX9_comesOf 73 = .ok (.iconst 0, 1) := by decide +kernel
theorem dX9_comesOf_74 : decode cX9_comesOf 74 = .ok (.invokevirtual 52, 3) := by decide +kernel
theorem dX9_comesOf_77 : decode cX9_comesOf 77 = .ok (.iload_n 3, 1) := by decide +kernel
theorem dX9_comesOf_78 : decode cX9_comesOf 78 = .ok (.iload 4, 2) := by decide +kernel
theorem dX9_comesOf_80 : decode cX9_comesOf 80 = .ok (.invokestatic 56, 3) := by decide +kernel
theorem dX9_comesOf_83 : decode cX9_comesOf 83 = .ok (.ireturn, 1) := by decide +kernel
theorem dX9_looksAt_0 : decode cX9_looksAt 0 = .ok (.aload_n 0, 1) := by decide +kernel
theorem dX9_looksAt_1 : decode cX9_looksAt 1 = .ok (.iload_n 1, 1) := by decide +kernel
theorem dX9_looksAt_2 : decode cX9_looksAt 2 = .ok (.iconst 1, 1) := by decide +kernel
theorem dX9_looksAt_3 : decode cX9_looksAt 3 = .ok (.invokevirtual 52, 3) := by decide +kernel
theorem dX9_looksAt_6 : decode cX9_looksAt 6 = .ok (.iload_n 2, 1) := by decide +kernel
theorem dX9_looksAt_7 : decode cX9_looksAt 7 = .ok (.if_icmp .eq 22, 3) := by decide +kernel
theorem dX9_looksAt_10 : decode cX9_looksAt 10 = .ok (.aload_n 0, 1) := by decide +kernel
theorem dX9_looksAt_11 : decode cX9_looksAt 11 = .ok (.iload_n 1, 1) := by decide +kernel
theorem dX9_looksAt_12 : decode cX9_looksAt 12 = .ok (.iconst 0, 1) := by decide +kernel
theorem dX9_looksAt_13 : decode cX9_looksAt 13 = .ok (.invokevirtual 52, 3) := by decide +kernel
theorem dX9_looksAt_16 : decode cX9_looksAt 16 = .ok (.ifCond .eq 17, 3) := by decide +kernel
theorem dX9_looksAt_19 : decode cX9_looksAt 19 = .ok (.aload_n 0, 1) := by decide +kernel
theorem dX9_looksAt_20 : decode cX9_looksAt 20 = .ok (.iload_n 1, 1) := by decide +kernel
theorem dX9_looksAt_21 : decode cX9_looksAt 21 = .ok (.iconst 2, 1) := by decide +kernel
theorem dX9_looksAt_22 : decode cX9_looksAt 22 = .ok (.invokevirtual 52, 3) := by decide +kernel
theorem dX9_looksAt_25 : decode cX9_looksAt 25 = .ok (.iload_n 2, 1) := by decide +kernel
theorem dX9_looksAt_26 : decode cX9_looksAt 26 = .ok (.if_icmp .ne 7, 3) := by decide +kernel
theorem dX9_looksAt_29 : decode cX9_looksAt 29 = .ok (.iconst 1, 1) := by decide +kernel
theorem dX9_looksAt_30 : decode cX9_looksAt 30 = .ok (.goto 4, 3) := by decide +kernel
theorem dX9_looksAt_33 : decode cX9_looksAt 33 = .ok (.iconst 0, 1) := by decide +kernel
theorem dX9_looksAt_34 : decode cX9_looksAt 34 = .ok (.ireturn, 1) := by decide +kernel
theorem dX9_driversOf_0 : decode cX9_driversOf 0 = .ok (.iconst 0, 1) := by decide +kernel
theorem dX9_driversOf_1 : decode cX9_driversOf 1 = .ok (.istore_n 2, 1) := by decide +kernel
theorem dX9_driversOf_2 : decode cX9_driversOf 2 = .ok (.iconst 0, 1) := by decide +kernel
theorem dX9_driversOf_3 : decode cX9_driversOf 3 = .ok (.istore_n 3, 1) := by decide +kernel
theorem dX9_driversOf_4 : decode cX9_driversOf 4 = .ok (.iload_n 3, 1) := by decide +kernel
theorem dX9_driversOf_5 : decode cX9_driversOf 5 = .ok (.aload_n 0, 1) := by decide +kernel
theorem dX9_driversOf_6 : decode cX9_driversOf 6 = .ok (.getfield 45, 3) := by decide +kernel
theorem dX9_driversOf_9 : decode cX9_driversOf 9 = .ok (.if_icmp .ge 27, 3) := by decide +kernel
theorem dX9_driversOf_12 : decode cX9_driversOf 12 = .ok (.iload_n 2, 1) := by decide +kernel
theorem dX9_driversOf_13 : decode cX9_driversOf 13 = .ok (.aload_n 0, 1) := by decide +kernel
theorem dX9_driversOf_14 : decode cX9_driversOf 14 = .ok (.iload_n 3, 1) := by decide +kernel
theorem dX9_driversOf_15 : decode cX9_driversOf 15 = .ok (.iconst 3, 1) := by decide +kernel
theorem dX9_driversOf_16 : decode cX9_driversOf 16 = .ok (.invokevirtual 52, 3) := by decide +kernel
theorem dX9_driversOf_19 : decode cX9_driversOf 19 = .ok (.iload_n 1, 1) := by decide +kernel
theorem dX9_driversOf_20 : decode cX9_driversOf 20 = .ok (.if_icmp .ne 7, 3) := by decide +kernel
theorem dX9_driversOf_23 : decode cX9_driversOf 23 = .ok (.iconst 1, 1) := by decide +kernel
theorem dX9_driversOf_24 : decode cX9_driversOf 24 = .ok (.goto 4, 3) := by decide +kernel
theorem dX9_driversOf_27 : decode cX9_driversOf 27 = .ok (.iconst 0, 1) := by decide +kernel
theorem dX9_driversOf_28 : decode cX9_driversOf 28 = .ok (.iadd, 1) := by decide +kernel
theorem dX9_driversOf_29 : decode cX9_driversOf 29 = .ok (.istore_n 2, 1) := by decide +kernel
theorem dX9_driversOf_30 : decode cX9_driversOf 30 = .ok (.iinc 3 1, 3) := by decide +kernel
theorem dX9_driversOf_33 : decode cX9_driversOf 33 = .ok (.goto (-29), 3) := by decide +kernel
theorem dX9_driversOf_36 : decode cX9_driversOf 36 = .ok (.iload_n 2, 1) := by decide +kernel
theorem dX9_driversOf_37 : decode cX9_driversOf 37 = .ok (.ireturn, 1) := by decide +kernel
theorem dX9_drivenTo_0 : decode cX9_drivenTo 0 = .ok (.iconst 2, 1) := by decide +kernel
theorem dX9_drivenTo_1 : decode cX9_drivenTo 1 = .ok (.istore 4, 2) := by decide +kernel
theorem dX9_drivenTo_3 : decode cX9_drivenTo 3 = .ok (.iconst 0, 1) := by decide +kernel
theorem dX9_drivenTo_4 : decode cX9_drivenTo 4 = .ok (.istore 5, 2) := by decide +kernel
theorem dX9_drivenTo_6 : decode cX9_drivenTo 6 = .ok (.iload 5, 2) := by decide +kernel
theorem dX9_drivenTo_8 : decode cX9_drivenTo 8 = .ok (.aload_n 0, 1) := by decide +kernel
theorem dX9_drivenTo_9 : decode cX9_drivenTo 9 = .ok (.getfield 45, 3) := by decide +kernel
theorem dX9_drivenTo_12 : decode cX9_drivenTo 12 = .ok (.if_icmp .ge 51, 3) := by decide +kernel
theorem dX9_drivenTo_15 : decode cX9_drivenTo 15 = .ok (.iload 5, 2) := by decide +kernel
theorem dX9_drivenTo_17 : decode cX9_drivenTo 17 = .ok (.iload_n 3, 1) := by decide +kernel
theorem dX9_drivenTo_18 : decode cX9_drivenTo 18 = .ok (.if_icmp .eq 35, 3) := by decide +kernel
theorem dX9_drivenTo_21 : decode cX9_drivenTo 21 = .ok (.aload_n 0, 1) := by decide +kernel
theorem dX9_drivenTo_22 : decode cX9_drivenTo 22 = .ok (.iload 5, 2) := by decide +kernel
theorem dX9_drivenTo_24 : decode cX9_drivenTo 24 = .ok (.iconst 3, 1) := by decide +kernel
theorem dX9_drivenTo_25 : decode cX9_drivenTo 25 = .ok (.invokevirtual 52, 3) := by decide +kernel
theorem dX9_drivenTo_28 : decode cX9_drivenTo 28 = .ok (.iload_n 2, 1) := by decide +kernel
theorem dX9_drivenTo_29 : decode cX9_drivenTo 29 = .ok (.if_icmp .ne 24, 3) := by decide +kernel
theorem dX9_drivenTo_32 : decode cX9_drivenTo 32 = .ok (.iload 4, 2) := by decide +kernel
theorem dX9_drivenTo_34 : decode cX9_drivenTo 34 = .ok (.aload_n 0, 1) := by decide +kernel
theorem dX9_drivenTo_35 : decode cX9_drivenTo 35 = .ok (.getfield 7, 3) := by decide +kernel
theorem dX9_drivenTo_38 : decode cX9_drivenTo 38 = .ok (.iload_n 1, 1) := by decide +kernel
theorem dX9_drivenTo_39 : decode cX9_drivenTo 39 = .ok (.sipush 176, 3) := by decide +kernel
theorem dX9_drivenTo_42 : decode cX9_drivenTo 42 = .ok (.iadd, 1) := by decide +kernel
theorem dX9_drivenTo_43 : decode cX9_drivenTo 43 = .ok (.iload 5, 2) := by decide +kernel
theorem dX9_drivenTo_45 : decode cX9_drivenTo 45 = .ok (.iadd, 1) := by decide +kernel
theorem dX9_drivenTo_46 : decode cX9_drivenTo 46 = .ok (.iaload, 1) := by decide +kernel
theorem dX9_drivenTo_47 : decode cX9_drivenTo 47 = .ok (.invokestatic 60, 3) := by decide +kernel
theorem dX9_drivenTo_50 : decode cX9_drivenTo 50 = .ok (.goto 5, 3) := by decide +kernel
theorem dX9_drivenTo_53 : decode cX9_drivenTo 53 = .ok (.iload 4, 2) := by decide +kernel
theorem dX9_drivenTo_55 : decode cX9_drivenTo 55 = .ok (.istore 4, 2) := by decide +kernel
theorem dX9_drivenTo_57 : decode cX9_drivenTo 57 = .ok (.iinc 5 1, 3) := by decide +kernel
theorem dX9_drivenTo_60 : decode cX9_drivenTo 60 = .ok (.goto (-54), 3) := by decide +kernel
theorem dX9_drivenTo_63 : decode cX9_drivenTo 63 = .ok (.iload 4, 2) := by decide +kernel
theorem dX9_drivenTo_65 : decode cX9_drivenTo 65 = .ok (.ireturn, 1) := by decide +kernel
theorem dX9_dropFirst_0 : decode cX9_dropFirst 0 = .ok (.aload_n 0, 1) := by decide +kernel
theorem dX9_dropFirst_1 : decode cX9_dropFirst 1 = .ok (.getfield 7, 3) := by decide +kernel
theorem dX9_dropFirst_4 : decode cX9_dropFirst 4 = .ok (.iload_n 1, 1) := by decide +kernel
theorem dX9_dropFirst_5 : decode cX9_dropFirst 5 = .ok (.sipush 184, 3) := by decide +kernel
theorem dX9_dropFirst_8 : decode cX9_dropFirst 8 = .ok (.iadd, 1) := by decide +kernel
theorem dX9_dropFirst_9 : decode cX9_dropFirst 9 = .ok (.iload_n 2, 1) := by decide +kernel
theorem dX9_dropFirst_10 : decode cX9_dropFirst 10 = .ok (.iadd, 1) := by decide +kernel
theorem dX9_dropFirst_11 : decode cX9_dropFirst 11 = .ok (.iaload, 1) := by decide +kernel
theorem dX9_dropFirst_12 : decode cX9_dropFirst 12 = .ok (.iload_n 3, 1) := by decide +kernel
theorem dX9_dropFirst_13 : decode cX9_dropFirst 13 = .ok (.isub, 1) := by decide +kernel
theorem dX9_dropFirst_14 : decode cX9_dropFirst 14 = .ok (.istore 4, 2) := by decide +kernel
theorem dX9_dropFirst_16 : decode cX9_dropFirst 16 = .ok (.iconst 0, 1) := by decide +kernel
theorem dX9_dropFirst_17 : decode cX9_dropFirst 17 = .ok (.istore 5, 2) := by decide +kernel
theorem dX9_dropFirst_19 : decode cX9_dropFirst 19 = .ok (.iload 5, 2) := by decide +kernel
theorem dX9_dropFirst_21 : decode cX9_dropFirst 21 = .ok (.iload 4, 2) := by decide +kernel
theorem dX9_dropFirst_23 : decode cX9_dropFirst 23 = .ok (.if_icmp .ge 85, 3) := by decide +kernel
theorem dX9_dropFirst_26 : decode cX9_dropFirst 26 = .ok (.aload_n 0, 1) := by decide +kernel
theorem dX9_dropFirst_27 : decode cX9_dropFirst 27 = .ok (.getfield 7, 3) := by decide +kernel
theorem dX9_dropFirst_30 : decode cX9_dropFirst 30 = .ok (.iload_n 1, 1) := by decide +kernel
theorem dX9_dropFirst_31 : decode cX9_dropFirst 31 = .ok (.sipush 192, 3) := by decide +kernel
theorem dX9_dropFirst_34 : decode cX9_dropFirst 34 = .ok (.iadd, 1) := by decide +kernel
theorem dX9_dropFirst_35 : decode cX9_dropFirst 35 = .ok (.bipush 8, 2) := by decide +kernel
theorem dX9_dropFirst_37 : decode cX9_dropFirst 37 = .ok (.iload_n 2, 1) := by decide +kernel
theorem dX9_dropFirst_38 : decode cX9_dropFirst 38 = .ok (.imul, 1) := by decide +kernel
theorem dX9_dropFirst_39 : decode cX9_dropFirst 39 = .ok (.iadd, 1) := by decide +kernel
theorem dX9_dropFirst_40 : decode cX9_dropFirst 40 = .ok (.iload 5, 2) := by decide +kernel
theorem dX9_dropFirst_42 : decode cX9_dropFirst 42 = .ok (.iadd, 1) := by decide +kernel
theorem dX9_dropFirst_43 : decode cX9_dropFirst 43 = .ok (.aload_n 0, 1) := by decide +kernel
theorem dX9_dropFirst_44 : decode cX9_dropFirst 44 = .ok (.getfield 7, 3) := by decide +kernel
theorem dX9_dropFirst_47 : decode cX9_dropFirst 47 = .ok (.iload_n 1, 1) := by decide +kernel
theorem dX9_dropFirst_48 : decode cX9_dropFirst 48 = .ok (.sipush 192, 3) := by decide +kernel
theorem dX9_dropFirst_51 : decode cX9_dropFirst 51 = .ok (.iadd, 1) := by decide +kernel
theorem dX9_dropFirst_52 : decode cX9_dropFirst 52 = .ok (.bipush 8, 2) := by decide +kernel
theorem dX9_dropFirst_54 : decode cX9_dropFirst 54 = .ok (.iload_n 2, 1) := by decide +kernel
theorem dX9_dropFirst_55 : decode cX9_dropFirst 55 = .ok (.imul, 1) := by decide +kernel
theorem dX9_dropFirst_56 : decode cX9_dropFirst 56 = .ok (.iadd, 1) := by decide +kernel
theorem dX9_dropFirst_57 : decode cX9_dropFirst 57 = .ok (.iload 5, 2) := by decide +kernel
theorem dX9_dropFirst_59 : decode cX9_dropFirst 59 = .ok (.iadd, 1) := by decide +kernel
theorem dX9_dropFirst_60 : decode cX9_dropFirst 60 = .ok (.iload_n 3, 1) := by decide +kernel
theorem dX9_dropFirst_61 : decode cX9_dropFirst 61 = .ok (.iadd, 1) := by decide +kernel
theorem dX9_dropFirst_62 : decode cX9_dropFirst 62 = .ok (.iaload, 1) := by decide +kernel
theorem dX9_dropFirst_63 : decode cX9_dropFirst 63 = .ok (.iastore, 1) := by decide +kernel
theorem dX9_dropFirst_64 : decode cX9_dropFirst 64 = .ok (.aload_n 0, 1) := by decide +kernel
theorem dX9_dropFirst_65 : decode cX9_dropFirst 65 = .ok (.getfield 7, 3) := by decide +kernel
theorem dX9_dropFirst_68 : decode cX9_dropFirst 68 = .ok (.iload_n 1, 1) := by decide +kernel
theorem dX9_dropFirst_69 : decode cX9_dropFirst 69 = .ok (.sipush 256, 3) := by decide +kernel
theorem dX9_dropFirst_72 : decode cX9_dropFirst 72 = .ok (.iadd, 1) := by decide +kernel
theorem dX9_dropFirst_73 : decode cX9_dropFirst 73 = .ok (.bipush 8, 2) := by decide +kernel
theorem dX9_dropFirst_75 : decode cX9_dropFirst 75 = .ok (.iload_n 2, 1) := by decide +kernel
theorem dX9_dropFirst_76 : decode cX9_dropFirst 76 = .ok (.imul, 1) := by decide +kernel
theorem dX9_dropFirst_77 : decode cX9_dropFirst 77 = .ok (.iadd, 1) := by decide +kernel
theorem dX9_dropFirst_78 : decode cX9_dropFirst 78 = .ok (.iload 5, 2) := by decide +kernel
theorem dX9_dropFirst_80 : decode cX9_dropFirst 80 = .ok (.iadd, 1) := by decide +kernel
theorem dX9_dropFirst_81 : decode cX9_dropFirst 81 = .ok (.aload_n 0, 1) := by decide +kernel
theorem dX9_dropFirst_82 : decode cX9_dropFirst 82 = .ok (.getfield 7, 3) := by decide +kernel
theorem dX9_dropFirst_85 : decode cX9_dropFirst 85 = .ok (.iload_n 1, 1) := by decide +kernel
theorem dX9_dropFirst_86 : decode cX9_dropFirst 86 = .ok (.sipush 256, 3) := by decide +kernel
theorem dX9_dropFirst_89 : decode cX9_dropFirst 89 = .ok (.iadd, 1) := by decide +kernel
theorem dX9_dropFirst_90 : decode cX9_dropFirst 90 = .ok (.bipush 8, 2) := by decide +kernel
theorem dX9_dropFirst_92 : decode cX9_dropFirst 92 = .ok (.iload_n 2, 1) := by decide +kernel
theorem dX9_dropFirst_93 : decode cX9_dropFirst 93 = .ok (.imul, 1) := by decide +kernel
theorem dX9_dropFirst_94 : decode cX9_dropFirst 94 = .ok (.iadd, 1) := by decide +kernel
theorem dX9_dropFirst_95 : decode cX9_dropFirst 95 = .ok (.iload 5, 2) := by decide +kernel
theorem dX9_dropFirst_97 : decode cX9_dropFirst 97 = .ok (.iadd, 1) := by decide +kernel
theorem dX9_dropFirst_98 : decode cX9_dropFirst 98 = .ok (.iload_n 3, 1) := by decide +kernel
theorem dX9_dropFirst_99 : decode cX9_dropFirst 99 = .ok (.iadd, 1) := by decide +kernel
theorem dX9_dropFirst_100 : decode cX9_dropFirst 100 = .ok (.iaload, 1) := by decide +kernel
theorem dX9_dropFirst_101 : decode cX9_dropFirst 101 = .ok (.iastore, 1) := by decide +kernel
theorem dX9_dropFirst_102 : decode cX9_dropFirst 102 = .ok (.iinc 5 1, 3) := by decide +kernel
theorem dX9_dropFirst_105 : decode cX9_dropFirst 105 = .ok (.goto (-86), 3) := by decide +kernel
theorem dX9_dropFirst_108 : decode cX9_dropFirst 108 = .ok (.aload_n 0, 1) := by decide +kernel
theorem dX9_dropFirst_109 : decode cX9_dropFirst 109 = .ok (.getfield 7, 3) := by decide +kernel
theorem dX9_dropFirst_112 : decode cX9_dropFirst 112 = .ok (.iload_n 1, 1) := by decide +kernel
theorem dX9_dropFirst_113 : decode cX9_dropFirst 113 = .ok (.sipush 184, 3) := by decide +kernel
theorem dX9_dropFirst_116 : decode cX9_dropFirst 116 = .ok (.iadd, 1) := by decide +kernel
theorem dX9_dropFirst_117 : decode cX9_dropFirst 117 = .ok (.iload_n 2, 1) := by decide +kernel
theorem dX9_dropFirst_118 : decode cX9_dropFirst 118 = .ok (.iadd, 1) := by decide +kernel
theorem dX9_dropFirst_119 : decode cX9_dropFirst 119 = .ok (.iload 4, 2) := by decide +kernel
theorem dX9_dropFirst_121 : decode cX9_dropFirst 121 = .ok (.iastore, 1) := by decide +kernel
theorem dX9_dropFirst_122 : decode cX9_dropFirst 122 = .ok (.return_, 1) := by decide +kernel
theorem dX9_tell_0 : decode cX9_tell 0 = .ok (.aload_n 0, 1) := by decide +kernel
theorem dX9_tell_1 : decode cX9_tell 1 = .ok (.iload_n 1, 1) := by decide +kernel
theorem dX9_tell_2 : decode cX9_tell 2 = .ok (.iload_n 2, 1) := by decide +kernel
theorem dX9_tell_3 : decode cX9_tell 3 = .ok (.invokevirtual 63, 3) := by decide +kernel
theorem dX9_tell_6 : decode cX9_tell 6 = .ok (.istore_n 3, 1) := by decide +kernel
theorem dX9_tell_7 : decode cX9_tell 7 = .ok (.aload_n 0, 1) := by decide +kernel
theorem dX9_tell_8 : decode cX9_tell 8 = .ok (.getfield 7, 3) := by decide +kernel
theorem dX9_tell_11 : decode cX9_tell 11 = .ok (.iload_n 1, 1) := by decide +kernel
theorem dX9_tell_12 : decode cX9_tell 12 = .ok (.iconst 0, 1) := by decide +kernel
theorem dX9_tell_13 : decode cX9_tell 13 = .ok (.iadd, 1) := by decide +kernel
theorem dX9_tell_14 : decode cX9_tell 14 = .ok (.iaload, 1) := by decide +kernel
theorem dX9_tell_15 : decode cX9_tell 15 = .ok (.aload_n 0, 1) := by decide +kernel
theorem dX9_tell_16 : decode cX9_tell 16 = .ok (.iload_n 2, 1) := by decide +kernel
theorem dX9_tell_17 : decode cX9_tell 17 = .ok (.iconst 4, 1) := by decide +kernel
theorem dX9_tell_18 : decode cX9_tell 18 = .ok (.invokevirtual 52, 3) := by decide +kernel
theorem dX9_tell_21 : decode cX9_tell 21 = .ok (.iadd, 1) := by decide +kernel
theorem dX9_tell_22 : decode cX9_tell 22 = .ok (.istore 4, 2) := by decide +kernel
theorem dX9_tell_24 : decode cX9_tell 24 = .ok (.bipush 8, 2) := by decide +kernel
theorem dX9_tell_26 : decode cX9_tell 26 = .ok (.iload_n 2, 1) := by decide +kernel
theorem dX9_tell_27 : decode cX9_tell 27 = .ok (.imul, 1) := by decide +kernel
theorem dX9_tell_28 : decode cX9_tell 28 = .ok (.istore 5, 2) := by decide +kernel
theorem dX9_tell_30 : decode cX9_tell 30 = .ok (.aload_n 0, 1) := by decide +kernel
theorem dX9_tell_31 : decode cX9_tell 31 = .ok (.getfield 7, 3) := by decide +kernel
theorem dX9_tell_34 : decode cX9_tell 34 = .ok (.iload_n 1, 1) := by decide +kernel
theorem dX9_tell_35 : decode cX9_tell 35 = .ok (.sipush 184, 3) := by decide +kernel
theorem dX9_tell_38 : decode cX9_tell 38 = .ok (.iadd, 1) := by decide +kernel
theorem dX9_tell_39 : decode cX9_tell 39 = .ok (.iload_n 2, 1) := by decide +kernel
theorem dX9_tell_40 : decode cX9_tell 40 = .ok (.iadd, 1) := by decide +kernel
theorem dX9_tell_41 : decode cX9_tell 41 = .ok (.iaload, 1) := by decide +kernel
theorem dX9_tell_42 : decode cX9_tell 42 = .ok (.ifCond .le 55, 3) := by decide +kernel
theorem dX9_tell_45 : decode cX9_tell 45 = .ok (.aload_n 0, 1) := by decide +kernel
theorem dX9_tell_46 : decode cX9_tell 46 = .ok (.getfield 7, 3) := by decide +kernel
theorem dX9_tell_49 : decode cX9_tell 49 = .ok (.iload_n 1, 1) := by decide +kernel
theorem dX9_tell_50 : decode cX9_tell 50 = .ok (.sipush 192, 3) := by decide +kernel
theorem dX9_tell_53 : decode cX9_tell 53 = .ok (.iadd, 1) := by decide +kernel
theorem dX9_tell_54 : decode cX9_tell 54 = .ok (.iload 5, 2) := by decide +kernel
theorem dX9_tell_56 : decode cX9_tell 56 = .ok (.iadd, 1) := by decide +kernel
theorem dX9_tell_57 : decode cX9_tell 57 = .ok (.aload_n 0, 1) := by decide +kernel
theorem dX9_tell_58 : decode cX9_tell 58 = .ok (.getfield 7, 3) := by decide +kernel
theorem dX9_tell_61 : decode cX9_tell 61 = .ok (.iload_n 1, 1) := by decide +kernel
theorem dX9_tell_62 : decode cX9_tell 62 = .ok (.sipush 184, 3) := by decide +kernel
theorem dX9_tell_65 : decode cX9_tell 65 = .ok (.iadd, 1) := by decide +kernel
theorem dX9_tell_66 : decode cX9_tell 66 = .ok (.iload_n 2, 1) := by decide +kernel
theorem dX9_tell_67 : decode cX9_tell 67 = .ok (.iadd, 1) := by decide +kernel
theorem dX9_tell_68 : decode cX9_tell 68 = .ok (.iaload, 1) := by decide +kernel
theorem dX9_tell_69 : decode cX9_tell 69 = .ok (.iadd, 1) := by decide +kernel
theorem dX9_tell_70 : decode cX9_tell 70 = .ok (.iconst 1, 1) := by decide +kernel
theorem dX9_tell_71 : decode cX9_tell 71 = .ok (.isub, 1) := by decide +kernel
theorem dX9_tell_72 : decode cX9_tell 72 = .ok (.iaload, 1) := by decide +kernel
theorem dX9_tell_73 : decode cX9_tell 73 = .ok (.iload 4, 2) := by decide +kernel
theorem dX9_tell_75 : decode cX9_tell 75 = .ok (.if_icmp .lt 22, 3) := by decide +kernel
theorem dX9_tell_78 : decode cX9_tell 78 = .ok (.aload_n 0, 1) := by decide +kernel
theorem dX9_tell_79 : decode cX9_tell 79 = .ok (.getfield 7, 3) := by decide +kernel
theorem dX9_tell_82 : decode cX9_tell 82 = .ok (.iload_n 1, 1) := by decide +kernel
theorem dX9_tell_83 : decode cX9_tell 83 = .ok (.sipush 184, 3) := by decide +kernel
theorem dX9_tell_86 : decode cX9_tell 86 = .ok (.iadd, 1) := by decide +kernel
theorem dX9_tell_87 : decode cX9_tell 87 = .ok (.iload_n 2, 1) := by decide +kernel
theorem dX9_tell_88 : decode cX9_tell 88 = .ok (.iadd, 1) := by decide +kernel
theorem dX9_tell_89 : decode cX9_tell 89 = .ok (.dup2, 1) := by decide +kernel
theorem dX9_tell_90 : decode cX9_tell 90 = .ok (.iaload, 1) := by decide +kernel
theorem dX9_tell_91 : decode cX9_tell 91 = .ok (.iconst 1, 1) := by decide +kernel
theorem dX9_tell_92 : decode cX9_tell 92 = .ok (.isub, 1) := by decide +kernel
theorem dX9_tell_93 : decode cX9_tell 93 = .ok (.iastore, 1) := by decide +kernel
theorem dX9_tell_94 : decode cX9_tell 94 = .ok (.goto (-64), 3) := by decide +kernel
theorem dX9_tell_97 : decode cX9_tell 97 = .ok (.aload_n 0, 1) := by decide +kernel
theorem dX9_tell_98 : decode cX9_tell 98 = .ok (.iload_n 2, 1) := by decide +kernel
theorem dX9_tell_99 : decode cX9_tell 99 = .ok (.iconst 5, 1) := by decide +kernel
theorem dX9_tell_100 : decode cX9_tell 100 = .ok (.invokevirtual 52, 3) := by decide +kernel
theorem dX9_tell_103 : decode cX9_tell 103 = .ok (.iconst 1, 1) := by decide +kernel
theorem dX9_tell_104 : decode cX9_tell 104 = .ok (.if_icmp .ne 71, 3) := by decide +kernel
theorem dX9_tell_107 : decode cX9_tell 107 = .ok (.iconst 0, 1) := by decide +kernel
theorem dX9_tell_108 : decode cX9_tell 108 = .ok (.istore 6, 2) := by decide +kernel
theorem dX9_tell_110 : decode cX9_tell 110 = .ok (.iconst 0, 1) := by decide +kernel
theorem dX9_tell_111 : decode cX9_tell 111 = .ok (.istore 7, 2) := by decide +kernel
theorem dX9_tell_113 : decode cX9_tell 113 = .ok (.iload 7, 2) := by decide +kernel
theorem dX9_tell_115 : decode cX9_tell 115 = .ok (.aload_n 0, 1) := by decide +kernel
theorem dX9_tell_116 : decode cX9_tell 116 = .ok (.getfield 7, 3) := by decide +kernel
theorem dX9_tell_119 : decode cX9_tell 119 = .ok (.iload_n 1, 1) := by decide +kernel
theorem dX9_tell_120 : decode cX9_tell 120 = .ok (.sipush 184, 3) := by decide +kernel
theorem dX9_tell_123 : decode cX9_tell 123 = .ok (.iadd, 1) := by decide +kernel
theorem dX9_tell_124 : decode cX9_tell 124 = .ok (.iload_n 2, 1) := by decide +kernel
theorem dX9_tell_125 : decode cX9_tell 125 = .ok (.iadd, 1) := by decide +kernel
theorem dX9_tell_126 : decode cX9_tell 126 = .ok (.iaload, 1) := by decide +kernel
theorem dX9_tell_127 : decode cX9_tell 127 = .ok (.if_icmp .ge 40, 3) := by decide +kernel
theorem dX9_tell_130 : decode cX9_tell 130 = .ok (.aload_n 0, 1) := by decide +kernel
theorem dX9_tell_131 : decode cX9_tell 131 = .ok (.getfield 7, 3) := by decide +kernel
theorem dX9_tell_134 : decode cX9_tell 134 = .ok (.iload_n 1, 1) := by decide +kernel
theorem dX9_tell_135 : decode cX9_tell 135 = .ok (.sipush 256, 3) := by decide +kernel
theorem dX9_tell_138 : decode cX9_tell 138 = .ok (.iadd, 1) := by decide +kernel
theorem dX9_tell_139 : decode cX9_tell 139 = .ok (.iload 5, 2) := by decide +kernel
theorem dX9_tell_141 : decode cX9_tell 141 = .ok (.iadd, 1) := by decide +kernel
theorem dX9_tell_142 : decode cX9_tell 142 = .ok (.iload 7, 2) := by decide +kernel
theorem dX9_tell_144 : decode cX9_tell 144 = .ok (.iadd, 1) := by decide +kernel
theorem dX9_tell_145 : decode cX9_tell 145 = .ok (.iaload, 1) := by decide +kernel
theorem dX9_tell_146 : decode cX9_tell 146 = .ok (.iload_n 3, 1) := by decide +kernel
theorem dX9_tell_147 : decode cX9_tell 147 = .ok (.if_icmp .ne 8, 3) := by decide +kernel
theorem dX9_tell_150 : decode cX9_tell 150 = .ok (.iload 6, 2) := by decide +kernel
theorem dX9_tell_152 : decode cX9_tell 152 = .ok (.goto 7, 3) := by decide +kernel
theorem dX9_tell_155 : decode cX9_tell 155 = .ok (.iload 7, 2) := by decide +kernel
theorem dX9_tell_157 : decode cX9_tell 157 = .ok (.iconst 1, 1) := by decide +kernel
theorem dX9_tell_158 : decode cX9_tell 158 = .ok (.iadd, 1) := by decide +kernel
theorem dX9_tell_159 : decode cX9_tell 159 = .ok (.istore 6, 2) := by decide +kernel
theorem dX9_tell_161 : decode cX9_tell 161 = .ok (.iinc 7 1, 3) := by decide +kernel
theorem dX9_tell_164 : decode cX9_tell 164 = .ok (.goto (-51), 3) := by decide +kernel
theorem dX9_tell_167 : decode cX9_tell 167 = .ok (.aload_n 0, 1) := by decide +kernel
theorem dX9_tell_168 : decode cX9_tell 168 = .ok (.iload_n 1, 1) := by decide +kernel
theorem dX9_tell_169 : decode cX9_tell 169 = .ok (.iload_n 2, 1) := by decide +kernel
theorem dX9_tell_170 : decode cX9_tell 170 = .ok (.iload 6, 2) := by decide +kernel
theorem dX9_tell_172 : decode cX9_tell 172 = .ok (.invokevirtual 66, 3) := by decide +kernel
theorem dX9_tell_175 : decode cX9_tell 175 = .ok (.aload_n 0, 1) := by decide +kernel
theorem dX9_tell_176 : decode cX9_tell 176 = .ok (.getfield 7, 3) := by decide +kernel
theorem dX9_tell_179 : decode cX9_tell 179 = .ok (.iload_n 1, 1) := by decide +kernel
theorem dX9_tell_180 : decode cX9_tell 180 = .ok (.sipush 184, 3) := by decide +kernel
theorem dX9_tell_183 : decode cX9_tell 183 = .ok (.iadd, 1) := by decide +kernel
theorem dX9_tell_184 : decode cX9_tell 184 = .ok (.iload_n 2, 1) := by decide +kernel
theorem dX9_tell_185 : decode cX9_tell 185 = .ok (.iadd, 1) := by decide +kernel
theorem dX9_tell_186 : decode cX9_tell 186 = .ok (.iaload, 1) := by decide +kernel
theorem dX9_tell_187 : decode cX9_tell 187 = .ok (.bipush 8, 2) := by decide +kernel
theorem dX9_tell_189 : decode cX9_tell 189 = .ok (.if_icmp .ne 10, 3) := by decide +kernel
theorem dX9_tell_192 : decode cX9_tell 192 = .ok (.aload_n 0, 1) := by decide +kernel
theorem dX9_tell_193 : decode cX9_tell 193 = .ok (.iload_n 1, 1) := by decide +kernel
theorem dX9_tell_194 : decode cX9_tell 194 = .ok (.iload_n 2, 1) := by decide +kernel
theorem dX9_tell_195 : decode cX9_tell 195 = .ok (.iconst 1, 1) := by decide +kernel
theorem dX9_tell_196 : decode cX9_tell 196 = .ok (.invokevirtual 66, 3) := by decide +kernel
theorem dX9_tell_199 : decode cX9_tell 199 = .ok (.aload_n 0, 1) := by decide +kernel
theorem dX9_tell_200 : decode cX9_tell 200 = .ok (.getfield 7, 3) := by decide +kernel
theorem dX9_tell_203 : decode cX9_tell 203 = .ok (.iload_n 1, 1) := by decide +kernel
theorem dX9_tell_204 : decode cX9_tell 204 = .ok (.sipush 184, 3) := by decide +kernel
theorem dX9_tell_207 : decode cX9_tell 207 = .ok (.iadd, 1) := by decide +kernel
theorem dX9_tell_208 : decode cX9_tell 208 = .ok (.iload_n 2, 1) := by decide +kernel
theorem dX9_tell_209 : decode cX9_tell 209 = .ok (.iadd, 1) := by decide +kernel
theorem dX9_tell_210 : decode cX9_tell 210 = .ok (.iaload, 1) := by decide +kernel
theorem dX9_tell_211 : decode cX9_tell 211 = .ok (.istore 6, 2) := by decide +kernel
theorem dX9_tell_213 : decode cX9_tell 213 = .ok (.aload_n 0, 1) := by decide +kernel
theorem dX9_tell_214 : decode cX9_tell 214 = .ok (.getfield 7, 3) := by decide +kernel
theorem dX9_tell_217 : decode cX9_tell 217 = .ok (.iload_n 1, 1) := by decide +kernel
theorem dX9_tell_218 : decode cX9_tell 218 = .ok (.sipush 192, 3) := by decide +kernel
theorem dX9_tell_221 : decode cX9_tell 221 = .ok (.iadd, 1) := by decide +kernel
theorem dX9_tell_222 : decode cX9_tell 222 = .ok (.iload 5, 2) := by decide +kernel
theorem dX9_tell_224 : decode cX9_tell 224 = .ok (.iadd, 1) := by decide +kernel
theorem dX9_tell_225 : decode cX9_tell 225 = .ok (.iload 6, 2) := by decide +kernel
theorem dX9_tell_227 : decode cX9_tell 227 = .ok (.iadd, 1) := by decide +kernel
theorem dX9_tell_228 : decode cX9_tell 228 = .ok (.iload 4, 2) := by decide +kernel
theorem dX9_tell_230 : decode cX9_tell 230 = .ok (.iastore, 1) := by decide +kernel
theorem dX9_tell_231 : decode cX9_tell 231 = .ok (.aload_n 0, 1) := by decide +kernel
theorem dX9_tell_232 : decode cX9_tell 232 = .ok (.getfield 7, 3) := by decide +kernel
theorem dX9_tell_235 : decode cX9_tell 235 = .ok (.iload_n 1, 1) := by decide +kernel
theorem dX9_tell_236 : decode cX9_tell 236 = .ok (.sipush 256, 3) := by decide +kernel
theorem dX9_tell_239 : decode cX9_tell 239 = .ok (.iadd, 1) := by decide +kernel
theorem dX9_tell_240 : decode cX9_tell 240 = .ok (.iload 5, 2) := by decide +kernel
theorem dX9_tell_242 : decode cX9_tell 242 = .ok (.iadd, 1) := by decide +kernel
theorem dX9_tell_243 : decode cX9_tell 243 = .ok (.iload 6, 2) := by decide +kernel
theorem dX9_tell_245 : decode cX9_tell 245 = .ok (.iadd, 1) := by decide +kernel
theorem dX9_tell_246 : decode cX9_tell 246 = .ok (.iload_n 3, 1) := by decide +kernel
theorem dX9_tell_247 : decode cX9_tell 247 = .ok (.iastore, 1) := by decide +kernel
theorem dX9_tell_248 : decode cX9_tell 248 = .ok (.aload_n 0, 1) := by decide +kernel
theorem dX9_tell_249 : decode cX9_tell 249 = .ok (.getfield 7, 3) := by decide +kernel
theorem dX9_tell_252 : decode cX9_tell 252 = .ok (.iload_n 1, 1) := by decide +kernel
theorem dX9_tell_253 : decode cX9_tell 253 = .ok (.sipush 184, 3) := by decide +kernel
theorem dX9_tell_256 : decode cX9_tell 256 = .ok (.iadd, 1) := by decide +kernel
theorem dX9_tell_257 : decode cX9_tell 257 = .ok (.iload_n 2, 1) := by decide +kernel
theorem dX9_tell_258 : decode cX9_tell 258 = .ok (.iadd, 1) := by decide +kernel
theorem dX9_tell_259 : decode cX9_tell 259 = .ok (.iload 6, 2) := by decide +kernel
theorem dX9_tell_261 : decode cX9_tell 261 = .ok (.iconst 1, 1) := by decide +kernel
theorem dX9_tell_262 : decode cX9_tell 262 = .ok (.iadd, 1) := by decide +kernel
theorem dX9_tell_263 : decode cX9_tell 263 = .ok (.iastore, 1) := by decide +kernel
theorem dX9_tell_264 : decode cX9_tell 264 = .ok (.return_, 1) := by decide +kernel
theorem dX9_tellAll_0 : decode cX9_tellAll 0 = .ok (.iconst 0, 1) := by decide +kernel
theorem dX9_tellAll_1 : decode cX9_tellAll 1 = .ok (.istore_n 2, 1) := by decide +kernel
theorem dX9_tellAll_2 : decode cX9_tellAll 2 = .ok (.iload_n 2, 1) := by decide +kernel
theorem dX9_tellAll_3 : decode cX9_tellAll 3 = .ok (.aload_n 0, 1) := by decide +kernel
theorem dX9_tellAll_4 : decode cX9_tellAll 4 = .ok (.getfield 45, 3) := by decide +kernel
theorem dX9_tellAll_7 : decode cX9_tellAll 7 = .ok (.if_icmp .ge 15, 3) := by decide +kernel
theorem dX9_tellAll_10 : decode cX9_tellAll 10 = .ok (.aload_n 0, 1) := by decide +kernel
theorem dX9_tellAll_11 : decode cX9_tellAll 11 = .ok (.iload_n 1, 1) := by decide +kernel
theorem dX9_tellAll_12 : decode cX9_tellAll 12 = .ok (.iload_n 2, 1) := by decide +kernel
theorem dX9_tellAll_13 : decode cX9_tellAll 13 = .ok (.invokevirtual 70, 3) := by decide +kernel
theorem dX9_tellAll_16 : decode cX9_tellAll 16 = .ok (.iinc 2 1, 3) := by decide +kernel
theorem dX9_tellAll_19 : decode cX9_tellAll 19 = .ok (.goto (-17), 3) := by decide +kernel
theorem dX9_tellAll_22 : decode cX9_tellAll 22 = .ok (.return_, 1) := by decide +kernel
theorem dX9_dropHand_0 : decode cX9_dropHand 0 = .ok (.aload_n 0, 1) := by decide +kernel
theorem dX9_dropHand_1 : decode cX9_dropHand 1 = .ok (.getfield 7, 3) := by decide +kernel
theorem dX9_dropHand_4 : decode cX9_dropHand 4 = .ok (.iload_n 1, 1) := by decide +kernel
theorem dX9_dropHand_5 : decode cX9_dropHand 5 = .ok (.iconst 3, 1) := by decide +kernel
theorem dX9_dropHand_6 : decode cX9_dropHand 6 = .ok (.iadd, 1) := by decide +kernel
theorem dX9_dropHand_7 : decode cX9_dropHand 7 = .ok (.dup2, 1) := by decide +kernel
theorem dX9_dropHand_8 : decode cX9_dropHand 8 = .ok (.iaload, 1) := by decide +kernel
theorem dX9_dropHand_9 : decode cX9_dropHand 9 = .ok (.iconst 1, 1) := by decide +kernel
theorem dX9_dropHand_10 : decode cX9_dropHand 10 = .ok (.isub, 1) := by decide +kernel
theorem dX9_dropHand_11 : decode cX9_dropHand 11 = .ok (.iastore, 1) := by decide +kernel
theorem dX9_dropHand_12 : decode cX9_dropHand 12 = .ok (.iconst 0, 1) := by decide +kernel
theorem dX9_dropHand_13 : decode cX9_dropHand 13 = .ok (.istore_n 2, 1) := by decide +kernel
theorem dX9_dropHand_14 : decode cX9_dropHand 14 = .ok (.iload_n 2, 1) := by decide +kernel
theorem dX9_dropHand_15 : decode cX9_dropHand 15 = .ok (.aload_n 0, 1) := by decide +kernel
theorem dX9_dropHand_16 : decode cX9_dropHand 16 = .ok (.getfield 7, 3) := by decide +kernel
theorem dX9_dropHand_19 : decode cX9_dropHand 19 = .ok (.iload_n 1, 1) := by decide +kernel
theorem dX9_dropHand_20 : decode cX9_dropHand 20 = .ok (.iconst 3, 1) := by decide +kernel
theorem dX9_dropHand_21 : decode cX9_dropHand 21 = .ok (.iadd, 1) := by decide +kernel
theorem dX9_dropHand_22 : decode cX9_dropHand 22 = .ok (.iaload, 1) := by decide +kernel
theorem dX9_dropHand_23 : decode cX9_dropHand 23 = .ok (.if_icmp .ge 87, 3) := by decide +kernel
theorem dX9_dropHand_26 : decode cX9_dropHand 26 = .ok (.aload_n 0, 1) := by decide +kernel
theorem dX9_dropHand_27 : decode cX9_dropHand 27 = .ok (.getfield 7, 3) := by decide +kernel
theorem dX9_dropHand_30 : decode cX9_dropHand 30 = .ok (.iload_n 1, 1) := by decide +kernel
theorem dX9_dropHand_31 : decode cX9_dropHand 31 = .ok (.sipush 320, 3) := by decide +kernel
theorem dX9_dropHand_34 : decode cX9_dropHand 34 = .ok (.iadd, 1) := by decide +kernel
theorem dX9_dropHand_35 : decode cX9_dropHand 35 = .ok (.iload_n 2, 1) := by decide +kernel
theorem dX9_dropHand_36 : decode cX9_dropHand 36 = .ok (.iadd, 1) := by decide +kernel
theorem dX9_dropHand_37 : decode cX9_dropHand 37 = .ok (.aload_n 0, 1) := by decide +kernel
theorem dX9_dropHand_38 : decode cX9_dropHand 38 = .ok (.getfield 7, 3) := by decide +kernel
theorem dX9_dropHand_41 : decode cX9_dropHand 41 = .ok (.iload_n 1, 1) := by decide +kernel
theorem dX9_dropHand_42 : decode cX9_dropHand 42 = .ok (.sipush 320, 3) := by decide +kernel
theorem dX9_dropHand_45 : decode cX9_dropHand 45 = .ok (.iadd, 1) := by decide +kernel
theorem dX9_dropHand_46 : decode cX9_dropHand 46 = .ok (.iload_n 2, 1) := by decide +kernel
theorem dX9_dropHand_47 : decode cX9_dropHand 47 = .ok (.iadd, 1) := by decide +kernel
theorem dX9_dropHand_48 : decode cX9_dropHand 48 = .ok (.iconst 1, 1) := by decide +kernel
theorem dX9_dropHand_49 : decode cX9_dropHand 49 = .ok (.iadd, 1) := by decide +kernel
theorem dX9_dropHand_50 : decode cX9_dropHand 50 = .ok (.iaload, 1) := by decide +kernel
theorem dX9_dropHand_51 : decode cX9_dropHand 51 = .ok (.iastore, 1) := by decide +kernel
theorem dX9_dropHand_52 : decode cX9_dropHand 52 = .ok (.aload_n 0, 1) := by decide +kernel
theorem dX9_dropHand_53 : decode cX9_dropHand 53 = .ok (.getfield 7, 3) := by decide +kernel
theorem dX9_dropHand_56 : decode cX9_dropHand 56 = .ok (.iload_n 1, 1) := by decide +kernel
theorem dX9_dropHand_57 : decode cX9_dropHand 57 = .ok (.sipush 328, 3) := by decide +kernel
theorem dX9_dropHand_60 : decode cX9_dropHand 60 = .ok (.iadd, 1) := by decide +kernel
theorem dX9_dropHand_61 : decode cX9_dropHand 61 = .ok (.iload_n 2, 1) := by decide +kernel
theorem dX9_dropHand_62 : decode cX9_dropHand 62 = .ok (.iadd, 1) := by decide +kernel
theorem dX9_dropHand_63 : decode cX9_dropHand 63 = .ok (.aload_n 0, 1) := by decide +kernel
theorem dX9_dropHand_64 : decode cX9_dropHand 64 = .ok (.getfield 7, 3) := by decide +kernel
theorem dX9_dropHand_67 : decode cX9_dropHand 67 = .ok (.iload_n 1, 1) := by decide +kernel
theorem dX9_dropHand_68 : decode cX9_dropHand 68 = .ok (.sipush 328, 3) := by decide +kernel
theorem dX9_dropHand_71 : decode cX9_dropHand 71 = .ok (.iadd, 1) := by decide +kernel
theorem dX9_dropHand_72 : decode cX9_dropHand 72 = .ok (.iload_n 2, 1) := by decide +kernel
theorem dX9_dropHand_73 : decode cX9_dropHand 73 = .ok (.iadd, 1) := by decide +kernel
theorem dX9_dropHand_74 : decode cX9_dropHand 74 = .ok (.iconst 1, 1) := by decide +kernel
theorem dX9_dropHand_75 : decode cX9_dropHand 75 = .ok (.iadd, 1) := by decide +kernel
theorem dX9_dropHand_76 : decode cX9_dropHand 76 = .ok (.iaload, 1) := by decide +kernel
theorem dX9_dropHand_77 : decode cX9_dropHand 77 = .ok (.iastore, 1) := by decide +kernel
theorem dX9_dropHand_78 : decode cX9_dropHand 78 = .ok (.aload_n 0, 1) := by decide +kernel
theorem dX9_dropHand_79 : decode cX9_dropHand 79 = .ok (.getfield 7, 3) := by decide +kernel
theorem dX9_dropHand_82 : decode cX9_dropHand 82 = .ok (.iload_n 1, 1) := by decide +kernel
theorem dX9_dropHand_83 : decode cX9_dropHand 83 = .ok (.sipush 336, 3) := by decide +kernel
theorem dX9_dropHand_86 : decode cX9_dropHand 86 = .ok (.iadd, 1) := by decide +kernel
theorem dX9_dropHand_87 : decode cX9_dropHand 87 = .ok (.iload_n 2, 1) := by decide +kernel
theorem dX9_dropHand_88 : decode cX9_dropHand 88 = .ok (.iadd, 1) := by decide +kernel
theorem dX9_dropHand_89 : decode cX9_dropHand 89 = .ok (.aload_n 0, 1) := by decide +kernel
theorem dX9_dropHand_90 : decode cX9_dropHand 90 = .ok (.getfield 7, 3) := by decide +kernel
theorem dX9_dropHand_93 : decode cX9_dropHand 93 = .ok (.iload_n 1, 1) := by decide +kernel
theorem dX9_dropHand_94 : decode cX9_dropHand 94 = .ok (.sipush 336, 3) := by decide +kernel
theorem dX9_dropHand_97 : decode cX9_dropHand 97 = .ok (.iadd, 1) := by decide +kernel
theorem dX9_dropHand_98 : decode cX9_dropHand 98 = .ok (.iload_n 2, 1) := by decide +kernel
theorem dX9_dropHand_99 : decode cX9_dropHand 99 = .ok (.iadd, 1) := by decide +kernel
theorem dX9_dropHand_100 : decode cX9_dropHand 100 = .ok (.iconst 1, 1) := by decide +kernel
theorem dX9_dropHand_101 : decode cX9_dropHand 101 = .ok (.iadd, 1) := by decide +kernel
theorem dX9_dropHand_102 : decode cX9_dropHand 102 = .ok (.iaload, 1) := by decide +kernel
theorem dX9_dropHand_103 : decode cX9_dropHand 103 = .ok (.iastore, 1) := by decide +kernel
theorem dX9_dropHand_104 : decode cX9_dropHand 104 = .ok (.iinc 2 1, 3) := by decide +kernel
theorem dX9_dropHand_107 : decode cX9_dropHand 107 = .ok (.goto (-93), 3) := by decide +kernel
theorem dX9_dropHand_110 : decode cX9_dropHand 110 = .ok (.return_, 1) := by decide +kernel
theorem dX9_waits_0 : decode cX9_waits 0 = .ok (.aload_n 0, 1) := by decide +kernel
theorem dX9_waits_1 : decode cX9_waits 1 = .ok (.getfield 7, 3) := by decide +kernel
theorem dX9_waits_4 : decode cX9_waits 4 = .ok (.iload_n 1, 1) := by decide +kernel
theorem dX9_waits_5 : decode cX9_waits 5 = .ok (.iconst 3, 1) := by decide +kernel
theorem dX9_waits_6 : decode cX9_waits 6 = .ok (.iadd, 1) := by decide +kernel
theorem dX9_waits_7 : decode cX9_waits 7 = .ok (.iaload, 1) := by decide +kernel
theorem dX9_waits_8 : decode cX9_waits 8 = .ok (.ifCond .le 16, 3) := by decide +kernel
theorem dX9_waits_11 : decode cX9_waits 11 = .ok (.aload_n 0, 1) := by decide +kernel
theorem dX9_waits_12 : decode cX9_waits 12 = .ok (.getfield 7, 3) := by decide +kernel
theorem dX9_waits_15 : decode cX9_waits 15 = .ok (.iload_n 1, 1) := by decide +kernel
theorem dX9_waits_16 : decode cX9_waits 16 = .ok (.sipush 320, 3) := by decide +kernel
theorem dX9_waits_19 : decode cX9_waits 19 = .ok (.iadd, 1) := by decide +kernel
theorem dX9_waits_20 : decode cX9_waits 20 = .ok (.iaload, 1) := by decide +kernel
theorem dX9_waits_21 : decode cX9_waits 21 = .ok (.goto 4, 3) := by decide +kernel
theorem dX9_waits_24 : decode cX9_waits 24 = .ok (.iconst (-1), 1) := by decide +kernel
theorem dX9_waits_25 : decode cX9_waits 25 = .ok (.istore_n 2, 1) := by decide +kernel
theorem dX9_waits_26 : decode cX9_waits 26 = .ok (.iconst 0, 1) := by decide +kernel
theorem dX9_waits_27 : decode cX9_waits 27 = .ok (.istore_n 3, 1) := by decide +kernel
theorem dX9_waits_28 : decode cX9_waits 28 = .ok (.iload_n 3, 1) := by decide +kernel
theorem dX9_waits_29 : decode cX9_waits 29 = .ok (.aload_n 0, 1) := by decide +kernel
theorem dX9_waits_30 : decode cX9_waits 30 = .ok (.getfield 45, 3) := by decide +kernel
theorem dX9_waits_33 : decode cX9_waits 33 = .ok (.if_icmp .ge 59, 3) := by decide +kernel
theorem dX9_waits_36 : decode cX9_waits 36 = .ok (.aload_n 0, 1) := by decide +kernel
theorem dX9_waits_37 : decode cX9_waits 37 = .ok (.getfield 7, 3) := by decide +kernel
theorem dX9_waits_40 : decode cX9_waits 40 = .ok (.iload_n 1, 1) := by decide +kernel
theorem dX9_waits_41 : decode cX9_waits 41 = .ok (.sipush 192, 3) := by decide +kernel
theorem dX9_waits_44 : decode cX9_waits 44 = .ok (.iadd, 1) := by decide +kernel
theorem dX9_waits_45 : decode cX9_waits 45 = .ok (.bipush 8, 2) := by decide +kernel
theorem dX9_waits_47 : decode cX9_waits 47 = .ok (.iload_n 3, 1) := by decide +kernel
theorem dX9_waits_48 : decode cX9_waits 48 = .ok (.imul, 1) := by decide +kernel
theorem dX9_waits_49 : decode cX9_waits 49 = .ok (.iadd, 1) := by decide +kernel
theorem dX9_waits_50 : decode cX9_waits 50 = .ok (.iaload, 1) := by decide +kernel
theorem dX9_waits_51 : decode cX9_waits 51 = .ok (.istore 4, 2) := by decide +kernel
theorem dX9_waits_53 : decode cX9_waits 53 = .ok (.aload_n 0, 1) := by decide +kernel
theorem dX9_waits_54 : decode cX9_waits 54 = .ok (.getfield 7, 3) := by decide +kernel
theorem dX9_waits_57 : decode cX9_waits 57 = .ok (.iload_n 1, 1) := by decide +kernel
theorem dX9_waits_58 : decode cX9_waits 58 = .ok (.sipush 184, 3) := by decide +kernel
theorem dX9_waits_61 : decode cX9_waits 61 = .ok (.iadd, 1) := by decide +kernel
theorem dX9_waits_62 : decode cX9_waits 62 = .ok (.iload_n 3, 1) := by decide +kernel
theorem dX9_waits_63 : decode cX9_waits 63 = .ok (.iadd, 1) := by decide +kernel
theorem dX9_waits_64 : decode cX9_waits 64 = .ok (.iaload, 1) := by decide +kernel
theorem dX9_waits_65 : decode cX9_waits 65 = .ok (.ifCond .le 19, 3) := by decide +kernel
theorem dX9_waits_68 : decode cX9_waits 68 = .ok (.iload_n 2, 1) := by decide +kernel
theorem dX9_waits_69 : decode cX9_waits 69 = .ok (.iconst (-1), 1) := by decide +kernel
theorem dX9_waits_70 : decode cX9_waits 70 = .ok (.if_icmp .eq 9, 3) := by decide +kernel
theorem dX9_waits_73 : decode cX9_waits 73 = .ok (.iload 4, 2) := by decide +kernel
theorem dX9_waits_75 : decode cX9_waits 75 = .ok (.iload_n 2, 1) := by decide +kernel
theorem dX9_waits_76 : decode cX9_waits 76 = .ok (.if_icmp .ge 8, 3) := by decide +kernel
theorem dX9_waits_79 : decode cX9_waits 79 = .ok (.iload 4, 2) := by decide +kernel
theorem dX9_waits_81 : decode cX9_waits 81 = .ok (.goto 4, 3) := by decide +kernel
theorem dX9_waits_84 : decode cX9_waits 84 = .ok (.iload_n 2, 1) := by decide +kernel
theorem dX9_waits_85 : decode cX9_waits 85 = .ok (.istore_n 2, 1) := by decide +kernel
theorem dX9_waits_86 : decode cX9_waits 86 = .ok (.iinc 3 1, 3) := by decide +kernel
theorem dX9_waits_89 : decode cX9_waits 89 = .ok (.goto (-61), 3) := by decide +kernel
theorem dX9_waits_92 : decode cX9_waits 92 = .ok (.iload_n 2, 1) := by decide +kernel
theorem dX9_waits_93 : decode cX9_waits 93 = .ok (.ireturn, 1) := by decide +kernel
theorem dX9_change_0 : decode cX9_change 0 = .ok (.aload_n 0, 1) := by decide +kernel
theorem dX9_change_1 : decode cX9_change 1 = .ok (.getfield 7, 3) := by decide +kernel
theorem dX9_change_4 : decode cX9_change 4 = .ok (.iload_n 1, 1) := by decide +kernel
theorem dX9_change_5 : decode cX9_change 5 = .ok (.iconst 0, 1) := by decide +kernel
theorem dX9_change_6 : decode cX9_change 6 = .ok (.iadd, 1) := by decide +kernel
theorem dX9_change_7 : decode cX9_change 7 = .ok (.iaload, 1) := by decide +kernel
theorem dX9_change_8 : decode cX9_change 8 = .ok (.istore 4, 2) := by decide +kernel
theorem dX9_change_10 : decode cX9_change 10 = .ok (.aload_n 0, 1) := by decide +kernel
theorem dX9_change_11 : decode cX9_change 11 = .ok (.getfield 7, 3) := by decide +kernel
theorem dX9_change_14 : decode cX9_change 14 = .ok (.iload_n 1, 1) := by decide +kernel
theorem dX9_change_15 : decode cX9_change 15 = .ok (.bipush 8, 2) := by decide +kernel
theorem dX9_change_17 : decode cX9_change 17 = .ok (.iadd, 1) := by decide +kernel
theorem dX9_change_18 : decode cX9_change 18 = .ok (.iload_n 2, 1) := by decide +kernel
theorem dX9_change_19 : decode cX9_change 19 = .ok (.iadd, 1) := by decide +kernel
theorem dX9_change_20 : decode cX9_change 20 = .ok (.iload_n 3, 1) := by decide +kernel
theorem dX9_change_21 : decode cX9_change 21 = .ok (.iastore, 1) := by decide +kernel
theorem dX9_change_22 : decode cX9_change 22 = .ok (.aload_n 0, 1) := by decide +kernel
theorem dX9_change_23 : decode cX9_change 23 = .ok (.getfield 7, 3) := by decide +kernel
theorem dX9_change_26 : decode cX9_change 26 = .ok (.iload_n 1, 1) := by decide +kernel
theorem dX9_change_27 : decode cX9_change 27 = .ok (.bipush 16, 2) := by decide +kernel
theorem dX9_change_29 : decode cX9_change 29 = .ok (.iadd, 1) := by decide +kernel
theorem dX9_change_30 : decode cX9_change 30 = .ok (.iload_n 2, 1) := by decide +kernel
theorem dX9_change_31 : decode cX9_change 31 = .ok (.iadd, 1) := by decide +kernel
theorem dX9_change_32 : decode cX9_change 32 = .ok (.aload_n 0, 1) := by decide +kernel
theorem dX9_change_33 : decode cX9_change 33 = .ok (.getfield 7, 3) := by decide +kernel
theorem dX9_change_36 : decode cX9_change 36 = .ok (.iload_n 1, 1) := by decide +kernel
theorem dX9_change_37 : decode cX9_change 37 = .ok (.bipush 16, 2) := by decide +kernel
theorem dX9_change_39 : decode cX9_change 39 = .ok (.iadd, 1) := by decide +kernel
theorem dX9_change_40 : decode cX9_change 40 = .ok (.iload_n 2, 1) := by decide +kernel
theorem dX9_change_41 : decode cX9_change 41 = .ok (.iadd, 1) := by decide +kernel
theorem dX9_change_42 : decode cX9_change 42 = .ok (.iaload, 1) := by decide +kernel
theorem dX9_change_43 : decode cX9_change 43 = .ok (.iconst 1, 1) := by decide +kernel
theorem dX9_change_44 : decode cX9_change 44 = .ok (.iadd, 1) := by decide +kernel
theorem dX9_change_45 : decode cX9_change 45 = .ok (.sipush 9999, 3) := by decide +kernel
theorem dX9_change_48 : decode cX9_change 48 = .ok (.invokestatic 74, 3) := by decide +kernel
theorem dX9_change_51 : decode cX9_change 51 = .ok (.iastore, 1) := by decide +kernel
theorem dX9_change_52 : decode cX9_change 52 = .ok (.aload_n 0, 1) := by decide +kernel
theorem dX9_change_53 : decode cX9_change 53 = .ok (.getfield 7, 3) := by decide +kernel
theorem dX9_change_56 : decode cX9_change 56 = .ok (.iload_n 1, 1) := by decide +kernel
theorem dX9_change_57 : decode cX9_change 57 = .ok (.bipush 32, 2) := by decide +kernel
theorem dX9_change_59 : decode cX9_change 59 = .ok (.iadd, 1) := by decide +kernel
theorem dX9_change_60 : decode cX9_change 60 = .ok (.iload_n 2, 1) := by decide +kernel
theorem dX9_change_61 : decode cX9_change 61 = .ok (.iadd, 1) := by decide +kernel
theorem dX9_change_62 : decode cX9_change 62 = .ok (.aload_n 0, 1) := by decide +kernel
theorem dX9_change_63 : decode cX9_change 63 = .ok (.getfield 7, 3) := by decide +kernel
theorem dX9_change_66 : decode cX9_change 66 = .ok (.iload_n 1, 1) := by decide +kernel
theorem dX9_change_67 : decode cX9_change 67 = .ok (.bipush 24, 2) := by decide +kernel
theorem dX9_change_69 : decode cX9_change 69 = .ok (.iadd, 1) := by decide +kernel
theorem dX9_change_70 : decode cX9_change 70 = .ok (.iload_n 2, 1) := by decide +kernel
theorem dX9_change_71 : decode cX9_change 71 = .ok (.iadd, 1) := by decide +kernel
theorem dX9_change_72 : decode cX9_change 72 = .ok (.iaload, 1) := by decide +kernel
theorem dX9_change_73 : decode cX9_change 73 = .ok (.iload 4, 2) := by decide +kernel
theorem dX9_change_75 : decode cX9_change 75 = .ok (.if_icmp .ne 7, 3) := by decide +kernel
theorem dX9_change_78 : decode cX9_change 78 = .ok (.iconst 1, 1) := by decide +kernel
theorem dX9_change_79 : decode cX9_change 79 = .ok (.goto 14, 3) := by decide +kernel
theorem dX9_change_82 : decode cX9_change 82 = .ok (.aload_n 0, 1) := by decide +kernel
theorem dX9_change_83 : decode cX9_change 83 = .ok (.getfield 7, 3) := by decide +kernel
theorem dX9_change_86 : decode cX9_change 86 = .ok (.iload_n 1, 1) := by decide +kernel
theorem dX9_change_87 : decode cX9_change 87 = .ok (.bipush 32, 2) := by decide +kernel
theorem dX9_change_89 : decode cX9_change 89 = .ok (.iadd, 1) := by decide +kernel
theorem dX9_change_90 : decode cX9_change 90 = .ok (.iload_n 2, 1) := by decide +kernel
theorem dX9_change_91 : decode cX9_change 91 = .ok (.iadd, 1) := by decide +kernel
theorem dX9_change_92 : decode cX9_change 92 = .ok (.iaload, 1) := by decide +kernel
theorem dX9_change_93 : decode cX9_change 93 = .ok (.iastore, 1) := by decide +kernel
theorem dX9_change_94 : decode cX9_change 94 = .ok (.aload_n 0, 1) := by decide +kernel
theorem dX9_change_95 : decode cX9_change 95 = .ok (.getfield 7, 3) := by decide +kernel
theorem dX9_change_98 : decode cX9_change 98 = .ok (.iload_n 1, 1) := by decide +kernel
theorem dX9_change_99 : decode cX9_change 99 = .ok (.bipush 24, 2) := by decide +kernel
theorem dX9_change_101 : decode cX9_change 101 = .ok (.iadd, 1) := by decide +kernel
theorem dX9_change_102 : decode cX9_change 102 = .ok (.iload_n 2, 1) := by decide +kernel
theorem dX9_change_103 : decode cX9_change 103 = .ok (.iadd, 1) := by decide +kernel
theorem dX9_change_104 : decode cX9_change 104 = .ok (.iload 4, 2) := by decide +kernel
theorem dX9_change_106 : decode cX9_change 106 = .ok (.iastore, 1) := by decide +kernel
theorem dX9_change_107 : decode cX9_change 107 = .ok (.iload_n 1, 1) := by decide +kernel
theorem dX9_change_108 : decode cX9_change 108 = .ok (.bipush 48, 2) := by decide +kernel
theorem dX9_change_110 : decode cX9_change 110 = .ok (.iadd, 1) := by decide +kernel
theorem dX9_change_111 : decode cX9_change 111 = .ok (.bipush 8, 2) := by decide +kernel
theorem dX9_change_113 : decode cX9_change 113 = .ok (.iload_n 2, 1) := by decide +kernel
theorem dX9_change_114 : decode cX9_change 114 = .ok (.imul, 1) := by decide +kernel
theorem dX9_change_115 : decode cX9_change 115 = .ok (.iadd, 1) := by decide +kernel
theorem dX9_change_116 : decode cX9_change 116 = .ok (.istore 5, 2) := by decide +kernel
theorem dX9_change_118 : decode cX9_change 118 = .ok (.iload_n 1, 1) := by decide +kernel
theorem dX9_change_119 : decode cX9_change 119 = .ok (.bipush 112, 2) := by decide +kernel
theorem dX9_change_121 : decode cX9_change 121 = .ok (.iadd, 1) := by decide +kernel
theorem dX9_change_122 : decode cX9_change 122 = .ok (.bipush 8, 2) := by decide +kernel
theorem dX9_change_124 : decode cX9_change 124 = .ok (.iload_n 2, 1) := by decide +kernel
theorem dX9_change_125 : decode cX9_change 125 = .ok (.imul, 1) := by decide +kernel
theorem dX9_change_126 : decode cX9_change 126 = .ok (.iadd, 1) := by decide +kernel
theorem dX9_change_127 : decode cX9_change 127 = .ok (.istore 6, 2) := by decide +kernel
theorem dX9_change_129 : decode cX9_change 129 = .ok (.bipush 7, 2) := by decide +kernel
theorem dX9_change_131 : decode cX9_change 131 = .ok (.istore 7, 2) := by decide +kernel
theorem dX9_change_133 : decode cX9_change 133 = .ok (.iload 7, 2) := by decide +kernel
theorem dX9_change_135 : decode cX9_change 135 = .ok (.ifCond .le 53, 3) := by decide +kernel
theorem dX9_change_138 : decode cX9_change 138 = .ok (.aload_n 0, 1) := by decide +kernel
theorem dX9_change_139 : decode cX9_change 139 = .ok (.getfield 7, 3) := by decide +kernel
theorem dX9_change_142 : decode cX9_change 142 = .ok (.iload 5, 2) := by decide +kernel
theorem dX9_change_144 : decode cX9_change 144 = .ok (.iload 7, 2) := by decide +kernel
theorem dX9_change_146 : decode cX9_change 146 = .ok (.iadd, 1) := by decide +kernel
theorem dX9_change_147 : decode cX9_change 147 = .ok (.aload_n 0, 1) := by decide +kernel
theorem dX9_change_148 : decode cX9_change 148 = .ok (.getfield 7, 3) := by decide +kernel
theorem dX9_change_151 : decode cX9_change 151 = .ok (.iload 5, 2) := by decide +kernel
theorem dX9_change_153 : decode cX9_change 153 = .ok (.iload 7, 2) := by decide +kernel
theorem dX9_change_155 : decode cX9_change 155 = .ok (.iadd, 1) := by decide +kernel
theorem dX9_change_156 : decode cX9_change 156 = .ok (.iconst 1, 1) := by decide +kernel
theorem dX9_change_157 : decode cX9_change 157 = .ok (.isub, 1) := by decide +kernel
theorem dX9_change_158 : decode cX9_change 158 = .ok (.iaload, 1) := by decide +kernel
theorem dX9_change_159 : decode cX9_change 159 = .ok (.iastore, 1) := by decide +kernel
theorem dX9_change_160 : decode cX9_change 160 = .ok (.aload_n 0, 1) := by decide +kernel
theorem dX9_change_161 : decode cX9_change 161 = .ok (.getfield 7, 3) := by decide +kernel
theorem dX9_change_164 : decode cX9_change 164 = .ok (.iload 6, 2) := by decide +kernel
theorem dX9_change_166 : decode cX9_change 166 = .ok (.iload 7, 2) := by decide +kernel
theorem dX9_change_168 : decode cX9_change 168 = .ok (.iadd, 1) := by decide +kernel
theorem dX9_change_169 : decode cX9_change 169 = .ok (.aload_n 0, 1) := by decide +kernel
theorem dX9_change_170 : decode cX9_change 170 = .ok (.getfield 7, 3) := by decide +kernel
theorem dX9_change_173 : decode cX9_change 173 = .ok (.iload 6, 2) := by decide +kernel
theorem dX9_change_175 : decode cX9_change 175 = .ok (.iload 7, 2) := by decide +kernel
theorem dX9_change_177 : decode cX9_change 177 = .ok (.iadd, 1) := by decide +kernel
theorem dX9_change_178 : decode cX9_change 178 = .ok (.iconst 1, 1) := by decide +kernel
theorem dX9_change_179 : decode cX9_change 179 = .ok (.isub, 1) := by decide +kernel
theorem dX9_change_180 : decode cX9_change 180 = .ok (.iaload, 1) := by decide +kernel
theorem dX9_change_181 : decode cX9_change 181 = .ok (.iastore, 1) := by decide +kernel
theorem dX9_change_182 : decode cX9_change 182 = .ok (.iinc 7 (-1), 3) := by decide +kernel
theorem dX9_change_185 : decode cX9_change 185 = .ok (.goto (-52), 3) := by decide +kernel
theorem dX9_change_188 : decode cX9_change 188 = .ok (.aload_n 0, 1) := by decide +kernel
theorem dX9_change_189 : decode cX9_change 189 = .ok (.getfield 7, 3) := by decide +kernel
theorem dX9_change_192 : decode cX9_change 192 = .ok (.iload 5, 2) := by decide +kernel
theorem dX9_change_194 : decode cX9_change 194 = .ok (.iload 4, 2) := by decide +kernel
theorem dX9_change_196 : decode cX9_change 196 = .ok (.iastore, 1) := by decide +kernel
theorem dX9_change_197 : decode cX9_change 197 = .ok (.aload_n 0, 1) := by decide +kernel
theorem dX9_change_198 : decode cX9_change 198 = .ok (.getfield 7, 3) := by decide +kernel
theorem dX9_change_201 : decode cX9_change 201 = .ok (.iload 6, 2) := by decide +kernel
theorem dX9_change_203 : decode cX9_change 203 = .ok (.iload_n 3, 1) := by decide +kernel
theorem dX9_change_204 : decode cX9_change 204 = .ok (.iastore, 1) := by decide +kernel
theorem dX9_change_205 : decode cX9_change 205 = .ok (.aload_n 0, 1) := by decide +kernel
theorem dX9_change_206 : decode cX9_change 206 = .ok (.getfield 7, 3) := by decide +kernel
theorem dX9_change_209 : decode cX9_change 209 = .ok (.iload_n 1, 1) := by decide +kernel
theorem dX9_change_210 : decode cX9_change 210 = .ok (.bipush 40, 2) := by decide +kernel
theorem dX9_change_212 : decode cX9_change 212 = .ok (.iadd, 1) := by decide +kernel
theorem dX9_change_213 : decode cX9_change 213 = .ok (.iload_n 2, 1) := by decide +kernel
theorem dX9_change_214 : decode cX9_change 214 = .ok (.iadd, 1) := by decide +kernel
theorem dX9_change_215 : decode cX9_change 215 = .ok (.aload_n 0, 1) := by decide +kernel
theorem dX9_change_216 : decode cX9_change 216 = .ok (.getfield 7, 3) := by decide +kernel
theorem dX9_change_219 : decode cX9_change 219 = .ok (.iload_n 1, 1) := by decide +kernel
theorem dX9_change_220 : decode cX9_change 220 = .ok (.bipush 40, 2) := by decide +kernel
theorem dX9_change_222 : decode cX9_change 222 = .ok (.iadd, 1) := by decide +kernel
theorem dX9_change_223 : decode cX9_change 223 = .ok (.iload_n 2, 1) := by decide +kernel
theorem dX9_change_224 : decode cX9_change 224 = .ok (.iadd, 1) := by decide +kernel
theorem dX9_change_225 : decode cX9_change 225 = .ok (.iaload, 1) := by decide +kernel
theorem dX9_change_226 : decode cX9_change 226 = .ok (.iconst 1, 1) := by decide +kernel
theorem dX9_change_227 : decode cX9_change 227 = .ok (.iadd, 1) := by decide +kernel
theorem dX9_change_228 : decode cX9_change 228 = .ok (.bipush 8, 2) := by decide +kernel
theorem dX9_change_230 : decode cX9_change 230 = .ok (.invokestatic 74, 3) := by decide +kernel
theorem dX9_change_233 : decode cX9_change 233 = .ok (.iastore, 1) := by decide +kernel
theorem dX9_change_234 : decode cX9_change 234 = .ok (.return_, 1) := by decide +kernel
theorem dX9_cycle_0 : decode cX9_cycle 0 = .ok (.aload_n 0, 1) := by decide +kernel
theorem dX9_cycle_1 : decode cX9_cycle 1 = .ok (.getfield 7, 3) := by decide +kernel
theorem dX9_cycle_4 : decode cX9_cycle 4 = .ok (.iload_n 1, 1) := by decide +kernel
theorem dX9_cycle_5 : decode cX9_cycle 5 = .ok (.iconst 0, 1) := by decide +kernel
theorem dX9_cycle_6 : decode cX9_cycle 6 = .ok (.iadd, 1) := by decide +kernel
theorem dX9_cycle_7 : decode cX9_cycle 7 = .ok (.iaload, 1) := by decide +kernel
theorem dX9_cycle_8 : decode cX9_cycle 8 = .ok (.istore_n 2, 1) := by decide +kernel
theorem dX9_cycle_9 : decode cX9_cycle 9 = .ok (.iconst (-1), 1) := by decide +kernel
theorem dX9_cycle_10 : decode cX9_cycle 10 = .ok (.istore_n 3, 1) := by decide +kernel
theorem dX9_cycle_11 : decode cX9_cycle 11 = .ok (.iconst 2, 1) := by decide +kernel
theorem dX9_cycle_12 : decode cX9_cycle 12 = .ok (.istore 4, 2) := by decide +kernel
theorem dX9_cycle_14 : decode cX9_cycle 14 = .ok (.iconst 0, 1) := by decide +kernel
theorem dX9_cycle_15 : decode cX9_cycle 15 = .ok (.istore 5, 2) := by decide +kernel
theorem dX9_cycle_17 : decode cX9_cycle 17 = .ok (.iload 5, 2) := by decide +kernel
theorem dX9_cycle_19 : decode cX9_cycle 19 = .ok (.aload_n 0, 1) := by decide +kernel
theorem dX9_cycle_20 : decode cX9_cycle 20 = .ok (.getfield 45, 3) := by decide +kernel
theorem dX9_cycle_23 : decode cX9_cycle 23 = .ok (.if_icmp .ge 82, 3) := by decide +kernel
theorem dX9_cycle_26 : decode cX9_cycle 26 = .ok (.aload_n 0, 1) := by decide +kernel
theorem dX9_cycle_27 : decode cX9_cycle 27 = .ok (.getfield 7, 3) := by decide +kernel
theorem dX9_cycle_30 : decode cX9_cycle 30 = .ok (.iload_n 1, 1) := by decide +kernel
theorem dX9_cycle_31 : decode cX9_cycle 31 = .ok (.sipush 184, 3) := by decide +kernel
theorem dX9_cycle_34 : decode cX9_cycle 34 = .ok (.iadd, 1) := by decide +kernel
theorem dX9_cycle_35 : decode cX9_cycle 35 = .ok (.iload 5, 2) := by decide +kernel
theorem dX9_cycle_37 : decode cX9_cycle 37 = .ok (.iadd, 1) := by decide +kernel
theorem dX9_cycle_38 : decode cX9_cycle 38 = .ok (.iaload, 1) := by decide +kernel
theorem dX9_cycle_39 : decode cX9_cycle 39 = .ok (.ifCond .le 60, 3) := by decide +kernel
theorem dX9_cycle_42 : decode cX9_cycle 42 = .ok (.aload_n 0, 1) := by decide +kernel
theorem dX9_cycle_43 : decode cX9_cycle 43 = .ok (.getfield 7, 3) := by decide +kernel
theorem dX9_cycle_46 : decode cX9_cycle 46 = .ok (.iload_n 1, 1) := by decide +kernel
theorem dX9_cycle_47 : decode cX9_cycle 47 = .ok (.sipush 192, 3) := by decide +kernel
theorem dX9_cycle_50 : decode cX9_cycle 50 = .ok (.iadd, 1) := by decide +kernel
theorem dX9_cycle_51 : decode cX9_cycle 51 = .ok (.bipush 8, 2) := by decide +kernel
theorem dX9_cycle_53 : decode cX9_cycle 53 = .ok (.iload 5, 2) := by decide +kernel
theorem dX9_cycle_55 : decode cX9_cycle 55 = .ok (.imul, 1) := by decide +kernel
theorem dX9_cycle_56 : decode cX9_cycle 56 = .ok (.iadd, 1) := by decide +kernel
theorem dX9_cycle_57 : decode cX9_cycle 57 = .ok (.iaload, 1) := by decide +kernel
theorem dX9_cycle_58 : decode cX9_cycle 58 = .ok (.iload_n 2, 1) := by decide +kernel
theorem dX9_cycle_59 : decode cX9_cycle 59 = .ok (.if_icmp .ne 40, 3) := by decide +kernel
theorem dX9_cycle_62 : decode cX9_cycle 62 = .ok (.aload_n 0, 1) := by decide +kernel
theorem dX9_cycle_63 : decode cX9_cycle 63 = .ok (.getfield 7, 3) := by decide +kernel
theorem dX9_cycle_66 : decode cX9_cycle 66 = .ok (.iload_n 1, 1) := by decide +kernel
theorem dX9_cycle_67 : decode cX9_cycle 67 = .ok (.sipush 176, 3) := by decide +kernel
theorem dX9_cycle_70 : decode cX9_cycle 70 = .ok (.iadd, 1) := by decide +kernel
theorem dX9_cycle_71 : decode cX9_cycle 71 = .ok (.iload 5, 2) := by decide +kernel
theorem dX9_cycle_73 : decode cX9_cycle 73 = .ok (.iadd, 1) := by decide +kernel
theorem dX9_cycle_74 : decode cX9_cycle 74 = .ok (.aload_n 0, 1) := by decide +kernel
theorem dX9_cycle_75 : decode cX9_cycle 75 = .ok (.getfield 7, 3) := by decide +kernel
theorem dX9_cycle_78 : decode cX9_cycle 78 = .ok (.iload_n 1, 1) := by decide +kernel
theorem dX9_cycle_79 : decode cX9_cycle 79 = .ok (.sipush 256, 3) := by decide +kernel
theorem dX9_cycle_82 : decode cX9_cycle 82 = .ok (.iadd, 1) := by decide +kernel
theorem dX9_cycle_83 : decode cX9_cycle 83 = .ok (.bipush 8, 2) := by decide +kernel
theorem dX9_cycle_85 : decode cX9_cycle 85 = .ok (.iload 5, 2) := by decide +kernel
theorem dX9_cycle_87 : decode cX9_cycle 87 = .ok (.imul, 1) := by decide +kernel
theorem dX9_cycle_88 : decode cX9_cycle 88 = .ok (.iadd, 1) := by decide +kernel
theorem dX9_cycle_89 : decode cX9_cycle 89 = .ok (.iaload, 1) := by decide +kernel
theorem dX9_cycle_90 : decode cX9_cycle 90 = .ok (.iastore, 1) := by decide +kernel
theorem dX9_cycle_91 : decode cX9_cycle 91 = .ok (.aload_n 0, 1) := by decide +kernel
theorem dX9_cycle_92 : decode cX9_cycle 92 = .ok (.iload_n 1, 1) := by decide +kernel
theorem dX9_cycle_93 : decode cX9_cycle 93 = .ok (.iload 5, 2) := by decide +kernel
theorem dX9_cycle_95 : decode cX9_cycle 95 = .ok (.iconst 1, 1) := by decide +kernel
theorem dX9_cycle_96 : decode cX9_cycle 96 = .ok (.invokevirtual 66, 3) := by decide +kernel
theorem dX9_cycle_99 : decode cX9_cycle 99 = .ok (.iinc 5 1, 3) := by decide +kernel
theorem dX9_cycle_102 : decode cX9_cycle 102 = .ok (.goto (-85), 3) := by decide +kernel
theorem dX9_cycle_105 : decode cX9_cycle 105 = .ok (.aload_n 0, 1) := by decide +kernel
theorem dX9_cycle_106 : decode cX9_cycle 106 = .ok (.getfield 7, 3) := by decide +kernel
theorem dX9_cycle_109 : decode cX9_cycle 109 = .ok (.iload_n 1, 1) := by decide +kernel
theorem dX9_cycle_110 : decode cX9_cycle 110 = .ok (.iconst 3, 1) := by decide +kernel
theorem dX9_cycle_111 : decode cX9_cycle 111 = .ok (.iadd, 1) := by decide +kernel
theorem dX9_cycle_112 : decode cX9_cycle 112 = .ok (.iaload, 1) := by decide +kernel
theorem dX9_cycle_113 : decode cX9_cycle 113 = .ok (.ifCond .le 45, 3) := by decide +kernel
theorem dX9_cycle_116 : decode cX9_cycle 116 = .ok (.aload_n 0, 1) := by decide +kernel
theorem dX9_cycle_117 : decode cX9_cycle 117 = .ok (.getfield 7, 3) := by decide +kernel
theorem dX9_cycle_120 : decode cX9_cycle 120 = .ok (.iload_n 1, 1) := by decide +kernel
theorem dX9_cycle_121 : decode cX9_cycle 121 = .ok (.sipush 320, 3) := by decide +kernel
theorem dX9_cycle_124 : decode cX9_cycle 124 = .ok (.iadd, 1) := by decide +kernel
theorem dX9_cycle_125 : decode cX9_cycle 125 = .ok (.iaload, 1) := by decide +kernel
theorem dX9_cycle_126 : decode cX9_cycle 126 = .ok (.iload_n 2, 1) := by decide +kernel
theorem dX9_cycle_127 : decode cX9_cycle 127 = .ok (.if_icmp .ne 31, 3) := by decide +kernel
theorem dX9_cycle_130 : decode cX9_cycle 130 = .ok (.aload_n 0, 1) := by decide +kernel
theorem dX9_cycle_131 : decode cX9_cycle 131 = .ok (.getfield 7, 3) := by decide +kernel
theorem dX9_cycle_134 : decode cX9_cycle 134 = .ok (.iload_n 1, 1) := by decide +kernel
theorem dX9_cycle_135 : decode cX9_cycle 135 = .ok (.sipush 328, 3) := by decide +kernel
theorem dX9_cycle_138 : decode cX9_cycle 138 = .ok (.iadd, 1) := by decide +kernel
theorem dX9_cycle_139 : decode cX9_cycle 139 = .ok (.iaload, 1) := by decide +kernel
theorem dX9_cycle_140 : decode cX9_cycle 140 = .ok (.istore_n 3, 1) := by decide +kernel
theorem dX9_cycle_141 : decode cX9_cycle 141 = .ok (.aload_n 0, 1) := by decide +kernel
theorem dX9_cycle_142 : decode cX9_cycle 142 = .ok (.getfield 7, 3) := by decide +kernel
theorem dX9_cycle_145 : decode cX9_cycle 145 = .ok (.iload_n 1, 1) := by decide +kernel
theorem dX9_cycle_146 : decode cX9_cycle 146 = .ok (.sipush 336, 3) := by decide +kernel
theorem dX9_cycle_149 : decode cX9_cycle 149 = .ok (.iadd, 1) := by decide +kernel
theorem dX9_cycle_150 : decode cX9_cycle 150 = .ok (.iaload, 1) := by decide +kernel
theorem dX9_cycle_151 : decode cX9_cycle 151 = .ok (.istore 4, 2) := by decide +kernel
theorem dX9_cycle_153 : decode cX9_cycle 153 = .ok (.aload_n 0, 1) := by decide +kernel
theorem dX9_cycle_154 : decode cX9_cycle 154 = .ok (.iload_n 1, 1) := by decide +kernel
theorem dX9_cycle_155 : decode cX9_cycle 155 = .ok (.invokevirtual 77, 3) := by decide +kernel
theorem dX9_cycle_158 : decode cX9_cycle 158 = .ok (.aload_n 0, 1) := by decide +kernel
theorem dX9_cycle_159 : decode cX9_cycle 159 = .ok (.getfield 7, 3) := by decide +kernel
theorem dX9_cycle_162 : decode cX9_cycle 162 = .ok (.iload_n 1, 1) := by decide +kernel
theorem dX9_cycle_163 : decode cX9_cycle 163 = .ok (.iconst 1, 1) := by decide +kernel
theorem dX9_cycle_164 : decode cX9_cycle 164 = .ok (.iadd, 1) := by decide +kernel
theorem dX9_cycle_165 : decode cX9_cycle 165 = .ok (.aload_n 0, 1) := by decide +kernel
theorem dX9_cycle_166 : decode cX9_cycle 166 = .ok (.getfield 7, 3) := by decide +kernel
theorem dX9_cycle_169 : decode cX9_cycle 169 = .ok (.iload_n 1, 1) := by decide +kernel
theorem dX9_cycle_170 : decode cX9_cycle 170 = .ok (.iconst 1, 1) := by decide +kernel
theorem dX9_cycle_171 : decode cX9_cycle 171 = .ok (.iadd, 1) := by decide +kernel
theorem dX9_cycle_172 : decode cX9_cycle 172 = .ok (.iaload, 1) := by decide +kernel
theorem dX9_cycle_173 : decode cX9_cycle 173 = .ok (.iconst 1, 1) := by decide +kernel
theorem dX9_cycle_174 : decode cX9_cycle 174 = .ok (.iadd, 1) := by decide +kernel
theorem dX9_cycle_175 : decode cX9_cycle 175 = .ok (.ldc 81, 2) := by decide +kernel
theorem dX9_cycle_177 : decode cX9_cycle 177 = .ok (.invokestatic 74, 3) := by decide +kernel
theorem dX9_cycle_180 : decode cX9_cycle 180 = .ok (.iastore, 1) := by decide +kernel
theorem dX9_cycle_181 : decode cX9_cycle 181 = .ok (.iconst 0, 1) := by decide +kernel
theorem dX9_cycle_182 : decode cX9_cycle 182 = .ok (.istore 5, 2) := by decide +kernel
theorem dX9_cycle_184 : decode cX9_cycle 184 = .ok (.iconst 0, 1) := by decide +kernel
theorem dX9_cycle_185 : decode cX9_cycle 185 = .ok (.istore 6, 2) := by decide +kernel
theorem dX9_cycle_187 : decode cX9_cycle 187 = .ok (.iconst 0, 1) := by decide +kernel
theorem dX9_cycle_188 : decode cX9_cycle 188 = .ok (.istore 7, 2) := by decide +kernel
theorem dX9_cycle_190 : decode cX9_cycle 190 = .ok (.iload 7, 2) := by decide +kernel
theorem dX9_cycle_192 : decode cX9_cycle 192 = .ok (.aload_n 0, 1) := by decide +kernel
theorem dX9_cycle_193 : decode cX9_cycle 193 = .ok (.getfield 38, 3) := by decide +kernel
theorem dX9_cycle_196 : decode cX9_cycle 196 = .ok (.if_icmp .ge 92, 3) := by decide +kernel
theorem dX9_cycle_199 : decode cX9_cycle 199 = .ok (.aload_n 0, 1) := by decide +kernel
theorem dX9_cycle_200 : decode cX9_cycle 200 = .ok (.iload 7, 2) := by decide +kernel
theorem dX9_cycle_202 : decode cX9_cycle 202 = .ok (.invokevirtual 82, 3) := by decide +kernel
theorem dX9_cycle_205 : decode cX9_cycle 205 = .ok (.ifCond .le 14, 3) := by decide +kernel
theorem dX9_cycle_208 : decode cX9_cycle 208 = .ok (.aload_n 0, 1) := by decide +kernel
theorem dX9_cycle_209 : decode cX9_cycle 209 = .ok (.iload_n 1, 1) := by decide +kernel
theorem dX9_cycle_210 : decode cX9_cycle 210 = .ok (.iload 7, 2) := by decide +kernel
theorem dX9_cycle_212 : decode cX9_cycle 212 = .ok (.iconst (-1), 1) := by decide +kernel
theorem dX9_cycle_213 : decode cX9_cycle 213 = .ok (.invokevirtual 85, 3) := by decide +kernel
theorem dX9_cycle_216 : decode cX9_cycle 216 = .ok (.goto 26, 3) := by decide +kernel
theorem dX9_cycle_219 : decode cX9_cycle 219 = .ok (.iload 7, 2) := by decide +kernel
theorem dX9_cycle_221 : decode cX9_cycle 221 = .ok (.iload_n 3, 1) := by decide +kernel
theorem dX9_cycle_222 : decode cX9_cycle 222 = .ok (.if_icmp .ne 8, 3) := by decide +kernel
theorem dX9_cycle_225 : decode cX9_cycle 225 = .ok (.iload 4, 2) := by decide +kernel
theorem dX9_cycle_227 : decode cX9_cycle 227 = .ok (.goto 15, 3) := by decide +kernel
theorem dX9_cycle_230 : decode cX9_cycle 230 = .ok (.aload_n 0, 1) := by decide +kernel
theorem dX9_cycle_231 : decode cX9_cycle 231 = .ok (.getfield 7, 3) := by decide +kernel
theorem dX9_cycle_234 : decode cX9_cycle 234 = .ok (.iload_n 1, 1) := by decide +kernel
theorem dX9_cycle_235 : decode cX9_cycle 235 = .ok (.bipush 8, 2) := by decide +kernel
theorem dX9_cycle_237 : decode cX9_cycle 237 = .ok (.iadd, 1) := by decide +kernel
theorem dX9_cycle_238 : decode cX9_cycle 238 = .ok (.iload 7, 2) := by decide +kernel
theorem dX9_cycle_240 : decode cX9_cycle 240 = .ok (.iadd, 1) := by decide +kernel
theorem dX9_cycle_241 : decode cX9_cycle 241 = .ok (.iaload, 1) := by decide +kernel
theorem dX9_cycle_242 : decode cX9_cycle 242 = .ok (.istore 8, 2) := by decide +kernel
theorem dX9_cycle_244 : decode cX9_cycle 244 = .ok (.iload 8, 2) := by decide +kernel
theorem dX9_cycle_246 : decode cX9_cycle 246 = .ok (.aload_n 0, 1) := by decide +kernel
theorem dX9_cycle_247 : decode cX9_cycle 247 = .ok (.getfield 7, 3) := by decide +kernel
theorem dX9_cycle_250 : decode cX9_cycle 250 = .ok (.iload_n 1, 1) := by decide +kernel
theorem dX9_cycle_251 : decode cX9_cycle 251 = .ok (.bipush 8, 2) := by decide +kernel
theorem dX9_cycle_253 : decode cX9_cycle 253 = .ok (.iadd, 1) := by decide +kernel
theorem dX9_cycle_254 : decode cX9_cycle 254 = .ok (.iload 7, 2) := by decide +kernel
theorem dX9_cycle_256 : decode cX9_cycle 256 = .ok (.iadd, 1) := by decide +kernel
theorem dX9_cycle_257 : decode cX9_cycle 257 = .ok (.iaload, 1) := by decide +kernel
theorem dX9_cycle_258 : decode cX9_cycle 258 = .ok (.if_icmp .eq 24, 3) := by decide +kernel
theorem dX9_cycle_261 : decode cX9_cycle 261 = .ok (.aload_n 0, 1) := by decide +kernel
theorem dX9_cycle_262 : decode cX9_cycle 262 = .ok (.iload_n 1, 1) := by decide +kernel
theorem dX9_cycle_263 : decode cX9_cycle 263 = .ok (.iload 7, 2) := by decide +kernel
theorem dX9_cycle_265 : decode cX9_cycle 265 = .ok (.iload 8, 2) := by decide +kernel
theorem dX9_cycle_267 : decode cX9_cycle 267 = .ok (.invokevirtual 88, 3) := by decide +kernel
theorem dX9_cycle_270 : decode cX9_cycle 270 = .ok (.iload 5, 2) := by decide +kernel
theorem dX9_cycle_272 : decode cX9_cycle 272 = .ok (.iconst 1, 1) := by decide +kernel
theorem dX9_cycle_273 : decode cX9_cycle 273 = .ok (.iload 7, 2) := by decide +kernel
theorem dX9_cycle_275 : decode cX9_cycle 275 = .ok (.ishl, 1) := by decide +kernel
theorem dX9_cycle_276 : decode cX9_cycle 276 = .ok (.ior, 1) := by decide +kernel
theorem dX9_cycle_277 : decode cX9_cycle 277 = .ok (.istore 5, 2) := by decide +kernel
theorem dX9_cycle_279 : decode cX9_cycle 279 = .ok (.iinc 6 1, 3) := by decide +kernel
theorem dX9_cycle_282 : decode cX9_cycle 282 = .ok (.iinc 7 1, 3) := by decide +kernel
theorem dX9_cycle_285 : decode cX9_cycle 285 = .ok (.goto (-95), 3) := by decide +kernel
theorem dX9_cycle_288 : decode cX9_cycle 288 = .ok (.iconst 0, 1) := by decide +kernel
theorem dX9_cycle_289 : decode cX9_cycle 289 = .ok (.istore 7, 2) := by decide +kernel
theorem dX9_cycle_291 : decode cX9_cycle 291 = .ok (.iload 7, 2) := by decide +kernel
theorem dX9_cycle_293 : decode cX9_cycle 293 = .ok (.aload_n 0, 1) := by decide +kernel
theorem dX9_cycle_294 : decode cX9_cycle 294 = .ok (.getfield 45, 3) := by decide +kernel
theorem dX9_cycle_297 : decode cX9_cycle 297 = .ok (.if_icmp .ge 76, 3) := by decide +kernel
theorem dX9_cycle_300 : decode cX9_cycle 300 = .ok (.iconst 0, 1) := by decide +kernel
theorem dX9_cycle_301 : decode cX9_cycle 301 = .ok (.istore 8, 2) := by decide +kernel
theorem dX9_cycle_303 : decode cX9_cycle 303 = .ok (.iconst 0, 1) := by decide +kernel
theorem dX9_cycle_304 : decode cX9_cycle 304 = .ok (.istore 9, 2) := by decide +kernel
theorem dX9_cycle_306 : decode cX9_cycle 306 = .ok (.iload 9, 2) := by decide +kernel
theorem dX9_cycle_308 : decode cX9_cycle 308 = .ok (.aload_n 0, 1) := by decide +kernel
theorem dX9_cycle_309 : decode cX9_cycle 309 = .ok (.getfield 38, 3) := by decide +kernel
theorem dX9_cycle_312 : decode cX9_cycle 312 = .ok (.if_icmp .ge 43, 3) := by decide +kernel
theorem dX9_cycle_315 : decode cX9_cycle 315 = .ok (.iload 8, 2) := by decide +kernel
theorem dX9_cycle_317 : decode cX9_cycle 317 = .ok (.ifCond .ne 25, 3) := by decide +kernel
theorem dX9_cycle_320 : decode cX9_cycle 320 = .ok (.iload 5, 2) := by decide +kernel
theorem dX9_cycle_322 : decode cX9_cycle 322 = .ok (.iload 9, 2) := by decide +kernel
theorem dX9_cycle_324 : decode cX9_cycle 324 = .ok (.ishr, 1) := by decide +kernel
theorem dX9_cycle_325 : decode cX9_cycle 325 = .ok (.iconst 1, 1) := by decide +kernel
theorem dX9_cycle_326 : decode cX9_cycle 326 = .ok (.iand, 1) := by decide +kernel
theorem dX9_cycle_327 : decode cX9_cycle 327 = .ok (.iconst 1, 1) := by decide +kernel
theorem dX9_cycle_328 : decode cX9_cycle 328 = .ok (.if_icmp .ne 18, 3) := by decide +kernel
theorem dX9_cycle_331 : decode cX9_cycle 331 = .ok (.aload_n 0, 1) := by decide +kernel
theorem dX9_cycle_332 : decode cX9_cycle 332 = .ok (.iload 7, 2) := by decide +kernel
theorem dX9_cycle_334 : decode cX9_cycle 334 = .ok (.iload 9, 2) := by decide +kernel
theorem dX9_cycle_336 : decode cX9_cycle 336 = .ok (.invokevirtual 91, 3) := by decide +kernel
theorem dX9_cycle_339 : decode cX9_cycle 339 = .ok (.ifCond .eq 7, 3) := by decide +kernel
theorem dX9_cycle_342 : decode cX9_cycle 342 = .ok (.iconst 1, 1) := by decide +kernel
theorem dX9_cycle_343 : decode cX9_cycle 343 = .ok (.goto 4, 3) := by decide +kernel
theorem dX9_cycle_346 : decode cX9_cycle 346 = .ok (.iconst 0, 1) := by decide +kernel
theorem dX9_cycle_347 : decode cX9_cycle 347 = .ok (.istore 8, 2) := by decide +kernel
theorem dX9_cycle_349 : decode cX9_cycle 349 = .ok (.iinc 9 1, 3) := by decide +kernel
theorem dX9_cycle_352 : decode cX9_cycle 352 = .ok (.goto (-46), 3) := by decide +kernel
theorem dX9_cycle_355 : decode cX9_cycle 355 = .ok (.iload 8, 2) := by decide +kernel
theorem dX9_cycle_357 : decode cX9_cycle 357 = .ok (.ifCond .eq 10, 3) := by decide +kernel
theorem dX9_cycle_360 : decode cX9_cycle 360 = .ok (.aload_n 0, 1) := by decide +kernel
theorem dX9_cycle_361 : decode cX9_cycle 361 = .ok (.iload_n 1, 1) := by decide +kernel
theorem dX9_cycle_362 : decode cX9_cycle 362 = .ok (.iload 7, 2) := by decide +kernel
theorem dX9_cycle_364 : decode cX9_cycle 364 = .ok (.invokevirtual 70, 3) := by decide +kernel
theorem dX9_cycle_367 : decode cX9_cycle 367 = .ok (.iinc 7 1, 3) := by decide +kernel
theorem dX9_cycle_370 : decode cX9_cycle 370 = .ok (.goto (-79), 3) := by decide +kernel
theorem dX9_cycle_373 : decode cX9_cycle 373 = .ok (.iload 6, 2) := by decide +kernel
theorem dX9_cycle_375 : decode cX9_cycle 375 = .ok (.ireturn, 1) := by decide +kernel
theorem dX9_stepIn_0 : decode cX9_stepIn 0 = .ok (.aload_n 0, 1) := by decide +kernel
theorem dX9_stepIn_1 : decode cX9_stepIn 1 = .ok (.iload_n 1, 1) := by decide +kernel
theorem dX9_stepIn_2 : decode cX9_stepIn 2 = .ok (.invokevirtual 95, 3) := by decide +kernel
theorem dX9_stepIn_5 : decode cX9_stepIn 5 = .ok (.istore_n 2, 1) := by decide +kernel
theorem dX9_stepIn_6 : decode cX9_stepIn 6 = .ok (.aload_n 0, 1) := by decide +kernel
theorem dX9_stepIn_7 : decode cX9_stepIn 7 = .ok (.getfield 7, 3) := by decide +kernel
theorem dX9_stepIn_10 : decode cX9_stepIn 10 = .ok (.iload_n 1, 1) := by decide +kernel
theorem dX9_stepIn_11 : decode cX9_stepIn 11 = .ok (.iconst 0, 1) := by decide +kernel
theorem dX9_stepIn_12 : decode cX9_stepIn 12 = .ok (.iadd, 1) := by decide +kernel
theorem dX9_stepIn_13 : decode cX9_stepIn 13 = .ok (.iload_n 2, 1) := by decide +kernel
theorem dX9_stepIn_14 : decode cX9_stepIn 14 = .ok (.aload_n 0, 1) := by decide +kernel
theorem dX9_stepIn_15 : decode cX9_stepIn 15 = .ok (.getfield 7, 3) := by decide +kernel
theorem dX9_stepIn_18 : decode cX9_stepIn 18 = .ok (.iload_n 1, 1) := by decide +kernel
theorem dX9_stepIn_19 : decode cX9_stepIn 19 = .ok (.iconst 0, 1) := by decide +kernel
theorem dX9_stepIn_20 : decode cX9_stepIn 20 = .ok (.iadd, 1) := by decide +kernel
theorem dX9_stepIn_21 : decode cX9_stepIn 21 = .ok (.iaload, 1) := by decide +kernel
theorem dX9_stepIn_22 : decode cX9_stepIn 22 = .ok (.if_icmp .le 7, 3) := by decide +kernel
theorem dX9_stepIn_25 : decode cX9_stepIn 25 = .ok (.iload_n 2, 1) := by decide +kernel
theorem dX9_stepIn_26 : decode cX9_stepIn 26 = .ok (.goto 11, 3) := by decide +kernel
theorem dX9_stepIn_29 : decode cX9_stepIn 29 = .ok (.aload_n 0, 1) := by decide +kernel
theorem dX9_stepIn_30 : decode cX9_stepIn 30 = .ok (.getfield 7, 3) := by decide +kernel
theorem dX9_stepIn_33 : decode cX9_stepIn 33 = .ok (.iload_n 1, 1) := by decide +kernel
theorem dX9_stepIn_34 : decode cX9_stepIn 34 = .ok (.iconst 0, 1) := by decide +kernel
theorem dX9_stepIn_35 : decode cX9_stepIn 35 = .ok (.iadd, 1) := by decide +kernel
theorem dX9_stepIn_36 : decode cX9_stepIn 36 = .ok (.iaload, 1) := by decide +kernel
theorem dX9_stepIn_37 : decode cX9_stepIn 37 = .ok (.iastore, 1) := by decide +kernel
theorem dX9_stepIn_38 : decode cX9_stepIn 38 = .ok (.iconst 0, 1) := by decide +kernel
theorem dX9_stepIn_39 : decode cX9_stepIn 39 = .ok (.istore_n 3, 1) := by decide +kernel
theorem dX9_stepIn_40 : decode cX9_stepIn 40 = .ok (.iload_n 3, 1) := by decide +kernel
theorem dX9_stepIn_41 : decode cX9_stepIn 41 = .ok (.bipush 40, 2) := by decide +kernel
theorem dX9_stepIn_43 : decode cX9_stepIn 43 = .ok (.if_icmp .ge 38, 3) := by decide +kernel
theorem dX9_stepIn_46 : decode cX9_stepIn 46 = .ok (.aload_n 0, 1) := by decide +kernel
theorem dX9_stepIn_47 : decode cX9_stepIn 47 = .ok (.iload_n 1, 1) := by decide +kernel
theorem dX9_stepIn_48 : decode cX9_stepIn 48 = .ok (.invokevirtual 95, 3) := by decide +kernel
theorem dX9_stepIn_51 : decode cX9_stepIn 51 = .ok (.aload_n 0, 1) := by decide +kernel
theorem dX9_stepIn_52 : decode cX9_stepIn 52 = .ok (.getfield 7, 3) := by decide +kernel
theorem dX9_stepIn_55 : decode cX9_stepIn 55 = .ok (.iload_n 1, 1) := by decide +kernel
theorem dX9_stepIn_56 : decode cX9_stepIn 56 = .ok (.iconst 0, 1) := by decide +kernel
theorem dX9_stepIn_57 : decode cX9_stepIn 57 = .ok (.iadd, 1) := by decide +kernel
theorem dX9_stepIn_58 : decode cX9_stepIn 58 = .ok (.iaload, 1) := by decide +kernel
theorem dX9_stepIn_59 : decode cX9_stepIn 59 = .ok (.if_icmp .ne 22, 3) := by decide +kernel
theorem dX9_stepIn_62 : decode cX9_stepIn 62 = .ok (.iload_n 3, 1) := by decide +kernel
theorem dX9_stepIn_63 : decode cX9_stepIn 63 = .ok (.aload_n 0, 1) := by decide +kernel
theorem dX9_stepIn_64 : decode cX9_stepIn 64 = .ok (.iload_n 1, 1) := by decide +kernel
theorem dX9_stepIn_65 : decode cX9_stepIn 65 = .ok (.invokevirtual 98, 3) := by decide +kernel
theorem dX9_stepIn_68 : decode cX9_stepIn 68 = .ok (.ifCond .le 7, 3) := by decide +kernel
theorem dX9_stepIn_71 : decode cX9_stepIn 71 = .ok (.iconst 1, 1) := by decide +kernel
theorem dX9_stepIn_72 : decode cX9_stepIn 72 = .ok (.goto 4, 3) := by decide +kernel
theorem dX9_stepIn_75 : decode cX9_stepIn 75 = .ok (.iconst 0, 1) := by decide +kernel
theorem dX9_stepIn_76 : decode cX9_stepIn 76 = .ok (.iadd, 1) := by decide +kernel
theorem dX9_stepIn_77 : decode cX9_stepIn 77 = .ok (.istore_n 3, 1) := by decide +kernel
theorem dX9_stepIn_78 : decode cX9_stepIn 78 = .ok (.goto (-38), 3) := by decide +kernel
theorem dX9_stepIn_81 : decode cX9_stepIn 81 = .ok (.iload_n 3, 1) := by decide +kernel
theorem dX9_stepIn_82 : decode cX9_stepIn 82 = .ok (.bipush 40, 2) := by decide +kernel
theorem dX9_stepIn_84 : decode cX9_stepIn 84 = .ok (.if_icmp .ne 53, 3) := by decide +kernel
theorem dX9_stepIn_87 : decode cX9_stepIn 87 = .ok (.aload_n 0, 1) := by decide +kernel
theorem dX9_stepIn_88 : decode cX9_stepIn 88 = .ok (.getfield 7, 3) := by decide +kernel
theorem dX9_stepIn_91 : decode cX9_stepIn 91 = .ok (.iload_n 1, 1) := by decide +kernel
theorem dX9_stepIn_92 : decode cX9_stepIn 92 = .ok (.iconst 2, 1) := by decide +kernel
theorem dX9_stepIn_93 : decode cX9_stepIn 93 = .ok (.iadd, 1) := by decide +kernel
theorem dX9_stepIn_94 : decode cX9_stepIn 94 = .ok (.iconst 1, 1) := by decide +kernel
theorem dX9_stepIn_95 : decode cX9_stepIn 95 = .ok (.iastore, 1) := by decide +kernel
theorem dX9_stepIn_96 : decode cX9_stepIn 96 = .ok (.aload_n 0, 1) := by decide +kernel
theorem dX9_stepIn_97 : decode cX9_stepIn 97 = .ok (.getfield 7, 3) := by decide +kernel
theorem dX9_stepIn_100 : decode cX9_stepIn 100 = .ok (.iload_n 1, 1) := by decide +kernel
theorem dX9_stepIn_101 : decode cX9_stepIn 101 = .ok (.iconst 3, 1) := by decide +kernel
theorem dX9_stepIn_102 : decode cX9_stepIn 102 = .ok (.iadd, 1) := by decide +kernel
theorem dX9_stepIn_103 : decode cX9_stepIn 103 = .ok (.iconst 0, 1) := by decide +kernel
theorem dX9_stepIn_104 : decode cX9_stepIn 104 = .ok (.iastore, 1) := by decide +kernel
theorem dX9_stepIn_105 : decode cX9_stepIn 105 = .ok (.iconst 0, 1) := by decide +kernel
theorem dX9_stepIn_106 : decode cX9_stepIn 106 = .ok (.istore 4, 2) := by decide +kernel
theorem dX9_stepIn_108 : decode cX9_stepIn 108 = .ok (.iload 4, 2) := by decide +kernel
theorem dX9_stepIn_110 : decode cX9_stepIn 110 = .ok (.aload_n 0, 1) := by decide +kernel
theorem dX9_stepIn_111 : decode cX9_stepIn 111 = .ok (.getfield 45, 3) := by decide +kernel
theorem dX9_stepIn_114 : decode cX9_stepIn 114 = .ok (.if_icmp .ge 23, 3) := by decide +kernel
theorem dX9_stepIn_117 : decode cX9_stepIn 117 = .ok (.aload_n 0, 1) := by decide +kernel
theorem dX9_stepIn_118 : decode cX9_stepIn 118 = .ok (.getfield 7, 3) := by decide +kernel
theorem dX9_stepIn_121 : decode cX9_stepIn 121 = .ok (.iload_n 1, 1) := by decide +kernel
theorem dX9_stepIn_122 : decode cX9_stepIn 122 = .ok (.sipush 184, 3) := by decide +kernel
theorem dX9_stepIn_125 : decode cX9_stepIn 125 = .ok (.iadd, 1) := by decide +kernel
theorem dX9_stepIn_126 : decode cX9_stepIn 126 = .ok (.iload 4, 2) := by decide +kernel
theorem dX9_stepIn_128 : decode cX9_stepIn 128 = .ok (.iadd, 1) := by decide +kernel
theorem dX9_stepIn_129 : decode cX9_stepIn 129 = .ok (.iconst 0, 1) := by decide +kernel
theorem dX9_stepIn_130 : decode cX9_stepIn 130 = .ok (.iastore, 1) := by decide +kernel
theorem dX9_stepIn_131 : decode cX9_stepIn 131 = .ok (.iinc 4 1, 3) := by decide +kernel
theorem dX9_stepIn_134 : decode cX9_stepIn 134 = .ok (.goto (-26), 3) := by decide +kernel
theorem dX9_stepIn_137 : decode cX9_stepIn 137 = .ok (.return_, 1) := by decide +kernel
theorem dX9_feed_0 : decode cX9_feed 0 = .ok (.iload_n 1, 1) := by decide +kernel
theorem dX9_feed_1 : decode cX9_feed 1 = .ok (.iconst 0, 1) := by decide +kernel
theorem dX9_feed_2 : decode cX9_feed 2 = .ok (.sipush 255, 3) := by decide +kernel
theorem dX9_feed_5 : decode cX9_feed 5 = .ok (.invokestatic 41, 3) := by decide +kernel
theorem dX9_feed_8 : decode cX9_feed 8 = .ok (.ifCond .ne 6, 3) := by decide +kernel
theorem dX9_feed_11 : decode cX9_feed 11 = .ok (.ldc 101, 2) := by decide +kernel
theorem dX9_feed_13 : decode cX9_feed 13 = .ok (.ireturn, 1) := by decide +kernel
theorem dX9_feed_14 : decode cX9_feed 14 = .ok (.aload_n 0, 1) := by decide +kernel
theorem dX9_feed_15 : decode cX9_feed 15 = .ok (.getfield 102, 3) := by decide +kernel
theorem dX9_feed_18 : decode cX9_feed 18 = .ok (.sipush 200, 3) := by decide +kernel
theorem dX9_feed_21 : decode cX9_feed 21 = .ok (.if_icmp .ne 6, 3) := by decide +kernel
theorem dX9_feed_24 : decode cX9_feed 24 = .ok (.ldc 105, 2) := by decide +kernel
theorem dX9_feed_26 : decode cX9_feed 26 = .ok (.ireturn, 1) := by decide +kernel
theorem dX9_feed_27 : decode cX9_feed 27 = .ok (.aload_n 0, 1) := by decide +kernel
theorem dX9_feed_28 : decode cX9_feed 28 = .ok (.getfield 25, 3) := by decide +kernel
theorem dX9_feed_31 : decode cX9_feed 31 = .ok (.aload_n 0, 1) := by decide +kernel
theorem dX9_feed_32 : decode cX9_feed 32 = .ok (.getfield 102, 3) := by decide +kernel
theorem dX9_feed_35 : decode cX9_feed 35 = .ok (.iload_n 1, 1) := by decide +kernel
theorem dX9_feed_36 : decode cX9_feed 36 = .ok (.iastore, 1) := by decide +kernel
