theorem dX4_takeByHand_65 : decode cX4_takeByHand 65 = .ok (.iload_n 3, 1) := by decide +kernel
theorem dX4_takeByHand_66 : decode cX4_takeByHand 66 = .ok (.iconst 1, 1) := by decide +kernel
theorem dX4_takeByHand_67 : decode cX4_takeByHand 67 = .ok (.iadd, 1) := by decide +kernel
theorem dX4_takeByHand_68 : decode cX4_takeByHand 68 = .ok (.iaload, 1) := by decide +kernel
theorem dX4_takeByHand_69 : decode cX4_takeByHand 69 = .ok (.iastore, 1) := by decide +kernel
theorem dX4_takeByHand_70 : decode cX4_takeByHand 70 = .ok (.aload_n 0, 1) := by decide +kernel
theorem dX4_takeByHand_71 : decode cX4_takeByHand 71 = .ok (.getfield 45, 3) := by decide +kernel
theorem dX4_takeByHand_74 : decode cX4_takeByHand 74 = .ok (.iload_n 3, 1) := by decide +kernel
theorem dX4_takeByHand_75 : decode cX4_takeByHand 75 = .ok (.aload_n 0, 1) := by decide +kernel
theorem dX4_takeByHand_76 : decode cX4_takeByHand 76 = .ok (.getfield 45, 3) := by decide +kernel
theorem dX4_takeByHand_79 : decode cX4_takeByHand 79 = .ok (.iload_n 3, 1) := by decide +kernel
theorem dX4_takeByHand_80 : decode cX4_takeByHand 80 = .ok (.iconst 1, 1) := by decide +kernel
theorem dX4_takeByHand_81 : decode cX4_takeByHand 81 = .ok (.iadd, 1) := by decide +kernel
theorem dX4_takeByHand_82 : decode cX4_takeByHand 82 = .ok (.iaload, 1) := by decide +kernel
theorem dX4_takeByHand_83 : decode cX4_takeByHand 83 = .ok (.iastore, 1) := by decide +kernel
theorem dX4_takeByHand_84 : decode cX4_takeByHand 84 = .ok (.aload_n 0, 1) := by decide +kernel
theorem dX4_takeByHand_85 : decode cX4_takeByHand 85 = .ok (.getfield 48, 3) := by decide +kernel
theorem dX4_takeByHand_88 : decode cX4_takeByHand 88 = .ok (.iload_n 3, 1) := by decide +kernel
theorem dX4_takeByHand_89 : decode cX4_takeByHand 89 = .ok (.aload_n 0, 1) := by decide +kernel
theorem dX4_takeByHand_90 : decode cX4_takeByHand 90 = .ok (.getfield 48, 3) := by decide +kernel
theorem dX4_takeByHand_93 : decode cX4_takeByHand 93 = .ok (.iload_n 3, 1) := by decide +kernel
theorem dX4_takeByHand_94 : decode cX4_takeByHand 94 = .ok (.iconst 1, 1) := by decide +kernel
theorem dX4_takeByHand_95 : decode cX4_takeByHand 95 = .ok (.iadd, 1) := by decide +kernel
theorem dX4_takeByHand_96 : decode cX4_takeByHand 96 = .ok (.iaload, 1) := by decide +kernel
theorem dX4_takeByHand_97 : decode cX4_takeByHand 97 = .ok (.iastore, 1) := by decide +kernel
theorem dX4_takeByHand_98 : decode cX4_takeByHand 98 = .ok (.iinc 3 1, 3) := by decide +kernel
theorem dX4_takeByHand_101 : decode cX4_takeByHand 101 = .ok (.goto (-53), 3) := by decide +kernel
theorem dX4_takeByHand_104 : decode cX4_takeByHand 104 = .ok (.aload_n 0, 1) := by decide +kernel
theorem dX4_takeByHand_105 : decode cX4_takeByHand 105 = .ok (.iload_n 1, 1) := by decide +kernel
theorem dX4_takeByHand_106 : decode cX4_takeByHand 106 = .ok (.iload_n 2, 1) := by decide +kernel
theorem dX4_takeByHand_107 : decode cX4_takeByHand 107 = .ok (.invokevirtual 191, 3) := by decide +kernel
theorem dX4_takeByHand_110 : decode cX4_takeByHand 110 = .ok (.ireturn, 1) := by decide +kernel
theorem dX4_changeWire_0 : decode cX4_changeWire 0 = .ok (.aload_n 0, 1) := by decide +kernel
theorem dX4_changeWire_1 : decode cX4_changeWire 1 = .ok (.getfield 9, 3) := by decide +kernel
theorem dX4_changeWire_4 : decode cX4_changeWire 4 = .ok (.iload_n 1, 1) := by decide +kernel
theorem dX4_changeWire_5 : decode cX4_changeWire 5 = .ok (.iaload, 1) := by decide +kernel
theorem dX4_changeWire_6 : decode cX4_changeWire 6 = .ok (.iload_n 2, 1) := by decide +kernel
theorem dX4_changeWire_7 : decode cX4_changeWire 7 = .ok (.if_icmp .ne 5, 3) := by decide +kernel
theorem dX4_changeWire_10 : decode cX4_changeWire 10 = .ok (.iconst 0, 1) := by decide +kernel
theorem dX4_changeWire_11 : decode cX4_changeWire 11 = .ok (.ireturn, 1) := by decide +kernel
theorem dX4_changeWire_12 : decode cX4_changeWire 12 = .ok (.aload_n 0, 1) := by decide +kernel
theorem dX4_changeWire_13 : decode cX4_changeWire 13 = .ok (.getfield 18, 3) := by decide +kernel
theorem dX4_changeWire_16 : decode cX4_changeWire 16 = .ok (.iload_n 1, 1) := by decide +kernel
theorem dX4_changeWire_17 : decode cX4_changeWire 17 = .ok (.iaload, 1) := by decide +kernel
theorem dX4_changeWire_18 : decode cX4_changeWire 18 = .ok (.aload_n 0, 1) := by decide +kernel
theorem dX4_changeWire_19 : decode cX4_changeWire 19 = .ok (.getfield 51, 3) := by decide +kernel
theorem dX4_changeWire_22 : decode cX4_changeWire 22 = .ok (.if_icmp .ne 15, 3) := by decide +kernel
theorem dX4_changeWire_25 : decode cX4_changeWire 25 = .ok (.aload_n 0, 1) := by decide +kernel
theorem dX4_changeWire_26 : decode cX4_changeWire 26 = .ok (.dup, 1) := by decide +kernel
theorem dX4_changeWire_27 : decode cX4_changeWire 27 = .ok (.getfield 62, 3) := by decide +kernel
theorem dX4_changeWire_30 : decode cX4_changeWire 30 = .ok (.iconst 1, 1) := by decide +kernel
theorem dX4_changeWire_31 : decode cX4_changeWire 31 = .ok (.iload_n 1, 1) := by decide +kernel
theorem dX4_changeWire_32 : decode cX4_changeWire 32 = .ok (.ishl, 1) := by decide +kernel
theorem dX4_changeWire_33 : decode cX4_changeWire 33 = .ok (.ior, 1) := by decide +kernel
theorem dX4_changeWire_34 : decode cX4_changeWire 34 = .ok (.putfield 62, 3) := by decide +kernel
theorem dX4_changeWire_37 : decode cX4_changeWire 37 = .ok (.aload_n 0, 1) := by decide +kernel
theorem dX4_changeWire_38 : decode cX4_changeWire 38 = .ok (.getfield 18, 3) := by decide +kernel
theorem dX4_changeWire_41 : decode cX4_changeWire 41 = .ok (.iload_n 1, 1) := by decide +kernel
theorem dX4_changeWire_42 : decode cX4_changeWire 42 = .ok (.aload_n 0, 1) := by decide +kernel
theorem dX4_changeWire_43 : decode cX4_changeWire 43 = .ok (.getfield 51, 3) := by decide +kernel
theorem dX4_changeWire_46 : decode cX4_changeWire 46 = .ok (.iastore, 1) := by decide +kernel
theorem dX4_changeWire_47 : decode cX4_changeWire 47 = .ok (.aload_n 0, 1) := by decide +kernel
theorem dX4_changeWire_48 : decode cX4_changeWire 48 = .ok (.getfield 9, 3) := by decide +kernel
theorem dX4_changeWire_51 : decode cX4_changeWire 51 = .ok (.iload_n 1, 1) := by decide +kernel
theorem dX4_changeWire_52 : decode cX4_changeWire 52 = .ok (.iload_n 2, 1) := by decide +kernel
theorem dX4_changeWire_53 : decode cX4_changeWire 53 = .ok (.iastore, 1) := by decide +kernel
theorem dX4_changeWire_54 : decode cX4_changeWire 54 = .ok (.aload_n 0, 1) := by decide +kernel
theorem dX4_changeWire_55 : decode cX4_changeWire 55 = .ok (.getfield 15, 3) := by decide +kernel
theorem dX4_changeWire_58 : decode cX4_changeWire 58 = .ok (.iload_n 1, 1) := by decide +kernel
theorem dX4_changeWire_59 : decode cX4_changeWire 59 = .ok (.aload_n 0, 1) := by decide +kernel
theorem dX4_changeWire_60 : decode cX4_changeWire 60 = .ok (.getfield 15, 3) := by decide +kernel
theorem dX4_changeWire_63 : decode cX4_changeWire 63 = .ok (.iload_n 1, 1) := by decide +kernel
theorem dX4_changeWire_64 : decode cX4_changeWire 64 = .ok (.iaload, 1) := by decide +kernel
theorem dX4_changeWire_65 : decode cX4_changeWire 65 = .ok (.iconst 1, 1) := by decide +kernel
theorem dX4_changeWire_66 : decode cX4_changeWire 66 = .ok (.iadd, 1) := by decide +kernel
theorem dX4_changeWire_67 : decode cX4_changeWire 67 = .ok (.sipush 9999, 3) := by decide +kernel
theorem dX4_changeWire_70 : decode cX4_changeWire 70 = .ok (.invokestatic 72, 3) := by decide +kernel
theorem dX4_changeWire_73 : decode cX4_changeWire 73 = .ok (.iastore, 1) := by decide +kernel
theorem dX4_changeWire_74 : decode cX4_changeWire 74 = .ok (.aload_n 0, 1) := by decide +kernel
theorem dX4_changeWire_75 : decode cX4_changeWire 75 = .ok (.getfield 24, 3) := by decide +kernel
theorem dX4_changeWire_78 : decode cX4_changeWire 78 = .ok (.iload_n 1, 1) := by decide +kernel
theorem dX4_changeWire_79 : decode cX4_changeWire 79 = .ok (.bipush 8, 2) := by decide +kernel
theorem dX4_changeWire_81 : decode cX4_changeWire 81 = .ok (.imul, 1) := by decide +kernel
theorem dX4_changeWire_82 : decode cX4_changeWire 82 = .ok (.aload_n 0, 1) := by decide +kernel
theorem dX4_changeWire_83 : decode cX4_changeWire 83 = .ok (.getfield 21, 3) := by decide +kernel
theorem dX4_changeWire_86 : decode cX4_changeWire 86 = .ok (.iload_n 1, 1) := by decide +kernel
theorem dX4_changeWire_87 : decode cX4_changeWire 87 = .ok (.iaload, 1) := by decide +kernel
theorem dX4_changeWire_88 : decode cX4_changeWire 88 = .ok (.iadd, 1) := by decide +kernel
theorem dX4_changeWire_89 : decode cX4_changeWire 89 = .ok (.aload_n 0, 1) := by decide +kernel
theorem dX4_changeWire_90 : decode cX4_changeWire 90 = .ok (.getfield 51, 3) := by decide +kernel
theorem dX4_changeWire_93 : decode cX4_changeWire 93 = .ok (.iastore, 1) := by decide +kernel
theorem dX4_changeWire_94 : decode cX4_changeWire 94 = .ok (.aload_n 0, 1) := by decide +kernel
theorem dX4_changeWire_95 : decode cX4_changeWire 95 = .ok (.getfield 27, 3) := by decide +kernel
theorem dX4_changeWire_98 : decode cX4_changeWire 98 = .ok (.iload_n 1, 1) := by decide +kernel
theorem dX4_changeWire_99 : decode cX4_changeWire 99 = .ok (.bipush 8, 2) := by decide +kernel
theorem dX4_changeWire_101 : decode cX4_changeWire 101 = .ok (.imul, 1) := by decide +kernel
theorem dX4_changeWire_102 : decode cX4_changeWire 102 = .ok (.aload_n 0, 1) := by decide +kernel
theorem dX4_changeWire_103 : decode cX4_changeWire 103 = .ok (.getfield 21, 3) := by decide +kernel
theorem dX4_changeWire_106 : decode cX4_changeWire 106 = .ok (.iload_n 1, 1) := by decide +kernel
theorem dX4_changeWire_107 : decode cX4_changeWire 107 = .ok (.iaload, 1) := by decide +kernel
theorem dX4_changeWire_108 : decode cX4_changeWire 108 = .ok (.iadd, 1) := by decide +kernel
theorem dX4_changeWire_109 : decode cX4_changeWire 109 = .ok (.iload_n 2, 1) := by decide +kernel
theorem dX4_changeWire_110 : decode cX4_changeWire 110 = .ok (.iastore, 1) := by decide +kernel
theorem dX4_changeWire_111 : decode cX4_changeWire 111 = .ok (.aload_n 0, 1) := by decide +kernel
theorem dX4_changeWire_112 : decode cX4_changeWire 112 = .ok (.getfield 21, 3) := by decide +kernel
theorem dX4_changeWire_115 : decode cX4_changeWire 115 = .ok (.iload_n 1, 1) := by decide +kernel
theorem dX4_changeWire_116 : decode cX4_changeWire 116 = .ok (.aload_n 0, 1) := by decide +kernel
theorem dX4_changeWire_117 : decode cX4_changeWire 117 = .ok (.getfield 21, 3) := by decide +kernel
theorem dX4_changeWire_120 : decode cX4_changeWire 120 = .ok (.iload_n 1, 1) := by decide +kernel
theorem dX4_changeWire_121 : decode cX4_changeWire 121 = .ok (.iaload, 1) := by decide +kernel
theorem dX4_changeWire_122 : decode cX4_changeWire 122 = .ok (.iconst 1, 1) := by decide +kernel
theorem dX4_changeWire_123 : decode cX4_changeWire 123 = .ok (.iadd, 1) := by decide +kernel
theorem dX4_changeWire_124 : decode cX4_changeWire 124 = .ok (.bipush 8, 2) := by decide +kernel
theorem dX4_changeWire_126 : decode cX4_changeWire 126 = .ok (.irem, 1) := by decide +kernel
theorem dX4_changeWire_127 : decode cX4_changeWire 127 = .ok (.iastore, 1) := by decide +kernel
theorem dX4_changeWire_128 : decode cX4_changeWire 128 = .ok (.iconst 1, 1) := by decide +kernel
theorem dX4_changeWire_129 : decode cX4_changeWire 129 = .ok (.iload_n 1, 1) := by decide +kernel
theorem dX4_changeWire_130 : decode cX4_changeWire 130 = .ok (.ishl, 1) := by decide +kernel
theorem dX4_changeWire_131 : decode cX4_changeWire 131 = .ok (.ireturn, 1) := by decide +kernel
theorem dX5_init_0 : decode cX5_init 0 = .ok (.aload_n 0, 1) := by decide +kernel
theorem dX5_init_1 : decode cX5_init 1 = .ok (.invokespecial 3, 3) := by decide +kernel
theorem dX5_init_4 : decode cX5_init 4 = .ok (.aload_n 0, 1) := by decide +kernel
theorem dX5_init_5 : decode cX5_init 5 = .ok (.bipush 16, 2) := by decide +kernel
theorem dX5_init_7 : decode cX5_init 7 = .ok (.anewarray 9, 3) := by decide +kernel
theorem dX5_init_10 : decode cX5_init 10 = .ok (.putfield 11, 3) := by decide +kernel
theorem dX5_init_13 : decode cX5_init 13 = .ok (.iconst 0, 1) := by decide +kernel
theorem dX5_init_14 : decode cX5_init 14 = .ok (.istore_n 1, 1) := by decide +kernel
theorem dX5_init_15 : decode cX5_init 15 = .ok (.iload_n 1, 1) := by decide +kernel
theorem dX5_init_16 : decode cX5_init 16 = .ok (.bipush 16, 2) := by decide +kernel
theorem dX5_init_18 : decode cX5_init 18 = .ok (.if_icmp .ge 22, 3) := by decide +kernel
theorem dX5_init_21 : decode cX5_init 21 = .ok (.aload_n 0, 1) := by decide +kernel
theorem dX5_init_22 : decode cX5_init 22 = .ok (.getfield 11, 3) := by decide +kernel
theorem dX5_init_25 : decode cX5_init 25 = .ok (.iload_n 1, 1) := by decide +kernel
theorem dX5_init_26 : decode cX5_init 26 = .ok (.new 9, 3) := by decide +kernel
theorem dX5_init_29 : decode cX5_init 29 = .ok (.dup, 1) := by decide +kernel
theorem dX5_init_30 : decode cX5_init 30 = .ok (.invokespecial 17, 3) := by decide +kernel
theorem dX5_init_33 : decode cX5_init 33 = .ok (.aastore, 1) := by decide +kernel
theorem dX5_init_34 : decode cX5_init 34 = .ok (.iinc 1 1, 3) := by decide +kernel
theorem dX5_init_37 : decode cX5_init 37 = .ok (.goto (-22), 3) := by decide +kernel
theorem dX5_init_40 : decode cX5_init 40 = .ok (.return_, 1) := by decide +kernel
theorem dX5_forget_0 : decode cX5_forget 0 = .ok (.aload_n 0, 1) := by decide +kernel
theorem dX5_forget_1 : decode cX5_forget 1 = .ok (.iconst 0, 1) := by decide +kernel
theorem dX5_forget_2 : decode cX5_forget 2 = .ok (.putfield 18, 3) := by decide +kernel
theorem dX5_forget_5 : decode cX5_forget 5 = .ok (.return_, 1) := by decide +kernel
theorem dX5_remember_0 : decode cX5_remember 0 = .ok (.aload_n 0, 1) := by decide +kernel
theorem dX5_remember_1 : decode cX5_remember 1 = .ok (.getfield 11, 3) := by decide +kernel
theorem dX5_remember_4 : decode cX5_remember 4 = .ok (.aload_n 0, 1) := by decide +kernel
theorem dX5_remember_5 : decode cX5_remember 5 = .ok (.getfield 22, 3) := by decide +kernel
theorem dX5_remember_8 : decode cX5_remember 8 = .ok (.aaload, 1) := by decide +kernel
theorem dX5_remember_9 : decode cX5_remember 9 = .ok (.astore_n 2, 1) := by decide +kernel
theorem dX5_remember_10 : decode cX5_remember 10 = .ok (.aload_n 2, 1) := by decide +kernel
theorem dX5_remember_11 : decode cX5_remember 11 = .ok (.ifnull 8, 3) := by decide +kernel
theorem dX5_remember_14 : decode cX5_remember 14 = .ok (.aload_n 2, 1) := by decide +kernel
theorem dX5_remember_15 : decode cX5_remember 15 = .ok (.aload_n 1, 1) := by decide +kernel
theorem dX5_remember_16 : decode cX5_remember 16 = .ok (.invokevirtual 25, 3) := by decide +kernel
theorem dX5_remember_19 : decode cX5_remember 19 = .ok (.aload_n 0, 1) := by decide +kernel
theorem dX5_remember_20 : decode cX5_remember 20 = .ok (.aload_n 0, 1) := by decide +kernel
theorem dX5_remember_21 : decode cX5_remember 21 = .ok (.getfield 22, 3) := by decide +kernel
theorem dX5_remember_24 : decode cX5_remember 24 = .ok (.iconst 1, 1) := by decide +kernel
theorem dX5_remember_25 : decode cX5_remember 25 = .ok (.iadd, 1) := by decide +kernel
theorem dX5_remember_26 : decode cX5_remember 26 = .ok (.bipush 16, 2) := by decide +kernel
theorem dX5_remember_28 : decode cX5_remember 28 = .ok (.irem, 1) := by decide +kernel
theorem dX5_remember_29 : decode cX5_remember 29 = .ok (.putfield 22, 3) := by decide +kernel
theorem dX5_remember_32 : decode cX5_remember 32 = .ok (.aload_n 0, 1) := by decide +kernel
theorem dX5_remember_33 : decode cX5_remember 33 = .ok (.aload_n 0, 1) := by decide +kernel
theorem dX5_remember_34 : decode cX5_remember 34 = .ok (.getfield 18, 3) := by decide +kernel
theorem dX5_remember_37 : decode cX5_remember 37 = .ok (.iconst 1, 1) := by decide +kernel
theorem dX5_remember_38 : decode cX5_remember 38 = .ok (.iadd, 1) := by decide +kernel
theorem dX5_remember_39 : decode cX5_remember 39 = .ok (.bipush 16, 2) := by decide +kernel
theorem dX5_remember_41 : decode cX5_remember 41 = .ok (.invokestatic 29, 3) := by decide +kernel
theorem dX5_remember_44 : decode cX5_remember 44 = .ok (.putfield 18, 3) := by decide +kernel
theorem dX5_remember_47 : decode cX5_remember 47 = .ok (.return_, 1) := by decide +kernel
theorem dX5_bringBack_0 : decode cX5_bringBack 0 = .ok (.aload_n 0, 1) := by decide +kernel
theorem dX5_bringBack_1 : decode cX5_bringBack 1 = .ok (.aload_n 0, 1) := by decide +kernel
theorem dX5_bringBack_2 : decode cX5_bringBack 2 = .ok (.getfield 22, 3) := by decide +kernel
theorem dX5_bringBack_5 : decode cX5_bringBack 5 = .ok (.iload_n 1, 1) := by decide +kernel
theorem dX5_bringBack_6 : decode cX5_bringBack 6 = .ok (.isub, 1) := by decide +kernel
theorem dX5_bringBack_7 : decode cX5_bringBack 7 = .ok (.bipush 16, 2) := by decide +kernel
theorem dX5_bringBack_9 : decode cX5_bringBack 9 = .ok (.invokestatic 35, 3) := by decide +kernel
theorem dX5_bringBack_12 : decode cX5_bringBack 12 = .ok (.putfield 22, 3) := by decide +kernel
theorem dX5_bringBack_15 : decode cX5_bringBack 15 = .ok (.aload_n 0, 1) := by decide +kernel
theorem dX5_bringBack_16 : decode cX5_bringBack 16 = .ok (.dup, 1) := by decide +kernel
theorem dX5_bringBack_17 : decode cX5_bringBack 17 = .ok (.getfield 18, 3) := by decide +kernel
theorem dX5_bringBack_20 : decode cX5_bringBack 20 = .ok (.iload_n 1, 1) := by decide +kernel
theorem dX5_bringBack_21 : decode cX5_bringBack 21 = .ok (.isub, 1) := by decide +kernel
theorem dX5_bringBack_22 : decode cX5_bringBack 22 = .ok (.putfield 18, 3) := by decide +kernel
theorem dX5_bringBack_25 : decode cX5_bringBack 25 = .ok (.aload_n 0, 1) := by decide +kernel
theorem dX5_bringBack_26 : decode cX5_bringBack 26 = .ok (.getfield 11, 3) := by decide +kernel
theorem dX5_bringBack_29 : decode cX5_bringBack 29 = .ok (.aload_n 0, 1) := by decide +kernel
theorem dX5_bringBack_30 : decode cX5_bringBack 30 = .ok (.getfield 22, 3) := by decide +kernel
theorem dX5_bringBack_33 : decode cX5_bringBack 33 = .ok (.aaload, 1) := by decide +kernel
theorem dX5_bringBack_34 : decode cX5_bringBack 34 = .ok (.astore_n 3, 1) := by decide +kernel
theorem dX5_bringBack_35 : decode cX5_bringBack 35 = .ok (.aload_n 3, 1) := by decide +kernel
theorem dX5_bringBack_36 : decode cX5_bringBack 36 = .ok (.ifnull 8, 3) := by decide +kernel
theorem dX5_bringBack_39 : decode cX5_bringBack 39 = .ok (.aload_n 2, 1) := by decide +kernel
theorem dX5_bringBack_40 : decode cX5_bringBack 40 = .ok (.aload_n 3, 1) := by decide +kernel
theorem dX5_bringBack_41 : decode cX5_bringBack 41 = .ok (.invokevirtual 25, 3) := by decide +kernel
theorem dX5_bringBack_44 : decode cX5_bringBack 44 = .ok (.return_, 1) := by decide +kernel
theorem dX6_init_0 : decode cX6_init 0 = .ok (.aload_n 0, 1) := by decide +kernel
theorem dX6_init_1 : decode cX6_init 1 = .ok (.invokespecial 3, 3) := by decide +kernel
theorem dX6_init_4 : decode cX6_init 4 = .ok (.aload_n 0, 1) := by decide +kernel
theorem dX6_init_5 : decode cX6_init 5 = .ok (.bipush 8, 2) := by decide +kernel
theorem dX6_init_7 : decode cX6_init 7 = .ok (.newarray .int, 2) := by decide +kernel
theorem dX6_init_9 : decode cX6_init 9 = .ok (.putfield 9, 3) := by decide +kernel
theorem dX6_init_12 : decode cX6_init 12 = .ok (.aload_n 0, 1) := by decide +kernel
theorem dX6_init_13 : decode cX6_init 13 = .ok (.bipush 8, 2) := by decide +kernel
theorem dX6_init_15 : decode cX6_init 15 = .ok (.newarray .int, 2) := by decide +kernel
theorem dX6_init_17 : decode cX6_init 17 = .ok (.putfield 15, 3) := by decide +kernel
theorem dX6_init_20 : decode cX6_init 20 = .ok (.aload_n 0, 1) := by decide +kernel
theorem dX6_init_21 : decode cX6_init 21 = .ok (.bipush 8, 2) := by decide +kernel
theorem dX6_init_23 : decode cX6_init 23 = .ok (.newarray .int, 2) := by decide +kernel
theorem dX6_init_25 : decode cX6_init 25 = .ok (.putfield 18, 3) := by decide +kernel
theorem dX6_init_28 : decode cX6_init 28 = .ok (.aload_n 0, 1) := by decide +kernel
theorem dX6_init_29 : decode cX6_init 29 = .ok (.bipush 8, 2) := by decide +kernel
theorem dX6_init_31 : decode cX6_init 31 = .ok (.newarray .int, 2) := by decide +kernel
theorem dX6_init_33 : decode cX6_init 33 = .ok (.putfield 21, 3) := by decide +kernel
theorem dX6_init_36 : decode cX6_init 36 = .ok (.aload_n 0, 1) := by decide +kernel
theorem dX6_init_37 : decode cX6_init 37 = .ok (.bipush 8, 2) := by decide +kernel
theorem dX6_init_39 : decode cX6_init 39 = .ok (.newarray .int, 2) := by decide +kernel
theorem dX6_init_41 : decode cX6_init 41 = .ok (.putfield 24, 3) := by decide +kernel
theorem dX6_init_44 : decode cX6_init 44 = .ok (.aload_n 0, 1) := by decide +kernel
theorem dX6_init_45 : decode cX6_init 45 = .ok (.bipush 8, 2) := by decide +kernel
theorem dX6_init_47 : decode cX6_init 47 = .ok (.newarray .int, 2) := by decide +kernel
theorem dX6_init_49 : decode cX6_init 49 = .ok (.putfield 27, 3) := by decide +kernel
theorem dX6_init_52 : decode cX6_init 52 = .ok (.aload_n 0, 1) := by decide +kernel
theorem dX6_init_53 : decode cX6_init 53 = .ok (.bipush 8, 2) := by decide +kernel
theorem dX6_init_55 : decode cX6_init 55 = .ok (.newarray .int, 2) := by decide +kernel
theorem dX6_init_57 : decode cX6_init 57 = .ok (.putfield 30, 3) := by decide +kernel
theorem dX6_init_60 : decode cX6_init 60 = .ok (.return_, 1) := by decide +kernel
theorem dX6_empty_0 : decode cX6_empty 0 = .ok (.aload_n 0, 1) := by decide +kernel
theorem dX6_empty_1 : decode cX6_empty 1 = .ok (.iconst 0, 1) := by decide +kernel
theorem dX6_empty_2 : decode cX6_empty 2 = .ok (.putfield 33, 3) := by decide +kernel
theorem dX6_empty_5 : decode cX6_empty 5 = .ok (.aload_n 0, 1) := by decide +kernel
theorem dX6_empty_6 : decode cX6_empty 6 = .ok (.iconst 0, 1) := by decide +kernel
theorem dX6_empty_7 : decode cX6_empty 7 = .ok (.putfield 37, 3) := by decide +kernel
theorem dX6_empty_10 : decode cX6_empty 10 = .ok (.return_, 1) := by decide +kernel
theorem dX6_hasWire_0 : decode cX6_hasWire 0 = .ok (.iload_n 1, 1) := by decide +kernel
theorem dX6_hasWire_1 : decode cX6_hasWire 1 = .ok (.ifCond .lt 15, 3) := by decide +kernel
theorem dX6_hasWire_4 : decode cX6_hasWire 4 = .ok (.iload_n 1, 1) := by decide +kernel
theorem dX6_hasWire_5 : decode cX6_hasWire 5 = .ok (.aload_n 0, 1) := by decide +kernel
theorem dX6_hasWire_6 : decode cX6_hasWire 6 = .ok (.getfield 33, 3) := by decide +kernel
theorem dX6_hasWire_9 : decode cX6_hasWire 9 = .ok (.if_icmp .ge 7, 3) := by decide +kernel
theorem dX6_hasWire_12 : decode cX6_hasWire 12 = .ok (.iconst 1, 1) := by decide +kernel
theorem dX6_hasWire_13 : decode cX6_hasWire 13 = .ok (.goto 4, 3) := by decide +kernel
theorem dX6_hasWire_16 : decode cX6_hasWire 16 = .ok (.iconst 0, 1) := by decide +kernel
theorem dX6_hasWire_17 : decode cX6_hasWire 17 = .ok (.ireturn, 1) := by decide +kernel
theorem dX6_hasGate_0 : decode cX6_hasGate 0 = .ok (.iload_n 1, 1) := by decide +kernel
theorem dX6_hasGate_1 : decode cX6_hasGate 1 = .ok (.ifCond .lt 15, 3) := by decide +kernel
theorem dX6_hasGate_4 : decode cX6_hasGate 4 = .ok (.iload_n 1, 1) := by decide +kernel
theorem dX6_hasGate_5 : decode cX6_hasGate 5 = .ok (.aload_n 0, 1) := by decide +kernel
theorem dX6_hasGate_6 : decode cX6_hasGate 6 = .ok (.getfield 37, 3) := by decide +kernel
theorem dX6_hasGate_9 : decode cX6_hasGate 9 = .ok (.if_icmp .ge 7, 3) := by decide +kernel
theorem dX6_hasGate_12 : decode cX6_hasGate 12 = .ok (.iconst 1, 1) := by decide +kernel
theorem dX6_hasGate_13 : decode cX6_hasGate 13 = .ok (.goto 4, 3) := by decide +kernel
theorem dX6_hasGate_16 : decode cX6_hasGate 16 = .ok (.iconst 0, 1) := by decide +kernel
theorem dX6_hasGate_17 : decode cX6_hasGate 17 = .ok (.ireturn, 1) := by decide +kernel
theorem dX6_addWire_0 : decode cX6_addWire 0 = .ok (.aload_n 0, 1) := by decide +kernel
theorem dX6_addWire_1 : decode cX6_addWire 1 = .ok (.getfield 33, 3) := by decide +kernel
theorem dX6_addWire_4 : decode cX6_addWire 4 = .ok (.bipush 8, 2) := by decide +kernel
theorem dX6_addWire_6 : decode cX6_addWire 6 = .ok (.if_icmp .ge 23, 3) := by decide +kernel
theorem dX6_addWire_9 : decode cX6_addWire 9 = .ok (.aload_n 0, 1) := by decide +kernel
theorem dX6_addWire_10 : decode cX6_addWire 10 = .ok (.getfield 9, 3) := by decide +kernel
theorem dX6_addWire_13 : decode cX6_addWire 13 = .ok (.aload_n 0, 1) := by decide +kernel
theorem dX6_addWire_14 : decode cX6_addWire 14 = .ok (.getfield 33, 3) := by decide +kernel
theorem dX6_addWire_17 : decode cX6_addWire 17 = .ok (.iload_n 1, 1) := by decide +kernel
theorem dX6_addWire_18 : decode cX6_addWire 18 = .ok (.iastore, 1) := by decide +kernel
theorem dX6_addWire_19 : decode cX6_addWire 19 = .ok (.aload_n 0, 1) := by decide +kernel
theorem dX6_addWire_20 : decode cX6_addWire 20 = .ok (.dup, 1) := by decide +kernel
theorem dX6_addWire_21 : decode cX6_addWire 21 = .ok (.getfield 33, 3) := by decide +kernel
theorem dX6_addWire_24 : decode cX6_addWire 24 = .ok (.iconst 1, 1) := by decide +kernel
theorem dX6_addWire_25 : decode cX6_addWire 25 = .ok (.iadd, 1) := by decide +kernel
theorem dX6_addWire_26 : decode cX6_addWire 26 = .ok (.putfield 33, 3) := by decide +kernel
theorem dX6_addWire_29 : decode cX6_addWire 29 = .ok (.return_, 1) := by decide +kernel
theorem dX6_looks_0 : decode cX6_looks 0 = .ok (.iconst 1, 1) := by decide +kernel
theorem dX6_looks_1 : decode cX6_looks 1 = .ok (.aload_n 0, 1) := by decide +kernel
theorem dX6_looks_2 : decode cX6_looks 2 = .ok (.getfield 18, 3) := by decide +kernel
theorem dX6_looks_5 : decode cX6_looks 5 = .ok (.iload_n 1, 1) := by decide +kernel
theorem dX6_looks_6 : decode cX6_looks 6 = .ok (.iaload, 1) := by decide +kernel
theorem dX6_looks_7 : decode cX6_looks 7 = .ok (.ishl, 1) := by decide +kernel
theorem dX6_looks_8 : decode cX6_looks 8 = .ok (.istore_n 2, 1) := by decide +kernel
theorem dX6_looks_9 : decode cX6_looks 9 = .ok (.aload_n 0, 1) := by decide +kernel
theorem dX6_looks_10 : decode cX6_looks 10 = .ok (.getfield 15, 3) := by decide +kernel
theorem dX6_looks_13 : decode cX6_looks 13 = .ok (.iload_n 1, 1) := by decide +kernel
theorem dX6_looks_14 : decode cX6_looks 14 = .ok (.iaload, 1) := by decide +kernel
theorem dX6_looks_15 : decode cX6_looks 15 = .ok (.ifCond .ne 7, 3) := by decide +kernel
theorem dX6_looks_18 : decode cX6_looks 18 = .ok (.iload_n 2, 1) := by decide +kernel
theorem dX6_looks_19 : decode cX6_looks 19 = .ok (.goto 13, 3) := by decide +kernel
theorem dX6_looks_22 : decode cX6_looks 22 = .ok (.iload_n 2, 1) := by decide +kernel
theorem dX6_looks_23 : decode cX6_looks 23 = .ok (.iconst 1, 1) := by decide +kernel
theorem dX6_looks_24 : decode cX6_looks 24 = .ok (.aload_n 0, 1) := by decide +kernel
theorem dX6_looks_25 : decode cX6_looks 25 = .ok (.getfield 21, 3) := by decide +kernel
theorem dX6_looks_28 : decode cX6_looks 28 = .ok (.iload_n 1, 1) := by decide +kernel
theorem dX6_looks_29 : decode cX6_looks 29 = .ok (.iaload, 1) := by decide +kernel
theorem dX6_looks_30 : decode cX6_looks 30 = .ok (.ishl, 1) := by decide +kernel
theorem dX6_looks_31 : decode cX6_looks 31 = .ok (.ior, 1) := by decide +kernel
theorem dX6_looks_32 : decode cX6_looks 32 = .ok (.ireturn, 1) := by decide +kernel
theorem dX6_driversOf_0 : decode cX6_driversOf 0 = .ok (.iconst 0, 1) := by decide +kernel
theorem dX6_driversOf_1 : decode cX6_driversOf 1 = .ok (.istore_n 2, 1) := by decide +kernel
theorem dX6_driversOf_2 : decode cX6_driversOf 2 = .ok (.iconst 0, 1) := by decide +kernel
theorem dX6_driversOf_3 : decode cX6_driversOf 3 = .ok (.istore_n 3, 1) := by decide +kernel
theorem dX6_driversOf_4 : decode cX6_driversOf 4 = .ok (.iload_n 3, 1) := by decide +kernel
theorem dX6_driversOf_5 : decode cX6_driversOf 5 = .ok (.aload_n 0, 1) := by decide +kernel
theorem dX6_driversOf_6 : decode cX6_driversOf 6 = .ok (.getfield 37, 3) := by decide +kernel
theorem dX6_driversOf_9 : decode cX6_driversOf 9 = .ok (.if_icmp .ge 22, 3) := by decide +kernel
theorem dX6_driversOf_12 : decode cX6_driversOf 12 = .ok (.aload_n 0, 1) := by decide +kernel
theorem dX6_driversOf_13 : decode cX6_driversOf 13 = .ok (.getfield 24, 3) := by decide +kernel
theorem dX6_driversOf_16 : decode cX6_driversOf 16 = .ok (.iload_n 3, 1) := by decide +kernel
theorem dX6_driversOf_17 : decode cX6_driversOf 17 = .ok (.iaload, 1) := by decide +kernel
theorem dX6_driversOf_18 : decode cX6_driversOf 18 = .ok (.iload_n 1, 1) := by decide +kernel
theorem dX6_driversOf_19 : decode cX6_driversOf 19 = .ok (.if_icmp .ne 6, 3) := by decide +kernel
theorem dX6_driversOf_22 : decode cX6_driversOf 22 = .ok (.iinc 2 1, 3) := by decide +kernel
theorem dX6_driversOf_25 : decode cX6_driversOf 25 = .ok (.iinc 3 1, 3) := by decide +kernel
theorem dX6_driversOf_28 : decode cX6_driversOf 28 = .ok (.goto (-24), 3) := by decide +kernel
theorem dX6_driversOf_31 : decode cX6_driversOf 31 = .ok (.iload_n 2, 1) := by decide +kernel
theorem dX6_driversOf_32 : decode cX6_driversOf 32 = .ok (.ireturn, 1) := by decide +kernel
theorem dX6_lookersAt_0 : decode cX6_lookersAt 0 = .ok (.iconst 0, 1) := by decide +kernel
theorem dX6_lookersAt_1 : decode cX6_lookersAt 1 = .ok (.istore_n 2, 1) := by decide +kernel
theorem dX6_lookersAt_2 : decode cX6_lookersAt 2 = .ok (.iconst 0, 1) := by decide +kernel
theorem dX6_lookersAt_3 : decode cX6_lookersAt 3 = .ok (.istore_n 3, 1) := by decide +kernel
theorem dX6_lookersAt_4 : decode cX6_lookersAt 4 = .ok (.iload_n 3, 1) := by decide +kernel
theorem dX6_lookersAt_5 : decode cX6_lookersAt 5 = .ok (.aload_n 0, 1) := by decide +kernel
theorem dX6_lookersAt_6 : decode cX6_lookersAt 6 = .ok (.getfield 37, 3) := by decide +kernel
theorem dX6_lookersAt_9 : decode cX6_lookersAt 9 = .ok (.if_icmp .ge 25, 3) := by decide +kernel
theorem dX6_lookersAt_12 : decode cX6_lookersAt 12 = .ok (.aload_n 0, 1) := by decide +kernel
theorem dX6_lookersAt_13 : decode cX6_lookersAt 13 = .ok (.iload_n 3, 1) := by decide +kernel
theorem dX6_lookersAt_14 : decode cX6_lookersAt 14 = .ok (.invokevirtual 40, 3) := by decide +kernel
theorem dX6_lookersAt_17 : decode cX6_lookersAt 17 = .ok (.iload_n 1, 1) := by decide +kernel
theorem dX6_lookersAt_18 : decode cX6_lookersAt 18 = .ok (.ishr, 1) := by decide +kernel
theorem dX6_lookersAt_19 : decode cX6_lookersAt 19 = .ok (.iconst 1, 1) := by decide +kernel
theorem dX6_lookersAt_20 : decode cX6_lookersAt 20 = .ok (.iand, 1) := by decide +kernel
theorem dX6_lookersAt_21 : decode cX6_lookersAt 21 = .ok (.iconst 1, 1) := by decide +kernel
theorem dX6_lookersAt_22 : decode cX6_lookersAt 22 = .ok (.if_icmp .ne 6, 3) := by decide +kernel
theorem dX6_lookersAt_25 : decode cX6_lookersAt 25 = .ok (.iinc 2 1, 3) := by decide +kernel
theorem dX6_lookersAt_28 : decode cX6_lookersAt 28 = .ok (.iinc 3 1, 3) := by decide +kernel
theorem dX6_lookersAt_31 : decode cX6_lookersAt 31 = .ok (.goto (-27), 3) := by decide +kernel
theorem dX6_lookersAt_34 : decode cX6_lookersAt 34 = .ok (.iload_n 2, 1) := by decide +kernel
theorem dX6_lookersAt_35 : decode cX6_lookersAt 35 = .ok (.ireturn, 1) := by decide +kernel
theorem dX7_init_0 : decode cX7_init 0 = .ok (.aload_n 0, 1) := by decide +kernel
theorem dX7_init_1 : decode cX7_init 1 = .ok (.invokespecial 3, 3) := by decide +kernel
theorem dX7_init_4 : decode cX7_init 4 = .ok (.aload_n 0, 1) := by decide +kernel
theorem dX7_init_5 : decode cX7_init 5 = .ok (.sipush 200, 3) := by decide +kernel
theorem dX7_init_8 : decode cX7_init 8 = .ok (.newarray .int, 2) := by decide +kernel
theorem dX7_init_10 : decode cX7_init 10 = .ok (.putfield 11, 3) := by decide +kernel
theorem dX7_init_13 : decode cX7_init 13 = .ok (.aload_n 0, 1) := by decide +kernel
theorem dX7_init_14 : decode cX7_init 14 = .ok (.iconst (-1), 1) := by decide +kernel
theorem dX7_init_15 : decode cX7_init 15 = .ok (.putfield 15, 3) := by decide +kernel
theorem dX7_init_18 : decode cX7_init 18 = .ok (.return_, 1) := by decide +kernel
theorem dX7_addLetter_0 : decode cX7_addLetter 0 = .ok (.aload_n 0, 1) := by decide +kernel
theorem dX7_addLetter_1 : decode cX7_addLetter 1 = .ok (.getfield 19, 3) := by decide +kernel
theorem dX7_addLetter_4 : decode cX7_addLetter 4 = .ok (.sipush 200, 3) := by decide +kernel
theorem dX7_addLetter_7 : decode cX7_addLetter 7 = .ok (.if_icmp .lt 6, 3) := by decide +kernel
theorem dX7_addLetter_10 : decode cX7_addLetter 10 = .ok (.ldc 22, 2) := by decide +kernel
theorem dX7_addLetter_12 : decode cX7_addLetter 12 = .ok (.ireturn, 1) := by decide +kernel
theorem dX7_addLetter_13 : decode cX7_addLetter 13 = .ok (.aload_n 0, 1) := by decide +kernel
theorem dX7_addLetter_14 : decode cX7_addLetter 14 = .ok (.getfield 11, 3) := by decide +kernel
theorem dX7_addLetter_17 : decode cX7_addLetter 17 = .ok (.aload_n 0, 1) := by decide +kernel
theorem dX7_addLetter_18 : decode cX7_addLetter 18 = .ok (.getfield 19, 3) := by decide +kernel
theorem dX7_addLetter_21 : decode cX7_addLetter 21 = .ok (.iload_n 1, 1) := by decide +kernel
theorem dX7_addLetter_22 : decode cX7_addLetter 22 = .ok (.iastore, 1) := by decide +kernel
theorem dX7_addLetter_23 : decode cX7_addLetter 23 = .ok (.aload_n 0, 1) := by decide +kernel
theorem dX7_addLetter_24 : decode cX7_addLetter 24 = .ok (.dup, 1) := by decide +kernel
theorem dX7_addLetter_25 : decode cX7_addLetter 25 = .ok (.getfield 19, 3) := by decide +kernel
theorem dX7_addLetter_28 : decode cX7_addLetter 28 = .ok (.iconst 1, 1) := by decide +kernel
theorem dX7_addLetter_29 : decode cX7_addLetter 29 = .ok (.iadd, 1) := by decide +kernel
theorem dX7_addLetter_30 : decode cX7_addLetter 30 = .ok (.putfield 19, 3) := by decide +kernel
theorem dX7_addLetter_33 : decode cX7_addLetter 33 = .ok (.aload_n 0, 1) := by decide +kernel
theorem dX7_addLetter_34 : decode cX7_addLetter 34 = .ok (.getfield 19, 3) := by decide +kernel
theorem dX7_addLetter_37 : decode cX7_addLetter 37 = .ok (.ireturn, 1) := by decide +kernel
theorem dX7_dropText_0 : decode cX7_dropText 0 = .ok (.aload_n 0, 1) := by decide +kernel
theorem dX7_dropText_1 : decode cX7_dropText 1 = .ok (.iconst 0, 1) := by decide +kernel
theorem dX7_dropText_2 : decode cX7_dropText 2 = .ok (.putfield 19, 3) := by decide +kernel
theorem dX7_dropText_5 : decode cX7_dropText 5 = .ok (.return_, 1) := by decide +kernel
theorem dX7_readInto_0 : decode cX7_readInto 0 = .ok (.aload_n 1, 1) := by decide +kernel
theorem dX7_readInto_1 : decode cX7_readInto 1 = .ok (.invokevirtual 23, 3) := by decide +kernel
theorem dX7_readInto_4 : decode cX7_readInto 4 = .ok (.aload_n 0, 1) := by decide +kernel
theorem dX7_readInto_5 : decode cX7_readInto 5 = .ok (.iconst 0, 1) := by decide +kernel
theorem dX7_readInto_6 : decode cX7_readInto 6 = .ok (.putfield 28, 3) := by decide +kernel
theorem dX7_readInto_9 : decode cX7_readInto 9 = .ok (.aload_n 0, 1) := by decide +kernel
theorem dX7_readInto_10 : decode cX7_readInto 10 = .ok (.iconst (-1), 1) := by decide +kernel
theorem dX7_readInto_11 : decode cX7_readInto 11 = .ok (.putfield 15, 3) := by decide +kernel
theorem dX7_readInto_14 : decode cX7_readInto 14 = .ok (.aload_n 0, 1) := by decide +kernel
theorem dX7_readInto_15 : decode cX7_readInto 15 = .ok (.iconst 0, 1) := by decide +kernel
theorem dX7_readInto_16 : decode cX7_readInto 16 = .ok (.putfield 31, 3) := by decide +kernel
theorem dX7_readInto_19 : decode cX7_readInto 19 = .ok (.aload_n 0, 1) := by decide +kernel
theorem dX7_readInto_20 : decode cX7_readInto 20 = .ok (.invokevirtual 34, 3) := by decide +kernel
theorem dX7_readInto_23 : decode cX7_readInto 23 = .ok (.iconst 0, 1) := by decide +kernel
theorem dX7_readInto_24 : decode cX7_readInto 24 = .ok (.istore_n 2, 1) := by decide +kernel
theorem dX7_readInto_25 : decode cX7_readInto 25 = .ok (.iload_n 2, 1) := by decide +kernel
theorem dX7_readInto_26 : decode cX7_readInto 26 = .ok (.sipush 200, 3) := by decide +kernel
theorem dX7_readInto_29 : decode cX7_readInto 29 = .ok (.if_icmp .ge 36, 3) := by decide +kernel
theorem dX7_readInto_32 : decode cX7_readInto 32 = .ok (.aload_n 0, 1) := by decide +kernel
theorem dX7_readInto_33 : decode cX7_readInto 33 = .ok (.getfield 31, 3) := by decide +kernel
theorem dX7_readInto_36 : decode cX7_readInto 36 = .ok (.aload_n 0, 1) := by decide +kernel
theorem dX7_readInto_37 : decode cX7_readInto 37 = .ok (.getfield 19, 3) := by decide +kernel
theorem dX7_readInto_40 : decode cX7_readInto 40 = .ok (.if_icmp .ge 25, 3) := by decide +kernel
theorem dX7_readInto_43 : decode cX7_readInto 43 = .ok (.aload_n 0, 1) := by decide +kernel
theorem dX7_readInto_44 : decode cX7_readInto 44 = .ok (.getfield 28, 3) := by decide +kernel
theorem dX7_readInto_47 : decode cX7_readInto 47 = .ok (.ifCond .ne 18, 3) := by decide +kernel
theorem dX7_readInto_50 : decode cX7_readInto 50 = .ok (.aload_n 0, 1) := by decide +kernel
theorem dX7_readInto_51 : decode cX7_readInto 51 = .ok (.aload_n 1, 1) := by decide +kernel
theorem dX7_readInto_52 : decode cX7_readInto 52 = .ok (.invokevirtual 37, 3) := by decide +kernel
theorem dX7_readInto_55 : decode cX7_readInto 55 = .ok (.aload_n 0, 1) := by decide +kernel
theorem dX7_readInto_56 : decode cX7_readInto 56 = .ok (.invokevirtual 34, 3) := by decide +kernel
theorem dX7_readInto_59 : decode cX7_readInto 59 = .ok (.iinc 2 1, 3) := by decide +kernel
theorem dX7_readInto_62 : decode cX7_readInto 62 = .ok (.goto (-37), 3) := by decide +kernel
theorem dX7_readInto_65 : decode cX7_readInto 65 = .ok (.aload_n 0, 1) := by decide +kernel
theorem dX7_readInto_66 : decode cX7_readInto 66 = .ok (.getfield 28, 3) := by decide +kernel
theorem dX7_readInto_69 : decode cX7_readInto 69 = .ok (.ireturn, 1) := by decide +kernel
theorem dX7_readClause_0 : decode cX7_readClause 0 = .ok (.aload_n 0, 1) := by decide +kernel
theorem dX7_readClause_1 : decode cX7_readClause 1 = .ok (.invokevirtual 41, 3) := by decide +kernel
theorem dX7_readClause_4 : decode cX7_readClause 4 = .ok (.bipush 119, 2) := by decide +kernel
theorem dX7_readClause_6 : decode cX7_readClause 6 = .ok (.if_icmp .ne 11, 3) := by decide +kernel
theorem dX7_readClause_9 : decode cX7_readClause 9 = .ok (.aload_n 0, 1) := by decide +kernel
theorem dX7_readClause_10 : decode cX7_readClause 10 = .ok (.aload_n 1, 1) := by decide +kernel
theorem dX7_readClause_11 : decode cX7_readClause 11 = .ok (.invokevirtual 45, 3) := by decide +kernel
theorem dX7_readClause_14 : decode cX7_readClause 14 = .ok (.goto 29, 3) := by decide +kernel
theorem dX7_readClause_17 : decode cX7_readClause 17 = .ok (.aload_n 0, 1) := by decide +kernel
theorem dX7_readClause_18 : decode cX7_readClause 18 = .ok (.invokevirtual 41, 3) := by decide +kernel
theorem dX7_readClause_21 : decode cX7_readClause 21 = .ok (.bipush 103, 2) := by decide +kernel
theorem dX7_readClause_23 : decode cX7_readClause 23 = .ok (.if_icmp .ne 11, 3) := by decide +kernel
theorem dX7_readClause_26 : decode cX7_readClause 26 = .ok (.aload_n 0, 1) := by decide +kernel
theorem dX7_readClause_27 : decode cX7_readClause 27 = .ok (.aload_n 1, 1) := by decide +kernel
theorem dX7_readClause_28 : decode cX7_readClause 28 = .ok (.invokevirtual 48, 3) := by decide +kernel
theorem dX7_readClause_31 : decode cX7_readClause 31 = .ok (.goto 12, 3) := by decide +kernel
theorem dX7_readClause_34 : decode cX7_readClause 34 = .ok (.aload_n 0, 1) := by decide +kernel
theorem dX7_readClause_35 : decode cX7_readClause 35 = .ok (.iconst 1, 1) := by decide +kernel
theorem dX7_readClause_36 : decode cX7_readClause 36 = .ok (.aload_n 0, 1) := by decide +kernel
theorem dX7_readClause_37 : decode cX7_readClause 37 = .ok (.getfield 31, 3) := by decide +kernel
theorem dX7_readClause_40 : decode cX7_readClause 40 = .ok (.invokevirtual 51, 3) := by decide +kernel
theorem dX7_readClause_43 : decode cX7_readClause 43 = .ok (.return_, 1) := by decide +kernel
theorem dX7_readWire_0 : decode cX7_readWire 0 = .ok (.aload_n 1, 1) := by decide +kernel
theorem dX7_readWire_1 : decode cX7_readWire 1 = .ok (.getfield 55, 3) := by decide +kernel
theorem dX7_readWire_4 : decode cX7_readWire 4 = .ok (.bipush 8, 2) := by decide +kernel
theorem dX7_readWire_6 : decode cX7_readWire 6 = .ok (.if_icmp .lt 13, 3) := by decide +kernel
theorem dX7_readWire_9 : decode cX7_readWire 9 = .ok (.aload_n 0, 1) := by decide +kernel
theorem dX7_readWire_10 : decode cX7_readWire 10 = .ok (.iconst 3, 1) := by decide +kernel
theorem dX7_readWire_11 : decode cX7_readWire 11 = .ok (.aload_n 0, 1) := by decide +kernel
theorem dX7_readWire_12 : decode cX7_readWire 12 = .ok (.getfield 31, 3) := by decide +kernel
theorem dX7_readWire_15 : decode cX7_readWire 15 = .ok (.invokevirtual 51, 3) := by decide +kernel
theorem dX7_readWire_18 : decode cX7_readWire 18 = .ok (.return_, 1) := by decide +kernel
theorem dX7_readWire_19 : decode cX7_readWire 19 = .ok (.aload_n 0, 1) := by decide +kernel
theorem dX7_readWire_20 : decode cX7_readWire 20 = .ok (.dup, 1) := by decide +kernel
theorem dX7_readWire_21 : decode cX7_readWire 21 = .ok (.getfield 31, 3) := by decide +kernel
theorem dX7_readWire_24 : decode cX7_readWire 24 = .ok (.iconst 1, 1) := by decide +kernel
theorem dX7_readWire_25 : decode cX7_readWire 25 = .ok (.iadd, 1) := by decide +kernel
theorem dX7_readWire_26 : decode cX7_readWire 26 = .ok (.putfield 31, 3) := by decide +kernel
theorem dX7_readWire_29 : decode cX7_readWire 29 = .ok (.aload_n 0, 1) := by decide +kernel
theorem dX7_readWire_30 : decode cX7_readWire 30 = .ok (.iconst 3, 1) := by decide +kernel
theorem dX7_readWire_31 : decode cX7_readWire 31 = .ok (.invokevirtual 58, 3) := by decide +kernel
theorem dX7_readWire_34 : decode cX7_readWire 34 = .ok (.istore_n 2, 1) := by decide +kernel
theorem dX7_readWire_35 : decode cX7_readWire 35 = .ok (.aload_n 0, 1) := by decide +kernel
theorem dX7_readWire_36 : decode cX7_readWire 36 = .ok (.invokevirtual 62, 3) := by decide +kernel
theorem dX7_readWire_39 : decode cX7_readWire 39 = .ok (.aload_n 0, 1) := by decide +kernel
theorem dX7_readWire_40 : decode cX7_readWire 40 = .ok (.getfield 28, 3) := by decide +kernel
theorem dX7_readWire_43 : decode cX7_readWire 43 = .ok (.ifCond .ne 8, 3) := by decide +kernel
theorem dX7_readWire_46 : decode cX7_readWire 46 = .ok (.aload_n 1, 1) := by decide +kernel
theorem dX7_readWire_47 : decode cX7_readWire 47 = .ok (.iload_n 2, 1) := by decide +kernel
theorem dX7_readWire_48 : decode cX7_readWire 48 = .ok (.invokevirtual 65, 3) := by decide +kernel
theorem dX7_readWire_51 : decode cX7_readWire 51 = .ok (.return_, 1) := by decide +kernel
theorem dX7_readGate_0 : decode cX7_readGate 0 = .ok (.aload_n 1, 1) := by decide +kernel
theorem dX7_readGate_1 : decode cX7_readGate 1 = .ok (.getfield 69, 3) := by decide +kernel
theorem dX7_readGate_4 : decode cX7_readGate 4 = .ok (.istore_n 2, 1) := by decide +kernel
theorem dX7_readGate_5 : decode cX7_readGate 5 = .ok (.iload_n 2, 1) := by decide +kernel
theorem dX7_readGate_6 : decode cX7_readGate 6 = .ok (.bipush 8, 2) := by decide +kernel
theorem dX7_readGate_8 : decode cX7_readGate 8 = .ok (.if_icmp .lt 13, 3) := by decide +kernel
theorem dX7_readGate_11 : decode cX7_readGate 11 = .ok (.aload_n 0, 1) := by decide +kernel
theorem dX7_readGate_12 : decode cX7_readGate 12 = .ok (.iconst 3, 1) := by decide +kernel
theorem dX7_readGate_13 : decode cX7_readGate 13 = .ok (.aload_n 0, 1) := by decide +kernel
theorem dX7_readGate_14 : decode cX7_readGate 14 = .ok (.getfield 31, 3) := by decide +kernel
theorem dX7_readGate_17 : decode cX7_readGate 17 = .ok (.invokevirtual 51, 3) := by decide +kernel
theorem dX7_readGate_20 : decode cX7_readGate 20 = .ok (.return_, 1) := by decide +kernel
theorem dX7_readGate_21 : decode cX7_readGate 21 = .ok (.aload_n 0, 1) := by decide +kernel
theorem dX7_readGate_22 : decode cX7_readGate 22 = .ok (.dup, 1) := by decide +kernel
theorem dX7_readGate_23 : decode cX7_readGate 23 = .ok (.getfield 31, 3) := by decide +kernel
theorem dX7_readGate_26 : decode cX7_readGate 26 = .ok (.iconst 1, 1) := by decide +kernel
theorem dX7_readGate_27 : decode cX7_readGate 27 = .ok (.iadd, 1) := by decide +kernel
theorem dX7_readGate_28 : decode cX7_readGate 28 = .ok (.putfield 31, 3) := by decide +kernel
theorem dX7_readGate_31 : decode cX7_readGate 31 = .ok (.aload_n 1, 1) := by decide +kernel
theorem dX7_readGate_32 : decode cX7_readGate 32 = .ok (.getfield 55, 3) := by decide +kernel
theorem dX7_readGate_35 : decode cX7_readGate 35 = .ok (.iconst 1, 1) := by decide +kernel
theorem dX7_readGate_36 : decode cX7_readGate 36 = .ok (.isub, 1) := by decide +kernel
theorem dX7_readGate_37 : decode cX7_readGate 37 = .ok (.istore_n 3, 1) := by decide +kernel
theorem dX7_readGate_38 : decode cX7_readGate 38 = .ok (.aload_n 1, 1) := by decide +kernel
theorem dX7_readGate_39 : decode cX7_readGate 39 = .ok (.getfield 72, 3) := by decide +kernel
theorem dX7_readGate_42 : decode cX7_readGate 42 = .ok (.iload_n 2, 1) := by decide +kernel
theorem dX7_readGate_43 : decode cX7_readGate 43 = .ok (.aload_n 0, 1) := by decide +kernel
theorem dX7_readGate_44 : decode cX7_readGate 44 = .ok (.iconst 5, 1) := by decide +kernel
theorem dX7_readGate_45 : decode cX7_readGate 45 = .ok (.invokevirtual 58, 3) := by decide +kernel
theorem dX7_readGate_48 : decode cX7_readGate 48 = .ok (.iastore, 1) := by decide +kernel
theorem dX7_readGate_49 : decode cX7_readGate 49 = .ok (.aload_n 1, 1) := by decide +kernel
theorem dX7_readGate_50 : decode cX7_readGate 50 = .ok (.getfield 77, 3) := by decide +kernel
theorem dX7_readGate_53 : decode cX7_readGate 53 = .ok (.iload_n 2, 1) := by decide +kernel
theorem dX7_readGate_54 : decode cX7_readGate 54 = .ok (.aload_n 0, 1) := by decide +kernel
theorem dX7_readGate_55 : decode cX7_readGate 55 = .ok (.iload_n 3, 1) := by decide +kernel
theorem dX7_readGate_56 : decode cX7_readGate 56 = .ok (.invokevirtual 58, 3) := by decide +kernel
theorem dX7_readGate_59 : decode cX7_readGate 59 = .ok (.iastore, 1) := by decide +kernel
theorem dX7_readGate_60 : decode cX7_readGate 60 = .ok (.aload_n 1, 1) := by decide +kernel
theorem dX7_readGate_61 : decode cX7_readGate 61 = .ok (.getfield 80, 3) := by decide +kernel
theorem dX7_readGate_64 : decode cX7_readGate 64 = .ok (.iload_n 2, 1) := by decide +kernel
theorem dX7_readGate_65 : decode cX7_readGate 65 = .ok (.aload_n 0, 1) := by decide +kernel
theorem dX7_readGate_66 : decode cX7_readGate 66 = .ok (.iload_n 3, 1) := by decide +kernel
theorem dX7_readGate_67 : decode cX7_readGate 67 = .ok (.invokevirtual 58, 3) := by decide +kernel
theorem dX7_readGate_70 : decode cX7_readGate 70 = .ok (.iastore, 1) := by decide +kernel
theorem dX7_readGate_71 : decode cX7_readGate 71 = .ok (.aload_n 1, 1) := by decide +kernel
theorem dX7_readGate_72 : decode cX7_readGate 72 = .ok (.getfield 83, 3) := by decide +kernel
theorem dX7_readGate_75 : decode cX7_readGate 75 = .ok (.iload_n 2, 1) := by decide +kernel
theorem dX7_readGate_76 : decode cX7_readGate 76 = .ok (.aload_n 0, 1) := by decide +kernel
theorem dX7_readGate_77 : decode cX7_readGate 77 = .ok (.iload_n 3, 1) := by decide +kernel
theorem dX7_readGate_78 : decode cX7_readGate 78 = .ok (.invokevirtual 58, 3) := by decide +kernel
theorem dX7_readGate_81 : decode cX7_readGate 81 = .ok (.iastore, 1) := by decide +kernel
theorem dX7_readGate_82 : decode cX7_readGate 82 = .ok (.aload_n 1, 1) := by decide +kernel
theorem dX7_readGate_83 : decode cX7_readGate 83 = .ok (.getfield 86, 3) := by decide +kernel
theorem dX7_readGate_86 : decode cX7_readGate 86 = .ok (.iload_n 2, 1) := by decide +kernel
theorem dX7_readGate_87 : decode cX7_readGate 87 = .ok (.aload_n 0, 1) := by decide +kernel
theorem dX7_readGate_88 : decode cX7_readGate 88 = .ok (.bipush 20, 2) := by decide +kernel
theorem dX7_readGate_90 : decode cX7_readGate 90 = .ok (.invokevirtual 58, 3) := by decide +kernel
theorem dX7_readGate_93 : decode cX7_readGate 93 = .ok (.iastore, 1) := by decide +kernel
theorem dX7_readGate_94 : decode cX7_readGate 94 = .ok (.aload_n 1, 1) := by decide +kernel
theorem dX7_readGate_95 : decode cX7_readGate 95 = .ok (.getfield 86, 3) := by decide +kernel
theorem dX7_readGate_98 : decode cX7_readGate 98 = .ok (.iload_n 2, 1) := by decide +kernel
theorem dX7_readGate_99 : decode cX7_readGate 99 = .ok (.iaload, 1) := by decide +kernel
theorem dX7_readGate_100 : decode cX7_readGate 100 = .ok (.ifCond .ne 30, 3) := by decide +kernel
theorem dX7_readGate_103 : decode cX7_readGate 103 = .ok (.aload_n 1, 1) := by decide +kernel
theorem dX7_readGate_104 : decode cX7_readGate 104 = .ok (.iload_n 2, 1) := by decide +kernel
theorem dX7_readGate_105 : decode cX7_readGate 105 = .ok (.invokevirtual 89, 3) := by decide +kernel
theorem dX7_readGate_108 : decode cX7_readGate 108 = .ok (.aload_n 1, 1) := by decide +kernel
theorem dX7_readGate_109 : decode cX7_readGate 109 = .ok (.getfield 83, 3) := by decide +kernel
theorem dX7_readGate_112 : decode cX7_readGate 112 = .ok (.iload_n 2, 1) := by decide +kernel
theorem dX7_readGate_113 : decode cX7_readGate 113 = .ok (.iaload, 1) := by decide +kernel
theorem dX7_readGate_114 : decode cX7_readGate 114 = .ok (.ishr, 1) := by decide +kernel
theorem dX7_readGate_115 : decode cX7_readGate 115 = .ok (.iconst 1, 1) := by decide +kernel
theorem dX7_readGate_116 : decode cX7_readGate 116 = .ok (.iand, 1) := by decide +kernel
theorem dX7_readGate_117 : decode cX7_readGate 117 = .ok (.iconst 1, 1) := by decide +kernel
theorem dX7_readGate_118 : decode cX7_readGate 118 = .ok (.if_icmp .ne 12, 3) := by decide +kernel
theorem dX7_readGate_121 : decode cX7_readGate 121 = .ok (.aload_n 0, 1) := by decide +kernel
theorem dX7_readGate_122 : decode cX7_readGate 122 = .ok (.iconst 4, 1) := by decide +kernel
theorem dX7_readGate_123 : decode cX7_readGate 123 = .ok (.aload_n 0, 1) := by decide +kernel
theorem dX7_readGate_124 : decode cX7_readGate 124 = .ok (.getfield 92, 3) := by decide +kernel
theorem dX7_readGate_127 : decode cX7_readGate 127 = .ok (.invokevirtual 51, 3) := by decide +kernel
theorem dX7_readGate_130 : decode cX7_readGate 130 = .ok (.aload_n 1, 1) := by decide +kernel
theorem dX7_readGate_131 : decode cX7_readGate 131 = .ok (.getfield 95, 3) := by decide +kernel
theorem dX7_readGate_134 : decode cX7_readGate 134 = .ok (.iload_n 2, 1) := by decide +kernel
theorem dX7_readGate_135 : decode cX7_readGate 135 = .ok (.aload_n 0, 1) := by decide +kernel
theorem dX7_readGate_136 : decode cX7_readGate 136 = .ok (.iconst 1, 1) := by decide +kernel
theorem dX7_readGate_137 : decode cX7_readGate 137 = .ok (.invokevirtual 58, 3) := by decide +kernel
theorem dX7_readGate_140 : decode cX7_readGate 140 = .ok (.iastore, 1) := by decide +kernel
theorem dX7_readGate_141 : decode cX7_readGate 141 = .ok (.aload_n 0, 1) := by decide +kernel
theorem dX7_readGate_142 : decode cX7_readGate 142 = .ok (.invokevirtual 62, 3) := by decide +kernel
theorem dX7_readGate_145 : decode cX7_readGate 145 = .ok (.aload_n 0, 1) := by decide +kernel
theorem dX7_readGate_146 : decode cX7_readGate 146 = .ok (.getfield 28, 3) := by decide +kernel
theorem dX7_readGate_149 : decode cX7_readGate 149 = .ok (.ifCond .ne 13, 3) := by decide +kernel
theorem dX7_readGate_152 : decode cX7_readGate 152 = .ok (.aload_n 1, 1) := by decide +kernel
theorem dX7_readGate_153 : decode cX7_readGate 153 = .ok (.dup, 1) := by decide +kernel
theorem dX7_readGate_154 : decode cX7_readGate 154 = .ok (.getfield 69, 3) := by decide +kernel
theorem dX7_readGate_157 : decode cX7_readGate 157 = .ok (.iconst 1, 1) := by decide +kernel
theorem dX7_readGate_158 : decode cX7_readGate 158 = .ok (.iadd, 1) := by decide +kernel
theorem dX7_readGate_159 : decode cX7_readGate 159 = .ok (.putfield 69, 3) := by decide +kernel
theorem dX7_readGate_162 : decode cX7_readGate 162 = .ok (.return_, 1) := by decide +kernel
theorem dX7_readNumber_0 : decode cX7_readNumber 0 = .ok (.aload_n 0, 1) := by decide +kernel
theorem dX7_readNumber_1 : decode cX7_readNumber 1 = .ok (.invokevirtual 34, 3) := by decide +kernel
theorem dX7_readNumber_4 : decode cX7_readNumber 4 = .ok (.aload_n 0, 1) := by decide +kernel
theorem dX7_readNumber_5 : decode cX7_readNumber 5 = .ok (.aload_n 0, 1) := by decide +kernel
theorem dX7_readNumber_6 : decode cX7_readNumber 6 = .ok (.getfield 31, 3) := by decide +kernel
theorem dX7_readNumber_9 : decode cX7_readNumber 9 = .ok (.putfield 92, 3) := by decide +kernel
theorem dX7_readNumber_12 : decode cX7_readNumber 12 = .ok (.aload_n 0, 1) := by decide +kernel
theorem dX7_readNumber_13 : decode cX7_readNumber 13 = .ok (.invokevirtual 41, 3) := by decide +kernel
theorem dX7_readNumber_16 : decode cX7_readNumber 16 = .ok (.invokestatic 98, 3) := by decide +kernel
theorem dX7_readNumber_19 : decode cX7_readNumber 19 = .ok (.ifCond .ne 14, 3) := by decide +kernel
theorem dX7_readNumber_22 : decode cX7_readNumber 22 = .ok (.aload_n 0, 1) := by decide +kernel
theorem dX7_readNumber_23 : decode cX7_readNumber 23 = .ok (.iconst 1, 1) := by decide +kernel
theorem dX7_readNumber_24 : decode cX7_readNumber 24 = .ok (.aload_n 0, 1) := by decide +kernel
theorem dX7_readNumber_25 : decode cX7_readNumber 25 = .ok (.getfield 31, 3) := by decide +kernel
theorem dX7_readNumber_28 : decode cX7_readNumber 28 = .ok (.invokevirtual 51, 3) := by decide +kernel
theorem dX7_readNumber_31 : decode cX7_readNumber 31 = .ok (.iconst 0, 1) := by decide +kernel
theorem dX7_readNumber_32 : decode cX7_readNumber 32 = .ok (.ireturn, 1) := by decide +kernel
theorem dX7_readNumber_33 : decode cX7_readNumber 33 = .ok (.iconst 0, 1) := by decide +kernel
theorem dX7_readNumber_34 : decode cX7_readNumber 34 = .ok (.istore_n 2, 1) := by decide +kernel
theorem dX7_readNumber_35 : decode cX7_readNumber 35 = .ok (.iconst 0, 1) := by decide +kernel
theorem dX7_readNumber_36 : decode cX7_readNumber 36 = .ok (.istore_n 3, 1) := by decide +kernel
theorem dX7_readNumber_37 : decode cX7_readNumber 37 = .ok (.aload_n 0, 1) := by decide +kernel
theorem dX7_readNumber_38 : decode cX7_readNumber 38 = .ok (.getfield 31, 3) := by decide +kernel
theorem dX7_readNumber_41 : decode cX7_readNumber 41 = .ok (.aload_n 0, 1) := by decide +kernel
theorem dX7_readNumber_42 : decode cX7_readNumber 42 = .ok (.getfield 19, 3) := by decide +kernel
theorem dX7_readNumber_45 : decode cX7_readNumber 45 = .ok (.if_icmp .ge 51, 3) := by decide +kernel
theorem dX7_readNumber_48 : decode cX7_readNumber 48 = .ok (.aload_n 0, 1) := by decide +kernel
theorem dX7_readNumber_49 : decode cX7_readNumber 49 = .ok (.invokevirtual 41, 3) := by decide +kernel
theorem dX7_readNumber_52 : decode cX7_readNumber 52 = .ok (.invokestatic 98, 3) := by decide +kernel
theorem dX7_readNumber_55 : decode cX7_readNumber 55 = .ok (.ifCond .eq 41, 3) := by decide +kernel
theorem dX7_readNumber_58 : decode cX7_readNumber 58 = .ok (.iload_n 3, 1) := by decide +kernel
theorem dX7_readNumber_59 : decode cX7_readNumber 59 = .ok (.iconst 2, 1) := by decide +kernel
theorem dX7_readNumber_60 : decode cX7_readNumber 60 = .ok (.if_icmp .ge 18, 3) := by decide +kernel
theorem dX7_readNumber_63 : decode cX7_readNumber 63 = .ok (.iload_n 2, 1) := by decide +kernel
theorem dX7_readNumber_64 : decode cX7_readNumber 64 = .ok (.bipush 10, 2) := by decide +kernel
theorem dX7_readNumber_66 : decode cX7_readNumber 66 = .ok (.imul, 1) := by decide +kernel
theorem dX7_readNumber_67 : decode cX7_readNumber 67 = .ok (.aload_n 0, 1) := by decide +kernel
theorem dX7_readNumber_68 : decode cX7_readNumber 68 = .ok (.invokevirtual 41, 3) := by decide +kernel
theorem dX7_readNumber_71 : decode cX7_readNumber 71 = .ok (.iadd, 1) := by decide +kernel
theorem dX7_readNumber_72 : decode cX7_readNumber 72 = .ok (.bipush 48, 2) := by decide +kernel
theorem dX7_readNumber_74 : decode cX7_readNumber 74 = .ok (.isub, 1) := by decide +kernel
theorem dX7_readNumber_75 : decode cX7_readNumber 75 = .ok (.goto 4, 3) := by decide +kernel
theorem dX7_readNumber_78 : decode cX7_readNumber 78 = .ok (.iload_n 2, 1) := by decide +kernel
theorem dX7_readNumber_79 : decode cX7_readNumber 79 = .ok (.istore_n 2, 1) := by decide +kernel
theorem dX7_readNumber_80 : decode cX7_readNumber 80 = .ok (.iinc 3 1, 3) := by decide +kernel
theorem dX7_readNumber_83 : decode cX7_readNumber 83 = .ok (.aload_n 0, 1) := by decide +kernel
theorem dX7_readNumber_84 : decode cX7_readNumber 84 = .ok (.dup, 1) := by decide +kernel
theorem dX7_readNumber_85 : decode cX7_readNumber 85 = .ok (.getfield 31, 3) := by decide +kernel
theorem dX7_readNumber_88 : decode cX7_readNumber 88 = .ok (.iconst 1, 1) := by decide +kernel
theorem dX7_readNumber_89 : decode cX7_readNumber 89 = .ok (.iadd, 1) := by decide +kernel
theorem dX7_readNumber_90 : decode cX7_readNumber 90 = .ok (.putfield 31, 3) := by decide +kernel
theorem dX7_readNumber_93 : decode cX7_readNumber 93 = .ok (.goto (-56), 3) := by decide +kernel
theorem dX7_readNumber_96 : decode cX7_readNumber 96 = .ok (.iload_n 3, 1) := by decide +kernel
theorem dX7_readNumber_97 : decode cX7_readNumber 97 = .ok (.iconst 2, 1) := by decide +kernel
theorem dX7_readNumber_98 : decode cX7_readNumber 98 = .ok (.if_icmp .gt 8, 3) := by decide +kernel
theorem dX7_readNumber_101 : decode cX7_readNumber 101 = .ok (.iload_n 2, 1) := by decide +kernel
theorem dX7_readNumber_102 : decode cX7_readNumber 102 = .ok (.iload_n 1, 1) := by decide +kernel
theorem dX7_readNumber_103 : decode cX7_readNumber 103 = .ok (.if_icmp .le 14, 3) := by decide +kernel
theorem dX7_readNumber_106 : decode cX7_readNumber 106 = .ok (.aload_n 0, 1) := by decide +kernel
theorem dX7_readNumber_107 : decode cX7_readNumber 107 = .ok (.iconst 2, 1) := by decide +kernel
theorem dX7_readNumber_108 : decode cX7_readNumber 108 = .ok (.aload_n 0, 1) := by decide +kernel
theorem dX7_readNumber_109 : decode cX7_readNumber 109 = .ok (.getfield 92, 3) := by decide +kernel
theorem dX7_readNumber_112 : decode cX7_readNumber 112 = .ok (.invokevirtual 51, 3) := by decide +kernel
theorem dX7_readNumber_115 : decode cX7_readNumber 115 = .ok (.iconst 0, 1) := by decide +kernel
theorem dX7_readNumber_116 : decode cX7_readNumber 116 = .ok (.ireturn, 1) := by decide +kernel
theorem dX7_readNumber_117 : decode cX7_readNumber 117 = .ok (.iload_n 2, 1) := by decide +kernel
theorem dX7_readNumber_118 : decode cX7_readNumber 118 = .ok (.ireturn, 1) := by decide +kernel
theorem dX7_readEnd_0 : decode cX7_readEnd 0 = .ok (.aload_n 0, 1) := by decide +kernel
theorem dX7_readEnd_1 : decode cX7_readEnd 1 = .ok (.invokevirtual 34, 3) := by decide +kernel
theorem dX7_readEnd_4 : decode cX7_readEnd 4 = .ok (.aload_n 0, 1) := by decide +kernel
theorem dX7_readEnd_5 : decode cX7_readEnd 5 = .ok (.invokevirtual 41, 3) := by decide +kernel
theorem dX7_readEnd_8 : decode cX7_readEnd 8 = .ok (.bipush 59, 2) := by decide +kernel
theorem dX7_readEnd_10 : decode cX7_readEnd 10 = .ok (.if_icmp .eq 12, 3) := by decide +kernel
theorem dX7_readEnd_13 : decode cX7_readEnd 13 = .ok (.aload_n 0, 1) := by decide +kernel
theorem dX7_readEnd_14 : decode cX7_readEnd 14 = .ok (.iconst 1, 1) := by decide +kernel
theorem dX7_readEnd_15 : decode cX7_readEnd 15 = .ok (.aload_n 0, 1) := by decide +kernel
theorem dX7_readEnd_16 : decode cX7_readEnd 16 = .ok (.getfield 31, 3) := by decide +kernel
theorem dX7_readEnd_19 : decode cX7_readEnd 19 = .ok (.invokevirtual 51, 3) := by decide +kernel
theorem dX7_readEnd_22 : decode cX7_readEnd 22 = .ok (.aload_n 0, 1) := by decide +kernel
theorem dX7_readEnd_23 : decode cX7_readEnd 23 = .ok (.dup, 1) := by decide +kernel
theorem dX7_readEnd_24 : decode cX7_readEnd 24 = .ok (.getfield 31, 3) := by decide +kernel
theorem dX7_readEnd_27 : decode cX7_readEnd 27 = .ok (.iconst 1, 1) := by decide +kernel
theorem dX7_readEnd_28 : decode cX7_readEnd 28 = .ok (.iadd, 1) := by decide +kernel
theorem dX7_readEnd_29 : decode cX7_readEnd 29 = .ok (.putfield 31, 3) := by decide +kernel
theorem dX7_readEnd_32 : decode cX7_readEnd 32 = .ok (.return_, 1) := by decide +kernel
theorem dX7_skipBlanks_0 : decode cX7_skipBlanks 0 = .ok (.aload_n 0, 1) := by decide +kernel
theorem dX7_skipBlanks_1 : decode cX7_skipBlanks 1 = .ok (.getfield 31, 3) := by decide +kernel
theorem dX7_skipBlanks_4 : decode cX7_skipBlanks 4 = .ok (.aload_n 0, 1) := by decide +kernel
theorem dX7_skipBlanks_5 : decode cX7_skipBlanks 5 = .ok (.getfield 19, 3) := by decide +kernel
theorem dX7_skipBlanks_8 : decode cX7_skipBlanks 8 = .ok (.if_icmp .ge 25, 3) := by decide +kernel
theorem dX7_skipBlanks_11 : decode cX7_skipBlanks 11 = .ok (.aload_n 0, 1) := by decide +kernel
theorem dX7_skipBlanks_12 : decode cX7_skipBlanks 12 = .ok (.invokevirtual 41, 3) := by decide +kernel
theorem dX7_skipBlanks_15 : decode cX7_skipBlanks 15 = .ok (.bipush 32, 2) := by decide +kernel
theorem dX7_skipBlanks_17 : decode cX7_skipBlanks 17 = .ok (.if_icmp .ne 16, 3) := by decide +kernel
theorem dX7_skipBlanks_20 : decode cX7_skipBlanks 20 = .ok (.aload_n 0, 1) := by decide +kernel
theorem dX7_skipBlanks_21 : decode cX7_skipBlanks 21 = .ok (.dup, 1) := by decide +kernel
theorem dX7_skipBlanks_22 : decode cX7_skipBlanks 22 = .ok (.getfield 31, 3) := by decide +kernel
theorem dX7_skipBlanks_25 : decode cX7_skipBlanks 25 = .ok (.iconst 1, 1) := by decide +kernel
theorem dX7_skipBlanks_26 : decode cX7_skipBlanks 26 = .ok (.iadd, 1) := by decide +kernel
theorem dX7_skipBlanks_27 : decode cX7_skipBlanks 27 = .ok (.putfield 31, 3) := by decide +kernel
theorem dX7_skipBlanks_30 : decode cX7_skipBlanks 30 = .ok (.goto (-30), 3) := by decide +kernel
theorem dX7_skipBlanks_33 : decode cX7_skipBlanks 33 = .ok (.return_, 1) := by decide +kernel
theorem dX7_letterHere_0 : decode cX7_letterHere 0 = .ok (.aload_n 0, 1) := by decide +kernel
theorem dX7_letterHere_1 : decode cX7_letterHere 1 = .ok (.getfield 31, 3) := by decide +kernel
theorem dX7_letterHere_4 : decode cX7_letterHere 4 = .ok (.ifCond .lt 26, 3) := by decide +kernel
theorem dX7_letterHere_7 : decode cX7_letterHere 7 = .ok (.aload_n 0, 1) := by decide +kernel
theorem dX7_letterHere_8 : decode cX7_letterHere 8 = .ok (.getfield 31, 3) := by decide +kernel
theorem dX7_letterHere_11 : decode cX7_letterHere 11 = .ok (.aload_n 0, 1) := by decide +kernel
theorem dX7_letterHere_12 : decode cX7_letterHere 12 = .ok (.getfield 19, 3) := by decide +kernel
theorem dX7_letterHere_15 : decode cX7_letterHere 15 = .ok (.if_icmp .ge 15, 3) := by decide +kernel
theorem dX7_letterHere_18 : decode cX7_letterHere 18 = .ok (.aload_n 0, 1) := by decide +kernel
theorem dX7_letterHere_19 : decode cX7_letterHere 19 = .ok (.getfield 11, 3) := by decide +kernel
theorem dX7_letterHere_22 : decode cX7_letterHere 22 = .ok (.aload_n 0, 1) := by decide +kernel
theorem dX7_letterHere_23 : decode cX7_letterHere 23 = .ok (.getfield 31, 3) := by decide +kernel
theorem dX7_letterHere_26 : decode cX7_letterHere 26 = .ok (.iaload, 1) := by decide +kernel
theorem dX7_letterHere_27 : decode cX7_letterHere 27 = .ok (.goto 4, 3) := by decide +kernel
theorem dX7_letterHere_30 : decode cX7_letterHere 30 = .ok (.iconst (-1), 1) := by decide +kernel
theorem dX7_letterHere_31 : decode cX7_letterHere 31 = .ok (.ireturn, 1) := by decide +kernel
theorem dX7_isFigure_0 : decode cX7_isFigure 0 = .ok (.iload_n 0, 1) := by decide +kernel
theorem dX7_isFigure_1 : decode cX7_isFigure 1 = .ok (.bipush 48, 2) := by decide +kernel
theorem dX7_isFigure_3 : decode cX7_isFigure 3 = .ok (.if_icmp .lt 13, 3) := by decide +kernel
theorem dX7_isFigure_6 : decode cX7_isFigure 6 = .ok (.iload_n 0, 1) := by decide +kernel
theorem dX7_isFigure_7 : decode cX7_isFigure 7 = .ok (.bipush 57, 2) := by decide +kernel
theorem dX7_isFigure_9 : decode cX7_isFigure 9 = .ok (.if_icmp .gt 7, 3) := by decide +kernel
theorem dX7_isFigure_12 : decode cX7_isFigure 12 = .ok (.iconst 1, 1) := by decide +kernel
theorem dX7_isFigure_13 : decode cX7_isFigure 13 = .ok (.goto 4, 3) := by decide +kernel
theorem dX7_isFigure_16 : decode cX7_isFigure 16 = .ok (.iconst 0, 1) := by decide +kernel
theorem dX7_isFigure_17 : decode cX7_isFigure 17 = .ok (.ireturn, 1) := by decide +kernel
theorem dX7_findFault_0 : decode cX7_findFault 0 = .ok (.aload_n 0, 1) := by decide +kernel
theorem dX7_findFault_1 : decode cX7_findFault 1 = .ok (.getfield 28, 3) := by decide +kernel
theorem dX7_findFault_4 : decode cX7_findFault 4 = .ok (.ifCond .ne 13, 3) := by decide +kernel
theorem dX7_findFault_7 : decode cX7_findFault 7 = .ok (.aload_n 0, 1) := by decide +kernel
theorem dX7_findFault_8 : decode cX7_findFault 8 = .ok (.iload_n 1, 1) := by decide +kernel
theorem dX7_findFault_9 : decode cX7_findFault 9 = .ok (.putfield 28, 3) := by decide +kernel
theorem dX7_findFault_12 : decode cX7_findFault 12 = .ok (.aload_n 0, 1) := by decide +kernel
theorem dX7_findFault_13 : decode cX7_findFault 13 = .ok (.iload_n 2, 1) := by decide +kernel
theorem dX7_findFault_14 : decode cX7_findFault 14 = .ok (.putfield 15, 3) := by decide +kernel
theorem dX7_findFault_17 : decode cX7_findFault 17 = .ok (.return_, 1) := by decide +kernel
theorem dX8_init_0 : decode cX8_init 0 = .ok (.aload_n 0, 1) := by decide +kernel
theorem dX8_init_1 : decode cX8_init 1 = .ok (.invokespecial 1, 3) := by decide +kernel
theorem dX8_init_4 : decode cX8_init 4 = .ok (.aload_n 0, 1) := by decide +kernel
theorem dX8_init_5 : decode cX8_init 5 = .ok (.new 7, 3) := by decide +kernel
theorem dX8_init_8 : decode cX8_init 8 = .ok (.dup, 1) := by decide +kernel
theorem dX8_init_9 : decode cX8_init 9 = .ok (.invokespecial 9, 3) := by decide +kernel
theorem dX8_init_12 : decode cX8_init 12 = .ok (.putfield 10, 3) := by decide +kernel
theorem dX8_init_15 : decode cX8_init 15 = .ok (.aload_n 0, 1) := by decide +kernel
theorem dX8_init_16 : decode cX8_init 16 = .ok (.new 16, 3) := by decide +kernel
theorem dX8_init_19 : decode cX8_init 19 = .ok (.dup, 1) := by decide +kernel
theorem dX8_init_20 : decode cX8_init 20 = .ok (.invokespecial 18, 3) := by decide +kernel
theorem dX8_init_23 : decode cX8_init 23 = .ok (.putfield 19, 3) := by decide +kernel
theorem dX8_init_26 : decode cX8_init 26 = .ok (.aload_n 0, 1) := by decide +kernel
theorem dX8_init_27 : decode cX8_init 27 = .ok (.new 16, 3) := by decide +kernel
theorem dX8_init_30 : decode cX8_init 30 = .ok (.dup, 1) := by decide +kernel
theorem dX8_init_31 : decode cX8_init 31 = .ok (.invokespecial 18, 3) := by decide +kernel
theorem dX8_init_34 : decode cX8_init 34 = .ok (.putfield 23, 3) := by decide +kernel
theorem dX8_init_37 : decode cX8_init 37 = .ok (.aload_n 0, 1) := by decide +kernel
theorem dX8_init_38 : decode cX8_init 38 = .ok (.new 26, 3) := by decide +kernel
theorem dX8_init_41 : decode cX8_init 41 = .ok (.dup, 1) := by decide +kernel
theorem dX8_init_42 : decode cX8_init 42 = .ok (.invokespecial 28, 3) := by decide +kernel
theorem dX8_init_45 : decode cX8_init 45 = .ok (.putfield 29, 3) := by decide +kernel
theorem dX8_init_48 : decode cX8_init 48 = .ok (.aload_n 0, 1) := by decide +kernel
theorem dX8_init_49 : decode cX8_init 49 = .ok (.new 26, 3) := by decide +kernel
theorem dX8_init_52 : decode cX8_init 52 = .ok (.dup, 1) := by decide +kernel
theorem dX8_init_53 : decode cX8_init 53 = .ok (.invokespecial 28, 3) := by decide +kernel
theorem dX8_init_56 : decode cX8_init 56 = .ok (.putfield 33, 3) := by decide +kernel
theorem dX8_init_59 : decode cX8_init 59 = .ok (.aload_n 0, 1) := by decide +kernel
theorem dX8_init_60 : decode cX8_init 60 = .ok (.new 36, 3) := by decide +kernel
theorem dX8_init_63 : decode cX8_init 63 = .ok (.dup, 1) := by decide +kernel
theorem dX8_init_64 : decode cX8_init 64 = .ok (.invokespecial 38, 3) := by decide +kernel
theorem dX8_init_67 : decode cX8_init 67 = .ok (.putfield 39, 3) := by decide +kernel
theorem dX8_init_70 : decode cX8_init 70 = .ok (.aload_n 0, 1) := by decide +kernel
theorem dX8_init_71 : decode cX8_init 71 = .ok (.new 43, 3) := by decide +kernel
theorem dX8_init_74 : decode cX8_init 74 = .ok (.dup, 1) := by decide +kernel
theorem dX8_init_75 : decode cX8_init 75 = .ok (.invokespecial 45, 3) := by decide +kernel
theorem dX8_init_78 : decode cX8_init 78 = .ok (.putfield 46, 3) := by decide +kernel
theorem dX8_init_81 : decode cX8_init 81 = .ok (.aload_n 0, 1) := by decide +kernel
theorem dX8_init_82 : decode cX8_init 82 = .ok (.new 43, 3) := by decide +kernel
theorem dX8_init_85 : decode cX8_init 85 = .ok (.dup, 1) := by decide +kernel
theorem dX8_init_86 : decode cX8_init 86 = .ok (.invokespecial 45, 3) := by decide +kernel
theorem dX8_init_89 : decode cX8_init 89 = .ok (.putfield 50, 3) := by decide +kernel
theorem dX8_init_92 : decode cX8_init 92 = .ok (.aload_n 0, 1) := by decide +kernel
theorem dX8_init_93 : decode cX8_init 93 = .ok (.new 53, 3) := by decide +kernel
theorem dX8_init_96 : decode cX8_init 96 = .ok (.dup, 1) := by decide +kernel
theorem dX8_init_97 : decode cX8_init 97 = .ok (.invokespecial 55, 3) := by decide +kernel
theorem dX8_init_100 : decode cX8_init 100 = .ok (.putfield 56, 3) := by decide +kernel
theorem dX8_init_103 : decode cX8_init 103 = .ok (.aload_n 0, 1) := by decide +kernel
theorem dX8_init_104 : decode cX8_init 104 = .ok (.new 60, 3) := by decide +kernel
theorem dX8_init_107 : decode cX8_init 107 = .ok (.dup, 1) := by decide +kernel
theorem dX8_init_108 : decode cX8_init 108 = .ok (.invokespecial 62, 3) := by decide +kernel
theorem dX8_init_111 : decode cX8_init 111 = .ok (.putfield 63, 3) := by decide +kernel
theorem dX8_init_114 : decode cX8_init 114 = .ok (.return_, 1) := by decide +kernel
theorem dX8_feed_0 : decode cX8_feed 0 = .ok (.iload_n 1, 1) := by decide +kernel
theorem dX8_feed_1 : decode cX8_feed 1 = .ok (.ifCond .lt 10, 3) := by decide +kernel
theorem dX8_feed_4 : decode cX8_feed 4 = .ok (.iload_n 1, 1) := by decide +kernel
theorem dX8_feed_5 : decode cX8_feed 5 = .ok (.sipush 255, 3) := by decide +kernel
theorem dX8_feed_8 : decode cX8_feed 8 = .ok (.if_icmp .le 6, 3) := by decide +kernel
theorem dX8_feed_11 : decode cX8_feed 11 = .ok (.ldc 67, 2) := by decide +kernel
theorem dX8_feed_13 : decode cX8_feed 13 = .ok (.ireturn, 1) := by decide +kernel
theorem dX8_feed_14 : decode cX8_feed 14 = .ok (.aload_n 0, 1) := by decide +kernel
theorem dX8_feed_15 : decode cX8_feed 15 = .ok (.getfield 10, 3) := by decide +kernel
theorem dX8_feed_18 : decode cX8_feed 18 = .ok (.iload_n 1, 1) := by decide +kernel
theorem dX8_feed_19 : decode cX8_feed 19 = .ok (.invokevirtual 68, 3) := by decide +kernel
theorem dX8_feed_22 : decode cX8_feed 22 = .ok (.ireturn, 1) := by decide +kernel
theorem dX8_wires_0 : decode cX8_wires 0 = .ok (.aload_n 0, 1) := by decide +kernel
theorem dX8_wires_1 : decode cX8_wires 1 = .ok (.getfield 10, 3) := by decide +kernel
theorem dX8_wires_4 : decode cX8_wires 4 = .ok (.aload_n 0, 1) := by decide +kernel
theorem dX8_wires_5 : decode cX8_wires 5 = .ok (.getfield 23, 3) := by decide +kernel
theorem dX8_wires_8 : decode cX8_wires 8 = .ok (.invokevirtual 72, 3) := by decide +kernel
theorem dX8_wires_11 : decode cX8_wires 11 = .ok (.istore_n 1, 1) := by decide +kernel
theorem dX8_wires_12 : decode cX8_wires 12 = .ok (.aload_n 0, 1) := by decide +kernel
theorem dX8_wires_13 : decode cX8_wires 13 = .ok (.getfield 10, 3) := by decide +kernel
theorem dX8_wires_16 : decode cX8_wires 16 = .ok (.invokevirtual 76, 3) := by decide +kernel
theorem dX8_wires_19 : decode cX8_wires 19 = .ok (.iload_n 1, 1) := by decide +kernel
theorem dX8_wires_20 : decode cX8_wires 20 = .ok (.ifCond .eq 8, 3) := by decide +kernel
theorem dX8_wires_23 : decode cX8_wires 23 = .ok (.bipush (-10), 2) := by decide +kernel
theorem dX8_wires_25 : decode cX8_wires 25 = .ok (.iload_n 1, 1) := by decide +kernel
theorem dX8_wires_26 : decode cX8_wires 26 = .ok (.isub, 1) := by decide +kernel
theorem dX8_wires_27 : decode cX8_wires 27 = .ok (.ireturn, 1) := by decide +kernel
theorem dX8_wires_28 : decode cX8_wires 28 = .ok (.aload_n 0, 1) := by decide +kernel
theorem dX8_wires_29 : decode cX8_wires 29 = .ok (.getfield 23, 3) := by decide +kernel
theorem dX8_wires_32 : decode cX8_wires 32 = .ok (.astore_n 2, 1) := by decide +kernel
theorem dX8_wires_33 : decode cX8_wires 33 = .ok (.aload_n 0, 1) := by decide +kernel
theorem dX8_wires_34 : decode cX8_wires 34 = .ok (.aload_n 0, 1) := by decide +kernel
theorem dX8_wires_35 : decode cX8_wires 35 = .ok (.getfield 19, 3) := by decide +kernel
theorem dX8_wires_38 : decode cX8_wires 38 = .ok (.putfield 23, 3) := by decide +kernel
theorem dX8_wires_41 : decode cX8_wires 41 = .ok (.aload_n 0, 1) := by decide +kernel
theorem dX8_wires_42 : decode cX8_wires 42 = .ok (.aload_n 2, 1) := by decide +kernel
theorem dX8_wires_43 : decode cX8_wires 43 = .ok (.putfield 19, 3) := by decide +kernel
theorem dX8_wires_46 : decode cX8_wires 46 = .ok (.aload_n 0, 1) := by decide +kernel
theorem dX8_wires_47 : decode cX8_wires 47 = .ok (.getfield 29, 3) := by decide +kernel
theorem dX8_wires_50 : decode cX8_wires 50 = .ok (.aload_n 0, 1) := by decide +kernel
theorem dX8_wires_51 : decode cX8_wires 51 = .ok (.getfield 19, 3) := by decide +kernel
theorem dX8_wires_54 : decode cX8_wires 54 = .ok (.invokevirtual 79, 3) := by decide +kernel
theorem dX8_wires_57 : decode cX8_wires 57 = .ok (.aload_n 0, 1) := by decide +kernel
theorem dX8_wires_58 : decode cX8_wires 58 = .ok (.getfield 39, 3) := by decide +kernel
theorem dX8_wires_61 : decode cX8_wires 61 = .ok (.invokevirtual 83, 3) := by decide +kernel
theorem dX8_wires_64 : decode cX8_wires 64 = .ok (.aload_n 0, 1) := by decide +kernel
theorem dX8_wires_65 : decode cX8_wires 65 = .ok (.getfield 46, 3) := by decide +kernel
theorem dX8_wires_68 : decode cX8_wires 68 = .ok (.invokevirtual 86, 3) := by decide +kernel
theorem dX8_wires_71 : decode cX8_wires 71 = .ok (.aload_n 0, 1) := by decide +kernel
theorem dX8_wires_72 : decode cX8_wires 72 = .ok (.getfield 50, 3) := by decide +kernel
theorem dX8_wires_75 : decode cX8_wires 75 = .ok (.invokevirtual 86, 3) := by decide +kernel
theorem dX8_wires_78 : decode cX8_wires 78 = .ok (.aload_n 0, 1) := by decide +kernel
theorem dX8_wires_79 : decode cX8_wires 79 = .ok (.getfield 56, 3) := by decide +kernel
theorem dX8_wires_82 : decode cX8_wires 82 = .ok (.invokevirtual 87, 3) := by decide +kernel
theorem dX8_wires_85 : decode cX8_wires 85 = .ok (.aload_n 0, 1) := by decide +kernel
theorem dX8_wires_86 : decode cX8_wires 86 = .ok (.getfield 19, 3) := by decide +kernel
theorem dX8_wires_89 : decode cX8_wires 89 = .ok (.getfield 90, 3) := by decide +kernel
theorem dX8_wires_92 : decode cX8_wires 92 = .ok (.ireturn, 1) := by decide +kernel
theorem dX8_fault_0 : decode cX8_fault 0 = .ok (.aload_n 0, 1) := by decide +kernel
theorem dX8_fault_1 : decode cX8_fault 1 = .ok (.getfield 10, 3) := by decide +kernel
theorem dX8_fault_4 : decode cX8_fault 4 = .ok (.getfield 94, 3) := by decide +kernel
theorem dX8_fault_7 : decode cX8_fault 7 = .ok (.ireturn, 1) := by decide +kernel
theorem dX8_told_0 : decode cX8_told 0 = .ok (.iload_n 1, 1) := by decide +kernel
theorem dX8_told_1 : decode cX8_told 1 = .ok (.tableswitch 208 0 13 #[71, 79, 87, 95, 103, 111, 127, 143, 155, 163, 168, 176, 184, 200], 71) := by decide +kernel
theorem dX8_told_72 : decode cX8_told 72 = .ok (.aload_n 0, 1) := by decide +kernel
theorem dX8_told_73 : decode cX8_told 73 = .ok (.getfield 19, 3) := by decide +kernel
theorem dX8_told_76 : decode cX8_told 76 = .ok (.getfield 90, 3) := by decide +kernel
theorem dX8_told_79 : decode cX8_told 79 = .ok (.ireturn, 1) := by decide +kernel
theorem dX8_told_80 : decode cX8_told 80 = .ok (.aload_n 0, 1) := by decide +kernel
theorem dX8_told_81 : decode cX8_told 81 = .ok (.getfield 19, 3) := by decide +kernel
theorem dX8_told_84 : decode cX8_told 84 = .ok (.getfield 97, 3) := by decide +kernel
theorem dX8_told_87 : decode cX8_told 87 = .ok (.ireturn, 1) := by decide +kernel
theorem dX8_told_88 : decode cX8_told 88 = .ok (.aload_n 0, 1) := by decide +kernel
theorem dX8_told_89 : decode cX8_told 89 = .ok (.getfield 10, 3) := by decide +kernel
theorem dX8_told_92 : decode cX8_told 92 = .ok (.getfield 100, 3) := by decide +kernel
theorem dX8_told_95 : decode cX8_told 95 = .ok (.ireturn, 1) := by decide +kernel
theorem dX8_told_96 : decode cX8_told 96 = .ok (.aload_n 0, 1) := by decide +kernel
theorem dX8_told_97 : decode cX8_told 97 = .ok (.getfield 29, 3) := by decide +kernel
theorem dX8_told_100 : decode cX8_told 100 = .ok (.getfield 103, 3) := by decide +kernel
theorem dX8_told_103 : decode cX8_told 103 = .ok (.ireturn, 1) := by decide +kernel
theorem dX8_told_104 : decode cX8_told 104 = .ok (.aload_n 0, 1) := by decide +kernel
theorem dX8_told_105 : decode cX8_told 105 = .ok (.getfield 29, 3) := by decide +kernel
theorem dX8_told_108 : decode cX8_told 108 = .ok (.getfield 106, 3) := by decide +kernel
theorem dX8_told_111 : decode cX8_told 111 = .ok (.ireturn, 1) := by decide +kernel
theorem dX8_told_112 : decode cX8_told 112 = .ok (.aload_n 0, 1) := by decide +kernel
theorem dX8_told_113 : decode cX8_told 113 = .ok (.getfield 29, 3) := by decide +kernel
theorem dX8_told_116 : decode cX8_told 116 = .ok (.getfield 109, 3) := by decide +kernel
theorem dX8_told_119 : decode cX8_told 119 = .ok (.ifCond .eq 7, 3) := by decide +kernel
theorem dX8_told_122 : decode cX8_told 122 = .ok (.iconst 1, 1) := by decide +kernel
theorem dX8_told_123 : decode cX8_told 123 = .ok (.goto 4, 3) := by decide +kernel
theorem dX8_told_126 : decode cX8_told 126 = .ok (.iconst 0, 1) := by decide +kernel
theorem dX8_told_127 : decode cX8_told 127 = .ok (.ireturn, 1) := by decide +kernel
theorem dX8_told_128 : decode cX8_told 128 = .ok (.aload_n 0, 1) := by decide +kernel
theorem dX8_told_129 : decode cX8_told 129 = .ok (.getfield 29, 3) := by decide +kernel
theorem dX8_told_132 : decode cX8_told 132 = .ok (.invokevirtual 113, 3) := by decide +kernel
theorem dX8_told_135 : decode cX8_told 135 = .ok (.ifCond .eq 7, 3) := by decide +kernel
theorem dX8_told_138 : decode cX8_told 138 = .ok (.iconst 1, 1) := by decide +kernel
theorem dX8_told_139 : decode cX8_told 139 = .ok (.goto 4, 3) := by decide +kernel
theorem dX8_told_142 : decode cX8_told 142 = .ok (.iconst 0, 1) := by decide +kernel
theorem dX8_told_143 : decode cX8_told 143 = .ok (.ireturn, 1) := by decide +kernel
theorem dX8_told_144 : decode cX8_told 144 = .ok (.aload_n 0, 1) := by decide +kernel
theorem dX8_told_145 : decode cX8_told 145 = .ok (.getfield 29, 3) := by decide +kernel
theorem dX8_told_148 : decode cX8_told 148 = .ok (.aload_n 0, 1) := by decide +kernel
theorem dX8_told_149 : decode cX8_told 149 = .ok (.getfield 19, 3) := by decide +kernel
theorem dX8_told_152 : decode cX8_told 152 = .ok (.invokevirtual 117, 3) := by decide +kernel
theorem dX8_told_155 : decode cX8_told 155 = .ok (.ireturn, 1) := by decide +kernel
theorem dX8_told_156 : decode cX8_told 156 = .ok (.aload_n 0, 1) := by decide +kernel
theorem dX8_told_157 : decode cX8_told 157 = .ok (.getfield 29, 3) := by decide +kernel
theorem dX8_told_160 : decode cX8_told 160 = .ok (.getfield 120, 3) := by decide +kernel
theorem dX8_told_163 : decode cX8_told 163 = .ok (.ireturn, 1) := by decide +kernel
theorem dX8_told_164 : decode cX8_told 164 = .ok (.aload_n 0, 1) := by decide +kernel
theorem dX8_told_165 : decode cX8_told 165 = .ok (.invokevirtual 123, 3) := by decide +kernel
theorem dX8_told_168 : decode cX8_told 168 = .ok (.ireturn, 1) := by decide +kernel
theorem dX8_told_169 : decode cX8_told 169 = .ok (.aload_n 0, 1) := by decide +kernel
theorem dX8_told_170 : decode cX8_told 170 = .ok (.getfield 29, 3) := by decide +kernel
theorem dX8_told_173 : decode cX8_told 173 = .ok (.getfield 127, 3) := by decide +kernel
theorem dX8_told_176 : decode cX8_told 176 = .ok (.ireturn, 1) := by decide +kernel
theorem dX8_told_177 : decode cX8_told 177 = .ok (.aload_n 0, 1) := by decide +kernel
theorem dX8_told_178 : decode cX8_told 178 = .ok (.getfield 56, 3) := by decide +kernel
theorem dX8_told_181 : decode cX8_told 181 = .ok (.getfield 130, 3) := by decide +kernel
theorem dX8_told_184 : decode cX8_told 184 = .ok (.ireturn, 1) := by decide +kernel
theorem dX8_told_185 : decode cX8_told 185 = .ok (.aload_n 0, 1) := by decide +kernel
theorem dX8_told_186 : decode cX8_told 186 = .ok (.getfield 56, 3) := by decide +kernel
theorem dX8_told_189 : decode cX8_told 189 = .ok (.aload_n 0, 1) := by decide +kernel
theorem dX8_told_190 : decode cX8_told 190 = .ok (.getfield 19, 3) := by decide +kernel
theorem dX8_told_193 : decode cX8_told 193 = .ok (.aload_n 0, 1) := by decide +kernel
theorem dX8_told_194 : decode cX8_told 194 = .ok (.getfield 29, 3) := by decide +kernel
theorem dX8_told_197 : decode cX8_told 197 = .ok (.invokevirtual 133, 3) := by decide +kernel
theorem dX8_told_200 : decode cX8_told 200 = .ok (.ireturn, 1) := by decide +kernel
theorem dX8_told_201 : decode cX8_told 201 = .ok (.aload_n 0, 1) := by decide +kernel
theorem dX8_told_202 : decode cX8_told 202 = .ok (.getfield 39, 3) := by decide +kernel
theorem dX8_told_205 : decode cX8_told 205 = .ok (.getfield 137, 3) := by decide +kernel
theorem dX8_told_208 : decode cX8_told 208 = .ok (.ireturn, 1) := by decide +kernel
theorem dX8_told_209 : decode cX8_told 209 = .ok (.ldc 67, 2) := by decide +kernel
theorem dX8_told_211 : decode cX8_told 211 = .ok (.ireturn, 1) := by decide +kernel
theorem dX8_wire_0 : decode cX8_wire 0 = .ok (.aload_n 0, 1) := by decide +kernel
theorem dX8_wire_1 : decode cX8_wire 1 = .ok (.getfield 19, 3) := by decide +kernel
theorem dX8_wire_4 : decode cX8_wire 4 = .ok (.iload_n 1, 1) := by decide +kernel
theorem dX8_wire_5 : decode cX8_wire 5 = .ok (.invokevirtual 138, 3) := by decide +kernel
theorem dX8_wire_8 : decode cX8_wire 8 = .ok (.ifCond .ne 6, 3) := by decide +kernel
theorem dX8_wire_11 : decode cX8_wire 11 = .ok (.ldc 142, 2) := by decide +kernel
theorem dX8_wire_13 : decode cX8_wire 13 = .ok (.ireturn, 1) := by decide +kernel
theorem dX8_wire_14 : decode cX8_wire 14 = .ok (.iload_n 2, 1) := by decide +kernel
theorem dX8_wire_15 : decode cX8_wire 15 = .ok (.tableswitch 81 0 4 #[33, 43, 52, 62, 72], 33) := by decide +kernel
theorem dX8_wire_48 : decode cX8_wire 48 = .ok (.aload_n 0, 1) := by decide +kernel
theorem dX8_wire_49 : decode cX8_wire 49 = .ok (.getfield 29, 3) := by decide +kernel
theorem dX8_wire_52 : decode cX8_wire 52 = .ok (.getfield 143, 3) := by decide +kernel
theorem dX8_wire_55 : decode cX8_wire 55 = .ok (.iload_n 1, 1) := by decide +kernel
theorem dX8_wire_56 : decode cX8_wire 56 = .ok (.iaload, 1) := by decide +kernel
theorem dX8_wire_57 : decode cX8_wire 57 = .ok (.ireturn, 1) := by decide +kernel
theorem dX8_wire_58 : decode cX8_wire 58 = .ok (.aload_n 0, 1) := by decide +kernel
theorem dX8_wire_59 : decode cX8_wire 59 = .ok (.getfield 19, 3) := by decide +kernel
theorem dX8_wire_62 : decode cX8_wire 62 = .ok (.iload_n 1, 1) := by decide +kernel
theorem dX8_wire_63 : decode cX8_wire 63 = .ok (.invokevirtual 147, 3) := by decide +kernel
theorem dX8_wire_66 : decode cX8_wire 66 = .ok (.ireturn, 1) := by decide +kernel
theorem dX8_wire_67 : decode cX8_wire 67 = .ok (.aload_n 0, 1) := by decide +kernel
theorem dX8_wire_68 : decode cX8_wire 68 = .ok (.getfield 29, 3) := by decide +kernel
theorem dX8_wire_71 : decode cX8_wire 71 = .ok (.getfield 150, 3) := by decide +kernel
theorem dX8_wire_74 : decode cX8_wire 74 = .ok (.iload_n 1, 1) := by decide +kernel
theorem dX8_wire_75 : decode cX8_wire 75 = .ok (.iaload, 1) := by decide +kernel
theorem dX8_wire_76 : decode cX8_wire 76 = .ok (.ireturn, 1) := by decide +kernel
theorem dX8_wire_77 : decode cX8_wire 77 = .ok (.aload_n 0, 1) := by decide +kernel
theorem dX8_wire_78 : decode cX8_wire 78 = .ok (.getfield 29, 3) := by decide +kernel
theorem dX8_wire_81 : decode cX8_wire 81 = .ok (.getfield 153, 3) := by decide +kernel
theorem dX8_wire_84 : decode cX8_wire 84 = .ok (.iload_n 1, 1) := by decide +kernel
theorem dX8_wire_85 : decode cX8_wire 85 = .ok (.iaload, 1) := by decide +kernel
theorem dX8_wire_86 : decode cX8_wire 86 = .ok (.ireturn, 1) := by decide +kernel
theorem dX8_wire_87 : decode cX8_wire 87 = .ok (.aload_n 0, 1) := by decide +kernel
theorem dX8_wire_88 : decode cX8_wire 88 = .ok (.getfield 19, 3) := by decide +kernel
theorem dX8_wire_91 : decode cX8_wire 91 = .ok (.iload_n 1, 1) := by decide +kernel
theorem dX8_wire_92 : decode cX8_wire 92 = .ok (.invokevirtual 156, 3) := by decide +kernel
theorem dX8_wire_95 : decode cX8_wire 95 = .ok (.ireturn, 1) := by decide +kernel
theorem dX8_wire_96 : decode cX8_wire 96 = .ok (.ldc 67, 2) := by decide +kernel
theorem dX8_wire_98 : decode cX8_wire 98 = .ok (.ireturn, 1) := by decide +kernel
theorem dX8_wave_0 : decode cX8_wave 0 = .ok (.aload_n 0, 1) := by decide +kernel
theorem dX8_wave_1 : decode cX8_wave 1 = .ok (.getfield 19, 3) := by decide +kernel
theorem dX8_wave_4 : decode cX8_wave 4 = .ok (.iload_n 1, 1) := by decide +kernel
theorem dX8_wave_5 : decode cX8_wave 5 = .ok (.invokevirtual 138, 3) := by decide +kernel
theorem dX8_wave_8 : decode cX8_wave 8 = .ok (.ifCond .ne 6, 3) := by decide +kernel
theorem dX8_wave_11 : decode cX8_wave 11 = .ok (.ldc 142, 2) := by decide +kernel
theorem dX8_wave_13 : decode cX8_wave 13 = .ok (.ireturn, 1) := by decide +kernel
theorem dX8_wave_14 : decode cX8_wave 14 = .ok (.iload_n 3, 1) := by decide +kernel
theorem dX8_wave_15 : decode cX8_wave 15 = .ok (.lookupswitch 45 #[(0, 25), (1, 35)], 25) := by decide +kernel
theorem dX8_wave_40 : decode cX8_wave 40 = .ok (.aload_n 0, 1) := by decide +kernel
theorem dX8_wave_41 : decode cX8_wave 41 = .ok (.getfield 29, 3) := by decide +kernel
theorem dX8_wave_44 : decode cX8_wave 44 = .ok (.iload_n 1, 1) := by decide +kernel
theorem dX8_wave_45 : decode cX8_wave 45 = .ok (.iload_n 2, 1) := by decide +kernel
theorem dX8_wave_46 : decode cX8_wave 46 = .ok (.invokevirtual 159, 3) := by decide +kernel
theorem dX8_wave_49 : decode cX8_wave 49 = .ok (.ireturn, 1) := by decide +kernel
theorem dX8_wave_50 : decode cX8_wave 50 = .ok (.aload_n 0, 1) := by decide +kernel
theorem dX8_wave_51 : decode cX8_wave 51 = .ok (.getfield 29, 3) := by decide +kernel
theorem dX8_wave_54 : decode cX8_wave 54 = .ok (.iload_n 1, 1) := by decide +kernel
theorem dX8_wave_55 : decode cX8_wave 55 = .ok (.iload_n 2, 1) := by decide +kernel
theorem dX8_wave_56 : decode cX8_wave 56 = .ok (.invokevirtual 163, 3) := by decide +kernel
theorem dX8_wave_59 : decode cX8_wave 59 = .ok (.ireturn, 1) := by decide +kernel
theorem dX8_wave_60 : decode cX8_wave 60 = .ok (.ldc 67, 2) := by decide +kernel
theorem dX8_wave_62 : decode cX8_wave 62 = .ok (.ireturn, 1) := by decide +kernel
theorem dX8_gate_0 : decode cX8_gate 0 = .ok (.aload_n 0, 1) := by decide +kernel
theorem dX8_gate_1 : decode cX8_gate 1 = .ok (.getfield 19, 3) := by decide +kernel
theorem dX8_gate_4 : decode cX8_gate 4 = .ok (.iload_n 1, 1) := by decide +kernel
theorem dX8_gate_5 : decode cX8_gate 5 = .ok (.invokevirtual 166, 3) := by decide +kernel
theorem dX8_gate_8 : decode cX8_gate 8 = .ok (.ifCond .ne 6, 3) := by decide +kernel
theorem dX8_gate_11 : decode cX8_gate 11 = .ok (.ldc 142, 2) := by decide +kernel
theorem dX8_gate_13 : decode cX8_gate 13 = .ok (.ireturn, 1) := by decide +kernel
theorem dX8_gate_14 : decode cX8_gate 14 = .ok (.iload_n 2, 1) := by decide +kernel
theorem dX8_gate_15 : decode cX8_gate 15 = .ok (.tableswitch 168 0 9 #[53, 63, 73, 83, 93, 103, 113, 123, 136, 146], 53) := by decide +kernel
theorem dX8_gate_68 : decode cX8_gate 68 = .ok (.aload_n 0, 1) := by decide +kernel
theorem dX8_gate_69 : decode cX8_gate 69 = .ok (.getfield 19, 3) := by decide +kernel
theorem dX8_gate_72 : decode cX8_gate 72 = .ok (.getfield 169, 3) := by decide +kernel
theorem dX8_gate_75 : decode cX8_gate 75 = .ok (.iload_n 1, 1) := by decide +kernel
theorem dX8_gate_76 : decode cX8_gate 76 = .ok (.iaload, 1) := by decide +kernel
theorem dX8_gate_77 : decode cX8_gate 77 = .ok (.ireturn, 1) := by decide +kernel
theorem dX8_gate_78 : decode cX8_gate 78 = .ok (.aload_n 0, 1) := by decide +kernel
theorem dX8_gate_79 : decode cX8_gate 79 = .ok (.getfield 19, 3) := by decide +kernel
theorem dX8_gate_82 : decode cX8_gate 82 = .ok (.getfield 172, 3) := by decide +kernel
theorem dX8_gate_85 : decode cX8_gate 85 = .ok (.iload_n 1, 1) := by decide +kernel
theorem dX8_gate_86 : decode cX8_gate 86 = .ok (.iaload, 1) := by decide +kernel
theorem dX8_gate_87 : decode cX8_gate 87 = .ok (.ireturn, 1) := by decide +kernel
theorem dX8_gate_88 : decode cX8_gate 88 = .ok (.aload_n 0, 1) := by decide +kernel
theorem dX8_gate_89 : decode cX8_gate 89 = .ok (.getfield 19, 3) := by decide +kernel
theorem dX8_gate_92 : decode cX8_gate 92 = .ok (.getfield 175, 3) := by decide +kernel
theorem dX8_gate_95 : decode cX8_gate 95 = .ok (.iload_n 1, 1) := by decide +kernel
theorem dX8_gate_96 : decode cX8_gate 96 = .ok (.iaload, 1) := by decide +kernel
theorem dX8_gate_97 : decode cX8_gate 97 = .ok (.ireturn, 1) := by decide +kernel
theorem dX8_gate_98 : decode cX8_gate 98 = .ok (.aload_n 0, 1) := by decide +kernel
theorem dX8_gate_99 : decode cX8_gate 99 = .ok (.getfield 19, 3) := by decide +kernel
theorem dX8_gate_102 : decode cX8_gate 102 = .ok (.getfield 178, 3) := by decide +kernel
theorem dX8_gate_105 : decode cX8_gate 105 = .ok (.iload_n 1, 1) := by decide +kernel
theorem dX8_gate_106 : decode cX8_gate 106 = .ok (.iaload, 1) := by decide +kernel
theorem dX8_gate_107 : decode cX8_gate 107 = .ok (.ireturn, 1) := by decide +kernel
theorem dX8_gate_108 : decode cX8_gate 108 = .ok (.aload_n 0, 1) := by decide +kernel
theorem dX8_gate_109 : decode cX8_gate 109 = .ok (.getfield 19, 3) := by decide +kernel
theorem dX8_gate_112 : decode cX8_gate 112 = .ok (.getfield 181, 3) := by decide +kernel
theorem dX8_gate_115 : decode cX8_gate 115 = .ok (.iload_n 1, 1) := by decide +kernel
theorem dX8_gate_116 : decode cX8_gate 116 = .ok (.iaload, 1) := by decide +kernel
theorem dX8_gate_117 : decode cX8_gate 117 = .ok (.ireturn, 1) := by decide +kernel
theorem dX8_gate_118 : decode cX8_gate 118 = .ok (.aload_n 0, 1) := by decide +kernel
theorem dX8_gate_119 : decode cX8_gate 119 = .ok (.getfield 19, 3) := by decide +kernel
theorem dX8_gate_122 : decode cX8_gate 122 = .ok (.getfield 184, 3) := by decide +kernel
theorem dX8_gate_125 : decode cX8_gate 125 = .ok (.iload_n 1, 1) := by decide +kernel
theorem dX8_gate_126 : decode cX8_gate 126 = .ok (.iaload, 1) := by decide +kernel
theorem dX8_gate_127 : decode cX8_gate 127 = .ok (.ireturn, 1) := by decide +kernel
theorem dX8_gate_128 : decode cX8_gate 128 = .ok (.aload_n 0, 1) := by decide +kernel
theorem dX8_gate_129 : decode cX8_gate 129 = .ok (.getfield 29, 3) := by decide +kernel
theorem dX8_gate_132 : decode cX8_gate 132 = .ok (.getfield 187, 3) := by decide +kernel
theorem dX8_gate_135 : decode cX8_gate 135 = .ok (.iload_n 1, 1) := by decide +kernel
theorem dX8_gate_136 : decode cX8_gate 136 = .ok (.iaload, 1) := by decide +kernel
theorem dX8_gate_137 : decode cX8_gate 137 = .ok (.ireturn, 1) := by decide +kernel
theorem dX8_gate_138 : decode cX8_gate 138 = .ok (.aload_n 0, 1) := by decide +kernel
theorem dX8_gate_139 : decode cX8_gate 139 = .ok (.getfield 29, 3) := by decide +kernel
theorem dX8_gate_142 : decode cX8_gate 142 = .ok (.aload_n 0, 1) := by decide +kernel
theorem dX8_gate_143 : decode cX8_gate 143 = .ok (.getfield 19, 3) := by decide +kernel
theorem dX8_gate_146 : decode cX8_gate 146 = .ok (.iload_n 1, 1) := by decide +kernel
theorem dX8_gate_147 : decode cX8_gate 147 = .ok (.invokevirtual 190, 3) := by decide +kernel
theorem dX8_gate_150 : decode cX8_gate 150 = .ok (.ireturn, 1) := by decide +kernel
theorem dX8_gate_151 : decode cX8_gate 151 = .ok (.aload_n 0, 1) := by decide +kernel
theorem dX8_gate_152 : decode cX8_gate 152 = .ok (.getfield 29, 3) := by decide +kernel
theorem dX8_gate_155 : decode cX8_gate 155 = .ok (.getfield 194, 3) := by decide +kernel
theorem dX8_gate_158 : decode cX8_gate 158 = .ok (.iload_n 1, 1) := by decide +kernel
theorem dX8_gate_159 : decode cX8_gate 159 = .ok (.iaload, 1) := by decide +kernel
theorem dX8_gate_160 : decode cX8_gate 160 = .ok (.ireturn, 1) := by decide +kernel
theorem dX8_gate_161 : decode cX8_gate 161 = .ok (.aload_n 0, 1) := by decide +kernel
theorem dX8_gate_162 : decode cX8_gate 162 = .ok (.getfield 29, 3) := by decide +kernel
theorem dX8_gate_165 : decode cX8_gate 165 = .ok (.aload_n 0, 1) := by decide +kernel
theorem dX8_gate_166 : decode cX8_gate 166 = .ok (.getfield 19, 3) := by decide +kernel
theorem dX8_gate_169 : decode cX8_gate 169 = .ok (.aload_n 0, 1) := by decide +kernel
theorem dX8_gate_170 : decode cX8_gate 170 = .ok (.getfield 19, 3) := by decide +kernel
theorem dX8_gate_173 : decode cX8_gate 173 = .ok (.getfield 178, 3) := by decide +kernel
theorem dX8_gate_176 : decode cX8_gate 176 = .ok (.iload_n 1, 1) := by decide +kernel
theorem dX8_gate_177 : decode cX8_gate 177 = .ok (.iaload, 1) := by decide +kernel
theorem dX8_gate_178 : decode cX8_gate 178 = .ok (.iload_n 1, 1) := by decide +kernel
theorem dX8_gate_179 : decode cX8_gate 179 = .ok (.invokevirtual 197, 3) := by decide +kernel
theorem dX8_gate_182 : decode cX8_gate 182 = .ok (.ireturn, 1) := by decide +kernel
theorem dX8_gate_183 : decode cX8_gate 183 = .ok (.ldc 67, 2) := by decide +kernel
theorem dX8_gate_185 : decode cX8_gate 185 = .ok (.ireturn, 1) := by decide +kernel
theorem dX8_queue_0 : decode cX8_queue 0 = .ok (.aload_n 0, 1) := by decide +kernel
theorem dX8_queue_1 : decode cX8_queue 1 = .ok (.getfield 19, 3) := by decide +kernel
theorem dX8_queue_4 : decode cX8_queue 4 = .ok (.iload_n 1, 1) := by decide +kernel
theorem dX8_queue_5 : decode cX8_queue 5 = .ok (.invokevirtual 166, 3) := by decide +kernel
theorem dX8_queue_8 : decode cX8_queue 8 = .ok (.ifCond .ne 6, 3) := by decide +kernel
theorem dX8_queue_11 : decode cX8_queue 11 = .ok (.ldc 142, 2) := by decide +kernel
theorem dX8_queue_13 : decode cX8_queue 13 = .ok (.ireturn, 1) := by decide +kernel
theorem dX8_queue_14 : decode cX8_queue 14 = .ok (.iload_n 3, 1) := by decide +kernel
theorem dX8_queue_15 : decode cX8_queue 15 = .ok (.lookupswitch 45 #[(0, 25), (1, 35)], 25) := by decide +kernel
theorem dX8_queue_40 : decode cX8_queue 40 = .ok (.aload_n 0, 1) := by decide +kernel
theorem dX8_queue_41 : decode cX8_queue 41 = .ok (.getfield 29, 3) := by decide +kernel
theorem dX8_queue_44 : decode cX8_queue 44 = .ok (.iload_n 1, 1) := by decide +kernel
theorem dX8_queue_45 : decode cX8_queue 45 = .ok (.iload_n 2, 1) := by decide +kernel
theorem dX8_queue_46 : decode cX8_queue 46 = .ok (.invokevirtual 201, 3) := by decide +kernel
theorem dX8_queue_49 : decode cX8_queue 49 = .ok (.ireturn, 1) := by decide +kernel
theorem dX8_queue_50 : decode cX8_queue 50 = .ok (.aload_n 0, 1) := by decide +kernel
theorem dX8_queue_51 : decode cX8_queue 51 = .ok (.getfield 29, 3) := by decide +kernel
theorem dX8_queue_54 : decode cX8_queue 54 = .ok (.iload_n 1, 1) := by decide +kernel
theorem dX8_queue_55 : decode cX8_queue 55 = .ok (.iload_n 2, 1) := by decide +kernel
theorem dX8_queue_56 : decode cX8_queue 56 = .ok (.invokevirtual 204, 3) := by decide +kernel
theorem dX8_queue_59 : decode cX8_queue 59 = .ok (.ireturn, 1) := by decide +kernel
theorem dX8_queue_60 : decode cX8_queue 60 = .ok (.ldc 67, 2) := by decide +kernel
theorem dX8_queue_62 : decode cX8_queue 62 = .ok (.ireturn, 1) := by decide +kernel
theorem dX8_resolved_0 : decode cX8_resolved 0 = .ok (.iload_n 1, 1) := by decide +kernel
theorem dX8_resolved_1 : decode cX8_resolved 1 = .ok (.invokestatic 207, 3) := by decide +kernel
theorem dX8_resolved_4 : decode cX8_resolved 4 = .ok (.ifCond .eq 10, 3) := by decide +kernel
theorem dX8_resolved_7 : decode cX8_resolved 7 = .ok (.iload_n 2, 1) := by decide +kernel
theorem dX8_resolved_8 : decode cX8_resolved 8 = .ok (.invokestatic 207, 3) := by decide +kernel
theorem dX8_resolved_11 : decode cX8_resolved 11 = .ok (.ifCond .ne 6, 3) := by decide +kernel
theorem dX8_resolved_14 : decode cX8_resolved 14 = .ok (.ldc 142, 2) := by decide +kernel
theorem dX8_resolved_16 : decode cX8_resolved 16 = .ok (.ireturn, 1) := by decide +kernel
theorem dX8_resolved_17 : decode cX8_resolved 17 = .ok (.iload_n 1, 1) := by decide +kernel
theorem dX8_resolved_18 : decode cX8_resolved 18 = .ok (.iload_n 2, 1) := by decide +kernel
theorem dX8_resolved_19 : decode cX8_resolved 19 = .ok (.invokestatic 212, 3) := by decide +kernel
theorem dX8_resolved_22 : decode cX8_resolved 22 = .ok (.ireturn, 1) := by decide +kernel
theorem dX8_comes_0 : decode cX8_comes 0 = .ok (.iload_n 2, 1) := by decide +kernel
theorem dX8_comes_1 : decode cX8_comes 1 = .ok (.invokestatic 207, 3) := by decide +kernel
theorem dX8_comes_4 : decode cX8_comes 4 = .ok (.ifCond .eq 10, 3) := by decide +kernel
theorem dX8_comes_7 : decode cX8_comes 7 = .ok (.iload_n 3, 1) := by decide +kernel
theorem dX8_comes_8 : decode cX8_comes 8 = .ok (.invokestatic 207, 3) := by decide +kernel
theorem dX8_comes_11 : decode cX8_comes 11 = .ok (.ifCond .ne 6, 3) := by decide +kernel
theorem dX8_comes_14 : decode cX8_comes 14 = .ok (.ldc 142, 2) := by decide +kernel
theorem dX8_comes_16 : decode cX8_comes 16 = .ok (.ireturn, 1) := by decide +kernel
theorem dX8_comes_17 : decode cX8_comes 17 = .ok (.iload_n 1, 1) := by decide +kernel
theorem dX8_comes_18 : decode cX8_comes 18 = .ok (.ifCond .lt 8, 3) := by decide +kernel
theorem dX8_comes_21 : decode cX8_comes 21 = .ok (.iload_n 1, 1) := by decide +kernel
theorem dX8_comes_22 : decode cX8_comes 22 = .ok (.iconst 4, 1) := by decide +kernel
theorem dX8_comes_23 : decode cX8_comes 23 = .ok (.if_icmp .le 6, 3) := by decide +kernel
theorem dX8_comes_26 : decode cX8_comes 26 = .ok (.ldc 67, 2) := by decide +kernel
theorem dX8_comes_28 : decode cX8_comes 28 = .ok (.ireturn, 1) := by decide +kernel
theorem dX8_comes_29 : decode cX8_comes 29 = .ok (.iload_n 1, 1) := by decide +kernel
theorem dX8_comes_30 : decode cX8_comes 30 = .ok (.iload_n 2, 1) := by decide +kernel
theorem dX8_comes_31 : decode cX8_comes 31 = .ok (.iload_n 3, 1) := by decide +kernel
theorem dX8_comes_32 : decode cX8_comes 32 = .ok (.iconst 2, 1) := by decide +kernel
theorem dX8_comes_33 : decode cX8_comes 33 = .ok (.invokestatic 215, 3) := by decide +kernel
theorem dX8_comes_36 : decode cX8_comes 36 = .ok (.ireturn, 1) := by decide +kernel
theorem dX8_step_0 : decode cX8_step 0 = .ok (.aload_n 0, 1) := by decide +kernel
theorem dX8_step_1 : decode cX8_step 1 = .ok (.getfield 29, 3) := by decide +kernel
theorem dX8_step_4 : decode cX8_step 4 = .ok (.getfield 109, 3) := by decide +kernel
theorem dX8_step_7 : decode cX8_step 7 = .ok (.ifCond .ne 13, 3) := by decide +kernel
theorem dX8_step_10 : decode cX8_step 10 = .ok (.aload_n 0, 1) := by decide +kernel
theorem dX8_step_11 : decode cX8_step 11 = .ok (.getfield 29, 3) := by decide +kernel
theorem dX8_step_14 : decode cX8_step 14 = .ok (.invokevirtual 113, 3) := by decide +kernel
theorem dX8_step_17 : decode cX8_step 17 = .ok (.ifCond .eq 6, 3) := by decide +kernel
theorem dX8_step_20 : decode cX8_step 20 = .ok (.ldc 219, 2) := by decide +kernel
theorem dX8_step_22 : decode cX8_step 22 = .ok (.ireturn, 1) := by decide +kernel
theorem dX8_step_23 : decode cX8_step 23 = .ok (.aload_n 0, 1) := by decide +kernel
theorem dX8_step_24 : decode cX8_step 24 = .ok (.getfield 39, 3) := by decide +kernel
theorem dX8_step_27 : decode cX8_step 27 = .ok (.aload_n 0, 1) := by decide +kernel
theorem dX8_step_28 : decode cX8_step 28 = .ok (.getfield 29, 3) := by decide +kernel
theorem dX8_step_31 : decode cX8_step 31 = .ok (.invokevirtual 220, 3) := by decide +kernel
theorem dX8_step_34 : decode cX8_step 34 = .ok (.aload_n 0, 1) := by decide +kernel
theorem dX8_step_35 : decode cX8_step 35 = .ok (.getfield 29, 3) := by decide +kernel
theorem dX8_step_38 : decode cX8_step 38 = .ok (.aload_n 0, 1) := by decide +kernel
theorem dX8_step_39 : decode cX8_step 39 = .ok (.getfield 19, 3) := by decide +kernel
theorem dX8_step_42 : decode cX8_step 42 = .ok (.invokevirtual 224, 3) := by decide +kernel
theorem dX8_step_45 : decode cX8_step 45 = .ok (.aload_n 0, 1) := by decide +kernel
theorem dX8_step_46 : decode cX8_step 46 = .ok (.getfield 29, 3) := by decide +kernel
theorem dX8_step_49 : decode cX8_step 49 = .ok (.getfield 103, 3) := by decide +kernel
theorem dX8_step_52 : decode cX8_step 52 = .ok (.ireturn, 1) := by decide +kernel
theorem dX8_run_0 : decode cX8_run 0 = .ok (.iload_n 1, 1) := by decide +kernel
theorem dX8_run_1 : decode cX8_run 1 = .ok (.iconst 1, 1) := by decide +kernel
theorem dX8_run_2 : decode cX8_run 2 = .ok (.if_icmp .lt 10, 3) := by decide +kernel
theorem dX8_run_5 : decode cX8_run 5 = .ok (.iload_n 1, 1) := by decide +kernel
theorem dX8_run_6 : decode cX8_run 6 = .ok (.sipush 200, 3) := by decide +kernel
theorem dX8_run_9 : decode cX8_run 9 = .ok (.if_icmp .le 6, 3) := by decide +kernel
theorem dX8_run_12 : decode cX8_run 12 = .ok (.ldc 67, 2) := by decide +kernel
theorem dX8_run_14 : decode cX8_run 14 = .ok (.ireturn, 1) := by decide +kernel
theorem dX8_run_15 : decode cX8_run 15 = .ok (.aload_n 0, 1) := by decide +kernel
theorem dX8_run_16 : decode cX8_run 16 = .ok (.getfield 29, 3) := by decide +kernel
theorem dX8_run_19 : decode cX8_run 19 = .ok (.getfield 109, 3) := by decide +kernel
theorem dX8_run_22 : decode cX8_run 22 = .ok (.ifCond .eq 6, 3) := by decide +kernel
theorem dX8_run_25 : decode cX8_run 25 = .ok (.ldc 219, 2) := by decide +kernel
theorem dX8_run_27 : decode cX8_run 27 = .ok (.ireturn, 1) := by decide +kernel
theorem dX8_run_28 : decode cX8_run 28 = .ok (.aload_n 0, 1) := by decide +kernel
theorem dX8_run_29 : decode cX8_run 29 = .ok (.getfield 39, 3) := by decide +kernel
theorem dX8_run_32 : decode cX8_run 32 = .ok (.aload_n 0, 1) := by decide +kernel
theorem dX8_run_33 : decode cX8_run 33 = .ok (.getfield 29, 3) := by decide +kernel
theorem dX8_run_36 : decode cX8_run 36 = .ok (.invokevirtual 220, 3) := by decide +kernel
theorem dX8_run_39 : decode cX8_run 39 = .ok (.aload_n 0, 1) := by decide +kernel
theorem dX8_run_40 : decode cX8_run 40 = .ok (.getfield 29, 3) := by decide +kernel
theorem dX8_run_43 : decode cX8_run 43 = .ok (.aload_n 0, 1) := by decide +kernel
theorem dX8_run_44 : decode cX8_run 44 = .ok (.getfield 19, 3) := by decide +kernel
theorem dX8_run_47 : decode cX8_run 47 = .ok (.aload_n 0, 1) := by decide +kernel
theorem dX8_run_48 : decode cX8_run 48 = .ok (.getfield 29, 3) := by decide +kernel
theorem dX8_run_51 : decode cX8_run 51 = .ok (.getfield 103, 3) := by decide +kernel
theorem dX8_run_54 : decode cX8_run 54 = .ok (.iload_n 1, 1) := by decide +kernel
theorem dX8_run_55 : decode cX8_run 55 = .ok (.iadd, 1) := by decide +kernel
theorem dX8_run_56 : decode cX8_run 56 = .ok (.invokevirtual 227, 3) := by decide +kernel
theorem dX8_run_59 : decode cX8_run 59 = .ok (.ireturn, 1) := by decide +kernel
theorem dX8_set_0 : decode cX8_set 0 = .ok (.aload_n 0, 1) := by decide +kernel
theorem dX8_set_1 : decode cX8_set 1 = .ok (.getfield 19, 3) := by decide +kernel
theorem dX8_set_4 : decode cX8_set 4 = .ok (.iload_n 1, 1) := by decide +kernel
theorem dX8_set_5 : decode cX8_set 5 = .ok (.invokevirtual 138, 3) := by decide +kernel
theorem dX8_set_8 : decode cX8_set 8 = .ok (.ifCond .eq 10, 3) := by decide +kernel
theorem dX8_set_11 : decode cX8_set 11 = .ok (.iload_n 2, 1) := by decide +kernel
theorem dX8_set_12 : decode cX8_set 12 = .ok (.invokestatic 207, 3) := by decide +kernel
theorem dX8_set_15 : decode cX8_set 15 = .ok (.ifCond .ne 6, 3) := by decide +kernel
theorem dX8_set_18 : decode cX8_set 18 = .ok (.ldc 142, 2) := by decide +kernel
theorem dX8_set_20 : decode cX8_set 20 = .ok (.ireturn, 1) := by decide +kernel
theorem dX8_set_21 : decode cX8_set 21 = .ok (.iload_n 3, 1) := by decide +kernel
theorem dX8_set_22 : decode cX8_set 22 = .ok (.ifCond .lt 9, 3) := by decide +kernel
theorem dX8_set_25 : decode cX8_set 25 = .ok (.iload_n 3, 1) := by decide +kernel
theorem dX8_set_26 : decode cX8_set 26 = .ok (.bipush 20, 2) := by decide +kernel
theorem dX8_set_28 : decode cX8_set 28 = .ok (.if_icmp .le 6, 3) := by decide +kernel
theorem dX8_set_31 : decode cX8_set 31 = .ok (.ldc 67, 2) := by decide +kernel
theorem dX8_set_33 : decode cX8_set 33 = .ok (.ireturn, 1) := by decide +kernel
theorem dX8_set_34 : decode cX8_set 34 = .ok (.aload_n 0, 1) := by decide +kernel
theorem dX8_set_35 : decode cX8_set 35 = .ok (.iload_n 1, 1) := by decide +kernel
theorem dX8_set_36 : decode cX8_set 36 = .ok (.invokevirtual 230, 3) := by decide +kernel
theorem dX8_set_39 : decode cX8_set 39 = .ok (.ifCond .ne 6, 3) := by decide +kernel
theorem dX8_set_42 : decode cX8_set 42 = .ok (.ldc 219, 2) := by decide +kernel
theorem dX8_set_44 : decode cX8_set 44 = .ok (.ireturn, 1) := by decide +kernel
theorem dX8_set_45 : decode cX8_set 45 = .ok (.aload_n 0, 1) := by decide +kernel
theorem dX8_set_46 : decode cX8_set 46 = .ok (.getfield 29, 3) := by decide +kernel
theorem dX8_set_49 : decode cX8_set 49 = .ok (.invokevirtual 233, 3) := by decide +kernel
theorem dX8_set_52 : decode cX8_set 52 = .ok (.ifCond .eq 6, 3) := by decide +kernel
theorem dX8_set_55 : decode cX8_set 55 = .ok (.ldc 236, 2) := by decide +kernel
theorem dX8_set_57 : decode cX8_set 57 = .ok (.ireturn, 1) := by decide +kernel
theorem dX8_set_58 : decode cX8_set 58 = .ok (.aload_n 0, 1) := by decide +kernel
theorem dX8_set_59 : decode cX8_set 59 = .ok (.getfield 39, 3) := by decide +kernel
theorem dX8_set_62 : decode cX8_set 62 = .ok (.aload_n 0, 1) := by decide +kernel
theorem dX8_set_63 : decode cX8_set 63 = .ok (.getfield 29, 3) := by decide +kernel
theorem dX8_set_66 : decode cX8_set 66 = .ok (.invokevirtual 220, 3) := by decide +kernel
theorem dX8_set_69 : decode cX8_set 69 = .ok (.aload_n 0, 1) := by decide +kernel
theorem dX8_set_70 : decode cX8_set 70 = .ok (.getfield 29, 3) := by decide +kernel
theorem dX8_set_73 : decode cX8_set 73 = .ok (.iload_n 1, 1) := by decide +kernel
theorem dX8_set_74 : decode cX8_set 74 = .ok (.iload_n 2, 1) := by decide +kernel
theorem dX8_set_75 : decode cX8_set 75 = .ok (.aload_n 0, 1) := by decide +kernel
theorem dX8_set_76 : decode cX8_set 76 = .ok (.getfield 29, 3) := by decide +kernel
theorem dX8_set_79 : decode cX8_set 79 = .ok (.getfield 103, 3) := by decide +kernel
theorem dX8_set_82 : decode cX8_set 82 = .ok (.iload_n 3, 1) := by decide +kernel
theorem dX8_set_83 : decode cX8_set 83 = .ok (.iadd, 1) := by decide +kernel
theorem dX8_set_84 : decode cX8_set 84 = .ok (.invokevirtual 237, 3) := by decide +kernel
theorem dX8_set_87 : decode cX8_set 87 = .ok (.aload_n 0, 1) := by decide +kernel
theorem dX8_set_88 : decode cX8_set 88 = .ok (.getfield 29, 3) := by decide +kernel
theorem dX8_set_91 : decode cX8_set 91 = .ok (.getfield 127, 3) := by decide +kernel
theorem dX8_set_94 : decode cX8_set 94 = .ok (.ireturn, 1) := by decide +kernel
theorem dX8_calm_0 : decode cX8_calm 0 = .ok (.aload_n 0, 1) := by decide +kernel
theorem dX8_calm_1 : decode cX8_calm 1 = .ok (.getfield 29, 3) := by decide +kernel
theorem dX8_calm_4 : decode cX8_calm 4 = .ok (.getfield 109, 3) := by decide +kernel
theorem dX8_calm_7 : decode cX8_calm 7 = .ok (.ifCond .ne 6, 3) := by decide +kernel
theorem dX8_calm_10 : decode cX8_calm 10 = .ok (.ldc 219, 2) := by decide +kernel
theorem dX8_calm_12 : decode cX8_calm 12 = .ok (.ireturn, 1) := by decide +kernel
theorem dX8_calm_13 : decode cX8_calm 13 = .ok (.aload_n 0, 1) := by decide +kernel
theorem dX8_calm_14 : decode cX8_calm 14 = .ok (.getfield 39, 3) := by decide +kernel
theorem dX8_calm_17 : decode cX8_calm 17 = .ok (.aload_n 0, 1) := by decide +kernel
theorem dX8_calm_18 : decode cX8_calm 18 = .ok (.getfield 29, 3) := by decide +kernel
theorem dX8_calm_21 : decode cX8_calm 21 = .ok (.invokevirtual 220, 3) := by decide +kernel
theorem dX8_calm_24 : decode cX8_calm 24 = .ok (.aload_n 0, 1) := by decide +kernel
theorem dX8_calm_25 : decode cX8_calm 25 = .ok (.getfield 29, 3) := by decide +kernel
theorem dX8_calm_28 : decode cX8_calm 28 = .ok (.iconst 0, 1) := by decide +kernel
theorem dX8_calm_29 : decode cX8_calm 29 = .ok (.putfield 109, 3) := by decide +kernel
theorem dX8_calm_32 : decode cX8_calm 32 = .ok (.aload_n 0, 1) := by decide +kernel
theorem dX8_calm_33 : decode cX8_calm 33 = .ok (.getfield 29, 3) := by decide +kernel
theorem dX8_calm_36 : decode cX8_calm 36 = .ok (.aload_n 0, 1) := by decide +kernel
