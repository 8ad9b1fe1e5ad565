theorem dX0_init_0 : decode cX0_init 0 = .ok (.aload_n 0, 1) := by decide +kernel
theorem dX0_init_1 : decode cX0_init 1 = .ok (.invokespecial 3, 3) := by decide +kernel
theorem dX0_init_4 : decode cX0_init 4 = .ok (.aload_n 0, 1) := by decide +kernel
theorem dX0_init_5 : decode cX0_init 5 = .ok (.iconst 4, 1) := by decide +kernel
theorem dX0_init_6 : decode cX0_init 6 = .ok (.newarray .int, 2) := by decide +kernel
theorem dX0_init_8 : decode cX0_init 8 = .ok (.putfield 9, 3) := by decide +kernel
theorem dX0_init_11 : decode cX0_init 11 = .ok (.aload_n 0, 1) := by decide +kernel
theorem dX0_init_12 : decode cX0_init 12 = .ok (.iconst 0, 1) := by decide +kernel
theorem dX0_init_13 : decode cX0_init 13 = .ok (.putfield 15, 3) := by decide +kernel
theorem dX0_init_16 : decode cX0_init 16 = .ok (.aload_n 0, 1) := by decide +kernel
theorem dX0_init_17 : decode cX0_init 17 = .ok (.iconst 0, 1) := by decide +kernel
theorem dX0_init_18 : decode cX0_init 18 = .ok (.putfield 19, 3) := by decide +kernel
theorem dX0_init_21 : decode cX0_init 21 = .ok (.return_, 1) := by decide +kernel
theorem dX0_copyFrom_0 : decode cX0_copyFrom 0 = .ok (.aload_n 1, 1) := by decide +kernel
theorem dX0_copyFrom_1 : decode cX0_copyFrom 1 = .ok (.getfield 9, 3) := by decide +kernel
theorem dX0_copyFrom_4 : decode cX0_copyFrom 4 = .ok (.iconst 0, 1) := by decide +kernel
theorem dX0_copyFrom_5 : decode cX0_copyFrom 5 = .ok (.aload_n 0, 1) := by decide +kernel
theorem dX0_copyFrom_6 : decode cX0_copyFrom 6 = .ok (.getfield 9, 3) := by decide +kernel
theorem dX0_copyFrom_9 : decode cX0_copyFrom 9 = .ok (.iconst 0, 1) := by decide +kernel
theorem dX0_copyFrom_10 : decode cX0_copyFrom 10 = .ok (.aload_n 0, 1) := by decide +kernel
theorem dX0_copyFrom_11 : decode cX0_copyFrom 11 = .ok (.getfield 9, 3) := by decide +kernel
theorem dX0_copyFrom_14 : decode cX0_copyFrom 14 = .ok (.arraylength, 1) := by decide +kernel
theorem dX0_copyFrom_15 : decode cX0_copyFrom 15 = .ok (.invokestatic 22, 3) := by decide +kernel
theorem dX0_copyFrom_18 : decode cX0_copyFrom 18 = .ok (.aload_n 0, 1) := by decide +kernel
theorem dX0_copyFrom_19 : decode cX0_copyFrom 19 = .ok (.aload_n 1, 1) := by decide +kernel
theorem dX0_copyFrom_20 : decode cX0_copyFrom 20 = .ok (.getfield 15, 3) := by decide +kernel
theorem dX0_copyFrom_23 : decode cX0_copyFrom 23 = .ok (.putfield 15, 3) := by decide +kernel
theorem dX0_copyFrom_26 : decode cX0_copyFrom 26 = .ok (.aload_n 0, 1) := by decide +kernel
theorem dX0_copyFrom_27 : decode cX0_copyFrom 27 = .ok (.aload_n 1, 1) := by decide +kernel
theorem dX0_copyFrom_28 : decode cX0_copyFrom 28 = .ok (.getfield 19, 3) := by decide +kernel
theorem dX0_copyFrom_31 : decode cX0_copyFrom 31 = .ok (.putfield 19, 3) := by decide +kernel
theorem dX0_copyFrom_34 : decode cX0_copyFrom 34 = .ok (.return_, 1) := by decide +kernel
theorem dX0_tests_0 : decode cX0_tests 0 = .ok (.iconst 0, 1) := by decide +kernel
theorem dX0_tests_1 : decode cX0_tests 1 = .ok (.istore_n 1, 1) := by decide +kernel
theorem dX0_tests_2 : decode cX0_tests 2 = .ok (.iconst 0, 1) := by decide +kernel
theorem dX0_tests_3 : decode cX0_tests 3 = .ok (.istore_n 2, 1) := by decide +kernel
theorem dX0_tests_4 : decode cX0_tests 4 = .ok (.iload_n 2, 1) := by decide +kernel
theorem dX0_tests_5 : decode cX0_tests 5 = .ok (.aload_n 0, 1) := by decide +kernel
theorem dX0_tests_6 : decode cX0_tests 6 = .ok (.getfield 9, 3) := by decide +kernel
theorem dX0_tests_9 : decode cX0_tests 9 = .ok (.arraylength, 1) := by decide +kernel
theorem dX0_tests_10 : decode cX0_tests 10 = .ok (.if_icmp .ge 18, 3) := by decide +kernel
theorem dX0_tests_13 : decode cX0_tests 13 = .ok (.iload_n 1, 1) := by decide +kernel
theorem dX0_tests_14 : decode cX0_tests 14 = .ok (.aload_n 0, 1) := by decide +kernel
theorem dX0_tests_15 : decode cX0_tests 15 = .ok (.getfield 9, 3) := by decide +kernel
theorem dX0_tests_18 : decode cX0_tests 18 = .ok (.iload_n 2, 1) := by decide +kernel
theorem dX0_tests_19 : decode cX0_tests 19 = .ok (.iaload, 1) := by decide +kernel
theorem dX0_tests_20 : decode cX0_tests 20 = .ok (.iadd, 1) := by decide +kernel
theorem dX0_tests_21 : decode cX0_tests 21 = .ok (.istore_n 1, 1) := by decide +kernel
theorem dX0_tests_22 : decode cX0_tests 22 = .ok (.iinc 2 1, 3) := by decide +kernel
theorem dX0_tests_25 : decode cX0_tests 25 = .ok (.goto (-21), 3) := by decide +kernel
theorem dX0_tests_28 : decode cX0_tests 28 = .ok (.iload_n 1, 1) := by decide +kernel
theorem dX0_tests_29 : decode cX0_tests 29 = .ok (.ireturn, 1) := by decide +kernel
theorem dX0_leastUsedRouteBut_0 : decode cX0_leastUsedRouteBut 0 = .ok (.iload_n 1, 1) := by decide +kernel
theorem dX0_leastUsedRouteBut_1 : decode cX0_leastUsedRouteBut 1 = .ok (.ifCond .ne 7, 3) := by decide +kernel
theorem dX0_leastUsedRouteBut_4 : decode cX0_leastUsedRouteBut 4 = .ok (.iconst 1, 1) := by decide +kernel
theorem dX0_leastUsedRouteBut_5 : decode cX0_leastUsedRouteBut 5 = .ok (.goto 4, 3) := by decide +kernel
theorem dX0_leastUsedRouteBut_8 : decode cX0_leastUsedRouteBut 8 = .ok (.iconst 0, 1) := by decide +kernel
theorem dX0_leastUsedRouteBut_9 : decode cX0_leastUsedRouteBut 9 = .ok (.istore_n 2, 1) := by decide +kernel
theorem dX0_leastUsedRouteBut_10 : decode cX0_leastUsedRouteBut 10 = .ok (.iload_n 2, 1) := by decide +kernel
theorem dX0_leastUsedRouteBut_11 : decode cX0_leastUsedRouteBut 11 = .ok (.iconst 1, 1) := by decide +kernel
theorem dX0_leastUsedRouteBut_12 : decode cX0_leastUsedRouteBut 12 = .ok (.iadd, 1) := by decide +kernel
theorem dX0_leastUsedRouteBut_13 : decode cX0_leastUsedRouteBut 13 = .ok (.istore_n 3, 1) := by decide +kernel
theorem dX0_leastUsedRouteBut_14 : decode cX0_leastUsedRouteBut 14 = .ok (.iload_n 3, 1) := by decide +kernel
theorem dX0_leastUsedRouteBut_15 : decode cX0_leastUsedRouteBut 15 = .ok (.aload_n 0, 1) := by decide +kernel
theorem dX0_leastUsedRouteBut_16 : decode cX0_leastUsedRouteBut 16 = .ok (.getfield 9, 3) := by decide +kernel
theorem dX0_leastUsedRouteBut_19 : decode cX0_leastUsedRouteBut 19 = .ok (.arraylength, 1) := by decide +kernel
theorem dX0_leastUsedRouteBut_20 : decode cX0_leastUsedRouteBut 20 = .ok (.if_icmp .ge 31, 3) := by decide +kernel
theorem dX0_leastUsedRouteBut_23 : decode cX0_leastUsedRouteBut 23 = .ok (.iload_n 3, 1) := by decide +kernel
theorem dX0_leastUsedRouteBut_24 : decode cX0_leastUsedRouteBut 24 = .ok (.iload_n 1, 1) := by decide +kernel
theorem dX0_leastUsedRouteBut_25 : decode cX0_leastUsedRouteBut 25 = .ok (.if_icmp .eq 20, 3) := by decide +kernel
theorem dX0_leastUsedRouteBut_28 : decode cX0_leastUsedRouteBut 28 = .ok (.aload_n 0, 1) := by decide +kernel
theorem dX0_leastUsedRouteBut_29 : decode cX0_leastUsedRouteBut 29 = .ok (.getfield 9, 3) := by decide +kernel
theorem dX0_leastUsedRouteBut_32 : decode cX0_leastUsedRouteBut 32 = .ok (.iload_n 3, 1) := by decide +kernel
theorem dX0_leastUsedRouteBut_33 : decode cX0_leastUsedRouteBut 33 = .ok (.iaload, 1) := by decide +kernel
theorem dX0_leastUsedRouteBut_34 : decode cX0_leastUsedRouteBut 34 = .ok (.aload_n 0, 1) := by decide +kernel
theorem dX0_leastUsedRouteBut_35 : decode cX0_leastUsedRouteBut 35 = .ok (.getfield 9, 3) := by decide +kernel
theorem dX0_leastUsedRouteBut_38 : decode cX0_leastUsedRouteBut 38 = .ok (.iload_n 2, 1) := by decide +kernel
theorem dX0_leastUsedRouteBut_39 : decode cX0_leastUsedRouteBut 39 = .ok (.iaload, 1) := by decide +kernel
theorem dX0_leastUsedRouteBut_40 : decode cX0_leastUsedRouteBut 40 = .ok (.if_icmp .ge 5, 3) := by decide +kernel
theorem dX0_leastUsedRouteBut_43 : decode cX0_leastUsedRouteBut 43 = .ok (.iload_n 3, 1) := by decide +kernel
theorem dX0_leastUsedRouteBut_44 : decode cX0_leastUsedRouteBut 44 = .ok (.istore_n 2, 1) := by decide +kernel
theorem dX0_leastUsedRouteBut_45 : decode cX0_leastUsedRouteBut 45 = .ok (.iinc 3 1, 3) := by decide +kernel
theorem dX0_leastUsedRouteBut_48 : decode cX0_leastUsedRouteBut 48 = .ok (.goto (-34), 3) := by decide +kernel
theorem dX0_leastUsedRouteBut_51 : decode cX0_leastUsedRouteBut 51 = .ok (.iload_n 2, 1) := by decide +kernel
theorem dX0_leastUsedRouteBut_52 : decode cX0_leastUsedRouteBut 52 = .ok (.ireturn, 1) := by decide +kernel
theorem dX1_init_0 : decode cX1_init 0 = .ok (.aload_n 0, 1) := by decide +kernel
theorem dX1_init_1 : decode cX1_init 1 = .ok (.invokespecial 3, 3) := by decide +kernel
theorem dX1_init_4 : decode cX1_init 4 = .ok (.aload_n 0, 1) := by decide +kernel
theorem dX1_init_5 : decode cX1_init 5 = .ok (.iconst 0, 1) := by decide +kernel
theorem dX1_init_6 : decode cX1_init 6 = .ok (.putfield 9, 3) := by decide +kernel
theorem dX1_init_9 : decode cX1_init 9 = .ok (.aload_n 0, 1) := by decide +kernel
theorem dX1_init_10 : decode cX1_init 10 = .ok (.iconst 0, 1) := by decide +kernel
theorem dX1_init_11 : decode cX1_init 11 = .ok (.putfield 15, 3) := by decide +kernel
theorem dX1_init_14 : decode cX1_init 14 = .ok (.aload_n 0, 1) := by decide +kernel
theorem dX1_init_15 : decode cX1_init 15 = .ok (.iconst 0, 1) := by decide +kernel
theorem dX1_init_16 : decode cX1_init 16 = .ok (.putfield 18, 3) := by decide +kernel
theorem dX1_init_19 : decode cX1_init 19 = .ok (.aload_n 0, 1) := by decide +kernel
theorem dX1_init_20 : decode cX1_init 20 = .ok (.iconst 0, 1) := by decide +kernel
theorem dX1_init_21 : decode cX1_init 21 = .ok (.putfield 21, 3) := by decide +kernel
theorem dX1_init_24 : decode cX1_init 24 = .ok (.aload_n 0, 1) := by decide +kernel
theorem dX1_init_25 : decode cX1_init 25 = .ok (.iconst 0, 1) := by decide +kernel
theorem dX1_init_26 : decode cX1_init 26 = .ok (.putfield 24, 3) := by decide +kernel
theorem dX1_init_29 : decode cX1_init 29 = .ok (.aload_n 0, 1) := by decide +kernel
theorem dX1_init_30 : decode cX1_init 30 = .ok (.getstatic 27, 3) := by decide +kernel
theorem dX1_init_33 : decode cX1_init 33 = .ok (.arraylength, 1) := by decide +kernel
theorem dX1_init_34 : decode cX1_init 34 = .ok (.newarray .int, 2) := by decide +kernel
theorem dX1_init_36 : decode cX1_init 36 = .ok (.putfield 31, 3) := by decide +kernel
theorem dX1_init_39 : decode cX1_init 39 = .ok (.aload_n 0, 1) := by decide +kernel
theorem dX1_init_40 : decode cX1_init 40 = .ok (.sipush 160, 3) := by decide +kernel
theorem dX1_init_43 : decode cX1_init 43 = .ok (.newarray .int, 2) := by decide +kernel
theorem dX1_init_45 : decode cX1_init 45 = .ok (.putfield 34, 3) := by decide +kernel
theorem dX1_init_48 : decode cX1_init 48 = .ok (.aload_n 0, 1) := by decide +kernel
theorem dX1_init_49 : decode cX1_init 49 = .ok (.bipush 12, 2) := by decide +kernel
theorem dX1_init_51 : decode cX1_init 51 = .ok (.anewarray 37, 3) := by decide +kernel
theorem dX1_init_54 : decode cX1_init 54 = .ok (.putfield 39, 3) := by decide +kernel
theorem dX1_init_57 : decode cX1_init 57 = .ok (.aload_n 0, 1) := by decide +kernel
theorem dX1_init_58 : decode cX1_init 58 = .ok (.iconst 4, 1) := by decide +kernel
theorem dX1_init_59 : decode cX1_init 59 = .ok (.anewarray 43, 3) := by decide +kernel
theorem dX1_init_62 : decode cX1_init 62 = .ok (.putfield 45, 3) := by decide +kernel
theorem dX1_init_65 : decode cX1_init 65 = .ok (.aload_n 0, 1) := by decide +kernel
theorem dX1_init_66 : decode cX1_init 66 = .ok (.bipush 12, 2) := by decide +kernel
theorem dX1_init_68 : decode cX1_init 68 = .ok (.newarray .int, 2) := by decide +kernel
theorem dX1_init_70 : decode cX1_init 70 = .ok (.putfield 49, 3) := by decide +kernel
theorem dX1_init_73 : decode cX1_init 73 = .ok (.getstatic 27, 3) := by decide +kernel
theorem dX1_init_76 : decode cX1_init 76 = .ok (.iconst 0, 1) := by decide +kernel
theorem dX1_init_77 : decode cX1_init 77 = .ok (.aload_n 0, 1) := by decide +kernel
theorem dX1_init_78 : decode cX1_init 78 = .ok (.getfield 31, 3) := by decide +kernel
theorem dX1_init_81 : decode cX1_init 81 = .ok (.iconst 0, 1) := by decide +kernel
theorem dX1_init_82 : decode cX1_init 82 = .ok (.aload_n 0, 1) := by decide +kernel
theorem dX1_init_83 : decode cX1_init 83 = .ok (.getfield 31, 3) := by decide +kernel
theorem dX1_init_86 : decode cX1_init 86 = .ok (.arraylength, 1) := by decide +kernel
theorem dX1_init_87 : decode cX1_init 87 = .ok (.invokestatic 52, 3) := by decide +kernel
theorem dX1_init_90 : decode cX1_init 90 = .ok (.aload_n 0, 1) := by decide +kernel
theorem dX1_init_91 : decode cX1_init 91 = .ok (.getfield 34, 3) := by decide +kernel
theorem dX1_init_94 : decode cX1_init 94 = .ok (.bipush (-2), 2) := by decide +kernel
theorem dX1_init_96 : decode cX1_init 96 = .ok (.invokestatic 58, 3) := by decide +kernel
theorem dX1_init_99 : decode cX1_init 99 = .ok (.iconst 0, 1) := by decide +kernel
theorem dX1_init_100 : decode cX1_init 100 = .ok (.istore_n 1, 1) := by decide +kernel
theorem dX1_init_101 : decode cX1_init 101 = .ok (.iload_n 1, 1) := by decide +kernel
theorem dX1_init_102 : decode cX1_init 102 = .ok (.aload_n 0, 1) := by decide +kernel
theorem dX1_init_103 : decode cX1_init 103 = .ok (.getfield 39, 3) := by decide +kernel
theorem dX1_init_106 : decode cX1_init 106 = .ok (.arraylength, 1) := by decide +kernel
theorem dX1_init_107 : decode cX1_init 107 = .ok (.if_icmp .ge 22, 3) := by decide +kernel
theorem dX1_init_110 : decode cX1_init 110 = .ok (.aload_n 0, 1) := by decide +kernel
theorem dX1_init_111 : decode cX1_init 111 = .ok (.getfield 39, 3) := by decide +kernel
theorem dX1_init_114 : decode cX1_init 114 = .ok (.iload_n 1, 1) := by decide +kernel
theorem dX1_init_115 : decode cX1_init 115 = .ok (.new 37, 3) := by decide +kernel
theorem dX1_init_118 : decode cX1_init 118 = .ok (.dup, 1) := by decide +kernel
theorem dX1_init_119 : decode cX1_init 119 = .ok (.invokespecial 64, 3) := by decide +kernel
theorem dX1_init_122 : decode cX1_init 122 = .ok (.aastore, 1) := by decide +kernel
theorem dX1_init_123 : decode cX1_init 123 = .ok (.iinc 1 1, 3) := by decide +kernel
theorem dX1_init_126 : decode cX1_init 126 = .ok (.goto (-25), 3) := by decide +kernel
theorem dX1_init_129 : decode cX1_init 129 = .ok (.iconst 0, 1) := by decide +kernel
theorem dX1_init_130 : decode cX1_init 130 = .ok (.istore_n 1, 1) := by decide +kernel
theorem dX1_init_131 : decode cX1_init 131 = .ok (.iload_n 1, 1) := by decide +kernel
theorem dX1_init_132 : decode cX1_init 132 = .ok (.aload_n 0, 1) := by decide +kernel
theorem dX1_init_133 : decode cX1_init 133 = .ok (.getfield 45, 3) := by decide +kernel
theorem dX1_init_136 : decode cX1_init 136 = .ok (.arraylength, 1) := by decide +kernel
theorem dX1_init_137 : decode cX1_init 137 = .ok (.if_icmp .ge 22, 3) := by decide +kernel
theorem dX1_init_140 : decode cX1_init 140 = .ok (.aload_n 0, 1) := by decide +kernel
theorem dX1_init_141 : decode cX1_init 141 = .ok (.getfield 45, 3) := by decide +kernel
theorem dX1_init_144 : decode cX1_init 144 = .ok (.iload_n 1, 1) := by decide +kernel
theorem dX1_init_145 : decode cX1_init 145 = .ok (.new 43, 3) := by decide +kernel
theorem dX1_init_148 : decode cX1_init 148 = .ok (.dup, 1) := by decide +kernel
theorem dX1_init_149 : decode cX1_init 149 = .ok (.invokespecial 65, 3) := by decide +kernel
theorem dX1_init_152 : decode cX1_init 152 = .ok (.aastore, 1) := by decide +kernel
theorem dX1_init_153 : decode cX1_init 153 = .ok (.iinc 1 1, 3) := by decide +kernel
theorem dX1_init_156 : decode cX1_init 156 = .ok (.goto (-25), 3) := by decide +kernel
theorem dX1_init_159 : decode cX1_init 159 = .ok (.return_, 1) := by decide +kernel
theorem dX1_copyFrom_0 : decode cX1_copyFrom 0 = .ok (.aload_n 0, 1) := by decide +kernel
theorem dX1_copyFrom_1 : decode cX1_copyFrom 1 = .ok (.aload_n 1, 1) := by decide +kernel
theorem dX1_copyFrom_2 : decode cX1_copyFrom 2 = .ok (.getfield 9, 3) := by decide +kernel
theorem dX1_copyFrom_5 : decode cX1_copyFrom 5 = .ok (.putfield 9, 3) := by decide +kernel
theorem dX1_copyFrom_8 : decode cX1_copyFrom 8 = .ok (.aload_n 0, 1) := by decide +kernel
theorem dX1_copyFrom_9 : decode cX1_copyFrom 9 = .ok (.aload_n 1, 1) := by decide +kernel
theorem dX1_copyFrom_10 : decode cX1_copyFrom 10 = .ok (.getfield 15, 3) := by decide +kernel
theorem dX1_copyFrom_13 : decode cX1_copyFrom 13 = .ok (.putfield 15, 3) := by decide +kernel
theorem dX1_copyFrom_16 : decode cX1_copyFrom 16 = .ok (.aload_n 0, 1) := by decide +kernel
theorem dX1_copyFrom_17 : decode cX1_copyFrom 17 = .ok (.aload_n 1, 1) := by decide +kernel
theorem dX1_copyFrom_18 : decode cX1_copyFrom 18 = .ok (.getfield 18, 3) := by decide +kernel
theorem dX1_copyFrom_21 : decode cX1_copyFrom 21 = .ok (.putfield 18, 3) := by decide +kernel
theorem dX1_copyFrom_24 : decode cX1_copyFrom 24 = .ok (.aload_n 0, 1) := by decide +kernel
theorem dX1_copyFrom_25 : decode cX1_copyFrom 25 = .ok (.aload_n 1, 1) := by decide +kernel
theorem dX1_copyFrom_26 : decode cX1_copyFrom 26 = .ok (.getfield 21, 3) := by decide +kernel
theorem dX1_copyFrom_29 : decode cX1_copyFrom 29 = .ok (.putfield 21, 3) := by decide +kernel
theorem dX1_copyFrom_32 : decode cX1_copyFrom 32 = .ok (.aload_n 0, 1) := by decide +kernel
theorem dX1_copyFrom_33 : decode cX1_copyFrom 33 = .ok (.aload_n 1, 1) := by decide +kernel
theorem dX1_copyFrom_34 : decode cX1_copyFrom 34 = .ok (.getfield 24, 3) := by decide +kernel
theorem dX1_copyFrom_37 : decode cX1_copyFrom 37 = .ok (.putfield 24, 3) := by decide +kernel
theorem dX1_copyFrom_40 : decode cX1_copyFrom 40 = .ok (.aload_n 1, 1) := by decide +kernel
theorem dX1_copyFrom_41 : decode cX1_copyFrom 41 = .ok (.getfield 31, 3) := by decide +kernel
theorem dX1_copyFrom_44 : decode cX1_copyFrom 44 = .ok (.iconst 0, 1) := by decide +kernel
theorem dX1_copyFrom_45 : decode cX1_copyFrom 45 = .ok (.aload_n 0, 1) := by decide +kernel
theorem dX1_copyFrom_46 : decode cX1_copyFrom 46 = .ok (.getfield 31, 3) := by decide +kernel
theorem dX1_copyFrom_49 : decode cX1_copyFrom 49 = .ok (.iconst 0, 1) := by decide +kernel
theorem dX1_copyFrom_50 : decode cX1_copyFrom 50 = .ok (.aload_n 0, 1) := by decide +kernel
theorem dX1_copyFrom_51 : decode cX1_copyFrom 51 = .ok (.getfield 31, 3) := by decide +kernel
theorem dX1_copyFrom_54 : decode cX1_copyFrom 54 = .ok (.arraylength, 1) := by decide +kernel
theorem dX1_copyFrom_55 : decode cX1_copyFrom 55 = .ok (.invokestatic 52, 3) := by decide +kernel
theorem dX1_copyFrom_58 : decode cX1_copyFrom 58 = .ok (.aload_n 1, 1) := by decide +kernel
theorem dX1_copyFrom_59 : decode cX1_copyFrom 59 = .ok (.getfield 34, 3) := by decide +kernel
theorem dX1_copyFrom_62 : decode cX1_copyFrom 62 = .ok (.iconst 0, 1) := by decide +kernel
theorem dX1_copyFrom_63 : decode cX1_copyFrom 63 = .ok (.aload_n 0, 1) := by decide +kernel
theorem dX1_copyFrom_64 : decode cX1_copyFrom 64 = .ok (.getfield 34, 3) := by decide +kernel
theorem dX1_copyFrom_67 : decode cX1_copyFrom 67 = .ok (.iconst 0, 1) := by decide +kernel
theorem dX1_copyFrom_68 : decode cX1_copyFrom 68 = .ok (.aload_n 0, 1) := by decide +kernel
theorem dX1_copyFrom_69 : decode cX1_copyFrom 69 = .ok (.getfield 34, 3) := by decide +kernel
theorem dX1_copyFrom_72 : decode cX1_copyFrom 72 = .ok (.arraylength, 1) := by decide +kernel
theorem dX1_copyFrom_73 : decode cX1_copyFrom 73 = .ok (.invokestatic 52, 3) := by decide +kernel
theorem dX1_copyFrom_76 : decode cX1_copyFrom 76 = .ok (.iconst 0, 1) := by decide +kernel
theorem dX1_copyFrom_77 : decode cX1_copyFrom 77 = .ok (.istore_n 2, 1) := by decide +kernel
theorem dX1_copyFrom_78 : decode cX1_copyFrom 78 = .ok (.iload_n 2, 1) := by decide +kernel
theorem dX1_copyFrom_79 : decode cX1_copyFrom 79 = .ok (.aload_n 0, 1) := by decide +kernel
theorem dX1_copyFrom_80 : decode cX1_copyFrom 80 = .ok (.getfield 39, 3) := by decide +kernel
theorem dX1_copyFrom_83 : decode cX1_copyFrom 83 = .ok (.arraylength, 1) := by decide +kernel
theorem dX1_copyFrom_84 : decode cX1_copyFrom 84 = .ok (.if_icmp .ge 24, 3) := by decide +kernel
theorem dX1_copyFrom_87 : decode cX1_copyFrom 87 = .ok (.aload_n 0, 1) := by decide +kernel
theorem dX1_copyFrom_88 : decode cX1_copyFrom 88 = .ok (.getfield 39, 3) := by decide +kernel
theorem dX1_copyFrom_91 : decode cX1_copyFrom 91 = .ok (.iload_n 2, 1) := by decide +kernel
theorem dX1_copyFrom_92 : decode cX1_copyFrom 92 = .ok (.aaload, 1) := by decide +kernel
theorem dX1_copyFrom_93 : decode cX1_copyFrom 93 = .ok (.aload_n 1, 1) := by decide +kernel
theorem dX1_copyFrom_94 : decode cX1_copyFrom 94 = .ok (.getfield 39, 3) := by decide +kernel
theorem dX1_copyFrom_97 : decode cX1_copyFrom 97 = .ok (.iload_n 2, 1) := by decide +kernel
theorem dX1_copyFrom_98 : decode cX1_copyFrom 98 = .ok (.aaload, 1) := by decide +kernel
theorem dX1_copyFrom_99 : decode cX1_copyFrom 99 = .ok (.invokevirtual 66, 3) := by decide +kernel
theorem dX1_copyFrom_102 : decode cX1_copyFrom 102 = .ok (.iinc 2 1, 3) := by decide +kernel
theorem dX1_copyFrom_105 : decode cX1_copyFrom 105 = .ok (.goto (-27), 3) := by decide +kernel
theorem dX1_copyFrom_108 : decode cX1_copyFrom 108 = .ok (.iconst 0, 1) := by decide +kernel
theorem dX1_copyFrom_109 : decode cX1_copyFrom 109 = .ok (.istore_n 2, 1) := by decide +kernel
theorem dX1_copyFrom_110 : decode cX1_copyFrom 110 = .ok (.iload_n 2, 1) := by decide +kernel
theorem dX1_copyFrom_111 : decode cX1_copyFrom 111 = .ok (.aload_n 0, 1) := by decide +kernel
theorem dX1_copyFrom_112 : decode cX1_copyFrom 112 = .ok (.getfield 45, 3) := by decide +kernel
theorem dX1_copyFrom_115 : decode cX1_copyFrom 115 = .ok (.arraylength, 1) := by decide +kernel
theorem dX1_copyFrom_116 : decode cX1_copyFrom 116 = .ok (.if_icmp .ge 24, 3) := by decide +kernel
theorem dX1_copyFrom_119 : decode cX1_copyFrom 119 = .ok (.aload_n 0, 1) := by decide +kernel
theorem dX1_copyFrom_120 : decode cX1_copyFrom 120 = .ok (.getfield 45, 3) := by decide +kernel
theorem dX1_copyFrom_123 : decode cX1_copyFrom 123 = .ok (.iload_n 2, 1) := by decide +kernel
theorem dX1_copyFrom_124 : decode cX1_copyFrom 124 = .ok (.aaload, 1) := by decide +kernel
theorem dX1_copyFrom_125 : decode cX1_copyFrom 125 = .ok (.aload_n 1, 1) := by decide +kernel
theorem dX1_copyFrom_126 : decode cX1_copyFrom 126 = .ok (.getfield 45, 3) := by decide +kernel
theorem dX1_copyFrom_129 : decode cX1_copyFrom 129 = .ok (.iload_n 2, 1) := by decide +kernel
theorem dX1_copyFrom_130 : decode cX1_copyFrom 130 = .ok (.aaload, 1) := by decide +kernel
theorem dX1_copyFrom_131 : decode cX1_copyFrom 131 = .ok (.invokevirtual 70, 3) := by decide +kernel
theorem dX1_copyFrom_134 : decode cX1_copyFrom 134 = .ok (.iinc 2 1, 3) := by decide +kernel
theorem dX1_copyFrom_137 : decode cX1_copyFrom 137 = .ok (.goto (-27), 3) := by decide +kernel
theorem dX1_copyFrom_140 : decode cX1_copyFrom 140 = .ok (.return_, 1) := by decide +kernel
theorem dX1_hasPupil_0 : decode cX1_hasPupil 0 = .ok (.iload_n 1, 1) := by decide +kernel
theorem dX1_hasPupil_1 : decode cX1_hasPupil 1 = .ok (.ifCond .lt 15, 3) := by decide +kernel
theorem dX1_hasPupil_4 : decode cX1_hasPupil 4 = .ok (.iload_n 1, 1) := by decide +kernel
theorem dX1_hasPupil_5 : decode cX1_hasPupil 5 = .ok (.aload_n 0, 1) := by decide +kernel
theorem dX1_hasPupil_6 : decode cX1_hasPupil 6 = .ok (.getfield 18, 3) := by decide +kernel
theorem dX1_hasPupil_9 : decode cX1_hasPupil 9 = .ok (.if_icmp .ge 7, 3) := by decide +kernel
theorem dX1_hasPupil_12 : decode cX1_hasPupil 12 = .ok (.iconst 1, 1) := by decide +kernel
theorem dX1_hasPupil_13 : decode cX1_hasPupil 13 = .ok (.goto 4, 3) := by decide +kernel
theorem dX1_hasPupil_16 : decode cX1_hasPupil 16 = .ok (.iconst 0, 1) := by decide +kernel
theorem dX1_hasPupil_17 : decode cX1_hasPupil 17 = .ok (.ireturn, 1) := by decide +kernel
theorem dX1_hasExaminer_0 : decode cX1_hasExaminer 0 = .ok (.iload_n 1, 1) := by decide +kernel
theorem dX1_hasExaminer_1 : decode cX1_hasExaminer 1 = .ok (.ifCond .lt 15, 3) := by decide +kernel
theorem dX1_hasExaminer_4 : decode cX1_hasExaminer 4 = .ok (.iload_n 1, 1) := by decide +kernel
theorem dX1_hasExaminer_5 : decode cX1_hasExaminer 5 = .ok (.aload_n 0, 1) := by decide +kernel
theorem dX1_hasExaminer_6 : decode cX1_hasExaminer 6 = .ok (.getfield 15, 3) := by decide +kernel
theorem dX1_hasExaminer_9 : decode cX1_hasExaminer 9 = .ok (.if_icmp .ge 7, 3) := by decide +kernel
theorem dX1_hasExaminer_12 : decode cX1_hasExaminer 12 = .ok (.iconst 1, 1) := by decide +kernel
theorem dX1_hasExaminer_13 : decode cX1_hasExaminer 13 = .ok (.goto 4, 3) := by decide +kernel
theorem dX1_hasExaminer_16 : decode cX1_hasExaminer 16 = .ok (.iconst 0, 1) := by decide +kernel
theorem dX1_hasExaminer_17 : decode cX1_hasExaminer 17 = .ok (.ireturn, 1) := by decide +kernel
theorem dX1_takeOnExaminer_0 : decode cX1_takeOnExaminer 0 = .ok (.aload_n 0, 1) := by decide +kernel
theorem dX1_takeOnExaminer_1 : decode cX1_takeOnExaminer 1 = .ok (.getfield 15, 3) := by decide +kernel
theorem dX1_takeOnExaminer_4 : decode cX1_takeOnExaminer 4 = .ok (.istore_n 1, 1) := by decide +kernel
theorem dX1_takeOnExaminer_5 : decode cX1_takeOnExaminer 5 = .ok (.aload_n 0, 1) := by decide +kernel
theorem dX1_takeOnExaminer_6 : decode cX1_takeOnExaminer 6 = .ok (.dup, 1) := by decide +kernel
theorem dX1_takeOnExaminer_7 : decode cX1_takeOnExaminer 7 = .ok (.getfield 15, 3) := by decide +kernel
theorem dX1_takeOnExaminer_10 : decode cX1_takeOnExaminer 10 = .ok (.iconst 1, 1) := by decide +kernel
theorem dX1_takeOnExaminer_11 : decode cX1_takeOnExaminer 11 = .ok (.iadd, 1) := by decide +kernel
theorem dX1_takeOnExaminer_12 : decode cX1_takeOnExaminer 12 = .ok (.putfield 15, 3) := by decide +kernel
theorem dX1_takeOnExaminer_15 : decode cX1_takeOnExaminer 15 = .ok (.iconst 0, 1) := by decide +kernel
theorem dX1_takeOnExaminer_16 : decode cX1_takeOnExaminer 16 = .ok (.istore_n 2, 1) := by decide +kernel
theorem dX1_takeOnExaminer_17 : decode cX1_takeOnExaminer 17 = .ok (.iload_n 2, 1) := by decide +kernel
theorem dX1_takeOnExaminer_18 : decode cX1_takeOnExaminer 18 = .ok (.bipush 10, 2) := by decide +kernel
theorem dX1_takeOnExaminer_20 : decode cX1_takeOnExaminer 20 = .ok (.if_icmp .ge 15, 3) := by decide +kernel
theorem dX1_takeOnExaminer_23 : decode cX1_takeOnExaminer 23 = .ok (.aload_n 0, 1) := by decide +kernel
theorem dX1_takeOnExaminer_24 : decode cX1_takeOnExaminer 24 = .ok (.iload_n 1, 1) := by decide +kernel
theorem dX1_takeOnExaminer_25 : decode cX1_takeOnExaminer 25 = .ok (.iload_n 2, 1) := by decide +kernel
theorem dX1_takeOnExaminer_26 : decode cX1_takeOnExaminer 26 = .ok (.invokevirtual 73, 3) := by decide +kernel
theorem dX1_takeOnExaminer_29 : decode cX1_takeOnExaminer 29 = .ok (.iinc 2 1, 3) := by decide +kernel
theorem dX1_takeOnExaminer_32 : decode cX1_takeOnExaminer 32 = .ok (.goto (-15), 3) := by decide +kernel
theorem dX1_takeOnExaminer_35 : decode cX1_takeOnExaminer 35 = .ok (.aload_n 0, 1) := by decide +kernel
theorem dX1_takeOnExaminer_36 : decode cX1_takeOnExaminer 36 = .ok (.invokevirtual 77, 3) := by decide +kernel
theorem dX1_takeOnExaminer_39 : decode cX1_takeOnExaminer 39 = .ok (.iload_n 1, 1) := by decide +kernel
theorem dX1_takeOnExaminer_40 : decode cX1_takeOnExaminer 40 = .ok (.ireturn, 1) := by decide +kernel
theorem dX1_takeOnPupil_0 : decode cX1_takeOnPupil 0 = .ok (.aload_n 0, 1) := by decide +kernel
theorem dX1_takeOnPupil_1 : decode cX1_takeOnPupil 1 = .ok (.getfield 18, 3) := by decide +kernel
theorem dX1_takeOnPupil_4 : decode cX1_takeOnPupil 4 = .ok (.istore_n 1, 1) := by decide +kernel
theorem dX1_takeOnPupil_5 : decode cX1_takeOnPupil 5 = .ok (.aload_n 0, 1) := by decide +kernel
theorem dX1_takeOnPupil_6 : decode cX1_takeOnPupil 6 = .ok (.dup, 1) := by decide +kernel
theorem dX1_takeOnPupil_7 : decode cX1_takeOnPupil 7 = .ok (.getfield 18, 3) := by decide +kernel
theorem dX1_takeOnPupil_10 : decode cX1_takeOnPupil 10 = .ok (.iconst 1, 1) := by decide +kernel
theorem dX1_takeOnPupil_11 : decode cX1_takeOnPupil 11 = .ok (.iadd, 1) := by decide +kernel
theorem dX1_takeOnPupil_12 : decode cX1_takeOnPupil 12 = .ok (.putfield 18, 3) := by decide +kernel
theorem dX1_takeOnPupil_15 : decode cX1_takeOnPupil 15 = .ok (.aload_n 0, 1) := by decide +kernel
theorem dX1_takeOnPupil_16 : decode cX1_takeOnPupil 16 = .ok (.getfield 39, 3) := by decide +kernel
theorem dX1_takeOnPupil_19 : decode cX1_takeOnPupil 19 = .ok (.iload_n 1, 1) := by decide +kernel
theorem dX1_takeOnPupil_20 : decode cX1_takeOnPupil 20 = .ok (.aaload, 1) := by decide +kernel
theorem dX1_takeOnPupil_21 : decode cX1_takeOnPupil 21 = .ok (.aload_n 0, 1) := by decide +kernel
theorem dX1_takeOnPupil_22 : decode cX1_takeOnPupil 22 = .ok (.getfield 9, 3) := by decide +kernel
theorem dX1_takeOnPupil_25 : decode cX1_takeOnPupil 25 = .ok (.putfield 80, 3) := by decide +kernel
theorem dX1_takeOnPupil_28 : decode cX1_takeOnPupil 28 = .ok (.iload_n 1, 1) := by decide +kernel
theorem dX1_takeOnPupil_29 : decode cX1_takeOnPupil 29 = .ok (.ireturn, 1) := by decide +kernel
theorem dX1_mayAsk_0 : decode cX1_mayAsk 0 = .ok (.aload_n 0, 1) := by decide +kernel
theorem dX1_mayAsk_1 : decode cX1_mayAsk 1 = .ok (.getfield 39, 3) := by decide +kernel
theorem dX1_mayAsk_4 : decode cX1_mayAsk 4 = .ok (.iload_n 1, 1) := by decide +kernel
theorem dX1_mayAsk_5 : decode cX1_mayAsk 5 = .ok (.aaload, 1) := by decide +kernel
theorem dX1_mayAsk_6 : decode cX1_mayAsk 6 = .ok (.getfield 83, 3) := by decide +kernel
theorem dX1_mayAsk_9 : decode cX1_mayAsk 9 = .ok (.ifCond .ne 7, 3) := by decide +kernel
theorem dX1_mayAsk_12 : decode cX1_mayAsk 12 = .ok (.iconst 1, 1) := by decide +kernel
theorem dX1_mayAsk_13 : decode cX1_mayAsk 13 = .ok (.goto 4, 3) := by decide +kernel
theorem dX1_mayAsk_16 : decode cX1_mayAsk 16 = .ok (.iconst 0, 1) := by decide +kernel
theorem dX1_mayAsk_17 : decode cX1_mayAsk 17 = .ok (.ireturn, 1) := by decide +kernel
theorem dX1_letAsk_0 : decode cX1_letAsk 0 = .ok (.aload_n 0, 1) := by decide +kernel
theorem dX1_letAsk_1 : decode cX1_letAsk 1 = .ok (.getfield 39, 3) := by decide +kernel
theorem dX1_letAsk_4 : decode cX1_letAsk 4 = .ok (.iload_n 1, 1) := by decide +kernel
theorem dX1_letAsk_5 : decode cX1_letAsk 5 = .ok (.aaload, 1) := by decide +kernel
theorem dX1_letAsk_6 : decode cX1_letAsk 6 = .ok (.astore_n 2, 1) := by decide +kernel
theorem dX1_letAsk_7 : decode cX1_letAsk 7 = .ok (.aload_n 2, 1) := by decide +kernel
theorem dX1_letAsk_8 : decode cX1_letAsk 8 = .ok (.aload_n 0, 1) := by decide +kernel
theorem dX1_letAsk_9 : decode cX1_letAsk 9 = .ok (.getfield 31, 3) := by decide +kernel
theorem dX1_letAsk_12 : decode cX1_letAsk 12 = .ok (.iconst 3, 1) := by decide +kernel
theorem dX1_letAsk_13 : decode cX1_letAsk 13 = .ok (.iaload, 1) := by decide +kernel
theorem dX1_letAsk_14 : decode cX1_letAsk 14 = .ok (.putfield 86, 3) := by decide +kernel
theorem dX1_letAsk_17 : decode cX1_letAsk 17 = .ok (.aload_n 2, 1) := by decide +kernel
theorem dX1_letAsk_18 : decode cX1_letAsk 18 = .ok (.dup, 1) := by decide +kernel
theorem dX1_letAsk_19 : decode cX1_letAsk 19 = .ok (.getfield 89, 3) := by decide +kernel
theorem dX1_letAsk_22 : decode cX1_letAsk 22 = .ok (.aload_n 2, 1) := by decide +kernel
theorem dX1_letAsk_23 : decode cX1_letAsk 23 = .ok (.getfield 86, 3) := by decide +kernel
theorem dX1_letAsk_26 : decode cX1_letAsk 26 = .ok (.iadd, 1) := by decide +kernel
theorem dX1_letAsk_27 : decode cX1_letAsk 27 = .ok (.putfield 89, 3) := by decide +kernel
theorem dX1_letAsk_30 : decode cX1_letAsk 30 = .ok (.aload_n 0, 1) := by decide +kernel
theorem dX1_letAsk_31 : decode cX1_letAsk 31 = .ok (.aload_n 2, 1) := by decide +kernel
theorem dX1_letAsk_32 : decode cX1_letAsk 32 = .ok (.invokevirtual 92, 3) := by decide +kernel
theorem dX1_letAsk_35 : decode cX1_letAsk 35 = .ok (.aload_n 0, 1) := by decide +kernel
theorem dX1_letAsk_36 : decode cX1_letAsk 36 = .ok (.invokevirtual 77, 3) := by decide +kernel
theorem dX1_letAsk_39 : decode cX1_letAsk 39 = .ok (.aload_n 0, 1) := by decide +kernel
theorem dX1_letAsk_40 : decode cX1_letAsk 40 = .ok (.iload_n 1, 1) := by decide +kernel
theorem dX1_letAsk_41 : decode cX1_letAsk 41 = .ok (.invokevirtual 95, 3) := by decide +kernel
theorem dX1_letAsk_44 : decode cX1_letAsk 44 = .ok (.iconst 0, 1) := by decide +kernel
theorem dX1_letAsk_45 : decode cX1_letAsk 45 = .ok (.invokestatic 99, 3) := by decide +kernel
theorem dX1_letAsk_48 : decode cX1_letAsk 48 = .ok (.ireturn, 1) := by decide +kernel
theorem dX1_mayQuit_0 : decode cX1_mayQuit 0 = .ok (.aload_n 0, 1) := by decide +kernel
theorem dX1_mayQuit_1 : decode cX1_mayQuit 1 = .ok (.getfield 39, 3) := by decide +kernel
theorem dX1_mayQuit_4 : decode cX1_mayQuit 4 = .ok (.iload_n 1, 1) := by decide +kernel
theorem dX1_mayQuit_5 : decode cX1_mayQuit 5 = .ok (.aaload, 1) := by decide +kernel
theorem dX1_mayQuit_6 : decode cX1_mayQuit 6 = .ok (.getfield 83, 3) := by decide +kernel
theorem dX1_mayQuit_9 : decode cX1_mayQuit 9 = .ok (.istore_n 2, 1) := by decide +kernel
theorem dX1_mayQuit_10 : decode cX1_mayQuit 10 = .ok (.iload_n 2, 1) := by decide +kernel
theorem dX1_mayQuit_11 : decode cX1_mayQuit 11 = .ok (.iconst 1, 1) := by decide +kernel
theorem dX1_mayQuit_12 : decode cX1_mayQuit 12 = .ok (.if_icmp .eq 8, 3) := by decide +kernel
theorem dX1_mayQuit_15 : decode cX1_mayQuit 15 = .ok (.iload_n 2, 1) := by decide +kernel
theorem dX1_mayQuit_16 : decode cX1_mayQuit 16 = .ok (.iconst 2, 1) := by decide +kernel
theorem dX1_mayQuit_17 : decode cX1_mayQuit 17 = .ok (.if_icmp .ne 7, 3) := by decide +kernel
theorem dX1_mayQuit_20 : decode cX1_mayQuit 20 = .ok (.iconst 1, 1) := by decide +kernel
theorem dX1_mayQuit_21 : decode cX1_mayQuit 21 = .ok (.goto 4, 3) := by decide +kernel
theorem dX1_mayQuit_24 : decode cX1_mayQuit 24 = .ok (.iconst 0, 1) := by decide +kernel
theorem dX1_mayQuit_25 : decode cX1_mayQuit 25 = .ok (.ireturn, 1) := by decide +kernel
theorem dX1_letQuit_0 : decode cX1_letQuit 0 = .ok (.aload_n 0, 1) := by decide +kernel
theorem dX1_letQuit_1 : decode cX1_letQuit 1 = .ok (.getfield 39, 3) := by decide +kernel
theorem dX1_letQuit_4 : decode cX1_letQuit 4 = .ok (.iload_n 1, 1) := by decide +kernel
theorem dX1_letQuit_5 : decode cX1_letQuit 5 = .ok (.aaload, 1) := by decide +kernel
theorem dX1_letQuit_6 : decode cX1_letQuit 6 = .ok (.astore_n 2, 1) := by decide +kernel
theorem dX1_letQuit_7 : decode cX1_letQuit 7 = .ok (.aload_n 2, 1) := by decide +kernel
theorem dX1_letQuit_8 : decode cX1_letQuit 8 = .ok (.getfield 86, 3) := by decide +kernel
theorem dX1_letQuit_11 : decode cX1_letQuit 11 = .ok (.istore_n 3, 1) := by decide +kernel
theorem dX1_letQuit_12 : decode cX1_letQuit 12 = .ok (.aload_n 0, 1) := by decide +kernel
theorem dX1_letQuit_13 : decode cX1_letQuit 13 = .ok (.iload_n 1, 1) := by decide +kernel
theorem dX1_letQuit_14 : decode cX1_letQuit 14 = .ok (.invokevirtual 95, 3) := by decide +kernel
theorem dX1_letQuit_17 : decode cX1_letQuit 17 = .ok (.istore 4, 2) := by decide +kernel
theorem dX1_letQuit_19 : decode cX1_letQuit 19 = .ok (.iload 4, 2) := by decide +kernel
theorem dX1_letQuit_21 : decode cX1_letQuit 21 = .ok (.iconst (-1), 1) := by decide +kernel
theorem dX1_letQuit_22 : decode cX1_letQuit 22 = .ok (.if_icmp .eq 31, 3) := by decide +kernel
theorem dX1_letQuit_25 : decode cX1_letQuit 25 = .ok (.aload_n 0, 1) := by decide +kernel
theorem dX1_letQuit_26 : decode cX1_letQuit 26 = .ok (.getfield 34, 3) := by decide +kernel
theorem dX1_letQuit_29 : decode cX1_letQuit 29 = .ok (.iload 4, 2) := by decide +kernel
theorem dX1_letQuit_31 : decode cX1_letQuit 31 = .ok (.iconst (-1), 1) := by decide +kernel
theorem dX1_letQuit_32 : decode cX1_letQuit 32 = .ok (.iastore, 1) := by decide +kernel
theorem dX1_letQuit_33 : decode cX1_letQuit 33 = .ok (.iload 4, 2) := by decide +kernel
theorem dX1_letQuit_35 : decode cX1_letQuit 35 = .ok (.invokestatic 103, 3) := by decide +kernel
theorem dX1_letQuit_38 : decode cX1_letQuit 38 = .ok (.aload_n 0, 1) := by decide +kernel
theorem dX1_letQuit_39 : decode cX1_letQuit 39 = .ok (.getfield 31, 3) := by decide +kernel
theorem dX1_letQuit_42 : decode cX1_letQuit 42 = .ok (.iconst 2, 1) := by decide +kernel
theorem dX1_letQuit_43 : decode cX1_letQuit 43 = .ok (.iaload, 1) := by decide +kernel
theorem dX1_letQuit_44 : decode cX1_letQuit 44 = .ok (.if_icmp .ge 7, 3) := by decide +kernel
theorem dX1_letQuit_47 : decode cX1_letQuit 47 = .ok (.iconst 0, 1) := by decide +kernel
theorem dX1_letQuit_48 : decode cX1_letQuit 48 = .ok (.goto 4, 3) := by decide +kernel
theorem dX1_letQuit_51 : decode cX1_letQuit 51 = .ok (.iload_n 3, 1) := by decide +kernel
theorem dX1_letQuit_52 : decode cX1_letQuit 52 = .ok (.istore_n 3, 1) := by decide +kernel
theorem dX1_letQuit_53 : decode cX1_letQuit 53 = .ok (.aload_n 2, 1) := by decide +kernel
theorem dX1_letQuit_54 : decode cX1_letQuit 54 = .ok (.iconst 0, 1) := by decide +kernel
theorem dX1_letQuit_55 : decode cX1_letQuit 55 = .ok (.putfield 83, 3) := by decide +kernel
theorem dX1_letQuit_58 : decode cX1_letQuit 58 = .ok (.aload_n 2, 1) := by decide +kernel
theorem dX1_letQuit_59 : decode cX1_letQuit 59 = .ok (.dup, 1) := by decide +kernel
theorem dX1_letQuit_60 : decode cX1_letQuit 60 = .ok (.getfield 89, 3) := by decide +kernel
theorem dX1_letQuit_63 : decode cX1_letQuit 63 = .ok (.iload_n 3, 1) := by decide +kernel
theorem dX1_letQuit_64 : decode cX1_letQuit 64 = .ok (.isub, 1) := by decide +kernel
theorem dX1_letQuit_65 : decode cX1_letQuit 65 = .ok (.putfield 89, 3) := by decide +kernel
theorem dX1_letQuit_68 : decode cX1_letQuit 68 = .ok (.aload_n 0, 1) := by decide +kernel
theorem dX1_letQuit_69 : decode cX1_letQuit 69 = .ok (.invokevirtual 77, 3) := by decide +kernel
theorem dX1_letQuit_72 : decode cX1_letQuit 72 = .ok (.iload_n 3, 1) := by decide +kernel
theorem dX1_letQuit_73 : decode cX1_letQuit 73 = .ok (.ireturn, 1) := by decide +kernel
theorem dX1_cancelMorning_0 : decode cX1_cancelMorning 0 = .ok (.iconst 0, 1) := by decide +kernel
theorem dX1_cancelMorning_1 : decode cX1_cancelMorning 1 = .ok (.istore_n 3, 1) := by decide +kernel
theorem dX1_cancelMorning_2 : decode cX1_cancelMorning 2 = .ok (.iconst 0, 1) := by decide +kernel
theorem dX1_cancelMorning_3 : decode cX1_cancelMorning 3 = .ok (.istore 4, 2) := by decide +kernel
theorem dX1_cancelMorning_5 : decode cX1_cancelMorning 5 = .ok (.iload 4, 2) := by decide +kernel
theorem dX1_cancelMorning_7 : decode cX1_cancelMorning 7 = .ok (.iconst 2, 1) := by decide +kernel
theorem dX1_cancelMorning_8 : decode cX1_cancelMorning 8 = .ok (.if_icmp .ge 75, 3) := by decide +kernel
theorem dX1_cancelMorning_11 : decode cX1_cancelMorning 11 = .ok (.iload_n 1, 1) := by decide +kernel
theorem dX1_cancelMorning_12 : decode cX1_cancelMorning 12 = .ok (.iload_n 2, 1) := by decide +kernel
theorem dX1_cancelMorning_13 : decode cX1_cancelMorning 13 = .ok (.iload 4, 2) := by decide +kernel
theorem dX1_cancelMorning_15 : decode cX1_cancelMorning 15 = .ok (.invokestatic 106, 3) := by decide +kernel
theorem dX1_cancelMorning_18 : decode cX1_cancelMorning 18 = .ok (.istore 5, 2) := by decide +kernel
theorem dX1_cancelMorning_20 : decode cX1_cancelMorning 20 = .ok (.aload_n 0, 1) := by decide +kernel
theorem dX1_cancelMorning_21 : decode cX1_cancelMorning 21 = .ok (.getfield 34, 3) := by decide +kernel
theorem dX1_cancelMorning_24 : decode cX1_cancelMorning 24 = .ok (.iload 5, 2) := by decide +kernel
theorem dX1_cancelMorning_26 : decode cX1_cancelMorning 26 = .ok (.iaload, 1) := by decide +kernel
theorem dX1_cancelMorning_27 : decode cX1_cancelMorning 27 = .ok (.istore 6, 2) := by decide +kernel
theorem dX1_cancelMorning_29 : decode cX1_cancelMorning 29 = .ok (.aload_n 0, 1) := by decide +kernel
theorem dX1_cancelMorning_30 : decode cX1_cancelMorning 30 = .ok (.getfield 34, 3) := by decide +kernel
theorem dX1_cancelMorning_33 : decode cX1_cancelMorning 33 = .ok (.iload 5, 2) := by decide +kernel
theorem dX1_cancelMorning_35 : decode cX1_cancelMorning 35 = .ok (.bipush (-2), 2) := by decide +kernel
theorem dX1_cancelMorning_37 : decode cX1_cancelMorning 37 = .ok (.iastore, 1) := by decide +kernel
theorem dX1_cancelMorning_38 : decode cX1_cancelMorning 38 = .ok (.aload_n 0, 1) := by decide +kernel
theorem dX1_cancelMorning_39 : decode cX1_cancelMorning 39 = .ok (.iload 6, 2) := by decide +kernel
theorem dX1_cancelMorning_41 : decode cX1_cancelMorning 41 = .ok (.invokevirtual 110, 3) := by decide +kernel
theorem dX1_cancelMorning_44 : decode cX1_cancelMorning 44 = .ok (.ifCond .eq 33, 3) := by decide +kernel
theorem dX1_cancelMorning_47 : decode cX1_cancelMorning 47 = .ok (.aload_n 0, 1) := by decide +kernel
theorem dX1_cancelMorning_48 : decode cX1_cancelMorning 48 = .ok (.getfield 39, 3) := by decide +kernel
theorem dX1_cancelMorning_51 : decode cX1_cancelMorning 51 = .ok (.iload 6, 2) := by decide +kernel
theorem dX1_cancelMorning_53 : decode cX1_cancelMorning 53 = .ok (.aaload, 1) := by decide +kernel
theorem dX1_cancelMorning_54 : decode cX1_cancelMorning 54 = .ok (.dup, 1) := by decide +kernel
theorem dX1_cancelMorning_55 : decode cX1_cancelMorning 55 = .ok (.getfield 114, 3) := by decide +kernel
theorem dX1_cancelMorning_58 : decode cX1_cancelMorning 58 = .ok (.iconst 1, 1) := by decide +kernel
theorem dX1_cancelMorning_59 : decode cX1_cancelMorning 59 = .ok (.iadd, 1) := by decide +kernel
theorem dX1_cancelMorning_60 : decode cX1_cancelMorning 60 = .ok (.putfield 114, 3) := by decide +kernel
theorem dX1_cancelMorning_63 : decode cX1_cancelMorning 63 = .ok (.aload_n 0, 1) := by decide +kernel
theorem dX1_cancelMorning_64 : decode cX1_cancelMorning 64 = .ok (.aload_n 0, 1) := by decide +kernel
theorem dX1_cancelMorning_65 : decode cX1_cancelMorning 65 = .ok (.getfield 39, 3) := by decide +kernel
theorem dX1_cancelMorning_68 : decode cX1_cancelMorning 68 = .ok (.iload 6, 2) := by decide +kernel
theorem dX1_cancelMorning_70 : decode cX1_cancelMorning 70 = .ok (.aaload, 1) := by decide +kernel
theorem dX1_cancelMorning_71 : decode cX1_cancelMorning 71 = .ok (.invokevirtual 92, 3) := by decide +kernel
theorem dX1_cancelMorning_74 : decode cX1_cancelMorning 74 = .ok (.iinc 3 1, 3) := by decide +kernel
theorem dX1_cancelMorning_77 : decode cX1_cancelMorning 77 = .ok (.iinc 4 1, 3) := by decide +kernel
theorem dX1_cancelMorning_80 : decode cX1_cancelMorning 80 = .ok (.goto (-75), 3) := by decide +kernel
theorem dX1_cancelMorning_83 : decode cX1_cancelMorning 83 = .ok (.aload_n 0, 1) := by decide +kernel
theorem dX1_cancelMorning_84 : decode cX1_cancelMorning 84 = .ok (.getfield 45, 3) := by decide +kernel
theorem dX1_cancelMorning_87 : decode cX1_cancelMorning 87 = .ok (.iload_n 1, 1) := by decide +kernel
theorem dX1_cancelMorning_88 : decode cX1_cancelMorning 88 = .ok (.aaload, 1) := by decide +kernel
theorem dX1_cancelMorning_89 : decode cX1_cancelMorning 89 = .ok (.dup, 1) := by decide +kernel
theorem dX1_cancelMorning_90 : decode cX1_cancelMorning 90 = .ok (.getfield 117, 3) := by decide +kernel
theorem dX1_cancelMorning_93 : decode cX1_cancelMorning 93 = .ok (.iconst 1, 1) := by decide +kernel
theorem dX1_cancelMorning_94 : decode cX1_cancelMorning 94 = .ok (.iadd, 1) := by decide +kernel
theorem dX1_cancelMorning_95 : decode cX1_cancelMorning 95 = .ok (.putfield 117, 3) := by decide +kernel
theorem dX1_cancelMorning_98 : decode cX1_cancelMorning 98 = .ok (.aload_n 0, 1) := by decide +kernel
theorem dX1_cancelMorning_99 : decode cX1_cancelMorning 99 = .ok (.invokevirtual 77, 3) := by decide +kernel
theorem dX1_cancelMorning_102 : decode cX1_cancelMorning 102 = .ok (.iload_n 3, 1) := by decide +kernel
theorem dX1_cancelMorning_103 : decode cX1_cancelMorning 103 = .ok (.ireturn, 1) := by decide +kernel
theorem dX1_mayBeTested_0 : decode cX1_mayBeTested 0 = .ok (.aload_n 0, 1) := by decide +kernel
theorem dX1_mayBeTested_1 : decode cX1_mayBeTested 1 = .ok (.iload_n 1, 1) := by decide +kernel
theorem dX1_mayBeTested_2 : decode cX1_mayBeTested 2 = .ok (.invokevirtual 95, 3) := by decide +kernel
theorem dX1_mayBeTested_5 : decode cX1_mayBeTested 5 = .ok (.iconst 0, 1) := by decide +kernel
theorem dX1_mayBeTested_6 : decode cX1_mayBeTested 6 = .ok (.invokestatic 99, 3) := by decide +kernel
theorem dX1_mayBeTested_9 : decode cX1_mayBeTested 9 = .ok (.ifCond .ne 7, 3) := by decide +kernel
theorem dX1_mayBeTested_12 : decode cX1_mayBeTested 12 = .ok (.iconst 1, 1) := by decide +kernel
theorem dX1_mayBeTested_13 : decode cX1_mayBeTested 13 = .ok (.goto 4, 3) := by decide +kernel
theorem dX1_mayBeTested_16 : decode cX1_mayBeTested 16 = .ok (.iconst 0, 1) := by decide +kernel
theorem dX1_mayBeTested_17 : decode cX1_mayBeTested 17 = .ok (.ireturn, 1) := by decide +kernel
theorem dX1_holdTest_0 : decode cX1_holdTest 0 = .ok (.aload_n 0, 1) := by decide +kernel
theorem dX1_holdTest_1 : decode cX1_holdTest 1 = .ok (.getfield 39, 3) := by decide +kernel
theorem dX1_holdTest_4 : decode cX1_holdTest 4 = .ok (.iload_n 1, 1) := by decide +kernel
theorem dX1_holdTest_5 : decode cX1_holdTest 5 = .ok (.aaload, 1) := by decide +kernel
theorem dX1_holdTest_6 : decode cX1_holdTest 6 = .ok (.astore_n 3, 1) := by decide +kernel
theorem dX1_holdTest_7 : decode cX1_holdTest 7 = .ok (.aload_n 0, 1) := by decide +kernel
theorem dX1_holdTest_8 : decode cX1_holdTest 8 = .ok (.iload_n 1, 1) := by decide +kernel
theorem dX1_holdTest_9 : decode cX1_holdTest 9 = .ok (.invokevirtual 95, 3) := by decide +kernel
theorem dX1_holdTest_12 : decode cX1_holdTest 12 = .ok (.istore 4, 2) := by decide +kernel
theorem dX1_holdTest_14 : decode cX1_holdTest 14 = .ok (.iload 4, 2) := by decide +kernel
theorem dX1_holdTest_16 : decode cX1_holdTest 16 = .ok (.iconst (-1), 1) := by decide +kernel
theorem dX1_holdTest_17 : decode cX1_holdTest 17 = .ok (.if_icmp .ne 5, 3) := by decide +kernel
theorem dX1_holdTest_20 : decode cX1_holdTest 20 = .ok (.iconst (-1), 1) := by decide +kernel
theorem dX1_holdTest_21 : decode cX1_holdTest 21 = .ok (.ireturn, 1) := by decide +kernel
theorem dX1_holdTest_22 : decode cX1_holdTest 22 = .ok (.iload 4, 2) := by decide +kernel
theorem dX1_holdTest_24 : decode cX1_holdTest 24 = .ok (.invokestatic 120, 3) := by decide +kernel
theorem dX1_holdTest_27 : decode cX1_holdTest 27 = .ok (.istore 5, 2) := by decide +kernel
theorem dX1_holdTest_29 : decode cX1_holdTest 29 = .ok (.aload_n 0, 1) := by decide +kernel
theorem dX1_holdTest_30 : decode cX1_holdTest 30 = .ok (.iload_n 1, 1) := by decide +kernel
theorem dX1_holdTest_31 : decode cX1_holdTest 31 = .ok (.iload 5, 2) := by decide +kernel
theorem dX1_holdTest_33 : decode cX1_holdTest 33 = .ok (.invokevirtual 123, 3) := by decide +kernel
theorem dX1_holdTest_36 : decode cX1_holdTest 36 = .ok (.istore 6, 2) := by decide +kernel
theorem dX1_holdTest_38 : decode cX1_holdTest 38 = .ok (.aload_n 0, 1) := by decide +kernel
theorem dX1_holdTest_39 : decode cX1_holdTest 39 = .ok (.getfield 34, 3) := by decide +kernel
theorem dX1_holdTest_42 : decode cX1_holdTest 42 = .ok (.iload 4, 2) := by decide +kernel
theorem dX1_holdTest_44 : decode cX1_holdTest 44 = .ok (.bipush (-2), 2) := by decide +kernel
theorem dX1_holdTest_46 : decode cX1_holdTest 46 = .ok (.iastore, 1) := by decide +kernel
theorem dX1_holdTest_47 : decode cX1_holdTest 47 = .ok (.aload_n 0, 1) := by decide +kernel
theorem dX1_holdTest_48 : decode cX1_holdTest 48 = .ok (.getfield 45, 3) := by decide +kernel
theorem dX1_holdTest_51 : decode cX1_holdTest 51 = .ok (.iload 5, 2) := by decide +kernel
theorem dX1_holdTest_53 : decode cX1_holdTest 53 = .ok (.aaload, 1) := by decide +kernel
theorem dX1_holdTest_54 : decode cX1_holdTest 54 = .ok (.getfield 126, 3) := by decide +kernel
theorem dX1_holdTest_57 : decode cX1_holdTest 57 = .ok (.iload 6, 2) := by decide +kernel
theorem dX1_holdTest_59 : decode cX1_holdTest 59 = .ok (.dup2, 1) := by decide +kernel
theorem dX1_holdTest_60 : decode cX1_holdTest 60 = .ok (.iaload, 1) := by decide +kernel
theorem dX1_holdTest_61 : decode cX1_holdTest 61 = .ok (.iconst 1, 1) := by decide +kernel
theorem dX1_holdTest_62 : decode cX1_holdTest 62 = .ok (.iadd, 1) := by decide +kernel
theorem dX1_holdTest_63 : decode cX1_holdTest 63 = .ok (.iastore, 1) := by decide +kernel
theorem dX1_holdTest_64 : decode cX1_holdTest 64 = .ok (.aload_n 3, 1) := by decide +kernel
theorem dX1_holdTest_65 : decode cX1_holdTest 65 = .ok (.iload 6, 2) := by decide +kernel
theorem dX1_holdTest_67 : decode cX1_holdTest 67 = .ok (.putfield 129, 3) := by decide +kernel
theorem dX1_holdTest_70 : decode cX1_holdTest 70 = .ok (.aload_n 3, 1) := by decide +kernel
theorem dX1_holdTest_71 : decode cX1_holdTest 71 = .ok (.iload 5, 2) := by decide +kernel
theorem dX1_holdTest_73 : decode cX1_holdTest 73 = .ok (.putfield 132, 3) := by decide +kernel
theorem dX1_holdTest_76 : decode cX1_holdTest 76 = .ok (.iload_n 2, 1) := by decide +kernel
theorem dX1_holdTest_77 : decode cX1_holdTest 77 = .ok (.ifCond .eq 27, 3) := by decide +kernel
theorem dX1_holdTest_80 : decode cX1_holdTest 80 = .ok (.aload_n 0, 1) := by decide +kernel
theorem dX1_holdTest_81 : decode cX1_holdTest 81 = .ok (.getfield 45, 3) := by decide +kernel
theorem dX1_holdTest_84 : decode cX1_holdTest 84 = .ok (.iload 5, 2) := by decide +kernel
theorem dX1_holdTest_86 : decode cX1_holdTest 86 = .ok (.aaload, 1) := by decide +kernel
theorem dX1_holdTest_87 : decode cX1_holdTest 87 = .ok (.dup, 1) := by decide +kernel
theorem dX1_holdTest_88 : decode cX1_holdTest 88 = .ok (.getfield 135, 3) := by decide +kernel
theorem dX1_holdTest_91 : decode cX1_holdTest 91 = .ok (.iconst 1, 1) := by decide +kernel
theorem dX1_holdTest_92 : decode cX1_holdTest 92 = .ok (.iadd, 1) := by decide +kernel
theorem dX1_holdTest_93 : decode cX1_holdTest 93 = .ok (.putfield 135, 3) := by decide +kernel
theorem dX1_holdTest_96 : decode cX1_holdTest 96 = .ok (.aload_n 3, 1) := by decide +kernel
theorem dX1_holdTest_97 : decode cX1_holdTest 97 = .ok (.iconst 3, 1) := by decide +kernel
theorem dX1_holdTest_98 : decode cX1_holdTest 98 = .ok (.putfield 83, 3) := by decide +kernel
theorem dX1_holdTest_101 : decode cX1_holdTest 101 = .ok (.goto 43, 3) := by decide +kernel
theorem dX1_holdTest_104 : decode cX1_holdTest 104 = .ok (.aload_n 3, 1) := by decide +kernel
theorem dX1_holdTest_105 : decode cX1_holdTest 105 = .ok (.dup, 1) := by decide +kernel
theorem dX1_holdTest_106 : decode cX1_holdTest 106 = .ok (.getfield 138, 3) := by decide +kernel
theorem dX1_holdTest_109 : decode cX1_holdTest 109 = .ok (.iconst 1, 1) := by decide +kernel
theorem dX1_holdTest_110 : decode cX1_holdTest 110 = .ok (.iadd, 1) := by decide +kernel
theorem dX1_holdTest_111 : decode cX1_holdTest 111 = .ok (.putfield 138, 3) := by decide +kernel
theorem dX1_holdTest_114 : decode cX1_holdTest 114 = .ok (.aload_n 3, 1) := by decide +kernel
theorem dX1_holdTest_115 : decode cX1_holdTest 115 = .ok (.iconst 0, 1) := by decide +kernel
theorem dX1_holdTest_116 : decode cX1_holdTest 116 = .ok (.putfield 83, 3) := by decide +kernel
theorem dX1_holdTest_119 : decode cX1_holdTest 119 = .ok (.aload_n 3, 1) := by decide +kernel
theorem dX1_holdTest_120 : decode cX1_holdTest 120 = .ok (.aload_n 0, 1) := by decide +kernel
theorem dX1_holdTest_121 : decode cX1_holdTest 121 = .ok (.getfield 9, 3) := by decide +kernel
theorem dX1_holdTest_124 : decode cX1_holdTest 124 = .ok (.aload_n 0, 1) := by decide +kernel
theorem dX1_holdTest_125 : decode cX1_holdTest 125 = .ok (.getfield 31, 3) := by decide +kernel
theorem dX1_holdTest_128 : decode cX1_holdTest 128 = .ok (.iconst 0, 1) := by decide +kernel
theorem dX1_holdTest_129 : decode cX1_holdTest 129 = .ok (.iaload, 1) := by decide +kernel
theorem dX1_holdTest_130 : decode cX1_holdTest 130 = .ok (.aload_n 3, 1) := by decide +kernel
theorem dX1_holdTest_131 : decode cX1_holdTest 131 = .ok (.getfield 138, 3) := by decide +kernel
theorem dX1_holdTest_134 : decode cX1_holdTest 134 = .ok (.imul, 1) := by decide +kernel
theorem dX1_holdTest_135 : decode cX1_holdTest 135 = .ok (.bipush 60, 2) := by decide +kernel
theorem dX1_holdTest_137 : decode cX1_holdTest 137 = .ok (.invokestatic 141, 3) := by decide +kernel
theorem dX1_holdTest_140 : decode cX1_holdTest 140 = .ok (.iadd, 1) := by decide +kernel
theorem dX1_holdTest_141 : decode cX1_holdTest 141 = .ok (.putfield 80, 3) := by decide +kernel
theorem dX1_holdTest_144 : decode cX1_holdTest 144 = .ok (.iload 6, 2) := by decide +kernel
theorem dX1_holdTest_146 : decode cX1_holdTest 146 = .ok (.ireturn, 1) := by decide +kernel
theorem dX1_mayGoOn_0 : decode cX1_mayGoOn 0 = .ok (.aload_n 0, 1) := by decide +kernel
theorem dX1_mayGoOn_1 : decode cX1_mayGoOn 1 = .ok (.getfield 9, 3) := by decide +kernel
theorem dX1_mayGoOn_4 : decode cX1_mayGoOn 4 = .ok (.sipush 9999, 3) := by decide +kernel
theorem dX1_mayGoOn_7 : decode cX1_mayGoOn 7 = .ok (.if_icmp .ge 7, 3) := by decide +kernel
theorem dX1_mayGoOn_10 : decode cX1_mayGoOn 10 = .ok (.iconst 1, 1) := by decide +kernel
theorem dX1_mayGoOn_11 : decode cX1_mayGoOn 11 = .ok (.goto 4, 3) := by decide +kernel
theorem dX1_mayGoOn_14 : decode cX1_mayGoOn 14 = .ok (.iconst 0, 1) := by decide +kernel
theorem dX1_mayGoOn_15 : decode cX1_mayGoOn 15 = .ok (.ireturn, 1) := by decide +kernel
theorem dX1_goOn_0 : decode cX1_goOn 0 = .ok (.iconst 0, 1) := by decide +kernel
theorem dX1_goOn_1 : decode cX1_goOn 1 = .ok (.istore_n 1, 1) := by decide +kernel
theorem dX1_goOn_2 : decode cX1_goOn 2 = .ok (.iconst 0, 1) := by decide +kernel
theorem dX1_goOn_3 : decode cX1_goOn 3 = .ok (.istore_n 2, 1) := by decide +kernel
theorem dX1_goOn_4 : decode cX1_goOn 4 = .ok (.iload_n 2, 1) := by decide +kernel
theorem dX1_goOn_5 : decode cX1_goOn 5 = .ok (.bipush 16, 2) := by decide +kernel
theorem dX1_goOn_7 : decode cX1_goOn 7 = .ok (.if_icmp .ge 40, 3) := by decide +kernel
theorem dX1_goOn_10 : decode cX1_goOn 10 = .ok (.aload_n 0, 1) := by decide +kernel
theorem dX1_goOn_11 : decode cX1_goOn 11 = .ok (.aload_n 0, 1) := by decide +kernel
theorem dX1_goOn_12 : decode cX1_goOn 12 = .ok (.getfield 34, 3) := by decide +kernel
theorem dX1_goOn_15 : decode cX1_goOn 15 = .ok (.iload_n 2, 1) := by decide +kernel
theorem dX1_goOn_16 : decode cX1_goOn 16 = .ok (.iaload, 1) := by decide +kernel
theorem dX1_goOn_17 : decode cX1_goOn 17 = .ok (.invokevirtual 110, 3) := by decide +kernel
theorem dX1_goOn_20 : decode cX1_goOn 20 = .ok (.ifCond .eq 21, 3) := by decide +kernel
theorem dX1_goOn_23 : decode cX1_goOn 23 = .ok (.aload_n 0, 1) := by decide +kernel
theorem dX1_goOn_24 : decode cX1_goOn 24 = .ok (.getfield 39, 3) := by decide +kernel
theorem dX1_goOn_27 : decode cX1_goOn 27 = .ok (.aload_n 0, 1) := by decide +kernel
theorem dX1_goOn_28 : decode cX1_goOn 28 = .ok (.getfield 34, 3) := by decide +kernel
theorem dX1_goOn_31 : decode cX1_goOn 31 = .ok (.iload_n 2, 1) := by decide +kernel
theorem dX1_goOn_32 : decode cX1_goOn 32 = .ok (.iaload, 1) := by decide +kernel
theorem dX1_goOn_33 : decode cX1_goOn 33 = .ok (.aaload, 1) := by decide +kernel
theorem dX1_goOn_34 : decode cX1_goOn 34 = .ok (.iconst 0, 1) := by decide +kernel
theorem dX1_goOn_35 : decode cX1_goOn 35 = .ok (.putfield 83, 3) := by decide +kernel
theorem dX1_goOn_38 : decode cX1_goOn 38 = .ok (.iinc 1 1, 3) := by decide +kernel
theorem dX1_goOn_41 : decode cX1_goOn 41 = .ok (.iinc 2 1, 3) := by decide +kernel
theorem dX1_goOn_44 : decode cX1_goOn 44 = .ok (.goto (-40), 3) := by decide +kernel
theorem dX1_goOn_47 : decode cX1_goOn 47 = .ok (.aload_n 0, 1) := by decide +kernel
theorem dX1_goOn_48 : decode cX1_goOn 48 = .ok (.dup, 1) := by decide +kernel
theorem dX1_goOn_49 : decode cX1_goOn 49 = .ok (.getfield 24, 3) := by decide +kernel
theorem dX1_goOn_52 : decode cX1_goOn 52 = .ok (.iload_n 1, 1) := by decide +kernel
theorem dX1_goOn_53 : decode cX1_goOn 53 = .ok (.iadd, 1) := by decide +kernel
theorem dX1_goOn_54 : decode cX1_goOn 54 = .ok (.putfield 24, 3) := by decide +kernel
theorem dX1_goOn_57 : decode cX1_goOn 57 = .ok (.aload_n 0, 1) := by decide +kernel
theorem dX1_goOn_58 : decode cX1_goOn 58 = .ok (.dup, 1) := by decide +kernel
theorem dX1_goOn_59 : decode cX1_goOn 59 = .ok (.getfield 9, 3) := by decide +kernel
theorem dX1_goOn_62 : decode cX1_goOn 62 = .ok (.iconst 1, 1) := by decide +kernel
theorem dX1_goOn_63 : decode cX1_goOn 63 = .ok (.iadd, 1) := by decide +kernel
theorem dX1_goOn_64 : decode cX1_goOn 64 = .ok (.putfield 9, 3) := by decide +kernel
theorem dX1_goOn_67 : decode cX1_goOn 67 = .ok (.aload_n 0, 1) := by decide +kernel
theorem dX1_goOn_68 : decode cX1_goOn 68 = .ok (.getfield 34, 3) := by decide +kernel
theorem dX1_goOn_71 : decode cX1_goOn 71 = .ok (.bipush 16, 2) := by decide +kernel
theorem dX1_goOn_73 : decode cX1_goOn 73 = .ok (.aload_n 0, 1) := by decide +kernel
theorem dX1_goOn_74 : decode cX1_goOn 74 = .ok (.getfield 34, 3) := by decide +kernel
theorem dX1_goOn_77 : decode cX1_goOn 77 = .ok (.iconst 0, 1) := by decide +kernel
theorem dX1_goOn_78 : decode cX1_goOn 78 = .ok (.aload_n 0, 1) := by decide +kernel
theorem dX1_goOn_79 : decode cX1_goOn 79 = .ok (.getfield 34, 3) := by decide +kernel
theorem dX1_goOn_82 : decode cX1_goOn 82 = .ok (.arraylength, 1) := by decide +kernel
theorem dX1_goOn_83 : decode cX1_goOn 83 = .ok (.bipush 16, 2) := by decide +kernel
theorem dX1_goOn_85 : decode cX1_goOn 85 = .ok (.isub, 1) := by decide +kernel
theorem dX1_goOn_86 : decode cX1_goOn 86 = .ok (.invokestatic 52, 3) := by decide +kernel
theorem dX1_goOn_89 : decode cX1_goOn 89 = .ok (.iconst 0, 1) := by decide +kernel
theorem dX1_goOn_90 : decode cX1_goOn 90 = .ok (.istore_n 2, 1) := by decide +kernel
theorem dX1_goOn_91 : decode cX1_goOn 91 = .ok (.iload_n 2, 1) := by decide +kernel
theorem dX1_goOn_92 : decode cX1_goOn 92 = .ok (.aload_n 0, 1) := by decide +kernel
theorem dX1_goOn_93 : decode cX1_goOn 93 = .ok (.getfield 15, 3) := by decide +kernel
theorem dX1_goOn_96 : decode cX1_goOn 96 = .ok (.if_icmp .ge 16, 3) := by decide +kernel
theorem dX1_goOn_99 : decode cX1_goOn 99 = .ok (.aload_n 0, 1) := by decide +kernel
theorem dX1_goOn_100 : decode cX1_goOn 100 = .ok (.iload_n 2, 1) := by decide +kernel
theorem dX1_goOn_101 : decode cX1_goOn 101 = .ok (.bipush 9, 2) := by decide +kernel
theorem dX1_goOn_103 : decode cX1_goOn 103 = .ok (.invokevirtual 73, 3) := by decide +kernel
theorem dX1_goOn_106 : decode cX1_goOn 106 = .ok (.iinc 2 1, 3) := by decide +kernel
theorem dX1_goOn_109 : decode cX1_goOn 109 = .ok (.goto (-18), 3) := by decide +kernel
theorem dX1_goOn_112 : decode cX1_goOn 112 = .ok (.aload_n 0, 1) := by decide +kernel
theorem dX1_goOn_113 : decode cX1_goOn 113 = .ok (.invokevirtual 77, 3) := by decide +kernel
theorem dX1_goOn_116 : decode cX1_goOn 116 = .ok (.iload_n 1, 1) := by decide +kernel
theorem dX1_goOn_117 : decode cX1_goOn 117 = .ok (.ireturn, 1) := by decide +kernel
theorem dX1_freeSlotsOf_0 : decode cX1_freeSlotsOf 0 = .ok (.iconst 0, 1) := by decide +kernel
theorem dX1_freeSlotsOf_1 : decode cX1_freeSlotsOf 1 = .ok (.istore_n 3, 1) := by decide +kernel
theorem dX1_freeSlotsOf_2 : decode cX1_freeSlotsOf 2 = .ok (.iload_n 3, 1) := by decide +kernel
theorem dX1_freeSlotsOf_3 : decode cX1_freeSlotsOf 3 = .ok (.iconst 4, 1) := by decide +kernel
theorem dX1_freeSlotsOf_4 : decode cX1_freeSlotsOf 4 = .ok (.if_icmp .ge 21, 3) := by decide +kernel
theorem dX1_freeSlotsOf_7 : decode cX1_freeSlotsOf 7 = .ok (.aload_n 0, 1) := by decide +kernel
theorem dX1_freeSlotsOf_8 : decode cX1_freeSlotsOf 8 = .ok (.getfield 34, 3) := by decide +kernel
theorem dX1_freeSlotsOf_11 : decode cX1_freeSlotsOf 11 = .ok (.iload_n 1, 1) := by decide +kernel
theorem dX1_freeSlotsOf_12 : decode cX1_freeSlotsOf 12 = .ok (.iload_n 2, 1) := by decide +kernel
theorem dX1_freeSlotsOf_13 : decode cX1_freeSlotsOf 13 = .ok (.iload_n 3, 1) := by decide +kernel
theorem dX1_freeSlotsOf_14 : decode cX1_freeSlotsOf 14 = .ok (.invokestatic 106, 3) := by decide +kernel
theorem dX1_freeSlotsOf_17 : decode cX1_freeSlotsOf 17 = .ok (.iconst (-1), 1) := by decide +kernel
theorem dX1_freeSlotsOf_18 : decode cX1_freeSlotsOf 18 = .ok (.iastore, 1) := by decide +kernel
theorem dX1_freeSlotsOf_19 : decode cX1_freeSlotsOf 19 = .ok (.iinc 3 1, 3) := by decide +kernel
theorem dX1_freeSlotsOf_22 : decode cX1_freeSlotsOf 22 = .ok (.goto (-20), 3) := by decide +kernel
theorem dX1_freeSlotsOf_25 : decode cX1_freeSlotsOf 25 = .ok (.return_, 1) := by decide +kernel
theorem dX1_beginToWait_0 : decode cX1_beginToWait 0 = .ok (.aload_n 1, 1) := by decide +kernel
theorem dX1_beginToWait_1 : decode cX1_beginToWait 1 = .ok (.iconst 1, 1) := by decide +kernel
theorem dX1_beginToWait_2 : decode cX1_beginToWait 2 = .ok (.putfield 83, 3) := by decide +kernel
theorem dX1_beginToWait_5 : decode cX1_beginToWait 5 = .ok (.aload_n 1, 1) := by decide +kernel
theorem dX1_beginToWait_6 : decode cX1_beginToWait 6 = .ok (.aload_n 0, 1) := by decide +kernel
theorem dX1_beginToWait_7 : decode cX1_beginToWait 7 = .ok (.getfield 21, 3) := by decide +kernel
theorem dX1_beginToWait_10 : decode cX1_beginToWait 10 = .ok (.putfield 146, 3) := by decide +kernel
theorem dX1_beginToWait_13 : decode cX1_beginToWait 13 = .ok (.aload_n 0, 1) := by decide +kernel
theorem dX1_beginToWait_14 : decode cX1_beginToWait 14 = .ok (.dup, 1) := by decide +kernel
theorem dX1_beginToWait_15 : decode cX1_beginToWait 15 = .ok (.getfield 21, 3) := by decide +kernel
theorem dX1_beginToWait_18 : decode cX1_beginToWait 18 = .ok (.iconst 1, 1) := by decide +kernel
theorem dX1_beginToWait_19 : decode cX1_beginToWait 19 = .ok (.iadd, 1) := by decide +kernel
theorem dX1_beginToWait_20 : decode cX1_beginToWait 20 = .ok (.putfield 21, 3) := by decide +kernel
theorem dX1_beginToWait_23 : decode cX1_beginToWait 23 = .ok (.return_, 1) := by decide +kernel
theorem dX1_giveSlotsOut_0 : decode cX1_giveSlotsOut 0 = .ok (.aload_n 0, 1) := by decide +kernel
theorem dX1_giveSlotsOut_1 : decode cX1_giveSlotsOut 1 = .ok (.getfield 49, 3) := by decide +kernel
theorem dX1_giveSlotsOut_4 : decode cX1_giveSlotsOut 4 = .ok (.iconst (-1), 1) := by decide +kernel
theorem dX1_giveSlotsOut_5 : decode cX1_giveSlotsOut 5 = .ok (.invokestatic 58, 3) := by decide +kernel
theorem dX1_giveSlotsOut_8 : decode cX1_giveSlotsOut 8 = .ok (.iconst 0, 1) := by decide +kernel
theorem dX1_giveSlotsOut_9 : decode cX1_giveSlotsOut 9 = .ok (.istore_n 1, 1) := by decide +kernel
theorem dX1_giveSlotsOut_10 : decode cX1_giveSlotsOut 10 = .ok (.iload_n 1, 1) := by decide +kernel
theorem dX1_giveSlotsOut_11 : decode cX1_giveSlotsOut 11 = .ok (.aload_n 0, 1) := by decide +kernel
theorem dX1_giveSlotsOut_12 : decode cX1_giveSlotsOut 12 = .ok (.getfield 18, 3) := by decide +kernel
theorem dX1_giveSlotsOut_15 : decode cX1_giveSlotsOut 15 = .ok (.if_icmp .ge 35, 3) := by decide +kernel
theorem dX1_giveSlotsOut_18 : decode cX1_giveSlotsOut 18 = .ok (.aload_n 0, 1) := by decide +kernel
theorem dX1_giveSlotsOut_19 : decode cX1_giveSlotsOut 19 = .ok (.iload_n 1, 1) := by decide +kernel
theorem dX1_giveSlotsOut_20 : decode cX1_giveSlotsOut 20 = .ok (.invokevirtual 149, 3) := by decide +kernel
theorem dX1_giveSlotsOut_23 : decode cX1_giveSlotsOut 23 = .ok (.istore_n 2, 1) := by decide +kernel
theorem dX1_giveSlotsOut_24 : decode cX1_giveSlotsOut 24 = .ok (.iload_n 2, 1) := by decide +kernel
theorem dX1_giveSlotsOut_25 : decode cX1_giveSlotsOut 25 = .ok (.ifCond .lt 19, 3) := by decide +kernel
theorem dX1_giveSlotsOut_28 : decode cX1_giveSlotsOut 28 = .ok (.iload_n 2, 1) := by decide +kernel
theorem dX1_giveSlotsOut_29 : decode cX1_giveSlotsOut 29 = .ok (.aload_n 0, 1) := by decide +kernel
theorem dX1_giveSlotsOut_30 : decode cX1_giveSlotsOut 30 = .ok (.getfield 49, 3) := by decide +kernel
theorem dX1_giveSlotsOut_33 : decode cX1_giveSlotsOut 33 = .ok (.arraylength, 1) := by decide +kernel
theorem dX1_giveSlotsOut_34 : decode cX1_giveSlotsOut 34 = .ok (.if_icmp .ge 10, 3) := by decide +kernel
theorem dX1_giveSlotsOut_37 : decode cX1_giveSlotsOut 37 = .ok (.aload_n 0, 1) := by decide +kernel
theorem dX1_giveSlotsOut_38 : decode cX1_giveSlotsOut 38 = .ok (.getfield 49, 3) := by decide +kernel
theorem dX1_giveSlotsOut_41 : decode cX1_giveSlotsOut 41 = .ok (.iload_n 2, 1) := by decide +kernel
theorem dX1_giveSlotsOut_42 : decode cX1_giveSlotsOut 42 = .ok (.iload_n 1, 1) := by decide +kernel
theorem dX1_giveSlotsOut_43 : decode cX1_giveSlotsOut 43 = .ok (.iastore, 1) := by decide +kernel
theorem dX1_giveSlotsOut_44 : decode cX1_giveSlotsOut 44 = .ok (.iinc 1 1, 3) := by decide +kernel
theorem dX1_giveSlotsOut_47 : decode cX1_giveSlotsOut 47 = .ok (.goto (-37), 3) := by decide +kernel
theorem dX1_giveSlotsOut_50 : decode cX1_giveSlotsOut 50 = .ok (.iconst 0, 1) := by decide +kernel
theorem dX1_giveSlotsOut_51 : decode cX1_giveSlotsOut 51 = .ok (.istore_n 1, 1) := by decide +kernel
theorem dX1_giveSlotsOut_52 : decode cX1_giveSlotsOut 52 = .ok (.iload_n 1, 1) := by decide +kernel
theorem dX1_giveSlotsOut_53 : decode cX1_giveSlotsOut 53 = .ok (.aload_n 0, 1) := by decide +kernel
theorem dX1_giveSlotsOut_54 : decode cX1_giveSlotsOut 54 = .ok (.getfield 49, 3) := by decide +kernel
theorem dX1_giveSlotsOut_57 : decode cX1_giveSlotsOut 57 = .ok (.arraylength, 1) := by decide +kernel
theorem dX1_giveSlotsOut_58 : decode cX1_giveSlotsOut 58 = .ok (.if_icmp .ge 57, 3) := by decide +kernel
theorem dX1_giveSlotsOut_61 : decode cX1_giveSlotsOut 61 = .ok (.aload_n 0, 1) := by decide +kernel
theorem dX1_giveSlotsOut_62 : decode cX1_giveSlotsOut 62 = .ok (.aload_n 0, 1) := by decide +kernel
theorem dX1_giveSlotsOut_63 : decode cX1_giveSlotsOut 63 = .ok (.getfield 49, 3) := by decide +kernel
theorem dX1_giveSlotsOut_66 : decode cX1_giveSlotsOut 66 = .ok (.iload_n 1, 1) := by decide +kernel
theorem dX1_giveSlotsOut_67 : decode cX1_giveSlotsOut 67 = .ok (.iaload, 1) := by decide +kernel
theorem dX1_giveSlotsOut_68 : decode cX1_giveSlotsOut 68 = .ok (.invokevirtual 110, 3) := by decide +kernel
theorem dX1_giveSlotsOut_71 : decode cX1_giveSlotsOut 71 = .ok (.ifCond .eq 44, 3) := by decide +kernel
theorem dX1_giveSlotsOut_74 : decode cX1_giveSlotsOut 74 = .ok (.aload_n 0, 1) := by decide +kernel
theorem dX1_giveSlotsOut_75 : decode cX1_giveSlotsOut 75 = .ok (.getfield 49, 3) := by decide +kernel
theorem dX1_giveSlotsOut_78 : decode cX1_giveSlotsOut 78 = .ok (.iload_n 1, 1) := by decide +kernel
theorem dX1_giveSlotsOut_79 : decode cX1_giveSlotsOut 79 = .ok (.iaload, 1) := by decide +kernel
theorem dX1_giveSlotsOut_80 : decode cX1_giveSlotsOut 80 = .ok (.istore_n 2, 1) := by decide +kernel
theorem dX1_giveSlotsOut_81 : decode cX1_giveSlotsOut 81 = .ok (.aload_n 0, 1) := by decide +kernel
theorem dX1_giveSlotsOut_82 : decode cX1_giveSlotsOut 82 = .ok (.iload_n 2, 1) := by decide +kernel
theorem dX1_giveSlotsOut_83 : decode cX1_giveSlotsOut 83 = .ok (.invokevirtual 152, 3) := by decide +kernel
theorem dX1_giveSlotsOut_86 : decode cX1_giveSlotsOut 86 = .ok (.istore_n 3, 1) := by decide +kernel
theorem dX1_giveSlotsOut_87 : decode cX1_giveSlotsOut 87 = .ok (.iload_n 3, 1) := by decide +kernel
theorem dX1_giveSlotsOut_88 : decode cX1_giveSlotsOut 88 = .ok (.iconst (-1), 1) := by decide +kernel
theorem dX1_giveSlotsOut_89 : decode cX1_giveSlotsOut 89 = .ok (.if_icmp .eq 20, 3) := by decide +kernel
theorem dX1_giveSlotsOut_92 : decode cX1_giveSlotsOut 92 = .ok (.aload_n 0, 1) := by decide +kernel
theorem dX1_giveSlotsOut_93 : decode cX1_giveSlotsOut 93 = .ok (.getfield 34, 3) := by decide +kernel
theorem dX1_giveSlotsOut_96 : decode cX1_giveSlotsOut 96 = .ok (.iload_n 3, 1) := by decide +kernel
theorem dX1_giveSlotsOut_97 : decode cX1_giveSlotsOut 97 = .ok (.iload_n 2, 1) := by decide +kernel
theorem dX1_giveSlotsOut_98 : decode cX1_giveSlotsOut 98 = .ok (.iastore, 1) := by decide +kernel
theorem dX1_giveSlotsOut_99 : decode cX1_giveSlotsOut 99 = .ok (.aload_n 0, 1) := by decide +kernel
theorem dX1_giveSlotsOut_100 : decode cX1_giveSlotsOut 100 = .ok (.getfield 39, 3) := by decide +kernel
theorem dX1_giveSlotsOut_103 : decode cX1_giveSlotsOut 103 = .ok (.iload_n 2, 1) := by decide +kernel
theorem dX1_giveSlotsOut_104 : decode cX1_giveSlotsOut 104 = .ok (.aaload, 1) := by decide +kernel
theorem dX1_giveSlotsOut_105 : decode cX1_giveSlotsOut 105 = .ok (.iconst 2, 1) := by decide +kernel
theorem dX1_giveSlotsOut_106 : decode cX1_giveSlotsOut 106 = .ok (.putfield 83, 3) := by decide +kernel
theorem dX1_giveSlotsOut_109 : decode cX1_giveSlotsOut 109 = .ok (.iinc 1 1, 3) := by decide +kernel
theorem dX1_giveSlotsOut_112 : decode cX1_giveSlotsOut 112 = .ok (.goto (-60), 3) := by decide +kernel
theorem dX1_giveSlotsOut_115 : decode cX1_giveSlotsOut 115 = .ok (.return_, 1) := by decide +kernel
theorem dX1_placeInQueue_0 : decode cX1_placeInQueue 0 = .ok (.aload_n 0, 1) := by decide +kernel
theorem dX1_placeInQueue_1 : decode cX1_placeInQueue 1 = .ok (.getfield 39, 3) := by decide +kernel
theorem dX1_placeInQueue_4 : decode cX1_placeInQueue 4 = .ok (.iload_n 1, 1) := by decide +kernel
theorem dX1_placeInQueue_5 : decode cX1_placeInQueue 5 = .ok (.aaload, 1) := by decide +kernel
theorem dX1_placeInQueue_6 : decode cX1_placeInQueue 6 = .ok (.astore_n 2, 1) := by decide +kernel
theorem dX1_placeInQueue_7 : decode cX1_placeInQueue 7 = .ok (.aload_n 2, 1) := by decide +kernel
theorem dX1_placeInQueue_8 : decode cX1_placeInQueue 8 = .ok (.getfield 83, 3) := by decide +kernel
theorem dX1_placeInQueue_11 : decode cX1_placeInQueue 11 = .ok (.iconst 1, 1) := by decide +kernel
theorem dX1_placeInQueue_12 : decode cX1_placeInQueue 12 = .ok (.if_icmp .eq 5, 3) := by decide +kernel
theorem dX1_placeInQueue_15 : decode cX1_placeInQueue 15 = .ok (.iconst (-1), 1) := by decide +kernel
theorem dX1_placeInQueue_16 : decode cX1_placeInQueue 16 = .ok (.ireturn, 1) := by decide +kernel
theorem dX1_placeInQueue_17 : decode cX1_placeInQueue 17 = .ok (.iconst 0, 1) := by decide +kernel
theorem dX1_placeInQueue_18 : decode cX1_placeInQueue 18 = .ok (.istore_n 3, 1) := by decide +kernel
theorem dX1_placeInQueue_19 : decode cX1_placeInQueue 19 = .ok (.iconst 0, 1) := by decide +kernel
theorem dX1_placeInQueue_20 : decode cX1_placeInQueue 20 = .ok (.istore 4, 2) := by decide +kernel
theorem dX1_placeInQueue_22 : decode cX1_placeInQueue 22 = .ok (.iload 4, 2) := by decide +kernel
theorem dX1_placeInQueue_24 : decode cX1_placeInQueue 24 = .ok (.aload_n 0, 1) := by decide +kernel
theorem dX1_placeInQueue_25 : decode cX1_placeInQueue 25 = .ok (.getfield 18, 3) := by decide +kernel
theorem dX1_placeInQueue_28 : decode cX1_placeInQueue 28 = .ok (.if_icmp .ge 40, 3) := by decide +kernel
theorem dX1_placeInQueue_31 : decode cX1_placeInQueue 31 = .ok (.aload_n 0, 1) := by decide +kernel
theorem dX1_placeInQueue_32 : decode cX1_placeInQueue 32 = .ok (.getfield 39, 3) := by decide +kernel
theorem dX1_placeInQueue_35 : decode cX1_placeInQueue 35 = .ok (.iload 4, 2) := by decide +kernel
theorem dX1_placeInQueue_37 : decode cX1_placeInQueue 37 = .ok (.aaload, 1) := by decide +kernel
theorem dX1_placeInQueue_38 : decode cX1_placeInQueue 38 = .ok (.getfield 83, 3) := by decide +kernel
theorem dX1_placeInQueue_41 : decode cX1_placeInQueue 41 = .ok (.iconst 1, 1) := by decide +kernel
theorem dX1_placeInQueue_42 : decode cX1_placeInQueue 42 = .ok (.if_icmp .ne 20, 3) := by decide +kernel
theorem dX1_placeInQueue_45 : decode cX1_placeInQueue 45 = .ok (.aload_n 0, 1) := by decide +kernel
theorem dX1_placeInQueue_46 : decode cX1_placeInQueue 46 = .ok (.getfield 39, 3) := by decide +kernel
theorem dX1_placeInQueue_49 : decode cX1_placeInQueue 49 = .ok (.iload 4, 2) := by decide +kernel
theorem dX1_placeInQueue_51 : decode cX1_placeInQueue 51 = .ok (.aaload, 1) := by decide +kernel
theorem dX1_placeInQueue_52 : decode cX1_placeInQueue 52 = .ok (.aload_n 2, 1) := by decide +kernel
theorem dX1_placeInQueue_53 : decode cX1_placeInQueue 53 = .ok (.invokevirtual 155, 3) := by decide +kernel
theorem dX1_placeInQueue_56 : decode cX1_placeInQueue 56 = .ok (.ifCond .eq 6, 3) := by decide +kernel
theorem dX1_placeInQueue_59 : decode cX1_placeInQueue 59 = .ok (.iinc 3 1, 3) := by decide +kernel
theorem dX1_placeInQueue_62 : decode cX1_placeInQueue 62 = .ok (.iinc 4 1, 3) := by decide +kernel
theorem dX1_placeInQueue_65 : decode cX1_placeInQueue 65 = .ok (.goto (-43), 3) := by decide +kernel
theorem dX1_placeInQueue_68 : decode cX1_placeInQueue 68 = .ok (.iload_n 3, 1) := by decide +kernel
theorem dX1_placeInQueue_69 : decode cX1_placeInQueue 69 = .ok (.ireturn, 1) := by decide +kernel
theorem dX1_cellOf_0 : decode cX1_cellOf 0 = .ok (.iconst 0, 1) := by decide +kernel
theorem dX1_cellOf_1 : decode cX1_cellOf 1 = .ok (.istore_n 2, 1) := by decide +kernel
theorem dX1_cellOf_2 : decode cX1_cellOf 2 = .ok (.iload_n 2, 1) := by decide +kernel
theorem dX1_cellOf_3 : decode cX1_cellOf 3 = .ok (.aload_n 0, 1) := by decide +kernel
theorem dX1_cellOf_4 : decode cX1_cellOf 4 = .ok (.getfield 34, 3) := by decide +kernel
theorem dX1_cellOf_7 : decode cX1_cellOf 7 = .ok (.arraylength, 1) := by decide +kernel
theorem dX1_cellOf_8 : decode cX1_cellOf 8 = .ok (.if_icmp .ge 21, 3) := by decide +kernel
theorem dX1_cellOf_11 : decode cX1_cellOf 11 = .ok (.aload_n 0, 1) := by decide +kernel
theorem dX1_cellOf_12 : decode cX1_cellOf 12 = .ok (.getfield 34, 3) := by decide +kernel
theorem dX1_cellOf_15 : decode cX1_cellOf 15 = .ok (.iload_n 2, 1) := by decide +kernel
theorem dX1_cellOf_16 : decode cX1_cellOf 16 = .ok (.iaload, 1) := by decide +kernel
theorem dX1_cellOf_17 : decode cX1_cellOf 17 = .ok (.iload_n 1, 1) := by decide +kernel
theorem dX1_cellOf_18 : decode cX1_cellOf 18 = .ok (.if_icmp .ne 5, 3) := by decide +kernel
theorem dX1_cellOf_21 : decode cX1_cellOf 21 = .ok (.iload_n 2, 1) := by decide +kernel
theorem dX1_cellOf_22 : decode cX1_cellOf 22 = .ok (.ireturn, 1) := by decide +kernel
theorem dX1_cellOf_23 : decode cX1_cellOf 23 = .ok (.iinc 2 1, 3) := by decide +kernel
theorem dX1_cellOf_26 : decode cX1_cellOf 26 = .ok (.goto (-24), 3) := by decide +kernel
theorem dX1_cellOf_29 : decode cX1_cellOf 29 = .ok (.iconst (-1), 1) := by decide +kernel
theorem dX1_cellOf_30 : decode cX1_cellOf 30 = .ok (.ireturn, 1) := by decide +kernel
theorem dX1_earliestCell_0 : decode cX1_earliestCell 0 = .ok (.iconst 0, 1) := by decide +kernel
theorem dX1_earliestCell_1 : decode cX1_earliestCell 1 = .ok (.istore_n 2, 1) := by decide +kernel
theorem dX1_earliestCell_2 : decode cX1_earliestCell 2 = .ok (.iload_n 2, 1) := by decide +kernel
theorem dX1_earliestCell_3 : decode cX1_earliestCell 3 = .ok (.aload_n 0, 1) := by decide +kernel
theorem dX1_earliestCell_4 : decode cX1_earliestCell 4 = .ok (.getfield 34, 3) := by decide +kernel
theorem dX1_earliestCell_7 : decode cX1_earliestCell 7 = .ok (.arraylength, 1) := by decide +kernel
theorem dX1_earliestCell_8 : decode cX1_earliestCell 8 = .ok (.if_icmp .ge 45, 3) := by decide +kernel
theorem dX1_earliestCell_11 : decode cX1_earliestCell 11 = .ok (.aload_n 0, 1) := by decide +kernel
theorem dX1_earliestCell_12 : decode cX1_earliestCell 12 = .ok (.getfield 34, 3) := by decide +kernel
theorem dX1_earliestCell_15 : decode cX1_earliestCell 15 = .ok (.iload_n 2, 1) := by decide +kernel
theorem dX1_earliestCell_16 : decode cX1_earliestCell 16 = .ok (.iaload, 1) := by decide +kernel
theorem dX1_earliestCell_17 : decode cX1_earliestCell 17 = .ok (.iconst (-1), 1) := by decide +kernel
theorem dX1_earliestCell_18 : decode cX1_earliestCell 18 = .ok (.if_icmp .ne 29, 3) := by decide +kernel
theorem dX1_earliestCell_21 : decode cX1_earliestCell 21 = .ok (.aload_n 0, 1) := by decide +kernel
theorem dX1_earliestCell_22 : decode cX1_earliestCell 22 = .ok (.iload_n 1, 1) := by decide +kernel
theorem dX1_earliestCell_23 : decode cX1_earliestCell 23 = .ok (.iload_n 2, 1) := by decide +kernel
theorem dX1_earliestCell_24 : decode cX1_earliestCell 24 = .ok (.invokestatic 103, 3) := by decide +kernel
theorem dX1_earliestCell_27 : decode cX1_earliestCell 27 = .ok (.invokevirtual 159, 3) := by decide +kernel
theorem dX1_earliestCell_30 : decode cX1_earliestCell 30 = .ok (.ifCond .eq 17, 3) := by decide +kernel
theorem dX1_earliestCell_33 : decode cX1_earliestCell 33 = .ok (.aload_n 0, 1) := by decide +kernel
theorem dX1_earliestCell_34 : decode cX1_earliestCell 34 = .ok (.iload_n 1, 1) := by decide +kernel
theorem dX1_earliestCell_35 : decode cX1_earliestCell 35 = .ok (.iload_n 2, 1) := by decide +kernel
theorem dX1_earliestCell_36 : decode cX1_earliestCell 36 = .ok (.invokestatic 120, 3) := by decide +kernel
theorem dX1_earliestCell_39 : decode cX1_earliestCell 39 = .ok (.invokevirtual 163, 3) := by decide +kernel
theorem dX1_earliestCell_42 : decode cX1_earliestCell 42 = .ok (.ifCond .eq 5, 3) := by decide +kernel
theorem dX1_earliestCell_45 : decode cX1_earliestCell 45 = .ok (.iload_n 2, 1) := by decide +kernel
theorem dX1_earliestCell_46 : decode cX1_earliestCell 46 = .ok (.ireturn, 1) := by decide +kernel
theorem dX1_earliestCell_47 : decode cX1_earliestCell 47 = .ok (.iinc 2 1, 3) := by decide +kernel
theorem dX1_earliestCell_50 : decode cX1_earliestCell 50 = .ok (.goto (-48), 3) := by decide +kernel
theorem dX1_earliestCell_53 : decode cX1_earliestCell 53 = .ok (.iconst (-1), 1) := by decide +kernel
theorem dX1_earliestCell_54 : decode cX1_earliestCell 54 = .ok (.ireturn, 1) := by decide +kernel
theorem dX1_couldCome_0 : decode cX1_couldCome 0 = .ok (.aload_n 0, 1) := by decide +kernel
theorem dX1_couldCome_1 : decode cX1_couldCome 1 = .ok (.getfield 9, 3) := by decide +kernel
theorem dX1_couldCome_4 : decode cX1_couldCome 4 = .ok (.iload_n 2, 1) := by decide +kernel
theorem dX1_couldCome_5 : decode cX1_couldCome 5 = .ok (.iadd, 1) := by decide +kernel
theorem dX1_couldCome_6 : decode cX1_couldCome 6 = .ok (.aload_n 0, 1) := by decide +kernel
theorem dX1_couldCome_7 : decode cX1_couldCome 7 = .ok (.getfield 39, 3) := by decide +kernel
theorem dX1_couldCome_10 : decode cX1_couldCome 10 = .ok (.iload_n 1, 1) := by decide +kernel
theorem dX1_couldCome_11 : decode cX1_couldCome 11 = .ok (.aaload, 1) := by decide +kernel
theorem dX1_couldCome_12 : decode cX1_couldCome 12 = .ok (.getfield 80, 3) := by decide +kernel
theorem dX1_couldCome_15 : decode cX1_couldCome 15 = .ok (.if_icmp .lt 7, 3) := by decide +kernel
theorem dX1_couldCome_18 : decode cX1_couldCome 18 = .ok (.iconst 1, 1) := by decide +kernel
theorem dX1_couldCome_19 : decode cX1_couldCome 19 = .ok (.goto 4, 3) := by decide +kernel
theorem dX1_couldCome_22 : decode cX1_couldCome 22 = .ok (.iconst 0, 1) := by decide +kernel
theorem dX1_couldCome_23 : decode cX1_couldCome 23 = .ok (.ireturn, 1) := by decide +kernel
theorem dX1_mayMeet_0 : decode cX1_mayMeet 0 = .ok (.aload_n 0, 1) := by decide +kernel
theorem dX1_mayMeet_1 : decode cX1_mayMeet 1 = .ok (.getfield 31, 3) := by decide +kernel
theorem dX1_mayMeet_4 : decode cX1_mayMeet 4 = .ok (.iconst 1, 1) := by decide +kernel
theorem dX1_mayMeet_5 : decode cX1_mayMeet 5 = .ok (.iaload, 1) := by decide +kernel
theorem dX1_mayMeet_6 : decode cX1_mayMeet 6 = .ok (.ifCond .eq 16, 3) := by decide +kernel
theorem dX1_mayMeet_9 : decode cX1_mayMeet 9 = .ok (.aload_n 0, 1) := by decide +kernel
theorem dX1_mayMeet_10 : decode cX1_mayMeet 10 = .ok (.getfield 39, 3) := by decide +kernel
theorem dX1_mayMeet_13 : decode cX1_mayMeet 13 = .ok (.iload_n 1, 1) := by decide +kernel
theorem dX1_mayMeet_14 : decode cX1_mayMeet 14 = .ok (.aaload, 1) := by decide +kernel
theorem dX1_mayMeet_15 : decode cX1_mayMeet 15 = .ok (.getfield 132, 3) := by decide +kernel
theorem dX1_mayMeet_18 : decode cX1_mayMeet 18 = .ok (.iload_n 2, 1) := by decide +kernel
theorem dX1_mayMeet_19 : decode cX1_mayMeet 19 = .ok (.if_icmp .eq 7, 3) := by decide +kernel
theorem dX1_mayMeet_22 : decode cX1_mayMeet 22 = .ok (.iconst 1, 1) := by decide +kernel
theorem dX1_mayMeet_23 : decode cX1_mayMeet 23 = .ok (.goto 4, 3) := by decide +kernel
theorem dX1_mayMeet_26 : decode cX1_mayMeet 26 = .ok (.iconst 0, 1) := by decide +kernel
theorem dX1_mayMeet_27 : decode cX1_mayMeet 27 = .ok (.ireturn, 1) := by decide +kernel
theorem dX1_routeFor_0 : decode cX1_routeFor 0 = .ok (.aload_n 0, 1) := by decide +kernel
theorem dX1_routeFor_1 : decode cX1_routeFor 1 = .ok (.getfield 45, 3) := by decide +kernel
theorem dX1_routeFor_4 : decode cX1_routeFor 4 = .ok (.iload_n 2, 1) := by decide +kernel
theorem dX1_routeFor_5 : decode cX1_routeFor 5 = .ok (.aaload, 1) := by decide +kernel
theorem dX1_routeFor_6 : decode cX1_routeFor 6 = .ok (.aload_n 0, 1) := by decide +kernel
theorem dX1_routeFor_7 : decode cX1_routeFor 7 = .ok (.getfield 39, 3) := by decide +kernel
theorem dX1_routeFor_10 : decode cX1_routeFor 10 = .ok (.iload_n 1, 1) := by decide +kernel
theorem dX1_routeFor_11 : decode cX1_routeFor 11 = .ok (.aaload, 1) := by decide +kernel
theorem dX1_routeFor_12 : decode cX1_routeFor 12 = .ok (.getfield 129, 3) := by decide +kernel
theorem dX1_routeFor_15 : decode cX1_routeFor 15 = .ok (.invokevirtual 166, 3) := by decide +kernel
theorem dX1_routeFor_18 : decode cX1_routeFor 18 = .ok (.ireturn, 1) := by decide +kernel
theorem dX1_mostWithSlotsOf_0 : decode cX1_mostWithSlotsOf 0 = .ok (.bipush 12, 2) := by decide +kernel
theorem dX1_mostWithSlotsOf_2 : decode cX1_mostWithSlotsOf 2 = .ok (.istore_n 2, 1) := by decide +kernel
theorem dX1_mostWithSlotsOf_3 : decode cX1_mostWithSlotsOf 3 = .ok (.iconst 0, 1) := by decide +kernel
theorem dX1_mostWithSlotsOf_4 : decode cX1_mostWithSlotsOf 4 = .ok (.istore_n 3, 1) := by decide +kernel
theorem dX1_mostWithSlotsOf_5 : decode cX1_mostWithSlotsOf 5 = .ok (.iload_n 3, 1) := by decide +kernel
theorem dX1_mostWithSlotsOf_6 : decode cX1_mostWithSlotsOf 6 = .ok (.bipush 16, 2) := by decide +kernel
theorem dX1_mostWithSlotsOf_8 : decode cX1_mostWithSlotsOf 8 = .ok (.if_icmp .ge 31, 3) := by decide +kernel
theorem dX1_mostWithSlotsOf_11 : decode cX1_mostWithSlotsOf 11 = .ok (.aload_n 0, 1) := by decide +kernel
theorem dX1_mostWithSlotsOf_12 : decode cX1_mostWithSlotsOf 12 = .ok (.iload_n 3, 1) := by decide +kernel
theorem dX1_mostWithSlotsOf_13 : decode cX1_mostWithSlotsOf 13 = .ok (.iload_n 1, 1) := by decide +kernel
theorem dX1_mostWithSlotsOf_14 : decode cX1_mostWithSlotsOf 14 = .ok (.invokevirtual 169, 3) := by decide +kernel
theorem dX1_mostWithSlotsOf_17 : decode cX1_mostWithSlotsOf 17 = .ok (.aload_n 0, 1) := by decide +kernel
theorem dX1_mostWithSlotsOf_18 : decode cX1_mostWithSlotsOf 18 = .ok (.iload_n 3, 1) := by decide +kernel
theorem dX1_mostWithSlotsOf_19 : decode cX1_mostWithSlotsOf 19 = .ok (.iload_n 1, 1) := by decide +kernel
theorem dX1_mostWithSlotsOf_20 : decode cX1_mostWithSlotsOf 20 = .ok (.invokevirtual 172, 3) := by decide +kernel
theorem dX1_mostWithSlotsOf_23 : decode cX1_mostWithSlotsOf 23 = .ok (.iadd, 1) := by decide +kernel
theorem dX1_mostWithSlotsOf_24 : decode cX1_mostWithSlotsOf 24 = .ok (.istore 4, 2) := by decide +kernel
theorem dX1_mostWithSlotsOf_26 : decode cX1_mostWithSlotsOf 26 = .ok (.iload_n 2, 1) := by decide +kernel
theorem dX1_mostWithSlotsOf_27 : decode cX1_mostWithSlotsOf 27 = .ok (.iload 4, 2) := by decide +kernel
theorem dX1_mostWithSlotsOf_29 : decode cX1_mostWithSlotsOf 29 = .ok (.invokestatic 141, 3) := by decide +kernel
theorem dX1_mostWithSlotsOf_32 : decode cX1_mostWithSlotsOf 32 = .ok (.istore_n 2, 1) := by decide +kernel
theorem dX1_mostWithSlotsOf_33 : decode cX1_mostWithSlotsOf 33 = .ok (.iinc 3 1, 3) := by decide +kernel
theorem dX1_mostWithSlotsOf_36 : decode cX1_mostWithSlotsOf 36 = .ok (.goto (-31), 3) := by decide +kernel
theorem dX1_mostWithSlotsOf_39 : decode cX1_mostWithSlotsOf 39 = .ok (.iload_n 2, 1) := by decide +kernel
theorem dX1_mostWithSlotsOf_40 : decode cX1_mostWithSlotsOf 40 = .ok (.ireturn, 1) := by decide +kernel
theorem dX1_freeSlotsOfGroup_0 : decode cX1_freeSlotsOfGroup 0 = .ok (.iconst 0, 1) := by decide +kernel
theorem dX1_freeSlotsOfGroup_1 : decode cX1_freeSlotsOfGroup 1 = .ok (.istore_n 3, 1) := by decide +kernel
theorem dX1_freeSlotsOfGroup_2 : decode cX1_freeSlotsOfGroup 2 = .ok (.iconst 0, 1) := by decide +kernel
theorem dX1_freeSlotsOfGroup_3 : decode cX1_freeSlotsOfGroup 3 = .ok (.istore 4, 2) := by decide +kernel
theorem dX1_freeSlotsOfGroup_5 : decode cX1_freeSlotsOfGroup 5 = .ok (.iload 4, 2) := by decide +kernel
theorem dX1_freeSlotsOfGroup_7 : decode cX1_freeSlotsOfGroup 7 = .ok (.bipush 16, 2) := by decide +kernel
theorem dX1_freeSlotsOfGroup_9 : decode cX1_freeSlotsOfGroup 9 = .ok (.if_icmp .ge 40, 3) := by decide +kernel
theorem dX1_freeSlotsOfGroup_12 : decode cX1_freeSlotsOfGroup 12 = .ok (.aload_n 0, 1) := by decide +kernel
theorem dX1_freeSlotsOfGroup_13 : decode cX1_freeSlotsOfGroup 13 = .ok (.getfield 34, 3) := by decide +kernel
theorem dX1_freeSlotsOfGroup_16 : decode cX1_freeSlotsOfGroup 16 = .ok (.iload_n 2, 1) := by decide +kernel
theorem dX1_freeSlotsOfGroup_17 : decode cX1_freeSlotsOfGroup 17 = .ok (.bipush 16, 2) := by decide +kernel
theorem dX1_freeSlotsOfGroup_19 : decode cX1_freeSlotsOfGroup 19 = .ok (.imul, 1) := by decide +kernel
theorem dX1_freeSlotsOfGroup_20 : decode cX1_freeSlotsOfGroup 20 = .ok (.iload 4, 2) := by decide +kernel
theorem dX1_freeSlotsOfGroup_22 : decode cX1_freeSlotsOfGroup 22 = .ok (.iadd, 1) := by decide +kernel
theorem dX1_freeSlotsOfGroup_23 : decode cX1_freeSlotsOfGroup 23 = .ok (.iaload, 1) := by decide +kernel
theorem dX1_freeSlotsOfGroup_24 : decode cX1_freeSlotsOfGroup 24 = .ok (.iconst (-1), 1) := by decide +kernel
theorem dX1_freeSlotsOfGroup_25 : decode cX1_freeSlotsOfGroup 25 = .ok (.if_icmp .ne 18, 3) := by decide +kernel
theorem dX1_freeSlotsOfGroup_28 : decode cX1_freeSlotsOfGroup 28 = .ok (.iload_n 1, 1) := by decide +kernel
theorem dX1_freeSlotsOfGroup_29 : decode cX1_freeSlotsOfGroup 29 = .ok (.iload 4, 2) := by decide +kernel
theorem dX1_freeSlotsOfGroup_31 : decode cX1_freeSlotsOfGroup 31 = .ok (.invokestatic 120, 3) := by decide +kernel
theorem dX1_freeSlotsOfGroup_34 : decode cX1_freeSlotsOfGroup 34 = .ok (.invokestatic 175, 3) := by decide +kernel
theorem dX1_freeSlotsOfGroup_37 : decode cX1_freeSlotsOfGroup 37 = .ok (.ifCond .eq 6, 3) := by decide +kernel
theorem dX1_freeSlotsOfGroup_40 : decode cX1_freeSlotsOfGroup 40 = .ok (.iinc 3 1, 3) := by decide +kernel
theorem dX1_freeSlotsOfGroup_43 : decode cX1_freeSlotsOfGroup 43 = .ok (.iinc 4 1, 3) := by decide +kernel
theorem dX1_freeSlotsOfGroup_46 : decode cX1_freeSlotsOfGroup 46 = .ok (.goto (-41), 3) := by decide +kernel
theorem dX1_freeSlotsOfGroup_49 : decode cX1_freeSlotsOfGroup 49 = .ok (.iload_n 3, 1) := by decide +kernel
theorem dX1_freeSlotsOfGroup_50 : decode cX1_freeSlotsOfGroup 50 = .ok (.ireturn, 1) := by decide +kernel
theorem dX1_pupilsNotKeptTo_0 : decode cX1_pupilsNotKeptTo 0 = .ok (.iconst 0, 1) := by decide +kernel
theorem dX1_pupilsNotKeptTo_1 : decode cX1_pupilsNotKeptTo 1 = .ok (.istore_n 3, 1) := by decide +kernel
theorem dX1_pupilsNotKeptTo_2 : decode cX1_pupilsNotKeptTo 2 = .ok (.iconst 0, 1) := by decide +kernel
theorem dX1_pupilsNotKeptTo_3 : decode cX1_pupilsNotKeptTo 3 = .ok (.istore 4, 2) := by decide +kernel
theorem dX1_pupilsNotKeptTo_5 : decode cX1_pupilsNotKeptTo 5 = .ok (.iload 4, 2) := by decide +kernel
theorem dX1_pupilsNotKeptTo_7 : decode cX1_pupilsNotKeptTo 7 = .ok (.aload_n 0, 1) := by decide +kernel
theorem dX1_pupilsNotKeptTo_8 : decode cX1_pupilsNotKeptTo 8 = .ok (.getfield 18, 3) := by decide +kernel
theorem dX1_pupilsNotKeptTo_11 : decode cX1_pupilsNotKeptTo 11 = .ok (.if_icmp .ge 67, 3) := by decide +kernel
theorem dX1_pupilsNotKeptTo_14 : decode cX1_pupilsNotKeptTo 14 = .ok (.aload_n 0, 1) := by decide +kernel
theorem dX1_pupilsNotKeptTo_15 : decode cX1_pupilsNotKeptTo 15 = .ok (.getfield 39, 3) := by decide +kernel
theorem dX1_pupilsNotKeptTo_18 : decode cX1_pupilsNotKeptTo 18 = .ok (.iload 4, 2) := by decide +kernel
theorem dX1_pupilsNotKeptTo_20 : decode cX1_pupilsNotKeptTo 20 = .ok (.aaload, 1) := by decide +kernel
theorem dX1_pupilsNotKeptTo_21 : decode cX1_pupilsNotKeptTo 21 = .ok (.getfield 83, 3) := by decide +kernel
theorem dX1_pupilsNotKeptTo_24 : decode cX1_pupilsNotKeptTo 24 = .ok (.istore 5, 2) := by decide +kernel
theorem dX1_pupilsNotKeptTo_26 : decode cX1_pupilsNotKeptTo 26 = .ok (.iload 5, 2) := by decide +kernel
theorem dX1_pupilsNotKeptTo_28 : decode cX1_pupilsNotKeptTo 28 = .ok (.ifCond .eq 9, 3) := by decide +kernel
theorem dX1_pupilsNotKeptTo_31 : decode cX1_pupilsNotKeptTo 31 = .ok (.iload 5, 2) := by decide +kernel
theorem dX1_pupilsNotKeptTo_33 : decode cX1_pupilsNotKeptTo 33 = .ok (.iconst 1, 1) := by decide +kernel
theorem dX1_pupilsNotKeptTo_34 : decode cX1_pupilsNotKeptTo 34 = .ok (.if_icmp .ne 7, 3) := by decide +kernel
theorem dX1_pupilsNotKeptTo_37 : decode cX1_pupilsNotKeptTo 37 = .ok (.iconst 1, 1) := by decide +kernel
theorem dX1_pupilsNotKeptTo_38 : decode cX1_pupilsNotKeptTo 38 = .ok (.goto 4, 3) := by decide +kernel
theorem dX1_pupilsNotKeptTo_41 : decode cX1_pupilsNotKeptTo 41 = .ok (.iconst 0, 1) := by decide +kernel
theorem dX1_pupilsNotKeptTo_42 : decode cX1_pupilsNotKeptTo 42 = .ok (.istore 6, 2) := by decide +kernel
theorem dX1_pupilsNotKeptTo_44 : decode cX1_pupilsNotKeptTo 44 = .ok (.iload 6, 2) := by decide +kernel
theorem dX1_pupilsNotKeptTo_46 : decode cX1_pupilsNotKeptTo 46 = .ok (.ifCond .eq 26, 3) := by decide +kernel
theorem dX1_pupilsNotKeptTo_49 : decode cX1_pupilsNotKeptTo 49 = .ok (.aload_n 0, 1) := by decide +kernel
theorem dX1_pupilsNotKeptTo_50 : decode cX1_pupilsNotKeptTo 50 = .ok (.iload 4, 2) := by decide +kernel
theorem dX1_pupilsNotKeptTo_52 : decode cX1_pupilsNotKeptTo 52 = .ok (.iload_n 2, 1) := by decide +kernel
theorem dX1_pupilsNotKeptTo_53 : decode cX1_pupilsNotKeptTo 53 = .ok (.invokevirtual 159, 3) := by decide +kernel
theorem dX1_pupilsNotKeptTo_56 : decode cX1_pupilsNotKeptTo 56 = .ok (.ifCond .eq 16, 3) := by decide +kernel
theorem dX1_pupilsNotKeptTo_59 : decode cX1_pupilsNotKeptTo 59 = .ok (.aload_n 0, 1) := by decide +kernel
theorem dX1_pupilsNotKeptTo_60 : decode cX1_pupilsNotKeptTo 60 = .ok (.iload 4, 2) := by decide +kernel
theorem dX1_pupilsNotKeptTo_62 : decode cX1_pupilsNotKeptTo 62 = .ok (.iload_n 1, 1) := by decide +kernel
theorem dX1_pupilsNotKeptTo_63 : decode cX1_pupilsNotKeptTo 63 = .ok (.invokevirtual 178, 3) := by decide +kernel
theorem dX1_pupilsNotKeptTo_66 : decode cX1_pupilsNotKeptTo 66 = .ok (.ifCond .eq 6, 3) := by decide +kernel
theorem dX1_pupilsNotKeptTo_69 : decode cX1_pupilsNotKeptTo 69 = .ok (.iinc 3 1, 3) := by decide +kernel
theorem dX1_pupilsNotKeptTo_72 : decode cX1_pupilsNotKeptTo 72 = .ok (.iinc 4 1, 3) := by decide +kernel
theorem dX1_pupilsNotKeptTo_75 : decode cX1_pupilsNotKeptTo 75 = .ok (.goto (-70), 3) := by decide +kernel
theorem dX1_pupilsNotKeptTo_78 : decode cX1_pupilsNotKeptTo 78 = .ok (.iload_n 3, 1) := by decide +kernel
theorem dX1_pupilsNotKeptTo_79 : decode cX1_pupilsNotKeptTo 79 = .ok (.ireturn, 1) := by decide +kernel
theorem dX1_mayMeetOutside_0 : decode cX1_mayMeetOutside 0 = .ok (.iconst 0, 1) := by decide +kernel
theorem dX1_mayMeetOutside_1 : decode cX1_mayMeetOutside 1 = .ok (.istore_n 3, 1) := by decide +kernel
theorem dX1_mayMeetOutside_2 : decode cX1_mayMeetOutside 2 = .ok (.iload_n 3, 1) := by decide +kernel
theorem dX1_mayMeetOutside_3 : decode cX1_mayMeetOutside 3 = .ok (.aload_n 0, 1) := by decide +kernel
theorem dX1_mayMeetOutside_4 : decode cX1_mayMeetOutside 4 = .ok (.getfield 15, 3) := by decide +kernel
theorem dX1_mayMeetOutside_7 : decode cX1_mayMeetOutside 7 = .ok (.if_icmp .ge 28, 3) := by decide +kernel
theorem dX1_mayMeetOutside_10 : decode cX1_mayMeetOutside 10 = .ok (.iload_n 2, 1) := by decide +kernel
theorem dX1_mayMeetOutside_11 : decode cX1_mayMeetOutside 11 = .ok (.iload_n 3, 1) := by decide +kernel
theorem dX1_mayMeetOutside_12 : decode cX1_mayMeetOutside 12 = .ok (.invokestatic 175, 3) := by decide +kernel
theorem dX1_mayMeetOutside_15 : decode cX1_mayMeetOutside 15 = .ok (.ifCond .ne 14, 3) := by decide +kernel
theorem dX1_mayMeetOutside_18 : decode cX1_mayMeetOutside 18 = .ok (.aload_n 0, 1) := by decide +kernel
theorem dX1_mayMeetOutside_19 : decode cX1_mayMeetOutside 19 = .ok (.iload_n 1, 1) := by decide +kernel
theorem dX1_mayMeetOutside_20 : decode cX1_mayMeetOutside 20 = .ok (.iload_n 3, 1) := by decide +kernel
theorem dX1_mayMeetOutside_21 : decode cX1_mayMeetOutside 21 = .ok (.invokevirtual 163, 3) := by decide +kernel
theorem dX1_mayMeetOutside_24 : decode cX1_mayMeetOutside 24 = .ok (.ifCond .eq 5, 3) := by decide +kernel
theorem dX1_mayMeetOutside_27 : decode cX1_mayMeetOutside 27 = .ok (.iconst 1, 1) := by decide +kernel
theorem dX1_mayMeetOutside_28 : decode cX1_mayMeetOutside 28 = .ok (.ireturn, 1) := by decide +kernel
theorem dX1_mayMeetOutside_29 : decode cX1_mayMeetOutside 29 = .ok (.iinc 3 1, 3) := by decide +kernel
theorem dX1_mayMeetOutside_32 : decode cX1_mayMeetOutside 32 = .ok (.goto (-30), 3) := by decide +kernel
theorem dX1_mayMeetOutside_35 : decode cX1_mayMeetOutside 35 = .ok (.iconst 0, 1) := by decide +kernel
theorem dX1_mayMeetOutside_36 : decode cX1_mayMeetOutside 36 = .ok (.ireturn, 1) := by decide +kernel
theorem dX1_isInGroup_0 : decode cX1_isInGroup 0 = .ok (.iload_n 0, 1) := by decide +kernel
theorem dX1_isInGroup_1 : decode cX1_isInGroup 1 = .ok (.iload_n 1, 1) := by decide +kernel
theorem dX1_isInGroup_2 : decode cX1_isInGroup 2 = .ok (.ishr, 1) := by decide +kernel
theorem dX1_isInGroup_3 : decode cX1_isInGroup 3 = .ok (.iconst 1, 1) := by decide +kernel
theorem dX1_isInGroup_4 : decode cX1_isInGroup 4 = .ok (.iand, 1) := by decide +kernel
theorem dX1_isInGroup_5 : decode cX1_isInGroup 5 = .ok (.iconst 1, 1) := by decide +kernel
theorem dX1_isInGroup_6 : decode cX1_isInGroup 6 = .ok (.if_icmp .ne 7, 3) := by decide +kernel
theorem dX1_isInGroup_9 : decode cX1_isInGroup 9 = .ok (.iconst 1, 1) := by decide +kernel
theorem dX1_isInGroup_10 : decode cX1_isInGroup 10 = .ok (.goto 4, 3) := by decide +kernel
theorem dX1_isInGroup_13 : decode cX1_isInGroup 13 = .ok (.iconst 0, 1) := by decide +kernel
theorem dX1_isInGroup_14 : decode cX1_isInGroup 14 = .ok (.ireturn, 1) := by decide +kernel
theorem dX1_pupilProperty_0 : decode cX1_pupilProperty 0 = .ok (.aload_n 0, 1) := by decide +kernel
theorem dX1_pupilProperty_1 : decode cX1_pupilProperty 1 = .ok (.getfield 39, 3) := by decide +kernel
theorem dX1_pupilProperty_4 : decode cX1_pupilProperty 4 = .ok (.iload_n 1, 1) := by decide +kernel
theorem dX1_pupilProperty_5 : decode cX1_pupilProperty 5 = .ok (.aaload, 1) := by decide +kernel
theorem dX1_pupilProperty_6 : decode cX1_pupilProperty 6 = .ok (.astore_n 3, 1) := by decide +kernel
theorem dX1_pupilProperty_7 : decode cX1_pupilProperty 7 = .ok (.iload_n 2, 1) := by decide +kernel
theorem dX1_pupilProperty_8 : decode cX1_pupilProperty 8 = .ok (.tableswitch 101 0 10 #[60, 65, 70, 75, 80, 101, 101, 101, 85, 90, 96], 60) := by decide +kernel
theorem dX1_pupilProperty_68 : decode cX1_pupilProperty 68 = .ok (.aload_n 3, 1) := by decide +kernel
theorem dX1_pupilProperty_69 : decode cX1_pupilProperty 69 = .ok (.getfield 83, 3) := by decide +kernel
theorem dX1_pupilProperty_72 : decode cX1_pupilProperty 72 = .ok (.ireturn, 1) := by decide +kernel
theorem dX1_pupilProperty_73 : decode cX1_pupilProperty 73 = .ok (.aload_n 3, 1) := by decide +kernel
theorem dX1_pupilProperty_74 : decode cX1_pupilProperty 74 = .ok (.getfield 138, 3) := by decide +kernel
theorem dX1_pupilProperty_77 : decode cX1_pupilProperty 77 = .ok (.ireturn, 1) := by decide +kernel
theorem dX1_pupilProperty_78 : decode cX1_pupilProperty 78 = .ok (.aload_n 3, 1) := by decide +kernel
theorem dX1_pupilProperty_79 : decode cX1_pupilProperty 79 = .ok (.getfield 80, 3) := by decide +kernel
theorem dX1_pupilProperty_82 : decode cX1_pupilProperty 82 = .ok (.ireturn, 1) := by decide +kernel
theorem dX1_pupilProperty_83 : decode cX1_pupilProperty 83 = .ok (.aload_n 3, 1) := by decide +kernel
theorem dX1_pupilProperty_84 : decode cX1_pupilProperty 84 = .ok (.getfield 129, 3) := by decide +kernel
theorem dX1_pupilProperty_87 : decode cX1_pupilProperty 87 = .ok (.ireturn, 1) := by decide +kernel
theorem dX1_pupilProperty_88 : decode cX1_pupilProperty 88 = .ok (.aload_n 3, 1) := by decide +kernel
theorem dX1_pupilProperty_89 : decode cX1_pupilProperty 89 = .ok (.getfield 132, 3) := by decide +kernel
theorem dX1_pupilProperty_92 : decode cX1_pupilProperty 92 = .ok (.ireturn, 1) := by decide +kernel
theorem dX1_pupilProperty_93 : decode cX1_pupilProperty 93 = .ok (.aload_n 3, 1) := by decide +kernel
theorem dX1_pupilProperty_94 : decode cX1_pupilProperty 94 = .ok (.getfield 114, 3) := by decide +kernel
theorem dX1_pupilProperty_97 : decode cX1_pupilProperty 97 = .ok (.ireturn, 1) := by decide +kernel
theorem dX1_pupilProperty_98 : decode cX1_pupilProperty 98 = .ok (.aload_n 0, 1) := by decide +kernel
theorem dX1_pupilProperty_99 : decode cX1_pupilProperty 99 = .ok (.iload_n 1, 1) := by decide +kernel
theorem dX1_pupilProperty_100 : decode cX1_pupilProperty 100 = .ok (.invokevirtual 149, 3) := by decide +kernel
theorem dX1_pupilProperty_103 : decode cX1_pupilProperty 103 = .ok (.ireturn, 1) := by decide +kernel
theorem dX1_pupilProperty_104 : decode cX1_pupilProperty 104 = .ok (.aload_n 3, 1) := by decide +kernel
theorem dX1_pupilProperty_105 : decode cX1_pupilProperty 105 = .ok (.getfield 89, 3) := by decide +kernel
theorem dX1_pupilProperty_108 : decode cX1_pupilProperty 108 = .ok (.ireturn, 1) := by decide +kernel
theorem dX1_pupilProperty_109 : decode cX1_pupilProperty 109 = .ok (.aload_n 0, 1) := by decide +kernel
theorem dX1_pupilProperty_110 : decode cX1_pupilProperty 110 = .ok (.iload_n 1, 1) := by decide +kernel
theorem dX1_pupilProperty_111 : decode cX1_pupilProperty 111 = .ok (.invokevirtual 95, 3) := by decide +kernel
theorem dX1_pupilProperty_114 : decode cX1_pupilProperty 114 = .ok (.iload_n 2, 1) := by decide +kernel
theorem dX1_pupilProperty_115 : decode cX1_pupilProperty 115 = .ok (.iconst 5, 1) := by decide +kernel
theorem dX1_pupilProperty_116 : decode cX1_pupilProperty 116 = .ok (.isub, 1) := by decide +kernel
theorem dX1_pupilProperty_117 : decode cX1_pupilProperty 117 = .ok (.invokestatic 99, 3) := by decide +kernel
theorem dX1_pupilProperty_120 : decode cX1_pupilProperty 120 = .ok (.ireturn, 1) := by decide +kernel
theorem dX1_examinerProperty_0 : decode cX1_examinerProperty 0 = .ok (.aload_n 0, 1) := by decide +kernel
theorem dX1_examinerProperty_1 : decode cX1_examinerProperty 1 = .ok (.getfield 45, 3) := by decide +kernel
theorem dX1_examinerProperty_4 : decode cX1_examinerProperty 4 = .ok (.iload_n 1, 1) := by decide +kernel
theorem dX1_examinerProperty_5 : decode cX1_examinerProperty 5 = .ok (.aaload, 1) := by decide +kernel
theorem dX1_examinerProperty_6 : decode cX1_examinerProperty 6 = .ok (.astore_n 3, 1) := by decide +kernel
theorem dX1_examinerProperty_7 : decode cX1_examinerProperty 7 = .ok (.iload_n 2, 1) := by decide +kernel
theorem dX1_examinerProperty_8 : decode cX1_examinerProperty 8 = .ok (.tableswitch 66 0 4 #[36, 41, 46, 53, 61], 36) := by decide +kernel
theorem dX1_examinerProperty_44 : decode cX1_examinerProperty 44 = .ok (.aload_n 3, 1) := by decide +kernel
theorem dX1_examinerProperty_45 : decode cX1_examinerProperty 45 = .ok (.invokevirtual 181, 3) := by decide +kernel
theorem dX1_examinerProperty_48 : decode cX1_examinerProperty 48 = .ok (.ireturn, 1) := by decide +kernel
theorem dX1_examinerProperty_49 : decode cX1_examinerProperty 49 = .ok (.aload_n 3, 1) := by decide +kernel
theorem dX1_examinerProperty_50 : decode cX1_examinerProperty 50 = .ok (.getfield 135, 3) := by decide +kernel
theorem dX1_examinerProperty_53 : decode cX1_examinerProperty 53 = .ok (.ireturn, 1) := by decide +kernel
theorem dX1_examinerProperty_54 : decode cX1_examinerProperty 54 = .ok (.aload_n 0, 1) := by decide +kernel
theorem dX1_examinerProperty_55 : decode cX1_examinerProperty 55 = .ok (.iload_n 1, 1) := by decide +kernel
theorem dX1_examinerProperty_56 : decode cX1_examinerProperty 56 = .ok (.iconst (-1), 1) := by decide +kernel
theorem dX1_examinerProperty_57 : decode cX1_examinerProperty 57 = .ok (.invokevirtual 185, 3) := by decide +kernel
theorem dX1_examinerProperty_60 : decode cX1_examinerProperty 60 = .ok (.ireturn, 1) := by decide +kernel
theorem dX1_examinerProperty_61 : decode cX1_examinerProperty 61 = .ok (.aload_n 0, 1) := by decide +kernel
theorem dX1_examinerProperty_62 : decode cX1_examinerProperty 62 = .ok (.iload_n 1, 1) := by decide +kernel
theorem dX1_examinerProperty_63 : decode cX1_examinerProperty 63 = .ok (.bipush (-2), 2) := by decide +kernel
theorem dX1_examinerProperty_65 : decode cX1_examinerProperty 65 = .ok (.invokevirtual 185, 3) := by decide +kernel
theorem dX1_examinerProperty_68 : decode cX1_examinerProperty 68 = .ok (.ireturn, 1) := by decide +kernel
theorem dX1_examinerProperty_69 : decode cX1_examinerProperty 69 = .ok (.aload_n 3, 1) := by decide +kernel
theorem dX1_examinerProperty_70 : decode cX1_examinerProperty 70 = .ok (.getfield 117, 3) := by decide +kernel
theorem dX1_examinerProperty_73 : decode cX1_examinerProperty 73 = .ok (.ireturn, 1) := by decide +kernel
theorem dX1_examinerProperty_74 : decode cX1_examinerProperty 74 = .ok (.aload_n 3, 1) := by decide +kernel
theorem dX1_examinerProperty_75 : decode cX1_examinerProperty 75 = .ok (.getfield 126, 3) := by decide +kernel
theorem dX1_examinerProperty_78 : decode cX1_examinerProperty 78 = .ok (.iload_n 2, 1) := by decide +kernel
theorem dX1_examinerProperty_79 : decode cX1_examinerProperty 79 = .ok (.iconst 5, 1) := by decide +kernel
theorem dX1_examinerProperty_80 : decode cX1_examinerProperty 80 = .ok (.isub, 1) := by decide +kernel
theorem dX1_examinerProperty_81 : decode cX1_examinerProperty 81 = .ok (.iaload, 1) := by decide +kernel
theorem dX1_examinerProperty_82 : decode cX1_examinerProperty 82 = .ok (.ireturn, 1) := by decide +kernel
theorem dX1_cellsOfExaminer_0 : decode cX1_cellsOfExaminer 0 = .ok (.iconst 0, 1) := by decide +kernel
theorem dX1_cellsOfExaminer_1 : decode cX1_cellsOfExaminer 1 = .ok (.istore_n 3, 1) := by decide +kernel
theorem dX1_cellsOfExaminer_2 : decode cX1_cellsOfExaminer 2 = .ok (.iload_n 1, 1) := by decide +kernel
theorem dX1_cellsOfExaminer_3 : decode cX1_cellsOfExaminer 3 = .ok (.istore 4, 2) := by decide +kernel
theorem dX1_cellsOfExaminer_5 : decode cX1_cellsOfExaminer 5 = .ok (.iload 4, 2) := by decide +kernel
theorem dX1_cellsOfExaminer_7 : decode cX1_cellsOfExaminer 7 = .ok (.aload_n 0, 1) := by decide +kernel
theorem dX1_cellsOfExaminer_8 : decode cX1_cellsOfExaminer 8 = .ok (.getfield 34, 3) := by decide +kernel
theorem dX1_cellsOfExaminer_11 : decode cX1_cellsOfExaminer 11 = .ok (.arraylength, 1) := by decide +kernel
theorem dX1_cellsOfExaminer_12 : decode cX1_cellsOfExaminer 12 = .ok (.if_icmp .ge 23, 3) := by decide +kernel
theorem dX1_cellsOfExaminer_15 : decode cX1_cellsOfExaminer 15 = .ok (.aload_n 0, 1) := by decide +kernel
theorem dX1_cellsOfExaminer_16 : decode cX1_cellsOfExaminer 16 = .ok (.getfield 34, 3) := by decide +kernel
theorem dX1_cellsOfExaminer_19 : decode cX1_cellsOfExaminer 19 = .ok (.iload 4, 2) := by decide +kernel
theorem dX1_cellsOfExaminer_21 : decode cX1_cellsOfExaminer 21 = .ok (.iaload, 1) := by decide +kernel
theorem dX1_cellsOfExaminer_22 : decode cX1_cellsOfExaminer 22 = .ok (.iload_n 2, 1) := by decide +kernel
theorem dX1_cellsOfExaminer_23 : decode cX1_cellsOfExaminer 23 = .ok (.if_icmp .ne 6, 3) := by decide +kernel
theorem dX1_cellsOfExaminer_26 : decode cX1_cellsOfExaminer 26 = .ok (.iinc 3 1, 3) := by decide +kernel
theorem dX1_cellsOfExaminer_29 : decode cX1_cellsOfExaminer 29 = .ok (.iinc 4 4, 3) := by decide +kernel
theorem dX1_cellsOfExaminer_32 : decode cX1_cellsOfExaminer 32 = .ok (.goto (-27), 3) := by decide +kernel
theorem dX1_cellsOfExaminer_35 : decode cX1_cellsOfExaminer 35 = .ok (.iload_n 3, 1) := by decide +kernel
theorem dX1_cellsOfExaminer_36 : decode cX1_cellsOfExaminer 36 = .ok (.ireturn, 1) := by decide +kernel
theorem dX1_number_0 : decode cX1_number 0 = .ok (.iload_n 1, 1) := by decide +kernel
theorem dX1_number_1 : decode cX1_number 1 = .ok (.tableswitch 121 0 13 #[71, 76, 81, 121, 121, 121, 121, 86, 91, 96, 101, 106, 111, 116], 71) := by decide +kernel
theorem dX1_number_72 : decode cX1_number 72 = .ok (.aload_n 0, 1) := by decide +kernel
theorem dX1_number_73 : decode cX1_number 73 = .ok (.getfield 9, 3) := by decide +kernel
theorem dX1_number_76 : decode cX1_number 76 = .ok (.ireturn, 1) := by decide +kernel
theorem dX1_number_77 : decode cX1_number 77 = .ok (.aload_n 0, 1) := by decide +kernel
theorem dX1_number_78 : decode cX1_number 78 = .ok (.getfield 15, 3) := by decide +kernel
theorem dX1_number_81 : decode cX1_number 81 = .ok (.ireturn, 1) := by decide +kernel
theorem dX1_number_82 : decode cX1_number 82 = .ok (.aload_n 0, 1) := by decide +kernel
theorem dX1_number_83 : decode cX1_number 83 = .ok (.getfield 18, 3) := by decide +kernel
theorem dX1_number_86 : decode cX1_number 86 = .ok (.ireturn, 1) := by decide +kernel
theorem dX1_number_87 : decode cX1_number 87 = .ok (.aload_n 0, 1) := by decide +kernel
theorem dX1_number_88 : decode cX1_number 88 = .ok (.invokevirtual 188, 3) := by decide +kernel
theorem dX1_number_91 : decode cX1_number 91 = .ok (.ireturn, 1) := by decide +kernel
theorem dX1_number_92 : decode cX1_number 92 = .ok (.aload_n 0, 1) := by decide +kernel
theorem dX1_number_93 : decode cX1_number 93 = .ok (.invokevirtual 191, 3) := by decide +kernel
theorem dX1_number_96 : decode cX1_number 96 = .ok (.ireturn, 1) := by decide +kernel
theorem dX1_number_97 : decode cX1_number 97 = .ok (.aload_n 0, 1) := by decide +kernel
theorem dX1_number_98 : decode cX1_number 98 = .ok (.invokevirtual 194, 3) := by decide +kernel
theorem dX1_number_101 : decode cX1_number 101 = .ok (.ireturn, 1) := by decide +kernel
theorem dX1_number_102 : decode cX1_number 102 = .ok (.aload_n 0, 1) := by decide +kernel
theorem dX1_number_103 : decode cX1_number 103 = .ok (.getfield 24, 3) := by decide +kernel
theorem dX1_number_106 : decode cX1_number 106 = .ok (.ireturn, 1) := by decide +kernel
theorem dX1_number_107 : decode cX1_number 107 = .ok (.aload_n 0, 1) := by decide +kernel
theorem dX1_number_108 : decode cX1_number 108 = .ok (.invokevirtual 197, 3) := by decide +kernel
theorem dX1_number_111 : decode cX1_number 111 = .ok (.ireturn, 1) := by decide +kernel
theorem dX1_number_112 : decode cX1_number 112 = .ok (.aload_n 0, 1) := by decide +kernel
theorem dX1_number_113 : decode cX1_number 113 = .ok (.invokevirtual 200, 3) := by decide +kernel
theorem dX1_number_116 : decode cX1_number 116 = .ok (.ireturn, 1) := by decide +kernel
theorem dX1_number_117 : decode cX1_number 117 = .ok (.aload_n 0, 1) := by decide +kernel
theorem dX1_number_118 : decode cX1_number 118 = .ok (.invokevirtual 203, 3) := by decide +kernel
theorem dX1_number_121 : decode cX1_number 121 = .ok (.ireturn, 1) := by decide +kernel
theorem dX1_number_122 : decode cX1_number 122 = .ok (.aload_n 0, 1) := by decide +kernel
theorem dX1_number_123 : decode cX1_number 123 = .ok (.iload_n 1, 1) := by decide +kernel
theorem dX1_number_124 : decode cX1_number 124 = .ok (.iconst 3, 1) := by decide +kernel
theorem dX1_number_125 : decode cX1_number 125 = .ok (.isub, 1) := by decide +kernel
theorem dX1_number_126 : decode cX1_number 126 = .ok (.invokevirtual 206, 3) := by decide +kernel
theorem dX1_number_129 : decode cX1_number 129 = .ok (.ireturn, 1) := by decide +kernel
theorem dX1_pupilsWho_0 : decode cX1_pupilsWho 0 = .ok (.iconst 0, 1) := by decide +kernel
theorem dX1_pupilsWho_1 : decode cX1_pupilsWho 1 = .ok (.istore_n 2, 1) := by decide +kernel
theorem dX1_pupilsWho_2 : decode cX1_pupilsWho 2 = .ok (.iconst 0, 1) := by decide +kernel
theorem dX1_pupilsWho_3 : decode cX1_pupilsWho 3 = .ok (.istore_n 3, 1) := by decide +kernel
theorem dX1_pupilsWho_4 : decode cX1_pupilsWho 4 = .ok (.iload_n 3, 1) := by decide +kernel
theorem dX1_pupilsWho_5 : decode cX1_pupilsWho 5 = .ok (.aload_n 0, 1) := by decide +kernel
theorem dX1_pupilsWho_6 : decode cX1_pupilsWho 6 = .ok (.getfield 18, 3) := by decide +kernel
theorem dX1_pupilsWho_9 : decode cX1_pupilsWho 9 = .ok (.if_icmp .ge 25, 3) := by decide +kernel
theorem dX1_pupilsWho_12 : decode cX1_pupilsWho 12 = .ok (.aload_n 0, 1) := by decide +kernel
theorem dX1_pupilsWho_13 : decode cX1_pupilsWho 13 = .ok (.getfield 39, 3) := by decide +kernel
theorem dX1_pupilsWho_16 : decode cX1_pupilsWho 16 = .ok (.iload_n 3, 1) := by decide +kernel
theorem dX1_pupilsWho_17 : decode cX1_pupilsWho 17 = .ok (.aaload, 1) := by decide +kernel
theorem dX1_pupilsWho_18 : decode cX1_pupilsWho 18 = .ok (.getfield 83, 3) := by decide +kernel
theorem dX1_pupilsWho_21 : decode cX1_pupilsWho 21 = .ok (.iload_n 1, 1) := by decide +kernel
theorem dX1_pupilsWho_22 : decode cX1_pupilsWho 22 = .ok (.if_icmp .ne 6, 3) := by decide +kernel
theorem dX1_pupilsWho_25 : decode cX1_pupilsWho 25 = .ok (.iinc 2 1, 3) := by decide +kernel
theorem dX1_pupilsWho_28 : decode cX1_pupilsWho 28 = .ok (.iinc 3 1, 3) := by decide +kernel
theorem dX1_pupilsWho_31 : decode cX1_pupilsWho 31 = .ok (.goto (-27), 3) := by decide +kernel
theorem dX1_pupilsWho_34 : decode cX1_pupilsWho 34 = .ok (.iload_n 2, 1) := by decide +kernel
theorem dX1_pupilsWho_35 : decode cX1_pupilsWho 35 = .ok (.ireturn, 1) := by decide +kernel
theorem dX1_testsSoFar_0 : decode cX1_testsSoFar 0 = .ok (.iconst 0, 1) := by decide +kernel
theorem dX1_testsSoFar_1 : decode cX1_testsSoFar 1 = .ok (.istore_n 1, 1) := by decide +kernel
theorem dX1_testsSoFar_2 : decode cX1_testsSoFar 2 = .ok (.iconst 0, 1) := by decide +kernel
theorem dX1_testsSoFar_3 : decode cX1_testsSoFar 3 = .ok (.istore_n 2, 1) := by decide +kernel
theorem dX1_testsSoFar_4 : decode cX1_testsSoFar 4 = .ok (.iload_n 2, 1) := by decide +kernel
theorem dX1_testsSoFar_5 : decode cX1_testsSoFar 5 = .ok (.aload_n 0, 1) := by decide +kernel
theorem dX1_testsSoFar_6 : decode cX1_testsSoFar 6 = .ok (.getfield 15, 3) := by decide +kernel
theorem dX1_testsSoFar_9 : decode cX1_testsSoFar 9 = .ok (.if_icmp .ge 21, 3) := by decide +kernel
theorem dX1_testsSoFar_12 : decode cX1_testsSoFar 12 = .ok (.iload_n 1, 1) := by decide +kernel
theorem dX1_testsSoFar_13 : decode cX1_testsSoFar 13 = .ok (.aload_n 0, 1) := by decide +kernel
theorem dX1_testsSoFar_14 : decode cX1_testsSoFar 14 = .ok (.getfield 45, 3) := by decide +kernel
theorem dX1_testsSoFar_17 : decode cX1_testsSoFar 17 = .ok (.iload_n 2, 1) := by decide +kernel
theorem dX1_testsSoFar_18 : decode cX1_testsSoFar 18 = .ok (.aaload, 1) := by decide +kernel
theorem dX1_testsSoFar_19 : decode cX1_testsSoFar 19 = .ok (.invokevirtual 181, 3) := by decide +kernel
theorem dX1_testsSoFar_22 : decode cX1_testsSoFar 22 = .ok (.iadd, 1) := by decide +kernel
theorem dX1_testsSoFar_23 : decode cX1_testsSoFar 23 = .ok (.istore_n 1, 1) := by decide +kernel
theorem dX1_testsSoFar_24 : decode cX1_testsSoFar 24 = .ok (.iinc 2 1, 3) := by decide +kernel
theorem dX1_testsSoFar_27 : decode cX1_testsSoFar 27 = .ok (.goto (-23), 3) := by decide +kernel
theorem dX1_testsSoFar_30 : decode cX1_testsSoFar 30 = .ok (.iload_n 1, 1) := by decide +kernel
theorem dX1_testsSoFar_31 : decode cX1_testsSoFar 31 = .ok (.ireturn, 1) := by decide +kernel
theorem dX1_passedSoFar_0 : decode cX1_passedSoFar 0 = .ok (.iconst 0, 1) := by decide +kernel
theorem dX1_passedSoFar_1 : decode cX1_passedSoFar 1 = .ok (.istore_n 1, 1) := by decide +kernel
theorem dX1_passedSoFar_2 : decode cX1_passedSoFar 2 = .ok (.iconst 0, 1) := by decide +kernel
theorem dX1_passedSoFar_3 : decode cX1_passedSoFar 3 = .ok (.istore_n 2, 1) := by decide +kernel
theorem dX1_passedSoFar_4 : decode cX1_passedSoFar 4 = .ok (.iload_n 2, 1) := by decide +kernel
theorem dX1_passedSoFar_5 : decode cX1_passedSoFar 5 = .ok (.aload_n 0, 1) := by decide +kernel
theorem dX1_passedSoFar_6 : decode cX1_passedSoFar 6 = .ok (.getfield 15, 3) := by decide +kernel
theorem dX1_passedSoFar_9 : decode cX1_passedSoFar 9 = .ok (.if_icmp .ge 21, 3) := by decide +kernel
theorem dX1_passedSoFar_12 : decode cX1_passedSoFar 12 = .ok (.iload_n 1, 1) := by decide +kernel
theorem dX1_passedSoFar_13 : decode cX1_passedSoFar 13 = .ok (.aload_n 0, 1) := by decide +kernel
theorem dX1_passedSoFar_14 : decode cX1_passedSoFar 14 = .ok (.getfield 45, 3) := by decide +kernel
theorem dX1_passedSoFar_17 : decode cX1_passedSoFar 17 = .ok (.iload_n 2, 1) := by decide +kernel
theorem dX1_passedSoFar_18 : decode cX1_passedSoFar 18 = .ok (.aaload, 1) := by decide +kernel
theorem dX1_passedSoFar_19 : decode cX1_passedSoFar 19 = .ok (.getfield 135, 3) := by decide +kernel
theorem dX1_passedSoFar_22 : decode cX1_passedSoFar 22 = .ok (.iadd, 1) := by decide +kernel
theorem dX1_passedSoFar_23 : decode cX1_passedSoFar 23 = .ok (.istore_n 1, 1) := by decide +kernel
theorem dX1_passedSoFar_24 : decode cX1_passedSoFar 24 = .ok (.iinc 2 1, 3) := by decide +kernel
theorem dX1_passedSoFar_27 : decode cX1_passedSoFar 27 = .ok (.goto (-23), 3) := by decide +kernel
theorem dX1_passedSoFar_30 : decode cX1_passedSoFar 30 = .ok (.iload_n 1, 1) := by decide +kernel
theorem dX1_passedSoFar_31 : decode cX1_passedSoFar 31 = .ok (.ireturn, 1) := by decide +kernel
theorem dX1_movedSoFar_0 : decode cX1_movedSoFar 0 = .ok (.iconst 0, 1) := by decide +kernel
theorem dX1_movedSoFar_1 : decode cX1_movedSoFar 1 = .ok (.istore_n 1, 1) := by decide +kernel
theorem dX1_movedSoFar_2 : decode cX1_movedSoFar 2 = .ok (.iconst 0, 1) := by decide +kernel
theorem dX1_movedSoFar_3 : decode cX1_movedSoFar 3 = .ok (.istore_n 2, 1) := by decide +kernel
theorem dX1_movedSoFar_4 : decode cX1_movedSoFar 4 = .ok (.iload_n 2, 1) := by decide +kernel
theorem dX1_movedSoFar_5 : decode cX1_movedSoFar 5 = .ok (.aload_n 0, 1) := by decide +kernel
theorem dX1_movedSoFar_6 : decode cX1_movedSoFar 6 = .ok (.getfield 18, 3) := by decide +kernel
theorem dX1_movedSoFar_9 : decode cX1_movedSoFar 9 = .ok (.if_icmp .ge 21, 3) := by decide +kernel
theorem dX1_movedSoFar_12 : decode cX1_movedSoFar 12 = .ok (.iload_n 1, 1) := by decide +kernel
theorem dX1_movedSoFar_13 : decode cX1_movedSoFar 13 = .ok (.aload_n 0, 1) := by decide +kernel
theorem dX1_movedSoFar_14 : decode cX1_movedSoFar 14 = .ok (.getfield 39, 3) := by decide +kernel
theorem dX1_movedSoFar_17 : decode cX1_movedSoFar 17 = .ok (.iload_n 2, 1) := by decide +kernel
theorem dX1_movedSoFar_18 : decode cX1_movedSoFar 18 = .ok (.aaload, 1) := by decide +kernel
theorem dX1_movedSoFar_19 : decode cX1_movedSoFar 19 = .ok (.getfield 114, 3) := by decide +kernel
theorem dX1_movedSoFar_22 : decode cX1_movedSoFar 22 = .ok (.iadd, 1) := by decide +kernel
theorem dX1_movedSoFar_23 : decode cX1_movedSoFar 23 = .ok (.istore_n 1, 1) := by decide +kernel
theorem dX1_movedSoFar_24 : decode cX1_movedSoFar 24 = .ok (.iinc 2 1, 3) := by decide +kernel
theorem dX1_movedSoFar_27 : decode cX1_movedSoFar 27 = .ok (.goto (-23), 3) := by decide +kernel
theorem dX1_movedSoFar_30 : decode cX1_movedSoFar 30 = .ok (.iload_n 1, 1) := by decide +kernel
theorem dX1_movedSoFar_31 : decode cX1_movedSoFar 31 = .ok (.ireturn, 1) := by decide +kernel
theorem dX1_moneyTaken_0 : decode cX1_moneyTaken 0 = .ok (.iconst 0, 1) := by decide +kernel
theorem dX1_moneyTaken_1 : decode cX1_moneyTaken 1 = .ok (.istore_n 1, 1) := by decide +kernel
theorem dX1_moneyTaken_2 : decode cX1_moneyTaken 2 = .ok (.iconst 0, 1) := by decide +kernel
theorem dX1_moneyTaken_3 : decode cX1_moneyTaken 3 = .ok (.istore_n 2, 1) := by decide +kernel
theorem dX1_moneyTaken_4 : decode cX1_moneyTaken 4 = .ok (.iload_n 2, 1) := by decide +kernel
theorem dX1_moneyTaken_5 : decode cX1_moneyTaken 5 = .ok (.aload_n 0, 1) := by decide +kernel
theorem dX1_moneyTaken_6 : decode cX1_moneyTaken 6 = .ok (.getfield 18, 3) := by decide +kernel
theorem dX1_moneyTaken_9 : decode cX1_moneyTaken 9 = .ok (.if_icmp .ge 21, 3) := by decide +kernel
theorem dX1_moneyTaken_12 : decode cX1_moneyTaken 12 = .ok (.iload_n 1, 1) := by decide +kernel
theorem dX1_moneyTaken_13 : decode cX1_moneyTaken 13 = .ok (.aload_n 0, 1) := by decide +kernel
theorem dX1_moneyTaken_14 : decode cX1_moneyTaken 14 = .ok (.getfield 39, 3) := by decide +kernel
theorem dX1_moneyTaken_17 : decode cX1_moneyTaken 17 = .ok (.iload_n 2, 1) := by decide +kernel
theorem dX1_moneyTaken_18 : decode cX1_moneyTaken 18 = .ok (.aaload, 1) := by decide +kernel
theorem dX1_moneyTaken_19 : decode cX1_moneyTaken 19 = .ok (.getfield 89, 3) := by decide +kernel
theorem dX1_moneyTaken_22 : decode cX1_moneyTaken 22 = .ok (.iadd, 1) := by decide +kernel
theorem dX1_moneyTaken_23 : decode cX1_moneyTaken 23 = .ok (.istore_n 1, 1) := by decide +kernel
theorem dX1_moneyTaken_24 : decode cX1_moneyTaken 24 = .ok (.iinc 2 1, 3) := by decide +kernel
theorem dX1_moneyTaken_27 : decode cX1_moneyTaken 27 = .ok (.goto (-23), 3) := by decide +kernel
theorem dX1_moneyTaken_30 : decode cX1_moneyTaken 30 = .ok (.iload_n 1, 1) := by decide +kernel
theorem dX1_moneyTaken_31 : decode cX1_moneyTaken 31 = .ok (.ireturn, 1) := by decide +kernel
theorem dX1_freeSlots_0 : decode cX1_freeSlots 0 = .ok (.iconst 0, 1) := by decide +kernel
theorem dX1_freeSlots_1 : decode cX1_freeSlots 1 = .ok (.istore_n 1, 1) := by decide +kernel
theorem dX1_freeSlots_2 : decode cX1_freeSlots 2 = .ok (.iconst 0, 1) := by decide +kernel
theorem dX1_freeSlots_3 : decode cX1_freeSlots 3 = .ok (.istore_n 2, 1) := by decide +kernel
theorem dX1_freeSlots_4 : decode cX1_freeSlots 4 = .ok (.iload_n 2, 1) := by decide +kernel
theorem dX1_freeSlots_5 : decode cX1_freeSlots 5 = .ok (.aload_n 0, 1) := by decide +kernel
theorem dX1_freeSlots_6 : decode cX1_freeSlots 6 = .ok (.getfield 15, 3) := by decide +kernel
theorem dX1_freeSlots_9 : decode cX1_freeSlots 9 = .ok (.if_icmp .ge 18, 3) := by decide +kernel
theorem dX1_freeSlots_12 : decode cX1_freeSlots 12 = .ok (.iload_n 1, 1) := by decide +kernel
theorem dX1_freeSlots_13 : decode cX1_freeSlots 13 = .ok (.aload_n 0, 1) := by decide +kernel
theorem dX1_freeSlots_14 : decode cX1_freeSlots 14 = .ok (.iload_n 2, 1) := by decide +kernel
theorem dX1_freeSlots_15 : decode cX1_freeSlots 15 = .ok (.iconst (-1), 1) := by decide +kernel
theorem dX1_freeSlots_16 : decode cX1_freeSlots 16 = .ok (.invokevirtual 185, 3) := by decide +kernel
theorem dX1_freeSlots_19 : decode cX1_freeSlots 19 = .ok (.iadd, 1) := by decide +kernel
theorem dX1_freeSlots_20 : decode cX1_freeSlots 20 = .ok (.istore_n 1, 1) := by decide +kernel
theorem dX1_freeSlots_21 : decode cX1_freeSlots 21 = .ok (.iinc 2 1, 3) := by decide +kernel
theorem dX1_freeSlots_24 : decode cX1_freeSlots 24 = .ok (.goto (-20), 3) := by decide +kernel
theorem dX1_freeSlots_27 : decode cX1_freeSlots 27 = .ok (.iload_n 1, 1) := by decide +kernel
theorem dX1_freeSlots_28 : decode cX1_freeSlots 28 = .ok (.ireturn, 1) := by decide +kernel
theorem dX1_daysToAllSlots_0 : decode cX1_daysToAllSlots 0 = .ok (.iconst 0, 1) := by decide +kernel
theorem dX1_daysToAllSlots_1 : decode cX1_daysToAllSlots 1 = .ok (.istore_n 1, 1) := by decide +kernel
theorem dX1_daysToAllSlots_2 : decode cX1_daysToAllSlots 2 = .ok (.iconst 0, 1) := by decide +kernel
theorem dX1_daysToAllSlots_3 : decode cX1_daysToAllSlots 3 = .ok (.istore_n 2, 1) := by decide +kernel
theorem dX1_daysToAllSlots_4 : decode cX1_daysToAllSlots 4 = .ok (.iload_n 2, 1) := by decide +kernel
theorem dX1_daysToAllSlots_5 : decode cX1_daysToAllSlots 5 = .ok (.aload_n 0, 1) := by decide +kernel
theorem dX1_daysToAllSlots_6 : decode cX1_daysToAllSlots 6 = .ok (.getfield 34, 3) := by decide +kernel
theorem dX1_daysToAllSlots_9 : decode cX1_daysToAllSlots 9 = .ok (.arraylength, 1) := by decide +kernel
theorem dX1_daysToAllSlots_10 : decode cX1_daysToAllSlots 10 = .ok (.if_icmp .ge 29, 3) := by decide +kernel
theorem dX1_daysToAllSlots_13 : decode cX1_daysToAllSlots 13 = .ok (.aload_n 0, 1) := by decide +kernel
theorem dX1_daysToAllSlots_14 : decode cX1_daysToAllSlots 14 = .ok (.aload_n 0, 1) := by decide +kernel
theorem dX1_daysToAllSlots_15 : decode cX1_daysToAllSlots 15 = .ok (.getfield 34, 3) := by decide +kernel
theorem dX1_daysToAllSlots_18 : decode cX1_daysToAllSlots 18 = .ok (.iload_n 2, 1) := by decide +kernel
theorem dX1_daysToAllSlots_19 : decode cX1_daysToAllSlots 19 = .ok (.iaload, 1) := by decide +kernel
theorem dX1_daysToAllSlots_20 : decode cX1_daysToAllSlots 20 = .ok (.invokevirtual 110, 3) := by decide +kernel
theorem dX1_daysToAllSlots_23 : decode cX1_daysToAllSlots 23 = .ok (.ifCond .eq 10, 3) := by decide +kernel
theorem dX1_daysToAllSlots_26 : decode cX1_daysToAllSlots 26 = .ok (.iload_n 1, 1) := by decide +kernel
theorem dX1_daysToAllSlots_27 : decode cX1_daysToAllSlots 27 = .ok (.iload_n 2, 1) := by decide +kernel
theorem dX1_daysToAllSlots_28 : decode cX1_daysToAllSlots 28 = .ok (.invokestatic 103, 3) := by decide +kernel
theorem dX1_daysToAllSlots_31 : decode cX1_daysToAllSlots 31 = .ok (.iadd, 1) := by decide +kernel
theorem dX1_daysToAllSlots_32 : decode cX1_daysToAllSlots 32 = .ok (.istore_n 1, 1) := by decide +kernel
theorem dX1_daysToAllSlots_33 : decode cX1_daysToAllSlots 33 = .ok (.iinc 2 1, 3) := by decide +kernel
theorem dX1_daysToAllSlots_36 : decode cX1_daysToAllSlots 36 = .ok (.goto (-32), 3) := by decide +kernel
theorem dX1_daysToAllSlots_39 : decode cX1_daysToAllSlots 39 = .ok (.iload_n 1, 1) := by decide +kernel
theorem dX1_daysToAllSlots_40 : decode cX1_daysToAllSlots 40 = .ok (.ireturn, 1) := by decide +kernel
theorem dX2_init_0 : decode cX2_init 0 = .ok (.aload_n 0, 1) := by decide +kernel
theorem dX2_init_1 : decode cX2_init 1 = .ok (.invokespecial 3, 3) := by decide +kernel
theorem dX2_init_4 : decode cX2_init 4 = .ok (.aload_n 0, 1) := by decide +kernel
theorem dX2_init_5 : decode cX2_init 5 = .ok (.bipush 60, 2) := by decide +kernel
theorem dX2_init_7 : decode cX2_init 7 = .ok (.newarray .int, 2) := by decide +kernel
theorem dX2_init_9 : decode cX2_init 9 = .ok (.putfield 9, 3) := by decide +kernel
theorem dX2_init_12 : decode cX2_init 12 = .ok (.aload_n 0, 1) := by decide +kernel
theorem dX2_init_13 : decode cX2_init 13 = .ok (.iconst 0, 1) := by decide +kernel
theorem dX2_init_14 : decode cX2_init 14 = .ok (.putfield 15, 3) := by decide +kernel
theorem dX2_init_17 : decode cX2_init 17 = .ok (.aload_n 0, 1) := by decide +kernel
theorem dX2_init_18 : decode cX2_init 18 = .ok (.iconst 0, 1) := by decide +kernel
theorem dX2_init_19 : decode cX2_init 19 = .ok (.putfield 19, 3) := by decide +kernel
theorem dX2_init_22 : decode cX2_init 22 = .ok (.aload_n 0, 1) := by decide +kernel
theorem dX2_init_23 : decode cX2_init 23 = .ok (.iconst 0, 1) := by decide +kernel
theorem dX2_init_24 : decode cX2_init 24 = .ok (.putfield 22, 3) := by decide +kernel
theorem dX2_init_27 : decode cX2_init 27 = .ok (.aload_n 0, 1) := by decide +kernel
theorem dX2_init_28 : decode cX2_init 28 = .ok (.bipush 60, 2) := by decide +kernel
theorem dX2_init_30 : decode cX2_init 30 = .ok (.newarray .int, 2) := by decide +kernel
theorem dX2_init_32 : decode cX2_init 32 = .ok (.putfield 25, 3) := by decide +kernel
theorem dX2_init_35 : decode cX2_init 35 = .ok (.aload_n 0, 1) := by decide +kernel
theorem dX2_init_36 : decode cX2_init 36 = .ok (.bipush 60, 2) := by decide +kernel
theorem dX2_init_38 : decode cX2_init 38 = .ok (.newarray .int, 2) := by decide +kernel
theorem dX2_init_40 : decode cX2_init 40 = .ok (.putfield 28, 3) := by decide +kernel
theorem dX2_init_43 : decode cX2_init 43 = .ok (.aload_n 0, 1) := by decide +kernel
theorem dX2_init_44 : decode cX2_init 44 = .ok (.bipush 60, 2) := by decide +kernel
theorem dX2_init_46 : decode cX2_init 46 = .ok (.newarray .int, 2) := by decide +kernel
theorem dX2_init_48 : decode cX2_init 48 = .ok (.putfield 31, 3) := by decide +kernel
theorem dX2_init_51 : decode cX2_init 51 = .ok (.return_, 1) := by decide +kernel
theorem dX3_init_0 : decode cX3_init 0 = .ok (.aload_n 0, 1) := by decide +kernel
theorem dX3_init_1 : decode cX3_init 1 = .ok (.invokespecial 3, 3) := by decide +kernel
theorem dX3_init_4 : decode cX3_init 4 = .ok (.aload_n 0, 1) := by decide +kernel
theorem dX3_init_5 : decode cX3_init 5 = .ok (.iconst 0, 1) := by decide +kernel
theorem dX3_init_6 : decode cX3_init 6 = .ok (.putfield 9, 3) := by decide +kernel
theorem dX3_init_9 : decode cX3_init 9 = .ok (.aload_n 0, 1) := by decide +kernel
theorem dX3_init_10 : decode cX3_init 10 = .ok (.iconst 0, 1) := by decide +kernel
theorem dX3_init_11 : decode cX3_init 11 = .ok (.putfield 15, 3) := by decide +kernel
theorem dX3_init_14 : decode cX3_init 14 = .ok (.aload_n 0, 1) := by decide +kernel
theorem dX3_init_15 : decode cX3_init 15 = .ok (.iconst 0, 1) := by decide +kernel
theorem dX3_init_16 : decode cX3_init 16 = .ok (.putfield 18, 3) := by decide +kernel
theorem dX3_init_19 : decode cX3_init 19 = .ok (.aload_n 0, 1) := by decide +kernel
theorem dX3_init_20 : decode cX3_init 20 = .ok (.iconst (-1), 1) := by decide +kernel
theorem dX3_init_21 : decode cX3_init 21 = .ok (.putfield 21, 3) := by decide +kernel
theorem dX3_init_24 : decode cX3_init 24 = .ok (.aload_n 0, 1) := by decide +kernel
theorem dX3_init_25 : decode cX3_init 25 = .ok (.iconst (-1), 1) := by decide +kernel
theorem dX3_init_26 : decode cX3_init 26 = .ok (.putfield 24, 3) := by decide +kernel
theorem dX3_init_29 : decode cX3_init 29 = .ok (.aload_n 0, 1) := by decide +kernel
theorem dX3_init_30 : decode cX3_init 30 = .ok (.iconst 0, 1) := by decide +kernel
theorem dX3_init_31 : decode cX3_init 31 = .ok (.putfield 27, 3) := by decide +kernel
theorem dX3_init_34 : decode cX3_init 34 = .ok (.aload_n 0, 1) := by decide +kernel
theorem dX3_init_35 : decode cX3_init 35 = .ok (.iconst 0, 1) := by decide +kernel
theorem dX3_init_36 : decode cX3_init 36 = .ok (.putfield 30, 3) := by decide +kernel
theorem dX3_init_39 : decode cX3_init 39 = .ok (.aload_n 0, 1) := by decide +kernel
theorem dX3_init_40 : decode cX3_init 40 = .ok (.iconst 0, 1) := by decide +kernel
theorem dX3_init_41 : decode cX3_init 41 = .ok (.putfield 33, 3) := by decide +kernel
theorem dX3_init_44 : decode cX3_init 44 = .ok (.aload_n 0, 1) := by decide +kernel
theorem dX3_init_45 : decode cX3_init 45 = .ok (.iconst 0, 1) := by decide +kernel
theorem dX3_init_46 : decode cX3_init 46 = .ok (.putfield 36, 3) := by decide +kernel
theorem dX3_init_49 : decode cX3_init 49 = .ok (.return_, 1) := by decide +kernel
theorem dX3_copyFrom_0 : decode cX3_copyFrom 0 = .ok (.aload_n 0, 1) := by decide +kernel
theorem dX3_copyFrom_1 : decode cX3_copyFrom 1 = .ok (.aload_n 1, 1) := by decide +kernel
theorem dX3_copyFrom_2 : decode cX3_copyFrom 2 = .ok (.getfield 9, 3) := by decide +kernel
theorem dX3_copyFrom_5 : decode cX3_copyFrom 5 = .ok (.putfield 9, 3) := by decide +kernel
theorem dX3_copyFrom_8 : decode cX3_copyFrom 8 = .ok (.aload_n 0, 1) := by decide +kernel
theorem dX3_copyFrom_9 : decode cX3_copyFrom 9 = .ok (.aload_n 1, 1) := by decide +kernel
theorem dX3_copyFrom_10 : decode cX3_copyFrom 10 = .ok (.getfield 15, 3) := by decide +kernel
theorem dX3_copyFrom_13 : decode cX3_copyFrom 13 = .ok (.putfield 15, 3) := by decide +kernel
theorem dX3_copyFrom_16 : decode cX3_copyFrom 16 = .ok (.aload_n 0, 1) := by decide +kernel
theorem dX3_copyFrom_17 : decode cX3_copyFrom 17 = .ok (.aload_n 1, 1) := by decide +kernel
theorem dX3_copyFrom_18 : decode cX3_copyFrom 18 = .ok (.getfield 18, 3) := by decide +kernel
theorem dX3_copyFrom_21 : decode cX3_copyFrom 21 = .ok (.putfield 18, 3) := by decide +kernel
theorem dX3_copyFrom_24 : decode cX3_copyFrom 24 = .ok (.aload_n 0, 1) := by decide +kernel
theorem dX3_copyFrom_25 : decode cX3_copyFrom 25 = .ok (.aload_n 1, 1) := by decide +kernel
theorem dX3_copyFrom_26 : decode cX3_copyFrom 26 = .ok (.getfield 21, 3) := by decide +kernel
theorem dX3_copyFrom_29 : decode cX3_copyFrom 29 = .ok (.putfield 21, 3) := by decide +kernel
theorem dX3_copyFrom_32 : decode cX3_copyFrom 32 = .ok (.aload_n 0, 1) := by decide +kernel
theorem dX3_copyFrom_33 : decode cX3_copyFrom 33 = .ok (.aload_n 1, 1) := by decide +kernel
theorem dX3_copyFrom_34 : decode cX3_copyFrom 34 = .ok (.getfield 24, 3) := by decide +kernel
theorem dX3_copyFrom_37 : decode cX3_copyFrom 37 = .ok (.putfield 24, 3) := by decide +kernel
theorem dX3_copyFrom_40 : decode cX3_copyFrom 40 = .ok (.aload_n 0, 1) := by decide +kernel
theorem dX3_copyFrom_41 : decode cX3_copyFrom 41 = .ok (.aload_n 1, 1) := by decide +kernel
theorem dX3_copyFrom_42 : decode cX3_copyFrom 42 = .ok (.getfield 27, 3) := by decide +kernel
theorem dX3_copyFrom_45 : decode cX3_copyFrom 45 = .ok (.putfield 27, 3) := by decide +kernel
theorem dX3_copyFrom_48 : decode cX3_copyFrom 48 = .ok (.aload_n 0, 1) := by decide +kernel
theorem dX3_copyFrom_49 : decode cX3_copyFrom 49 = .ok (.aload_n 1, 1) := by decide +kernel
theorem dX3_copyFrom_50 : decode cX3_copyFrom 50 = .ok (.getfield 30, 3) := by decide +kernel
theorem dX3_copyFrom_53 : decode cX3_copyFrom 53 = .ok (.putfield 30, 3) := by decide +kernel
theorem dX3_copyFrom_56 : decode cX3_copyFrom 56 = .ok (.aload_n 0, 1) := by decide +kernel
theorem dX3_copyFrom_57 : decode cX3_copyFrom 57 = .ok (.aload_n 1, 1) := by decide +kernel
theorem dX3_copyFrom_58 : decode cX3_copyFrom 58 = .ok (.getfield 33, 3) := by decide +kernel
theorem dX3_copyFrom_61 : decode cX3_copyFrom 61 = .ok (.putfield 33, 3) := by decide +kernel
theorem dX3_copyFrom_64 : decode cX3_copyFrom 64 = .ok (.aload_n 0, 1) := by decide +kernel
theorem dX3_copyFrom_65 : decode cX3_copyFrom 65 = .ok (.aload_n 1, 1) := by decide +kernel
theorem dX3_copyFrom_66 : decode cX3_copyFrom 66 = .ok (.getfield 36, 3) := by decide +kernel
theorem dX3_copyFrom_69 : decode cX3_copyFrom 69 = .ok (.putfield 36, 3) := by decide +kernel
theorem dX3_copyFrom_72 : decode cX3_copyFrom 72 = .ok (.return_, 1) := by decide +kernel
theorem dX3_comesAheadOf_0 : decode cX3_comesAheadOf 0 = .ok (.aload_n 0, 1) := by decide +kernel
theorem dX3_comesAheadOf_1 : decode cX3_comesAheadOf 1 = .ok (.getfield 27, 3) := by decide +kernel
theorem dX3_comesAheadOf_4 : decode cX3_comesAheadOf 4 = .ok (.aload_n 1, 1) := by decide +kernel
theorem dX3_comesAheadOf_5 : decode cX3_comesAheadOf 5 = .ok (.getfield 27, 3) := by decide +kernel
theorem dX3_comesAheadOf_8 : decode cX3_comesAheadOf 8 = .ok (.if_icmp .gt 25, 3) := by decide +kernel
theorem dX3_comesAheadOf_11 : decode cX3_comesAheadOf 11 = .ok (.aload_n 0, 1) := by decide +kernel
theorem dX3_comesAheadOf_12 : decode cX3_comesAheadOf 12 = .ok (.getfield 27, 3) := by decide +kernel
theorem dX3_comesAheadOf_15 : decode cX3_comesAheadOf 15 = .ok (.aload_n 1, 1) := by decide +kernel
theorem dX3_comesAheadOf_16 : decode cX3_comesAheadOf 16 = .ok (.getfield 27, 3) := by decide +kernel
theorem dX3_comesAheadOf_19 : decode cX3_comesAheadOf 19 = .ok (.if_icmp .ne 18, 3) := by decide +kernel
theorem dX3_comesAheadOf_22 : decode cX3_comesAheadOf 22 = .ok (.aload_n 0, 1) := by decide +kernel
theorem dX3_comesAheadOf_23 : decode cX3_comesAheadOf 23 = .ok (.getfield 30, 3) := by decide +kernel
theorem dX3_comesAheadOf_26 : decode cX3_comesAheadOf 26 = .ok (.aload_n 1, 1) := by decide +kernel
theorem dX3_comesAheadOf_27 : decode cX3_comesAheadOf 27 = .ok (.getfield 30, 3) := by decide +kernel
theorem dX3_comesAheadOf_30 : decode cX3_comesAheadOf 30 = .ok (.if_icmp .ge 7, 3) := by decide +kernel
theorem dX3_comesAheadOf_33 : decode cX3_comesAheadOf 33 = .ok (.iconst 1, 1) := by decide +kernel
theorem dX3_comesAheadOf_34 : decode cX3_comesAheadOf 34 = .ok (.goto 4, 3) := by decide +kernel
theorem dX3_comesAheadOf_37 : decode cX3_comesAheadOf 37 = .ok (.iconst 0, 1) := by decide +kernel
theorem dX3_comesAheadOf_38 : decode cX3_comesAheadOf 38 = .ok (.ireturn, 1) := by decide +kernel
theorem dX4_init_0 : decode cX4_init 0 = .ok (.aload_n 0, 1) := by decide +kernel
theorem dX4_init_1 : decode cX4_init 1 = .ok (.invokespecial 3, 3) := by decide +kernel
theorem dX4_init_4 : decode cX4_init 4 = .ok (.aload_n 0, 1) := by decide +kernel
theorem dX4_init_5 : decode cX4_init 5 = .ok (.new 9, 3) := by decide +kernel
theorem dX4_init_8 : decode cX4_init 8 = .ok (.dup, 1) := by decide +kernel
theorem dX4_init_9 : decode cX4_init 9 = .ok (.invokespecial 11, 3) := by decide +kernel
theorem dX4_init_12 : decode cX4_init 12 = .ok (.putfield 12, 3) := by decide +kernel
theorem dX4_init_15 : decode cX4_init 15 = .ok (.aload_n 0, 1) := by decide +kernel
theorem dX4_init_16 : decode cX4_init 16 = .ok (.new 9, 3) := by decide +kernel
theorem dX4_init_19 : decode cX4_init 19 = .ok (.dup, 1) := by decide +kernel
theorem dX4_init_20 : decode cX4_init 20 = .ok (.invokespecial 11, 3) := by decide +kernel
theorem dX4_init_23 : decode cX4_init 23 = .ok (.putfield 16, 3) := by decide +kernel
theorem dX4_init_26 : decode cX4_init 26 = .ok (.aload_n 0, 1) := by decide +kernel
theorem dX4_init_27 : decode cX4_init 27 = .ok (.bipush 6, 2) := by decide +kernel
theorem dX4_init_29 : decode cX4_init 29 = .ok (.anewarray 9, 3) := by decide +kernel
theorem dX4_init_32 : decode cX4_init 32 = .ok (.putfield 19, 3) := by decide +kernel
theorem dX4_init_35 : decode cX4_init 35 = .ok (.aload_n 0, 1) := by decide +kernel
theorem dX4_init_36 : decode cX4_init 36 = .ok (.iconst 0, 1) := by decide +kernel
theorem dX4_init_37 : decode cX4_init 37 = .ok (.putfield 23, 3) := by decide +kernel
theorem dX4_init_40 : decode cX4_init 40 = .ok (.aload_n 0, 1) := by decide +kernel
theorem dX4_init_41 : decode cX4_init 41 = .ok (.new 27, 3) := by decide +kernel
theorem dX4_init_44 : decode cX4_init 44 = .ok (.dup, 1) := by decide +kernel
theorem dX4_init_45 : decode cX4_init 45 = .ok (.invokespecial 29, 3) := by decide +kernel
theorem dX4_init_48 : decode cX4_init 48 = .ok (.putfield 30, 3) := by decide +kernel
theorem dX4_init_51 : decode cX4_init 51 = .ok (.iconst 0, 1) := by decide +kernel
theorem dX4_init_52 : decode cX4_init 52 = .ok (.istore_n 1, 1) := by decide +kernel
theorem dX4_init_53 : decode cX4_init 53 = .ok (.iload_n 1, 1) := by decide +kernel
theorem dX4_init_54 : decode cX4_init 54 = .ok (.aload_n 0, 1) := by decide +kernel
theorem dX4_init_55 : decode cX4_init 55 = .ok (.getfield 19, 3) := by decide +kernel
theorem dX4_init_58 : decode cX4_init 58 = .ok (.arraylength, 1) := by decide +kernel
theorem dX4_init_59 : decode cX4_init 59 = .ok (.if_icmp .ge 22, 3) := by decide +kernel
theorem dX4_init_62 : decode cX4_init 62 = .ok (.aload_n 0, 1) := by decide +kernel
theorem dX4_init_63 : decode cX4_init 63 = .ok (.getfield 19, 3) := by decide +kernel
theorem dX4_init_66 : decode cX4_init 66 = .ok (.iload_n 1, 1) := by decide +kernel
theorem dX4_init_67 : decode cX4_init 67 = .ok (.new 9, 3) := by decide +kernel
theorem dX4_init_70 : decode cX4_init 70 = .ok (.dup, 1) := by decide +kernel
theorem dX4_init_71 : decode cX4_init 71 = .ok (.invokespecial 11, 3) := by decide +kernel
theorem dX4_init_74 : decode cX4_init 74 = .ok (.aastore, 1) := by decide +kernel
theorem dX4_init_75 : decode cX4_init 75 = .ok (.iinc 1 1, 3) := by decide +kernel
theorem dX4_init_78 : decode cX4_init 78 = .ok (.goto (-25), 3) := by decide +kernel
theorem dX4_init_81 : decode cX4_init 81 = .ok (.return_, 1) := by decide +kernel
theorem dX4_addExaminer_0 : decode cX4_addExaminer 0 = .ok (.aload_n 0, 1) := by decide +kernel
theorem dX4_addExaminer_1 : decode cX4_addExaminer 1 = .ok (.getfield 12, 3) := by decide +kernel
theorem dX4_addExaminer_4 : decode cX4_addExaminer 4 = .ok (.getfield 34, 3) := by decide +kernel
theorem dX4_addExaminer_7 : decode cX4_addExaminer 7 = .ok (.iconst 4, 1) := by decide +kernel
theorem dX4_addExaminer_8 : decode cX4_addExaminer 8 = .ok (.if_icmp .lt 13, 3) := by decide +kernel
theorem dX4_addExaminer_11 : decode cX4_addExaminer 11 = .ok (.new 37, 3) := by decide +kernel
theorem dX4_addExaminer_14 : decode cX4_addExaminer 14 = .ok (.dup, 1) := by decide +kernel
theorem dX4_addExaminer_15 : decode cX4_addExaminer 15 = .ok (.ldc 39, 2) := by decide +kernel
theorem dX4_addExaminer_17 : decode cX4_addExaminer 17 = .ok (.invokespecial 41, 3) := by decide +kernel
theorem dX4_addExaminer_20 : decode cX4_addExaminer 20 = .ok (.athrow, 1) := by decide +kernel
theorem dX4_addExaminer_21 : decode cX4_addExaminer 21 = .ok (.aload_n 0, 1) := by decide +kernel
theorem dX4_addExaminer_22 : decode cX4_addExaminer 22 = .ok (.invokevirtual 44, 3) := by decide +kernel
theorem dX4_addExaminer_25 : decode cX4_addExaminer 25 = .ok (.aload_n 0, 1) := by decide +kernel
theorem dX4_addExaminer_26 : decode cX4_addExaminer 26 = .ok (.getfield 12, 3) := by decide +kernel
theorem dX4_addExaminer_29 : decode cX4_addExaminer 29 = .ok (.invokevirtual 47, 3) := by decide +kernel
theorem dX4_addExaminer_32 : decode cX4_addExaminer 32 = .ok (.ireturn, 1) := by decide +kernel
theorem dX4_addPupil_0 : decode cX4_addPupil 0 = .ok (.aload_n 0, 1) := by decide +kernel
theorem dX4_addPupil_1 : decode cX4_addPupil 1 = .ok (.getfield 12, 3) := by decide +kernel
theorem dX4_addPupil_4 : decode cX4_addPupil 4 = .ok (.getfield 51, 3) := by decide +kernel
theorem dX4_addPupil_7 : decode cX4_addPupil 7 = .ok (.bipush 12, 2) := by decide +kernel
theorem dX4_addPupil_9 : decode cX4_addPupil 9 = .ok (.if_icmp .lt 13, 3) := by decide +kernel
theorem dX4_addPupil_12 : decode cX4_addPupil 12 = .ok (.new 37, 3) := by decide +kernel
theorem dX4_addPupil_15 : decode cX4_addPupil 15 = .ok (.dup, 1) := by decide +kernel
theorem dX4_addPupil_16 : decode cX4_addPupil 16 = .ok (.ldc 54, 2) := by decide +kernel
theorem dX4_addPupil_18 : decode cX4_addPupil 18 = .ok (.invokespecial 41, 3) := by decide +kernel
theorem dX4_addPupil_21 : decode cX4_addPupil 21 = .ok (.athrow, 1) := by decide +kernel
theorem dX4_addPupil_22 : decode cX4_addPupil 22 = .ok (.aload_n 0, 1) := by decide +kernel
theorem dX4_addPupil_23 : decode cX4_addPupil 23 = .ok (.invokevirtual 44, 3) := by decide +kernel
theorem dX4_addPupil_26 : decode cX4_addPupil 26 = .ok (.aload_n 0, 1) := by decide +kernel
theorem dX4_addPupil_27 : decode cX4_addPupil 27 = .ok (.getfield 12, 3) := by decide +kernel
theorem dX4_addPupil_30 : decode cX4_addPupil 30 = .ok (.invokevirtual 56, 3) := by decide +kernel
theorem dX4_addPupil_33 : decode cX4_addPupil 33 = .ok (.ireturn, 1) := by decide +kernel
theorem dX4_ask_0 : decode cX4_ask 0 = .ok (.aload_n 0, 1) := by decide +kernel
theorem dX4_ask_1 : decode cX4_ask 1 = .ok (.getfield 12, 3) := by decide +kernel
theorem dX4_ask_4 : decode cX4_ask 4 = .ok (.iload_n 1, 1) := by decide +kernel
theorem dX4_ask_5 : decode cX4_ask 5 = .ok (.invokevirtual 59, 3) := by decide +kernel
theorem dX4_ask_8 : decode cX4_ask 8 = .ok (.ifCond .ne 13, 3) := by decide +kernel
theorem dX4_ask_11 : decode cX4_ask 11 = .ok (.new 63, 3) := by decide +kernel
theorem dX4_ask_14 : decode cX4_ask 14 = .ok (.dup, 1) := by decide +kernel
theorem dX4_ask_15 : decode cX4_ask 15 = .ok (.ldc 65, 2) := by decide +kernel
theorem dX4_ask_17 : decode cX4_ask 17 = .ok (.invokespecial 67, 3) := by decide +kernel
theorem dX4_ask_20 : decode cX4_ask 20 = .ok (.athrow, 1) := by decide +kernel
theorem dX4_ask_21 : decode cX4_ask 21 = .ok (.aload_n 0, 1) := by decide +kernel
theorem dX4_ask_22 : decode cX4_ask 22 = .ok (.getfield 12, 3) := by decide +kernel
theorem dX4_ask_25 : decode cX4_ask 25 = .ok (.iload_n 1, 1) := by decide +kernel
theorem dX4_ask_26 : decode cX4_ask 26 = .ok (.invokevirtual 68, 3) := by decide +kernel
theorem dX4_ask_29 : decode cX4_ask 29 = .ok (.ifCond .ne 13, 3) := by decide +kernel
theorem dX4_ask_32 : decode cX4_ask 32 = .ok (.new 37, 3) := by decide +kernel
theorem dX4_ask_35 : decode cX4_ask 35 = .ok (.dup, 1) := by decide +kernel
theorem dX4_ask_36 : decode cX4_ask 36 = .ok (.ldc 71, 2) := by decide +kernel
theorem dX4_ask_38 : decode cX4_ask 38 = .ok (.invokespecial 41, 3) := by decide +kernel
theorem dX4_ask_41 : decode cX4_ask 41 = .ok (.athrow, 1) := by decide +kernel
theorem dX4_ask_42 : decode cX4_ask 42 = .ok (.aload_n 0, 1) := by decide +kernel
theorem dX4_ask_43 : decode cX4_ask 43 = .ok (.invokevirtual 44, 3) := by decide +kernel
theorem dX4_ask_46 : decode cX4_ask 46 = .ok (.aload_n 0, 1) := by decide +kernel
theorem dX4_ask_47 : decode cX4_ask 47 = .ok (.getfield 12, 3) := by decide +kernel
theorem dX4_ask_50 : decode cX4_ask 50 = .ok (.iload_n 1, 1) := by decide +kernel
theorem dX4_ask_51 : decode cX4_ask 51 = .ok (.invokevirtual 73, 3) := by decide +kernel
theorem dX4_ask_54 : decode cX4_ask 54 = .ok (.ireturn, 1) := by decide +kernel
theorem dX4_quit_0 : decode cX4_quit 0 = .ok (.aload_n 0, 1) := by decide +kernel
theorem dX4_quit_1 : decode cX4_quit 1 = .ok (.getfield 12, 3) := by decide +kernel
theorem dX4_quit_4 : decode cX4_quit 4 = .ok (.iload_n 1, 1) := by decide +kernel
theorem dX4_quit_5 : decode cX4_quit 5 = .ok (.invokevirtual 59, 3) := by decide +kernel
theorem dX4_quit_8 : decode cX4_quit 8 = .ok (.ifCond .ne 13, 3) := by decide +kernel
theorem dX4_quit_11 : decode cX4_quit 11 = .ok (.new 63, 3) := by decide +kernel
theorem dX4_quit_14 : decode cX4_quit 14 = .ok (.dup, 1) := by decide +kernel
theorem dX4_quit_15 : decode cX4_quit 15 = .ok (.ldc 65, 2) := by decide +kernel
theorem dX4_quit_17 : decode cX4_quit 17 = .ok (.invokespecial 67, 3) := by decide +kernel
theorem dX4_quit_20 : decode cX4_quit 20 = .ok (.athrow, 1) := by decide +kernel
theorem dX4_quit_21 : decode cX4_quit 21 = .ok (.aload_n 0, 1) := by decide +kernel
theorem dX4_quit_22 : decode cX4_quit 22 = .ok (.getfield 12, 3) := by decide +kernel
theorem dX4_quit_25 : decode cX4_quit 25 = .ok (.iload_n 1, 1) := by decide +kernel
theorem dX4_quit_26 : decode cX4_quit 26 = .ok (.invokevirtual 77, 3) := by decide +kernel
theorem dX4_quit_29 : decode cX4_quit 29 = .ok (.ifCond .ne 13, 3) := by decide +kernel
theorem dX4_quit_32 : decode cX4_quit 32 = .ok (.new 37, 3) := by decide +kernel
theorem dX4_quit_35 : decode cX4_quit 35 = .ok (.dup, 1) := by decide +kernel
theorem dX4_quit_36 : decode cX4_quit 36 = .ok (.ldc 80, 2) := by decide +kernel
theorem dX4_quit_38 : decode cX4_quit 38 = .ok (.invokespecial 41, 3) := by decide +kernel
theorem dX4_quit_41 : decode cX4_quit 41 = .ok (.athrow, 1) := by decide +kernel
theorem dX4_quit_42 : decode cX4_quit 42 = .ok (.aload_n 0, 1) := by decide +kernel
theorem dX4_quit_43 : decode cX4_quit 43 = .ok (.invokevirtual 44, 3) := by decide +kernel
theorem dX4_quit_46 : decode cX4_quit 46 = .ok (.aload_n 0, 1) := by decide +kernel
theorem dX4_quit_47 : decode cX4_quit 47 = .ok (.getfield 12, 3) := by decide +kernel
theorem dX4_quit_50 : decode cX4_quit 50 = .ok (.iload_n 1, 1) := by decide +kernel
theorem dX4_quit_51 : decode cX4_quit 51 = .ok (.invokevirtual 82, 3) := by decide +kernel
theorem dX4_quit_54 : decode cX4_quit 54 = .ok (.ireturn, 1) := by decide +kernel
theorem dX4_cancel_0 : decode cX4_cancel 0 = .ok (.aload_n 0, 1) := by decide +kernel
theorem dX4_cancel_1 : decode cX4_cancel 1 = .ok (.getfield 12, 3) := by decide +kernel
theorem dX4_cancel_4 : decode cX4_cancel 4 = .ok (.iload_n 1, 1) := by decide +kernel
theorem dX4_cancel_5 : decode cX4_cancel 5 = .ok (.invokevirtual 85, 3) := by decide +kernel
theorem dX4_cancel_8 : decode cX4_cancel 8 = .ok (.ifCond .ne 13, 3) := by decide +kernel
theorem dX4_cancel_11 : decode cX4_cancel 11 = .ok (.new 63, 3) := by decide +kernel
theorem dX4_cancel_14 : decode cX4_cancel 14 = .ok (.dup, 1) := by decide +kernel
theorem dX4_cancel_15 : decode cX4_cancel 15 = .ok (.ldc 88, 2) := by decide +kernel
theorem dX4_cancel_17 : decode cX4_cancel 17 = .ok (.invokespecial 67, 3) := by decide +kernel
theorem dX4_cancel_20 : decode cX4_cancel 20 = .ok (.athrow, 1) := by decide +kernel
theorem dX4_cancel_21 : decode cX4_cancel 21 = .ok (.iload_n 2, 1) := by decide +kernel
theorem dX4_cancel_22 : decode cX4_cancel 22 = .ok (.iconst 0, 1) := by decide +kernel
theorem dX4_cancel_23 : decode cX4_cancel 23 = .ok (.bipush 9, 2) := by decide +kernel
theorem dX4_cancel_25 : decode cX4_cancel 25 = .ok (.invokestatic 90, 3) := by decide +kernel
theorem dX4_cancel_28 : decode cX4_cancel 28 = .ok (.ifCond .ne 13, 3) := by decide +kernel
theorem dX4_cancel_31 : decode cX4_cancel 31 = .ok (.new 94, 3) := by decide +kernel
theorem dX4_cancel_34 : decode cX4_cancel 34 = .ok (.dup, 1) := by decide +kernel
theorem dX4_cancel_35 : decode cX4_cancel 35 = .ok (.ldc 96, 2) := by decide +kernel
theorem dX4_cancel_37 : decode cX4_cancel 37 = .ok (.invokespecial 98, 3) := by decide +kernel
theorem dX4_cancel_40 : decode cX4_cancel 40 = .ok (.athrow, 1) := by decide +kernel
theorem dX4_cancel_41 : decode cX4_cancel 41 = .ok (.aload_n 0, 1) := by decide +kernel
theorem dX4_cancel_42 : decode cX4_cancel 42 = .ok (.invokevirtual 44, 3) := by decide +kernel
theorem dX4_cancel_45 : decode cX4_cancel 45 = .ok (.aload_n 0, 1) := by decide +kernel
theorem dX4_cancel_46 : decode cX4_cancel 46 = .ok (.getfield 12, 3) := by decide +kernel
theorem dX4_cancel_49 : decode cX4_cancel 49 = .ok (.iload_n 1, 1) := by decide +kernel
theorem dX4_cancel_50 : decode cX4_cancel 50 = .ok (.iload_n 2, 1) := by decide +kernel
theorem dX4_cancel_51 : decode cX4_cancel 51 = .ok (.invokevirtual 99, 3) := by decide +kernel
theorem dX4_cancel_54 : decode cX4_cancel 54 = .ok (.ireturn, 1) := by decide +kernel
theorem dX4_test_0 : decode cX4_test 0 = .ok (.aload_n 0, 1) := by decide +kernel
theorem dX4_test_1 : decode cX4_test 1 = .ok (.getfield 12, 3) := by decide +kernel
theorem dX4_test_4 : decode cX4_test 4 = .ok (.iload_n 1, 1) := by decide +kernel
theorem dX4_test_5 : decode cX4_test 5 = .ok (.invokevirtual 59, 3) := by decide +kernel
theorem dX4_test_8 : decode cX4_test 8 = .ok (.ifCond .ne 13, 3) := by decide +kernel
theorem dX4_test_11 : decode cX4_test 11 = .ok (.new 63, 3) := by decide +kernel
theorem dX4_test_14 : decode cX4_test 14 = .ok (.dup, 1) := by decide +kernel
theorem dX4_test_15 : decode cX4_test 15 = .ok (.ldc 65, 2) := by decide +kernel
theorem dX4_test_17 : decode cX4_test 17 = .ok (.invokespecial 67, 3) := by decide +kernel
theorem dX4_test_20 : decode cX4_test 20 = .ok (.athrow, 1) := by decide +kernel
theorem dX4_test_21 : decode cX4_test 21 = .ok (.aload_n 0, 1) := by decide +kernel
theorem dX4_test_22 : decode cX4_test 22 = .ok (.getfield 12, 3) := by decide +kernel
theorem dX4_test_25 : decode cX4_test 25 = .ok (.iload_n 1, 1) := by decide +kernel
theorem dX4_test_26 : decode cX4_test 26 = .ok (.invokevirtual 103, 3) := by decide +kernel
theorem dX4_test_29 : decode cX4_test 29 = .ok (.ifCond .ne 13, 3) := by decide +kernel
theorem dX4_test_32 : decode cX4_test 32 = .ok (.new 37, 3) := by decide +kernel
theorem dX4_test_35 : decode cX4_test 35 = .ok (.dup, 1) := by decide +kernel
theorem dX4_test_36 : decode cX4_test 36 = .ok (.ldc 106, 2) := by decide +kernel
theorem dX4_test_38 : decode cX4_test 38 = .ok (.invokespecial 41, 3) := by decide +kernel
theorem dX4_test_41 : decode cX4_test 41 = .ok (.athrow, 1) := by decide +kernel
theorem dX4_test_42 : decode cX4_test 42 = .ok (.aload_n 0, 1) := by decide +kernel
theorem dX4_test_43 : decode cX4_test 43 = .ok (.invokevirtual 44, 3) := by decide +kernel
theorem dX4_test_46 : decode cX4_test 46 = .ok (.aload_n 0, 1) := by decide +kernel
theorem dX4_test_47 : decode cX4_test 47 = .ok (.getfield 12, 3) := by decide +kernel
theorem dX4_test_50 : decode cX4_test 50 = .ok (.iload_n 1, 1) := by decide +kernel
theorem dX4_test_51 : decode cX4_test 51 = .ok (.iload_n 2, 1) := by decide +kernel
theorem dX4_test_52 : decode cX4_test 52 = .ok (.invokevirtual 108, 3) := by decide +kernel
theorem dX4_test_55 : decode cX4_test 55 = .ok (.ireturn, 1) := by decide +kernel
theorem dX4_next_0 : decode cX4_next 0 = .ok (.aload_n 0, 1) := by decide +kernel
theorem dX4_next_1 : decode cX4_next 1 = .ok (.getfield 12, 3) := by decide +kernel
theorem dX4_next_4 : decode cX4_next 4 = .ok (.invokevirtual 112, 3) := by decide +kernel
theorem dX4_next_7 : decode cX4_next 7 = .ok (.ifCond .ne 13, 3) := by decide +kernel
theorem dX4_next_10 : decode cX4_next 10 = .ok (.new 37, 3) := by decide +kernel
theorem dX4_next_13 : decode cX4_next 13 = .ok (.dup, 1) := by decide +kernel
theorem dX4_next_14 : decode cX4_next 14 = .ok (.ldc 116, 2) := by decide +kernel
theorem dX4_next_16 : decode cX4_next 16 = .ok (.invokespecial 41, 3) := by decide +kernel
theorem dX4_next_19 : decode cX4_next 19 = .ok (.athrow, 1) := by decide +kernel
theorem dX4_next_20 : decode cX4_next 20 = .ok (.aload_n 0, 1) := by decide +kernel
theorem dX4_next_21 : decode cX4_next 21 = .ok (.invokevirtual 44, 3) := by decide +kernel
theorem dX4_next_24 : decode cX4_next 24 = .ok (.aload_n 0, 1) := by decide +kernel
theorem dX4_next_25 : decode cX4_next 25 = .ok (.getfield 12, 3) := by decide +kernel
theorem dX4_next_28 : decode cX4_next 28 = .ok (.invokevirtual 118, 3) := by decide +kernel
theorem dX4_next_31 : decode cX4_next 31 = .ok (.ireturn, 1) := by decide +kernel
theorem dX4_set_0 : decode cX4_set 0 = .ok (.iload_n 1, 1) := by decide +kernel
theorem dX4_set_1 : decode cX4_set 1 = .ok (.invokestatic 121, 3) := by decide +kernel
theorem dX4_set_4 : decode cX4_set 4 = .ok (.ifCond .ne 13, 3) := by decide +kernel
theorem dX4_set_7 : decode cX4_set 7 = .ok (.new 63, 3) := by decide +kernel
theorem dX4_set_10 : decode cX4_set 10 = .ok (.dup, 1) := by decide +kernel
theorem dX4_set_11 : decode cX4_set 11 = .ok (.ldc 124, 2) := by decide +kernel
theorem dX4_set_13 : decode cX4_set 13 = .ok (.invokespecial 67, 3) := by decide +kernel
theorem dX4_set_16 : decode cX4_set 16 = .ok (.athrow, 1) := by decide +kernel
theorem dX4_set_17 : decode cX4_set 17 = .ok (.iload_n 2, 1) := by decide +kernel
theorem dX4_set_18 : decode cX4_set 18 = .ok (.iconst 0, 1) := by decide +kernel
theorem dX4_set_19 : decode cX4_set 19 = .ok (.getstatic 126, 3) := by decide +kernel
theorem dX4_set_22 : decode cX4_set 22 = .ok (.iload_n 1, 1) := by decide +kernel
theorem dX4_set_23 : decode cX4_set 23 = .ok (.iaload, 1) := by decide +kernel
theorem dX4_set_24 : decode cX4_set 24 = .ok (.invokestatic 90, 3) := by decide +kernel
theorem dX4_set_27 : decode cX4_set 27 = .ok (.ifCond .ne 13, 3) := by decide +kernel
theorem dX4_set_30 : decode cX4_set 30 = .ok (.new 94, 3) := by decide +kernel
theorem dX4_set_33 : decode cX4_set 33 = .ok (.dup, 1) := by decide +kernel
theorem dX4_set_34 : decode cX4_set 34 = .ok (.ldc 130, 2) := by decide +kernel
theorem dX4_set_36 : decode cX4_set 36 = .ok (.invokespecial 98, 3) := by decide +kernel
theorem dX4_set_39 : decode cX4_set 39 = .ok (.athrow, 1) := by decide +kernel
theorem dX4_set_40 : decode cX4_set 40 = .ok (.aload_n 0, 1) := by decide +kernel
theorem dX4_set_41 : decode cX4_set 41 = .ok (.invokevirtual 44, 3) := by decide +kernel
theorem dX4_set_44 : decode cX4_set 44 = .ok (.aload_n 0, 1) := by decide +kernel
theorem dX4_set_45 : decode cX4_set 45 = .ok (.getfield 12, 3) := by decide +kernel
theorem dX4_set_48 : decode cX4_set 48 = .ok (.getfield 132, 3) := by decide +kernel
theorem dX4_set_51 : decode cX4_set 51 = .ok (.iload_n 1, 1) := by decide +kernel
theorem dX4_set_52 : decode cX4_set 52 = .ok (.iaload, 1) := by decide +kernel
theorem dX4_set_53 : decode cX4_set 53 = .ok (.istore_n 3, 1) := by decide +kernel
theorem dX4_set_54 : decode cX4_set 54 = .ok (.aload_n 0, 1) := by decide +kernel
theorem dX4_set_55 : decode cX4_set 55 = .ok (.getfield 12, 3) := by decide +kernel
theorem dX4_set_58 : decode cX4_set 58 = .ok (.getfield 132, 3) := by decide +kernel
theorem dX4_set_61 : decode cX4_set 61 = .ok (.iload_n 1, 1) := by decide +kernel
theorem dX4_set_62 : decode cX4_set 62 = .ok (.iload_n 2, 1) := by decide +kernel
theorem dX4_set_63 : decode cX4_set 63 = .ok (.iastore, 1) := by decide +kernel
theorem dX4_set_64 : decode cX4_set 64 = .ok (.iload_n 3, 1) := by decide +kernel
theorem dX4_set_65 : decode cX4_set 65 = .ok (.ireturn, 1) := by decide +kernel
theorem dX4_undo_0 : decode cX4_undo 0 = .ok (.aload_n 0, 1) := by decide +kernel
theorem dX4_undo_1 : decode cX4_undo 1 = .ok (.getfield 23, 3) := by decide +kernel
theorem dX4_undo_4 : decode cX4_undo 4 = .ok (.iconst 1, 1) := by decide +kernel
theorem dX4_undo_5 : decode cX4_undo 5 = .ok (.aload_n 0, 1) := by decide +kernel
theorem dX4_undo_6 : decode cX4_undo 6 = .ok (.getfield 19, 3) := by decide +kernel
theorem dX4_undo_9 : decode cX4_undo 9 = .ok (.arraylength, 1) := by decide +kernel
theorem dX4_undo_10 : decode cX4_undo 10 = .ok (.invokestatic 90, 3) := by decide +kernel
theorem dX4_undo_13 : decode cX4_undo 13 = .ok (.ifCond .ne 13, 3) := by decide +kernel
theorem dX4_undo_16 : decode cX4_undo 16 = .ok (.new 37, 3) := by decide +kernel
theorem dX4_undo_19 : decode cX4_undo 19 = .ok (.dup, 1) := by decide +kernel
theorem dX4_undo_20 : decode cX4_undo 20 = .ok (.ldc 163, 2) := by decide +kernel
theorem dX4_undo_22 : decode cX4_undo 22 = .ok (.invokespecial 41, 3) := by decide +kernel
theorem dX4_undo_25 : decode cX4_undo 25 = .ok (.athrow, 1) := by decide +kernel
theorem dX4_undo_26 : decode cX4_undo 26 = .ok (.aload_n 0, 1) := by decide +kernel
theorem dX4_undo_27 : decode cX4_undo 27 = .ok (.dup, 1) := by decide +kernel
theorem dX4_undo_28 : decode cX4_undo 28 = .ok (.getfield 23, 3) := by decide +kernel
theorem dX4_undo_31 : decode cX4_undo 31 = .ok (.iconst 1, 1) := by decide +kernel
theorem dX4_undo_32 : decode cX4_undo 32 = .ok (.isub, 1) := by decide +kernel
theorem dX4_undo_33 : decode cX4_undo 33 = .ok (.putfield 23, 3) := by decide +kernel
theorem dX4_undo_36 : decode cX4_undo 36 = .ok (.aload_n 0, 1) := by decide +kernel
theorem dX4_undo_37 : decode cX4_undo 37 = .ok (.getfield 12, 3) := by decide +kernel
theorem dX4_undo_40 : decode cX4_undo 40 = .ok (.aload_n 0, 1) := by decide +kernel
theorem dX4_undo_41 : decode cX4_undo 41 = .ok (.getfield 19, 3) := by decide +kernel
theorem dX4_undo_44 : decode cX4_undo 44 = .ok (.aload_n 0, 1) := by decide +kernel
theorem dX4_undo_45 : decode cX4_undo 45 = .ok (.getfield 23, 3) := by decide +kernel
theorem dX4_undo_48 : decode cX4_undo 48 = .ok (.aaload, 1) := by decide +kernel
theorem dX4_undo_49 : decode cX4_undo 49 = .ok (.invokevirtual 165, 3) := by decide +kernel
theorem dX4_undo_52 : decode cX4_undo 52 = .ok (.aload_n 0, 1) := by decide +kernel
theorem dX4_undo_53 : decode cX4_undo 53 = .ok (.getfield 23, 3) := by decide +kernel
theorem dX4_undo_56 : decode cX4_undo 56 = .ok (.ireturn, 1) := by decide +kernel
theorem dX4_pupil_0 : decode cX4_pupil 0 = .ok (.aload_n 0, 1) := by decide +kernel
theorem dX4_pupil_1 : decode cX4_pupil 1 = .ok (.getfield 12, 3) := by decide +kernel
theorem dX4_pupil_4 : decode cX4_pupil 4 = .ok (.iload_n 1, 1) := by decide +kernel
theorem dX4_pupil_5 : decode cX4_pupil 5 = .ok (.invokevirtual 59, 3) := by decide +kernel
theorem dX4_pupil_8 : decode cX4_pupil 8 = .ok (.ifCond .ne 13, 3) := by decide +kernel
theorem dX4_pupil_11 : decode cX4_pupil 11 = .ok (.new 63, 3) := by decide +kernel
theorem dX4_pupil_14 : decode cX4_pupil 14 = .ok (.dup, 1) := by decide +kernel
theorem dX4_pupil_15 : decode cX4_pupil 15 = .ok (.ldc 65, 2) := by decide +kernel
theorem dX4_pupil_17 : decode cX4_pupil 17 = .ok (.invokespecial 67, 3) := by decide +kernel
theorem dX4_pupil_20 : decode cX4_pupil 20 = .ok (.athrow, 1) := by decide +kernel
theorem dX4_pupil_21 : decode cX4_pupil 21 = .ok (.iload_n 2, 1) := by decide +kernel
theorem dX4_pupil_22 : decode cX4_pupil 22 = .ok (.iconst 0, 1) := by decide +kernel
theorem dX4_pupil_23 : decode cX4_pupil 23 = .ok (.bipush 10, 2) := by decide +kernel
theorem dX4_pupil_25 : decode cX4_pupil 25 = .ok (.invokestatic 90, 3) := by decide +kernel
theorem dX4_pupil_28 : decode cX4_pupil 28 = .ok (.ifCond .ne 13, 3) := by decide +kernel
theorem dX4_pupil_31 : decode cX4_pupil 31 = .ok (.new 94, 3) := by decide +kernel
theorem dX4_pupil_34 : decode cX4_pupil 34 = .ok (.dup, 1) := by decide +kernel
theorem dX4_pupil_35 : decode cX4_pupil 35 = .ok (.ldc 169, 2) := by decide +kernel
theorem dX4_pupil_37 : decode cX4_pupil 37 = .ok (.invokespecial 98, 3) := by decide +kernel
theorem dX4_pupil_40 : decode cX4_pupil 40 = .ok (.athrow, 1) := by decide +kernel
theorem dX4_pupil_41 : decode cX4_pupil 41 = .ok (.aload_n 0, 1) := by decide +kernel
theorem dX4_pupil_42 : decode cX4_pupil 42 = .ok (.getfield 12, 3) := by decide +kernel
theorem dX4_pupil_45 : decode cX4_pupil 45 = .ok (.iload_n 1, 1) := by decide +kernel
theorem dX4_pupil_46 : decode cX4_pupil 46 = .ok (.iload_n 2, 1) := by decide +kernel
theorem dX4_pupil_47 : decode cX4_pupil 47 = .ok (.invokevirtual 171, 3) := by decide +kernel
theorem dX4_pupil_50 : decode cX4_pupil 50 = .ok (.ireturn, 1) := by decide +kernel
theorem dX4_examiner_0 : decode cX4_examiner 0 = .ok (.aload_n 0, 1) := by decide +kernel
theorem dX4_examiner_1 : decode cX4_examiner 1 = .ok (.getfield 12, 3) := by decide +kernel
theorem dX4_examiner_4 : decode cX4_examiner 4 = .ok (.iload_n 1, 1) := by decide +kernel
theorem dX4_examiner_5 : decode cX4_examiner 5 = .ok (.invokevirtual 85, 3) := by decide +kernel
theorem dX4_examiner_8 : decode cX4_examiner 8 = .ok (.ifCond .ne 13, 3) := by decide +kernel
theorem dX4_examiner_11 : decode cX4_examiner 11 = .ok (.new 63, 3) := by decide +kernel
theorem dX4_examiner_14 : decode cX4_examiner 14 = .ok (.dup, 1) := by decide +kernel
theorem dX4_examiner_15 : decode cX4_examiner 15 = .ok (.ldc 88, 2) := by decide +kernel
theorem dX4_examiner_17 : decode cX4_examiner 17 = .ok (.invokespecial 67, 3) := by decide +kernel
theorem dX4_examiner_20 : decode cX4_examiner 20 = .ok (.athrow, 1) := by decide +kernel
theorem dX4_examiner_21 : decode cX4_examiner 21 = .ok (.iload_n 2, 1) := by decide +kernel
theorem dX4_examiner_22 : decode cX4_examiner 22 = .ok (.iconst 0, 1) := by decide +kernel
theorem dX4_examiner_23 : decode cX4_examiner 23 = .ok (.bipush 8, 2) := by decide +kernel
theorem dX4_examiner_25 : decode cX4_examiner 25 = .ok (.invokestatic 90, 3) := by decide +kernel
theorem dX4_examiner_28 : decode cX4_examiner 28 = .ok (.ifCond .ne 13, 3) := by decide +kernel
theorem dX4_examiner_31 : decode cX4_examiner 31 = .ok (.new 94, 3) := by decide +kernel
theorem dX4_examiner_34 : decode cX4_examiner 34 = .ok (.dup, 1) := by decide +kernel
theorem dX4_examiner_35 : decode cX4_examiner 35 = .ok (.ldc 174, 2) := by decide +kernel
theorem dX4_examiner_37 : decode cX4_examiner 37 = .ok (.invokespecial 98, 3) := by decide +kernel
theorem dX4_examiner_40 : decode cX4_examiner 40 = .ok (.athrow, 1) := by decide +kernel
theorem dX4_examiner_41 : decode cX4_examiner 41 = .ok (.aload_n 0, 1) := by decide +kernel
theorem dX4_examiner_42 : decode cX4_examiner 42 = .ok (.getfield 12, 3) := by decide +kernel
theorem dX4_examiner_45 : decode cX4_examiner 45 = .ok (.iload_n 1, 1) := by decide +kernel
theorem dX4_examiner_46 : decode cX4_examiner 46 = .ok (.iload_n 2, 1) := by decide +kernel
theorem dX4_examiner_47 : decode cX4_examiner 47 = .ok (.invokevirtual 176, 3) := by decide +kernel
theorem dX4_examiner_50 : decode cX4_examiner 50 = .ok (.ireturn, 1) := by decide +kernel
theorem dX4_slot_0 : decode cX4_slot 0 = .ok (.aload_n 0, 1) := by decide +kernel
theorem dX4_slot_1 : decode cX4_slot 1 = .ok (.getfield 12, 3) := by decide +kernel
theorem dX4_slot_4 : decode cX4_slot 4 = .ok (.iload_n 1, 1) := by decide +kernel
theorem dX4_slot_5 : decode cX4_slot 5 = .ok (.invokevirtual 85, 3) := by decide +kernel
theorem dX4_slot_8 : decode cX4_slot 8 = .ok (.ifCond .ne 13, 3) := by decide +kernel
theorem dX4_slot_11 : decode cX4_slot 11 = .ok (.new 63, 3) := by decide +kernel
theorem dX4_slot_14 : decode cX4_slot 14 = .ok (.dup, 1) := by decide +kernel
theorem dX4_slot_15 : decode cX4_slot 15 = .ok (.ldc 88, 2) := by decide +kernel
theorem dX4_slot_17 : decode cX4_slot 17 = .ok (.invokespecial 67, 3) := by decide +kernel
theorem dX4_slot_20 : decode cX4_slot 20 = .ok (.athrow, 1) := by decide +kernel
theorem dX4_slot_21 : decode cX4_slot 21 = .ok (.iload_n 2, 1) := by decide +kernel
theorem dX4_slot_22 : decode cX4_slot 22 = .ok (.iconst 0, 1) := by decide +kernel
theorem dX4_slot_23 : decode cX4_slot 23 = .ok (.bipush 9, 2) := by decide +kernel
theorem dX4_slot_25 : decode cX4_slot 25 = .ok (.invokestatic 90, 3) := by decide +kernel
theorem dX4_slot_28 : decode cX4_slot 28 = .ok (.ifCond .eq 12, 3) := by decide +kernel
theorem dX4_slot_31 : decode cX4_slot 31 = .ok (.iload_n 3, 1) := by decide +kernel
theorem dX4_slot_32 : decode cX4_slot 32 = .ok (.iconst 0, 1) := by decide +kernel
theorem dX4_slot_33 : decode cX4_slot 33 = .ok (.iconst 3, 1) := by decide +kernel
theorem dX4_slot_34 : decode cX4_slot 34 = .ok (.invokestatic 90, 3) := by decide +kernel
theorem dX4_slot_37 : decode cX4_slot 37 = .ok (.ifCond .ne 13, 3) := by decide +kernel
theorem dX4_slot_40 : decode cX4_slot 40 = .ok (.new 94, 3) := by decide +kernel
theorem dX4_slot_43 : decode cX4_slot 43 = .ok (.dup, 1) := by decide +kernel
theorem dX4_slot_44 : decode cX4_slot 44 = .ok (.ldc 179, 2) := by decide +kernel
theorem dX4_slot_46 : decode cX4_slot 46 = .ok (.invokespecial 98, 3) := by decide +kernel
theorem dX4_slot_49 : decode cX4_slot 49 = .ok (.athrow, 1) := by decide +kernel
theorem dX4_slot_50 : decode cX4_slot 50 = .ok (.aload_n 0, 1) := by decide +kernel
theorem dX4_slot_51 : decode cX4_slot 51 = .ok (.getfield 12, 3) := by decide +kernel
theorem dX4_slot_54 : decode cX4_slot 54 = .ok (.getfield 181, 3) := by decide +kernel
theorem dX4_slot_57 : decode cX4_slot 57 = .ok (.iload_n 1, 1) := by decide +kernel
theorem dX4_slot_58 : decode cX4_slot 58 = .ok (.iload_n 2, 1) := by decide +kernel
theorem dX4_slot_59 : decode cX4_slot 59 = .ok (.iload_n 3, 1) := by decide +kernel
theorem dX4_slot_60 : decode cX4_slot 60 = .ok (.invokestatic 184, 3) := by decide +kernel
theorem dX4_slot_63 : decode cX4_slot 63 = .ok (.iaload, 1) := by decide +kernel
theorem dX4_slot_64 : decode cX4_slot 64 = .ok (.ireturn, 1) := by decide +kernel
theorem dX4_count_0 : decode cX4_count 0 = .ok (.iload_n 1, 1) := by decide +kernel
theorem dX4_count_1 : decode cX4_count 1 = .ok (.iconst 0, 1) := by decide +kernel
theorem dX4_count_2 : decode cX4_count 2 = .ok (.bipush 14, 2) := by decide +kernel
theorem dX4_count_4 : decode cX4_count 4 = .ok (.invokestatic 90, 3) := by decide +kernel
theorem dX4_count_7 : decode cX4_count 7 = .ok (.ifCond .ne 13, 3) := by decide +kernel
theorem dX4_count_10 : decode cX4_count 10 = .ok (.new 94, 3) := by decide +kernel
theorem dX4_count_13 : decode cX4_count 13 = .ok (.dup, 1) := by decide +kernel
theorem dX4_count_14 : decode cX4_count 14 = .ok (.ldc 188, 2) := by decide +kernel
theorem dX4_count_16 : decode cX4_count 16 = .ok (.invokespecial 98, 3) := by decide +kernel
theorem dX4_count_19 : decode cX4_count 19 = .ok (.athrow, 1) := by decide +kernel
theorem dX4_count_20 : decode cX4_count 20 = .ok (.iload_n 1, 1) := by decide +kernel
theorem dX4_count_21 : decode cX4_count 21 = .ok (.bipush 14, 2) := by decide +kernel
theorem dX4_count_23 : decode cX4_count 23 = .ok (.if_icmp .ne 10, 3) := by decide +kernel
theorem dX4_count_26 : decode cX4_count 26 = .ok (.aload_n 0, 1) := by decide +kernel
theorem dX4_count_27 : decode cX4_count 27 = .ok (.getfield 23, 3) := by decide +kernel
theorem dX4_count_30 : decode cX4_count 30 = .ok (.goto 11, 3) := by decide +kernel
theorem dX4_count_33 : decode cX4_count 33 = .ok (.aload_n 0, 1) := by decide +kernel
theorem dX4_count_34 : decode cX4_count 34 = .ok (.getfield 12, 3) := by decide +kernel
theorem dX4_count_37 : decode cX4_count 37 = .ok (.iload_n 1, 1) := by decide +kernel
theorem dX4_count_38 : decode cX4_count 38 = .ok (.invokevirtual 190, 3) := by decide +kernel
theorem dX4_count_41 : decode cX4_count 41 = .ok (.ireturn, 1) := by decide +kernel
theorem dX4_setting_0 : decode cX4_setting 0 = .ok (.iload_n 1, 1) := by decide +kernel
theorem dX4_setting_1 : decode cX4_setting 1 = .ok (.invokestatic 121, 3) := by decide +kernel
theorem dX4_setting_4 : decode cX4_setting 4 = .ok (.ifCond .ne 13, 3) := by decide +kernel
theorem dX4_setting_7 : decode cX4_setting 7 = .ok (.new 63, 3) := by decide +kernel
theorem dX4_setting_10 : decode cX4_setting 10 = .ok (.dup, 1) := by decide +kernel
theorem dX4_setting_11 : decode cX4_setting 11 = .ok (.ldc 124, 2) := by decide +kernel
theorem dX4_setting_13 : decode cX4_setting 13 = .ok (.invokespecial 67, 3) := by decide +kernel
