theorem dX4_setting_16 : decode cX4_setting 16 = .ok (.athrow, 1) := by decide +kernel
theorem dX4_setting_17 : decode cX4_setting 17 = .ok (.aload_n 0, 1) := by decide +kernel
theorem dX4_setting_18 : decode cX4_setting 18 = .ok (.getfield 12, 3) := by decide +kernel
theorem dX4_setting_21 : decode cX4_setting 21 = .ok (.getfield 132, 3) := by decide +kernel
theorem dX4_setting_24 : decode cX4_setting 24 = .ok (.iload_n 1, 1) := by decide +kernel
theorem dX4_setting_25 : decode cX4_setting 25 = .ok (.iaload, 1) := by decide +kernel
theorem dX4_setting_26 : decode cX4_setting 26 = .ok (.ireturn, 1) := by decide +kernel
theorem dX4_earliest_0 : decode cX4_earliest 0 = .ok (.aload_n 0, 1) := by decide +kernel
theorem dX4_earliest_1 : decode cX4_earliest 1 = .ok (.getfield 12, 3) := by decide +kernel
theorem dX4_earliest_4 : decode cX4_earliest 4 = .ok (.iload_n 1, 1) := by decide +kernel
theorem dX4_earliest_5 : decode cX4_earliest 5 = .ok (.invokevirtual 59, 3) := by decide +kernel
theorem dX4_earliest_8 : decode cX4_earliest 8 = .ok (.ifCond .ne 13, 3) := by decide +kernel
theorem dX4_earliest_11 : decode cX4_earliest 11 = .ok (.new 63, 3) := by decide +kernel
theorem dX4_earliest_14 : decode cX4_earliest 14 = .ok (.dup, 1) := by decide +kernel
theorem dX4_earliest_15 : decode cX4_earliest 15 = .ok (.ldc 65, 2) := by decide +kernel
theorem dX4_earliest_17 : decode cX4_earliest 17 = .ok (.invokespecial 67, 3) := by decide +kernel
theorem dX4_earliest_20 : decode cX4_earliest 20 = .ok (.athrow, 1) := by decide +kernel
theorem dX4_earliest_21 : decode cX4_earliest 21 = .ok (.iload_n 2, 1) := by decide +kernel
theorem dX4_earliest_22 : decode cX4_earliest 22 = .ok (.iconst 0, 1) := by decide +kernel
theorem dX4_earliest_23 : decode cX4_earliest 23 = .ok (.iconst 2, 1) := by decide +kernel
theorem dX4_earliest_24 : decode cX4_earliest 24 = .ok (.invokestatic 90, 3) := by decide +kernel
theorem dX4_earliest_27 : decode cX4_earliest 27 = .ok (.ifCond .ne 13, 3) := by decide +kernel
theorem dX4_earliest_30 : decode cX4_earliest 30 = .ok (.new 94, 3) := by decide +kernel
theorem dX4_earliest_33 : decode cX4_earliest 33 = .ok (.dup, 1) := by decide +kernel
theorem dX4_earliest_34 : decode cX4_earliest 34 = .ok (.ldc 193, 2) := by decide +kernel
theorem dX4_earliest_36 : decode cX4_earliest 36 = .ok (.invokespecial 98, 3) := by decide +kernel
theorem dX4_earliest_39 : decode cX4_earliest 39 = .ok (.athrow, 1) := by decide +kernel
theorem dX4_earliest_40 : decode cX4_earliest 40 = .ok (.aload_n 0, 1) := by decide +kernel
theorem dX4_earliest_41 : decode cX4_earliest 41 = .ok (.getfield 12, 3) := by decide +kernel
theorem dX4_earliest_44 : decode cX4_earliest 44 = .ok (.iload_n 1, 1) := by decide +kernel
theorem dX4_earliest_45 : decode cX4_earliest 45 = .ok (.invokevirtual 195, 3) := by decide +kernel
theorem dX4_earliest_48 : decode cX4_earliest 48 = .ok (.iload_n 2, 1) := by decide +kernel
theorem dX4_earliest_49 : decode cX4_earliest 49 = .ok (.invokestatic 198, 3) := by decide +kernel
theorem dX4_earliest_52 : decode cX4_earliest 52 = .ok (.ireturn, 1) := by decide +kernel
theorem dX4_ifCancelled_0 : decode cX4_ifCancelled 0 = .ok (.aload_n 0, 1) := by decide +kernel
theorem dX4_ifCancelled_1 : decode cX4_ifCancelled 1 = .ok (.getfield 12, 3) := by decide +kernel
theorem dX4_ifCancelled_4 : decode cX4_ifCancelled 4 = .ok (.iload_n 1, 1) := by decide +kernel
theorem dX4_ifCancelled_5 : decode cX4_ifCancelled 5 = .ok (.invokevirtual 85, 3) := by decide +kernel
theorem dX4_ifCancelled_8 : decode cX4_ifCancelled 8 = .ok (.ifCond .ne 13, 3) := by decide +kernel
theorem dX4_ifCancelled_11 : decode cX4_ifCancelled 11 = .ok (.new 63, 3) := by decide +kernel
theorem dX4_ifCancelled_14 : decode cX4_ifCancelled 14 = .ok (.dup, 1) := by decide +kernel
theorem dX4_ifCancelled_15 : decode cX4_ifCancelled 15 = .ok (.ldc 88, 2) := by decide +kernel
theorem dX4_ifCancelled_17 : decode cX4_ifCancelled 17 = .ok (.invokespecial 67, 3) := by decide +kernel
theorem dX4_ifCancelled_20 : decode cX4_ifCancelled 20 = .ok (.athrow, 1) := by decide +kernel
theorem dX4_ifCancelled_21 : decode cX4_ifCancelled 21 = .ok (.iload_n 2, 1) := by decide +kernel
theorem dX4_ifCancelled_22 : decode cX4_ifCancelled 22 = .ok (.iconst 0, 1) := by decide +kernel
theorem dX4_ifCancelled_23 : decode cX4_ifCancelled 23 = .ok (.bipush 9, 2) := by decide +kernel
theorem dX4_ifCancelled_25 : decode cX4_ifCancelled 25 = .ok (.invokestatic 90, 3) := by decide +kernel
theorem dX4_ifCancelled_28 : decode cX4_ifCancelled 28 = .ok (.ifCond .eq 12, 3) := by decide +kernel
theorem dX4_ifCancelled_31 : decode cX4_ifCancelled 31 = .ok (.iload_n 3, 1) := by decide +kernel
theorem dX4_ifCancelled_32 : decode cX4_ifCancelled 32 = .ok (.iconst 0, 1) := by decide +kernel
theorem dX4_ifCancelled_33 : decode cX4_ifCancelled 33 = .ok (.iconst 2, 1) := by decide +kernel
theorem dX4_ifCancelled_34 : decode cX4_ifCancelled 34 = .ok (.invokestatic 90, 3) := by decide +kernel
theorem dX4_ifCancelled_37 : decode cX4_ifCancelled 37 = .ok (.ifCond .ne 13, 3) := by decide +kernel
theorem dX4_ifCancelled_40 : decode cX4_ifCancelled 40 = .ok (.new 94, 3) := by decide +kernel
theorem dX4_ifCancelled_43 : decode cX4_ifCancelled 43 = .ok (.dup, 1) := by decide +kernel
theorem dX4_ifCancelled_44 : decode cX4_ifCancelled 44 = .ok (.ldc 201, 2) := by decide +kernel
theorem dX4_ifCancelled_46 : decode cX4_ifCancelled 46 = .ok (.invokespecial 98, 3) := by decide +kernel
theorem dX4_ifCancelled_49 : decode cX4_ifCancelled 49 = .ok (.athrow, 1) := by decide +kernel
theorem dX4_ifCancelled_50 : decode cX4_ifCancelled 50 = .ok (.aload_n 0, 1) := by decide +kernel
theorem dX4_ifCancelled_51 : decode cX4_ifCancelled 51 = .ok (.getfield 16, 3) := by decide +kernel
theorem dX4_ifCancelled_54 : decode cX4_ifCancelled 54 = .ok (.aload_n 0, 1) := by decide +kernel
theorem dX4_ifCancelled_55 : decode cX4_ifCancelled 55 = .ok (.getfield 12, 3) := by decide +kernel
theorem dX4_ifCancelled_58 : decode cX4_ifCancelled 58 = .ok (.invokevirtual 165, 3) := by decide +kernel
theorem dX4_ifCancelled_61 : decode cX4_ifCancelled 61 = .ok (.aload_n 0, 1) := by decide +kernel
theorem dX4_ifCancelled_62 : decode cX4_ifCancelled 62 = .ok (.getfield 16, 3) := by decide +kernel
theorem dX4_ifCancelled_65 : decode cX4_ifCancelled 65 = .ok (.iload_n 1, 1) := by decide +kernel
theorem dX4_ifCancelled_66 : decode cX4_ifCancelled 66 = .ok (.iload_n 2, 1) := by decide +kernel
theorem dX4_ifCancelled_67 : decode cX4_ifCancelled 67 = .ok (.invokevirtual 99, 3) := by decide +kernel
theorem dX4_ifCancelled_70 : decode cX4_ifCancelled 70 = .ok (.istore 4, 2) := by decide +kernel
theorem dX4_ifCancelled_72 : decode cX4_ifCancelled 72 = .ok (.iload_n 3, 1) := by decide +kernel
theorem dX4_ifCancelled_73 : decode cX4_ifCancelled 73 = .ok (.ifCond .ne 6, 3) := by decide +kernel
theorem dX4_ifCancelled_76 : decode cX4_ifCancelled 76 = .ok (.iload 4, 2) := by decide +kernel
theorem dX4_ifCancelled_78 : decode cX4_ifCancelled 78 = .ok (.ireturn, 1) := by decide +kernel
theorem dX4_ifCancelled_79 : decode cX4_ifCancelled 79 = .ok (.iconst 0, 1) := by decide +kernel
theorem dX4_ifCancelled_80 : decode cX4_ifCancelled 80 = .ok (.istore 5, 2) := by decide +kernel
theorem dX4_ifCancelled_82 : decode cX4_ifCancelled 82 = .ok (.sipush 1000, 3) := by decide +kernel
theorem dX4_ifCancelled_85 : decode cX4_ifCancelled 85 = .ok (.istore 6, 2) := by decide +kernel
theorem dX4_ifCancelled_87 : decode cX4_ifCancelled 87 = .ok (.iconst 0, 1) := by decide +kernel
theorem dX4_ifCancelled_88 : decode cX4_ifCancelled 88 = .ok (.istore 7, 2) := by decide +kernel
theorem dX4_ifCancelled_90 : decode cX4_ifCancelled 90 = .ok (.iload 7, 2) := by decide +kernel
theorem dX4_ifCancelled_92 : decode cX4_ifCancelled 92 = .ok (.iconst 2, 1) := by decide +kernel
theorem dX4_ifCancelled_93 : decode cX4_ifCancelled 93 = .ok (.if_icmp .ge 88, 3) := by decide +kernel
theorem dX4_ifCancelled_96 : decode cX4_ifCancelled 96 = .ok (.aload_n 0, 1) := by decide +kernel
theorem dX4_ifCancelled_97 : decode cX4_ifCancelled 97 = .ok (.getfield 12, 3) := by decide +kernel
theorem dX4_ifCancelled_100 : decode cX4_ifCancelled 100 = .ok (.getfield 181, 3) := by decide +kernel
theorem dX4_ifCancelled_103 : decode cX4_ifCancelled 103 = .ok (.iload_n 1, 1) := by decide +kernel
theorem dX4_ifCancelled_104 : decode cX4_ifCancelled 104 = .ok (.iload_n 2, 1) := by decide +kernel
theorem dX4_ifCancelled_105 : decode cX4_ifCancelled 105 = .ok (.iload 7, 2) := by decide +kernel
theorem dX4_ifCancelled_107 : decode cX4_ifCancelled 107 = .ok (.invokestatic 184, 3) := by decide +kernel
theorem dX4_ifCancelled_110 : decode cX4_ifCancelled 110 = .ok (.iaload, 1) := by decide +kernel
theorem dX4_ifCancelled_111 : decode cX4_ifCancelled 111 = .ok (.istore 8, 2) := by decide +kernel
theorem dX4_ifCancelled_113 : decode cX4_ifCancelled 113 = .ok (.aload_n 0, 1) := by decide +kernel
theorem dX4_ifCancelled_114 : decode cX4_ifCancelled 114 = .ok (.getfield 12, 3) := by decide +kernel
theorem dX4_ifCancelled_117 : decode cX4_ifCancelled 117 = .ok (.iload 8, 2) := by decide +kernel
theorem dX4_ifCancelled_119 : decode cX4_ifCancelled 119 = .ok (.invokevirtual 59, 3) := by decide +kernel
theorem dX4_ifCancelled_122 : decode cX4_ifCancelled 122 = .ok (.ifCond .eq 53, 3) := by decide +kernel
theorem dX4_ifCancelled_125 : decode cX4_ifCancelled 125 = .ok (.aload_n 0, 1) := by decide +kernel
theorem dX4_ifCancelled_126 : decode cX4_ifCancelled 126 = .ok (.getfield 16, 3) := by decide +kernel
theorem dX4_ifCancelled_129 : decode cX4_ifCancelled 129 = .ok (.iload 8, 2) := by decide +kernel
theorem dX4_ifCancelled_131 : decode cX4_ifCancelled 131 = .ok (.invokevirtual 203, 3) := by decide +kernel
theorem dX4_ifCancelled_134 : decode cX4_ifCancelled 134 = .ok (.iconst 0, 1) := by decide +kernel
theorem dX4_ifCancelled_135 : decode cX4_ifCancelled 135 = .ok (.invokestatic 198, 3) := by decide +kernel
theorem dX4_ifCancelled_138 : decode cX4_ifCancelled 138 = .ok (.istore 9, 2) := by decide +kernel
theorem dX4_ifCancelled_140 : decode cX4_ifCancelled 140 = .ok (.iload 5, 2) := by decide +kernel
theorem dX4_ifCancelled_142 : decode cX4_ifCancelled 142 = .ok (.iload 9, 2) := by decide +kernel
theorem dX4_ifCancelled_144 : decode cX4_ifCancelled 144 = .ok (.iconst (-1), 1) := by decide +kernel
theorem dX4_ifCancelled_145 : decode cX4_ifCancelled 145 = .ok (.if_icmp .ne 7, 3) := by decide +kernel
theorem dX4_ifCancelled_148 : decode cX4_ifCancelled 148 = .ok (.iconst 1, 1) := by decide +kernel
theorem dX4_ifCancelled_149 : decode cX4_ifCancelled 149 = .ok (.goto 4, 3) := by decide +kernel
theorem dX4_ifCancelled_152 : decode cX4_ifCancelled 152 = .ok (.iconst 0, 1) := by decide +kernel
theorem dX4_ifCancelled_153 : decode cX4_ifCancelled 153 = .ok (.iadd, 1) := by decide +kernel
theorem dX4_ifCancelled_154 : decode cX4_ifCancelled 154 = .ok (.istore 5, 2) := by decide +kernel
theorem dX4_ifCancelled_156 : decode cX4_ifCancelled 156 = .ok (.iload 6, 2) := by decide +kernel
theorem dX4_ifCancelled_158 : decode cX4_ifCancelled 158 = .ok (.iload 9, 2) := by decide +kernel
theorem dX4_ifCancelled_160 : decode cX4_ifCancelled 160 = .ok (.iconst (-1), 1) := by decide +kernel
theorem dX4_ifCancelled_161 : decode cX4_ifCancelled 161 = .ok (.if_icmp .ne 7, 3) := by decide +kernel
theorem dX4_ifCancelled_164 : decode cX4_ifCancelled 164 = .ok (.iconst 0, 1) := by decide +kernel
theorem dX4_ifCancelled_165 : decode cX4_ifCancelled 165 = .ok (.goto 7, 3) := by decide +kernel
theorem dX4_ifCancelled_168 : decode cX4_ifCancelled 168 = .ok (.iload 9, 2) := by decide +kernel
theorem dX4_ifCancelled_170 : decode cX4_ifCancelled 170 = .ok (.iload_n 2, 1) := by decide +kernel
theorem dX4_ifCancelled_171 : decode cX4_ifCancelled 171 = .ok (.isub, 1) := by decide +kernel
theorem dX4_ifCancelled_172 : decode cX4_ifCancelled 172 = .ok (.iadd, 1) := by decide +kernel
theorem dX4_ifCancelled_173 : decode cX4_ifCancelled 173 = .ok (.istore 6, 2) := by decide +kernel
theorem dX4_ifCancelled_175 : decode cX4_ifCancelled 175 = .ok (.iinc 7 1, 3) := by decide +kernel
theorem dX4_ifCancelled_178 : decode cX4_ifCancelled 178 = .ok (.goto (-88), 3) := by decide +kernel
theorem dX4_ifCancelled_181 : decode cX4_ifCancelled 181 = .ok (.iload_n 3, 1) := by decide +kernel
theorem dX4_ifCancelled_182 : decode cX4_ifCancelled 182 = .ok (.iconst 1, 1) := by decide +kernel
theorem dX4_ifCancelled_183 : decode cX4_ifCancelled 183 = .ok (.if_icmp .ne 8, 3) := by decide +kernel
theorem dX4_ifCancelled_186 : decode cX4_ifCancelled 186 = .ok (.iload 5, 2) := by decide +kernel
theorem dX4_ifCancelled_188 : decode cX4_ifCancelled 188 = .ok (.goto 5, 3) := by decide +kernel
theorem dX4_ifCancelled_191 : decode cX4_ifCancelled 191 = .ok (.iload 6, 2) := by decide +kernel
theorem dX4_ifCancelled_193 : decode cX4_ifCancelled 193 = .ok (.ireturn, 1) := by decide +kernel
theorem dX4_ifTested_0 : decode cX4_ifTested 0 = .ok (.aload_n 0, 1) := by decide +kernel
theorem dX4_ifTested_1 : decode cX4_ifTested 1 = .ok (.getfield 12, 3) := by decide +kernel
theorem dX4_ifTested_4 : decode cX4_ifTested 4 = .ok (.iload_n 1, 1) := by decide +kernel
theorem dX4_ifTested_5 : decode cX4_ifTested 5 = .ok (.invokevirtual 59, 3) := by decide +kernel
theorem dX4_ifTested_8 : decode cX4_ifTested 8 = .ok (.ifCond .eq 14, 3) := by decide +kernel
theorem dX4_ifTested_11 : decode cX4_ifTested 11 = .ok (.aload_n 0, 1) := by decide +kernel
theorem dX4_ifTested_12 : decode cX4_ifTested 12 = .ok (.getfield 12, 3) := by decide +kernel
theorem dX4_ifTested_15 : decode cX4_ifTested 15 = .ok (.iload_n 2, 1) := by decide +kernel
theorem dX4_ifTested_16 : decode cX4_ifTested 16 = .ok (.invokevirtual 85, 3) := by decide +kernel
theorem dX4_ifTested_19 : decode cX4_ifTested 19 = .ok (.ifCond .ne 13, 3) := by decide +kernel
theorem dX4_ifTested_22 : decode cX4_ifTested 22 = .ok (.new 63, 3) := by decide +kernel
theorem dX4_ifTested_25 : decode cX4_ifTested 25 = .ok (.dup, 1) := by decide +kernel
theorem dX4_ifTested_26 : decode cX4_ifTested 26 = .ok (.ldc 206, 2) := by decide +kernel
theorem dX4_ifTested_28 : decode cX4_ifTested 28 = .ok (.invokespecial 67, 3) := by decide +kernel
theorem dX4_ifTested_31 : decode cX4_ifTested 31 = .ok (.athrow, 1) := by decide +kernel
theorem dX4_ifTested_32 : decode cX4_ifTested 32 = .ok (.aload_n 0, 1) := by decide +kernel
theorem dX4_ifTested_33 : decode cX4_ifTested 33 = .ok (.getfield 12, 3) := by decide +kernel
theorem dX4_ifTested_36 : decode cX4_ifTested 36 = .ok (.iload_n 1, 1) := by decide +kernel
theorem dX4_ifTested_37 : decode cX4_ifTested 37 = .ok (.iload_n 2, 1) := by decide +kernel
theorem dX4_ifTested_38 : decode cX4_ifTested 38 = .ok (.invokevirtual 208, 3) := by decide +kernel
theorem dX4_ifTested_41 : decode cX4_ifTested 41 = .ok (.ireturn, 1) := by decide +kernel
theorem dX4_couldHave_0 : decode cX4_couldHave 0 = .ok (.iload_n 1, 1) := by decide +kernel
theorem dX4_couldHave_1 : decode cX4_couldHave 1 = .ok (.iconst 0, 1) := by decide +kernel
theorem dX4_couldHave_2 : decode cX4_couldHave 2 = .ok (.bipush 9, 2) := by decide +kernel
theorem dX4_couldHave_4 : decode cX4_couldHave 4 = .ok (.invokestatic 90, 3) := by decide +kernel
theorem dX4_couldHave_7 : decode cX4_couldHave 7 = .ok (.ifCond .ne 13, 3) := by decide +kernel
theorem dX4_couldHave_10 : decode cX4_couldHave 10 = .ok (.new 94, 3) := by decide +kernel
theorem dX4_couldHave_13 : decode cX4_couldHave 13 = .ok (.dup, 1) := by decide +kernel
theorem dX4_couldHave_14 : decode cX4_couldHave 14 = .ok (.ldc 96, 2) := by decide +kernel
theorem dX4_couldHave_16 : decode cX4_couldHave 16 = .ok (.invokespecial 98, 3) := by decide +kernel
theorem dX4_couldHave_19 : decode cX4_couldHave 19 = .ok (.athrow, 1) := by decide +kernel
theorem dX4_couldHave_20 : decode cX4_couldHave 20 = .ok (.aload_n 0, 1) := by decide +kernel
theorem dX4_couldHave_21 : decode cX4_couldHave 21 = .ok (.getfield 12, 3) := by decide +kernel
theorem dX4_couldHave_24 : decode cX4_couldHave 24 = .ok (.iload_n 1, 1) := by decide +kernel
theorem dX4_couldHave_25 : decode cX4_couldHave 25 = .ok (.invokevirtual 211, 3) := by decide +kernel
theorem dX4_couldHave_28 : decode cX4_couldHave 28 = .ok (.ireturn, 1) := by decide +kernel
theorem dX4_isFromTo_0 : decode cX4_isFromTo 0 = .ok (.iload_n 0, 1) := by decide +kernel
theorem dX4_isFromTo_1 : decode cX4_isFromTo 1 = .ok (.iload_n 1, 1) := by decide +kernel
theorem dX4_isFromTo_2 : decode cX4_isFromTo 2 = .ok (.if_icmp .lt 12, 3) := by decide +kernel
theorem dX4_isFromTo_5 : decode cX4_isFromTo 5 = .ok (.iload_n 0, 1) := by decide +kernel
theorem dX4_isFromTo_6 : decode cX4_isFromTo 6 = .ok (.iload_n 2, 1) := by decide +kernel
theorem dX4_isFromTo_7 : decode cX4_isFromTo 7 = .ok (.if_icmp .gt 7, 3) := by decide +kernel
theorem dX4_isFromTo_10 : decode cX4_isFromTo 10 = .ok (.iconst 1, 1) := by decide +kernel
theorem dX4_isFromTo_11 : decode cX4_isFromTo 11 = .ok (.goto 4, 3) := by decide +kernel
theorem dX4_isFromTo_14 : decode cX4_isFromTo 14 = .ok (.iconst 0, 1) := by decide +kernel
theorem dX4_isFromTo_15 : decode cX4_isFromTo 15 = .ok (.ireturn, 1) := by decide +kernel
theorem dX4_isSetting_0 : decode cX4_isSetting 0 = .ok (.iload_n 0, 1) := by decide +kernel
theorem dX4_isSetting_1 : decode cX4_isSetting 1 = .ok (.iconst 0, 1) := by decide +kernel
theorem dX4_isSetting_2 : decode cX4_isSetting 2 = .ok (.getstatic 250, 3) := by decide +kernel
theorem dX4_isSetting_5 : decode cX4_isSetting 5 = .ok (.arraylength, 1) := by decide +kernel
theorem dX4_isSetting_6 : decode cX4_isSetting 6 = .ok (.iconst 1, 1) := by decide +kernel
theorem dX4_isSetting_7 : decode cX4_isSetting 7 = .ok (.isub, 1) := by decide +kernel
theorem dX4_isSetting_8 : decode cX4_isSetting 8 = .ok (.invokestatic 90, 3) := by decide +kernel
theorem dX4_isSetting_11 : decode cX4_isSetting 11 = .ok (.ireturn, 1) := by decide +kernel
theorem dX4_cellAt_0 : decode cX4_cellAt 0 = .ok (.iload_n 1, 1) := by decide +kernel
theorem dX4_cellAt_1 : decode cX4_cellAt 1 = .ok (.bipush 16, 2) := by decide +kernel
theorem dX4_cellAt_3 : decode cX4_cellAt 3 = .ok (.imul, 1) := by decide +kernel
theorem dX4_cellAt_4 : decode cX4_cellAt 4 = .ok (.iload_n 2, 1) := by decide +kernel
theorem dX4_cellAt_5 : decode cX4_cellAt 5 = .ok (.iconst 4, 1) := by decide +kernel
theorem dX4_cellAt_6 : decode cX4_cellAt 6 = .ok (.imul, 1) := by decide +kernel
theorem dX4_cellAt_7 : decode cX4_cellAt 7 = .ok (.iadd, 1) := by decide +kernel
theorem dX4_cellAt_8 : decode cX4_cellAt 8 = .ok (.iload_n 0, 1) := by decide +kernel
theorem dX4_cellAt_9 : decode cX4_cellAt 9 = .ok (.iadd, 1) := by decide +kernel
theorem dX4_cellAt_10 : decode cX4_cellAt 10 = .ok (.ireturn, 1) := by decide +kernel
theorem dX4_daysTo_0 : decode cX4_daysTo 0 = .ok (.iload_n 0, 1) := by decide +kernel
theorem dX4_daysTo_1 : decode cX4_daysTo 1 = .ok (.bipush 16, 2) := by decide +kernel
theorem dX4_daysTo_3 : decode cX4_daysTo 3 = .ok (.idiv, 1) := by decide +kernel
theorem dX4_daysTo_4 : decode cX4_daysTo 4 = .ok (.ireturn, 1) := by decide +kernel
theorem dX4_examinerAt_0 : decode cX4_examinerAt 0 = .ok (.iload_n 0, 1) := by decide +kernel
theorem dX4_examinerAt_1 : decode cX4_examinerAt 1 = .ok (.iconst 4, 1) := by decide +kernel
theorem dX4_examinerAt_2 : decode cX4_examinerAt 2 = .ok (.irem, 1) := by decide +kernel
theorem dX4_examinerAt_3 : decode cX4_examinerAt 3 = .ok (.ireturn, 1) := by decide +kernel
theorem dX4_partOfCell_0 : decode cX4_partOfCell 0 = .ok (.iload_n 0, 1) := by decide +kernel
theorem dX4_partOfCell_1 : decode cX4_partOfCell 1 = .ok (.iconst (-1), 1) := by decide +kernel
theorem dX4_partOfCell_2 : decode cX4_partOfCell 2 = .ok (.if_icmp .ne 5, 3) := by decide +kernel
theorem dX4_partOfCell_5 : decode cX4_partOfCell 5 = .ok (.iconst (-1), 1) := by decide +kernel
theorem dX4_partOfCell_6 : decode cX4_partOfCell 6 = .ok (.ireturn, 1) := by decide +kernel
theorem dX4_partOfCell_7 : decode cX4_partOfCell 7 = .ok (.iload_n 1, 1) := by decide +kernel
theorem dX4_partOfCell_8 : decode cX4_partOfCell 8 = .ok (.lookupswitch 39 #[(0, 28), (1, 33)], 28) := by decide +kernel
theorem dX4_partOfCell_36 : decode cX4_partOfCell 36 = .ok (.iload_n 0, 1) := by decide +kernel
theorem dX4_partOfCell_37 : decode cX4_partOfCell 37 = .ok (.invokestatic 253, 3) := by decide +kernel
theorem dX4_partOfCell_40 : decode cX4_partOfCell 40 = .ok (.ireturn, 1) := by decide +kernel
theorem dX4_partOfCell_41 : decode cX4_partOfCell 41 = .ok (.iload_n 0, 1) := by decide +kernel
theorem dX4_partOfCell_42 : decode cX4_partOfCell 42 = .ok (.iconst 4, 1) := by decide +kernel
theorem dX4_partOfCell_43 : decode cX4_partOfCell 43 = .ok (.idiv, 1) := by decide +kernel
theorem dX4_partOfCell_44 : decode cX4_partOfCell 44 = .ok (.iconst 4, 1) := by decide +kernel
theorem dX4_partOfCell_45 : decode cX4_partOfCell 45 = .ok (.irem, 1) := by decide +kernel
theorem dX4_partOfCell_46 : decode cX4_partOfCell 46 = .ok (.ireturn, 1) := by decide +kernel
theorem dX4_partOfCell_47 : decode cX4_partOfCell 47 = .ok (.iload_n 0, 1) := by decide +kernel
theorem dX4_partOfCell_48 : decode cX4_partOfCell 48 = .ok (.invokestatic 256, 3) := by decide +kernel
theorem dX4_partOfCell_51 : decode cX4_partOfCell 51 = .ok (.ireturn, 1) := by decide +kernel
theorem dX4_save_0 : decode cX4_save 0 = .ok (.aload_n 0, 1) := by decide +kernel
theorem dX4_save_1 : decode cX4_save 1 = .ok (.getfield 23, 3) := by decide +kernel
theorem dX4_save_4 : decode cX4_save 4 = .ok (.aload_n 0, 1) := by decide +kernel
theorem dX4_save_5 : decode cX4_save 5 = .ok (.getfield 19, 3) := by decide +kernel
theorem dX4_save_8 : decode cX4_save 8 = .ok (.arraylength, 1) := by decide +kernel
theorem dX4_save_9 : decode cX4_save 9 = .ok (.if_icmp .lt 7, 3) := by decide +kernel
theorem dX4_save_12 : decode cX4_save 12 = .ok (.aload_n 0, 1) := by decide +kernel
theorem dX4_save_13 : decode cX4_save 13 = .ok (.invokevirtual 259, 3) := by decide +kernel
theorem dX4_save_16 : decode cX4_save 16 = .ok (.aload_n 0, 1) := by decide +kernel
theorem dX4_save_17 : decode cX4_save 17 = .ok (.getfield 19, 3) := by decide +kernel
theorem dX4_save_20 : decode cX4_save 20 = .ok (.aload_n 0, 1) := by decide +kernel
theorem dX4_save_21 : decode cX4_save 21 = .ok (.getfield 23, 3) := by decide +kernel
theorem dX4_save_24 : decode cX4_save 24 = .ok (.aaload, 1) := by decide +kernel
theorem dX4_save_25 : decode cX4_save 25 = .ok (.aload_n 0, 1) := by decide +kernel
theorem dX4_save_26 : decode cX4_save 26 = .ok (.getfield 12, 3) := by decide +kernel
theorem dX4_save_29 : decode cX4_save 29 = .ok (.invokevirtual 165, 3) := by decide +kernel
theorem dX4_save_32 : decode cX4_save 32 = .ok (.aload_n 0, 1) := by decide +kernel
theorem dX4_save_33 : decode cX4_save 33 = .ok (.dup, 1) := by decide +kernel
theorem dX4_save_34 : decode cX4_save 34 = .ok (.getfield 23, 3) := by decide +kernel
theorem dX4_save_37 : decode cX4_save 37 = .ok (.iconst 1, 1) := by decide +kernel
theorem dX4_save_38 : decode cX4_save 38 = .ok (.iadd, 1) := by decide +kernel
theorem dX4_save_39 : decode cX4_save 39 = .ok (.putfield 23, 3) := by decide +kernel
theorem dX4_save_42 : decode cX4_save 42 = .ok (.return_, 1) := by decide +kernel
theorem dX4_dropOldestSave_0 : decode cX4_dropOldestSave 0 = .ok (.aload_n 0, 1) := by decide +kernel
theorem dX4_dropOldestSave_1 : decode cX4_dropOldestSave 1 = .ok (.getfield 19, 3) := by decide +kernel
theorem dX4_dropOldestSave_4 : decode cX4_dropOldestSave 4 = .ok (.iconst 0, 1) := by decide +kernel
theorem dX4_dropOldestSave_5 : decode cX4_dropOldestSave 5 = .ok (.aaload, 1) := by decide +kernel
theorem dX4_dropOldestSave_6 : decode cX4_dropOldestSave 6 = .ok (.astore_n 1, 1) := by decide +kernel
theorem dX4_dropOldestSave_7 : decode cX4_dropOldestSave 7 = .ok (.iconst 1, 1) := by decide +kernel
theorem dX4_dropOldestSave_8 : decode cX4_dropOldestSave 8 = .ok (.istore_n 2, 1) := by decide +kernel
theorem dX4_dropOldestSave_9 : decode cX4_dropOldestSave 9 = .ok (.iload_n 2, 1) := by decide +kernel
theorem dX4_dropOldestSave_10 : decode cX4_dropOldestSave 10 = .ok (.aload_n 0, 1) := by decide +kernel
theorem dX4_dropOldestSave_11 : decode cX4_dropOldestSave 11 = .ok (.getfield 19, 3) := by decide +kernel
theorem dX4_dropOldestSave_14 : decode cX4_dropOldestSave 14 = .ok (.arraylength, 1) := by decide +kernel
theorem dX4_dropOldestSave_15 : decode cX4_dropOldestSave 15 = .ok (.if_icmp .ge 23, 3) := by decide +kernel
theorem dX4_dropOldestSave_18 : decode cX4_dropOldestSave 18 = .ok (.aload_n 0, 1) := by decide +kernel
theorem dX4_dropOldestSave_19 : decode cX4_dropOldestSave 19 = .ok (.getfield 19, 3) := by decide +kernel
theorem dX4_dropOldestSave_22 : decode cX4_dropOldestSave 22 = .ok (.iload_n 2, 1) := by decide +kernel
theorem dX4_dropOldestSave_23 : decode cX4_dropOldestSave 23 = .ok (.iconst 1, 1) := by decide +kernel
theorem dX4_dropOldestSave_24 : decode cX4_dropOldestSave 24 = .ok (.isub, 1) := by decide +kernel
theorem dX4_dropOldestSave_25 : decode cX4_dropOldestSave 25 = .ok (.aload_n 0, 1) := by decide +kernel
theorem dX4_dropOldestSave_26 : decode cX4_dropOldestSave 26 = .ok (.getfield 19, 3) := by decide +kernel
theorem dX4_dropOldestSave_29 : decode cX4_dropOldestSave 29 = .ok (.iload_n 2, 1) := by decide +kernel
theorem dX4_dropOldestSave_30 : decode cX4_dropOldestSave 30 = .ok (.aaload, 1) := by decide +kernel
theorem dX4_dropOldestSave_31 : decode cX4_dropOldestSave 31 = .ok (.aastore, 1) := by decide +kernel
theorem dX4_dropOldestSave_32 : decode cX4_dropOldestSave 32 = .ok (.iinc 2 1, 3) := by decide +kernel
theorem dX4_dropOldestSave_35 : decode cX4_dropOldestSave 35 = .ok (.goto (-26), 3) := by decide +kernel
theorem dX4_dropOldestSave_38 : decode cX4_dropOldestSave 38 = .ok (.aload_n 0, 1) := by decide +kernel
theorem dX4_dropOldestSave_39 : decode cX4_dropOldestSave 39 = .ok (.getfield 19, 3) := by decide +kernel
theorem dX4_dropOldestSave_42 : decode cX4_dropOldestSave 42 = .ok (.aload_n 0, 1) := by decide +kernel
theorem dX4_dropOldestSave_43 : decode cX4_dropOldestSave 43 = .ok (.getfield 19, 3) := by decide +kernel
theorem dX4_dropOldestSave_46 : decode cX4_dropOldestSave 46 = .ok (.arraylength, 1) := by decide +kernel
theorem dX4_dropOldestSave_47 : decode cX4_dropOldestSave 47 = .ok (.iconst 1, 1) := by decide +kernel
theorem dX4_dropOldestSave_48 : decode cX4_dropOldestSave 48 = .ok (.isub, 1) := by decide +kernel
theorem dX4_dropOldestSave_49 : decode cX4_dropOldestSave 49 = .ok (.aload_n 1, 1) := by decide +kernel
theorem dX4_dropOldestSave_50 : decode cX4_dropOldestSave 50 = .ok (.aastore, 1) := by decide +kernel
theorem dX4_dropOldestSave_51 : decode cX4_dropOldestSave 51 = .ok (.aload_n 0, 1) := by decide +kernel
theorem dX4_dropOldestSave_52 : decode cX4_dropOldestSave 52 = .ok (.aload_n 0, 1) := by decide +kernel
theorem dX4_dropOldestSave_53 : decode cX4_dropOldestSave 53 = .ok (.getfield 19, 3) := by decide +kernel
theorem dX4_dropOldestSave_56 : decode cX4_dropOldestSave 56 = .ok (.arraylength, 1) := by decide +kernel
theorem dX4_dropOldestSave_57 : decode cX4_dropOldestSave 57 = .ok (.iconst 1, 1) := by decide +kernel
theorem dX4_dropOldestSave_58 : decode cX4_dropOldestSave 58 = .ok (.isub, 1) := by decide +kernel
theorem dX4_dropOldestSave_59 : decode cX4_dropOldestSave 59 = .ok (.putfield 23, 3) := by decide +kernel
theorem dX4_dropOldestSave_62 : decode cX4_dropOldestSave 62 = .ok (.return_, 1) := by decide +kernel
theorem dJ9_min_7cf53_0 : decode cJ9_min_7cf53 0 = .ok (.iload_n 0, 1) := by decide +kernel
theorem dJ9_min_7cf53_1 : decode cJ9_min_7cf53 1 = .ok (.iload_n 1, 1) := by decide +kernel
theorem dJ9_min_7cf53_2 : decode cJ9_min_7cf53 2 = .ok (.if_icmp .gt 7, 3) := by decide +kernel
theorem dJ9_min_7cf53_5 : decode cJ9_min_7cf53 5 = .ok (.iload_n 0, 1) := by decide +kernel
theorem dJ9_min_7cf53_6 : decode cJ9_min_7cf53 6 = .ok (.goto 4, 3) := by decide +kernel
theorem dJ9_min_7cf53_9 : decode cJ9_min_7cf53 9 = .ok (.iload_n 1, 1) := by decide +kernel
theorem dJ9_min_7cf53_10 : decode cJ9_min_7cf53 10 = .ok (.ireturn, 1) := by decide +kernel
theorem dJ7_fill_53178_0 : decode cJ7_fill_53178 0 = .ok (.iconst 0, 1) := by decide +kernel
theorem dJ7_fill_53178_1 : decode cJ7_fill_53178 1 = .ok (.istore_n 2, 1) := by decide +kernel
theorem dJ7_fill_53178_2 : decode cJ7_fill_53178 2 = .ok (.aload_n 0, 1) := by decide +kernel
theorem dJ7_fill_53178_3 : decode cJ7_fill_53178 3 = .ok (.arraylength, 1) := by decide +kernel
theorem dJ7_fill_53178_4 : decode cJ7_fill_53178 4 = .ok (.istore_n 3, 1) := by decide +kernel
theorem dJ7_fill_53178_5 : decode cJ7_fill_53178 5 = .ok (.iload_n 2, 1) := by decide +kernel
theorem dJ7_fill_53178_6 : decode cJ7_fill_53178 6 = .ok (.iload_n 3, 1) := by decide +kernel
theorem dJ7_fill_53178_7 : decode cJ7_fill_53178 7 = .ok (.if_icmp .ge 13, 3) := by decide +kernel
theorem dJ7_fill_53178_10 : decode cJ7_fill_53178 10 = .ok (.aload_n 0, 1) := by decide +kernel
theorem dJ7_fill_53178_11 : decode cJ7_fill_53178 11 = .ok (.iload_n 2, 1) := by decide +kernel
theorem dJ7_fill_53178_12 : decode cJ7_fill_53178 12 = .ok (.iload_n 1, 1) := by decide +kernel
theorem dJ7_fill_53178_13 : decode cJ7_fill_53178 13 = .ok (.iastore, 1) := by decide +kernel
theorem dJ7_fill_53178_14 : decode cJ7_fill_53178 14 = .ok (.iinc 2 1, 3) := by decide +kernel
theorem dJ7_fill_53178_17 : decode cJ7_fill_53178 17 = .ok (.goto (-12), 3) := by decide +kernel
theorem dJ7_fill_53178_20 : decode cJ7_fill_53178 20 = .ok (.return_, 1) := by decide +kernel
theorem dL_cell_0 : decode cL_cell 0 = .ok (.iload_n 1, 1) := by decide +kernel
theorem dL_cell_1 : decode cL_cell 1 = .ok (.aload_n 0, 1) := by decide +kernel
theorem dL_cell_2 : decode cL_cell 2 = .ok (.arraylength, 1) := by decide +kernel
theorem dL_cell_3 : decode cL_cell 3 = .ok (.if_icmp .ge 9, 3) := by decide +kernel
theorem dL_cell_6 : decode cL_cell 6 = .ok (.aload_n 0, 1) := by decide +kernel
theorem dL_cell_7 : decode cL_cell 7 = .ok (.iload_n 1, 1) := by decide +kernel
theorem dL_cell_8 : decode cL_cell 8 = .ok (.iaload, 1) := by decide +kernel
theorem dL_cell_9 : decode cL_cell 9 = .ok (.goto 15, 3) := by decide +kernel
theorem dL_cell_12 : decode cL_cell 12 = .ok (.sipush 7919, 3) := by decide +kernel
theorem dL_cell_15 : decode cL_cell 15 = .ok (.iload_n 1, 1) := by decide +kernel
theorem dL_cell_16 : decode cL_cell 16 = .ok (.iconst 3, 1) := by decide +kernel
theorem dL_cell_17 : decode cL_cell 17 = .ok (.iadd, 1) := by decide +kernel
theorem dL_cell_18 : decode cL_cell 18 = .ok (.imul, 1) := by decide +kernel
theorem dL_cell_19 : decode cL_cell 19 = .ok (.iload_n 1, 1) := by decide +kernel
theorem dL_cell_20 : decode cL_cell 20 = .ok (.bipush 11, 2) := by decide +kernel
theorem dL_cell_22 : decode cL_cell 22 = .ok (.iadd, 1) := by decide +kernel
theorem dL_cell_23 : decode cL_cell 23 = .ok (.imul, 1) := by decide +kernel
theorem dL_cell_24 : decode cL_cell 24 = .ok (.ireturn, 1) := by decide +kernel
theorem dL_low_0 : decode cL_low 0 = .ok (.iload_n 0, 1) := by decide +kernel
theorem dL_low_1 : decode cL_low 1 = .ok (.ldc 7, 2) := by decide +kernel
theorem dL_low_3 : decode cL_low 3 = .ok (.iand, 1) := by decide +kernel
theorem dL_low_4 : decode cL_low 4 = .ok (.iload_n 1, 1) := by decide +kernel
theorem dL_low_5 : decode cL_low 5 = .ok (.irem, 1) := by decide +kernel
theorem dL_low_6 : decode cL_low 6 = .ok (.ireturn, 1) := by decide +kernel
theorem dL_does_0 : decode cL_does 0 = .ok (.aload_n 0, 1) := by decide +kernel
theorem dL_does_1 : decode cL_does 1 = .ok (.iconst 2, 1) := by decide +kernel
theorem dL_does_2 : decode cL_does 2 = .ok (.invokevirtual 8, 3) := by decide +kernel
theorem dL_does_5 : decode cL_does 5 = .ok (.istore_n 2, 1) := by decide +kernel
theorem dL_does_6 : decode cL_does 6 = .ok (.aload_n 0, 1) := by decide +kernel
theorem dL_does_7 : decode cL_does 7 = .ok (.iconst 1, 1) := by decide +kernel
theorem dL_does_8 : decode cL_does 8 = .ok (.invokevirtual 8, 3) := by decide +kernel
theorem dL_does_11 : decode cL_does 11 = .ok (.istore_n 3, 1) := by decide +kernel
theorem dL_does_12 : decode cL_does 12 = .ok (.iload_n 2, 1) := by decide +kernel
theorem dL_does_13 : decode cL_does 13 = .ok (.ifCond .ne 7, 3) := by decide +kernel
theorem dL_does_16 : decode cL_does 16 = .ok (.iconst 0, 1) := by decide +kernel
theorem dL_does_17 : decode cL_does 17 = .ok (.goto 10, 3) := by decide +kernel
theorem dL_does_20 : decode cL_does 20 = .ok (.iload_n 1, 1) := by decide +kernel
theorem dL_does_21 : decode cL_does 21 = .ok (.iconst 4, 1) := by decide +kernel
theorem dL_does_22 : decode cL_does 22 = .ok (.ishr, 1) := by decide +kernel
theorem dL_does_23 : decode cL_does 23 = .ok (.iload_n 2, 1) := by decide +kernel
theorem dL_does_24 : decode cL_does 24 = .ok (.invokestatic 14, 3) := by decide +kernel
theorem dL_does_27 : decode cL_does 27 = .ok (.istore 4, 2) := by decide +kernel
theorem dL_does_29 : decode cL_does 29 = .ok (.iload_n 3, 1) := by decide +kernel
theorem dL_does_30 : decode cL_does 30 = .ok (.ifCond .ne 7, 3) := by decide +kernel
theorem dL_does_33 : decode cL_does 33 = .ok (.iconst 0, 1) := by decide +kernel
theorem dL_does_34 : decode cL_does 34 = .ok (.goto 10, 3) := by decide +kernel
theorem dL_does_37 : decode cL_does 37 = .ok (.iload_n 1, 1) := by decide +kernel
theorem dL_does_38 : decode cL_does 38 = .ok (.iconst 4, 1) := by decide +kernel
theorem dL_does_39 : decode cL_does 39 = .ok (.ishr, 1) := by decide +kernel
theorem dL_does_40 : decode cL_does 40 = .ok (.iload_n 3, 1) := by decide +kernel
theorem dL_does_41 : decode cL_does 41 = .ok (.invokestatic 14, 3) := by decide +kernel
theorem dL_does_44 : decode cL_does 44 = .ok (.istore 5, 2) := by decide +kernel
theorem dL_does_46 : decode cL_does 46 = .ok (.iload_n 2, 1) := by decide +kernel
theorem dL_does_47 : decode cL_does 47 = .ok (.ifCond .ne 7, 3) := by decide +kernel
theorem dL_does_50 : decode cL_does 50 = .ok (.iconst 3, 1) := by decide +kernel
theorem dL_does_51 : decode cL_does 51 = .ok (.goto 10, 3) := by decide +kernel
theorem dL_does_54 : decode cL_does 54 = .ok (.aload_n 0, 1) := by decide +kernel
theorem dL_does_55 : decode cL_does 55 = .ok (.iload 4, 2) := by decide +kernel
theorem dL_does_57 : decode cL_does 57 = .ok (.iconst 0, 1) := by decide +kernel
theorem dL_does_58 : decode cL_does 58 = .ok (.invokevirtual 20, 3) := by decide +kernel
theorem dL_does_61 : decode cL_does 61 = .ok (.istore 6, 2) := by decide +kernel
theorem dL_does_63 : decode cL_does 63 = .ok (.iload_n 1, 1) := by decide +kernel
theorem dL_does_64 : decode cL_does 64 = .ok (.bipush 15, 2) := by decide +kernel
theorem dL_does_66 : decode cL_does 66 = .ok (.iand, 1) := by decide +kernel
theorem dL_does_67 : decode cL_does 67 = .ok (.tableswitch 246 0 12 #[65, 65, 80, 102, 102, 102, 102, 118, 141, 165, 165, 165, 206], 65) := by decide +kernel
theorem dL_does_132 : decode cL_does 132 = .ok (.iload_n 2, 1) := by decide +kernel
theorem dL_does_133 : decode cL_does 133 = .ok (.bipush 12, 2) := by decide +kernel
theorem dL_does_135 : decode cL_does 135 = .ok (.if_icmp .ge 10, 3) := by decide +kernel
theorem dL_does_138 : decode cL_does 138 = .ok (.aload_n 0, 1) := by decide +kernel
theorem dL_does_139 : decode cL_does 139 = .ok (.invokevirtual 23, 3) := by decide +kernel
theorem dL_does_142 : decode cL_does 142 = .ok (.goto 4, 3) := by decide +kernel
theorem dL_does_145 : decode cL_does 145 = .ok (.iconst 0, 1) := by decide +kernel
theorem dL_does_146 : decode cL_does 146 = .ok (.ireturn, 1) := by decide +kernel
theorem dL_does_147 : decode cL_does 147 = .ok (.iload_n 3, 1) := by decide +kernel
theorem dL_does_148 : decode cL_does 148 = .ok (.iconst 4, 1) := by decide +kernel
theorem dL_does_149 : decode cL_does 149 = .ok (.if_icmp .ge 18, 3) := by decide +kernel
theorem dL_does_152 : decode cL_does 152 = .ok (.iload_n 1, 1) := by decide +kernel
theorem dL_does_153 : decode cL_does 153 = .ok (.iconst 4, 1) := by decide +kernel
theorem dL_does_154 : decode cL_does 154 = .ok (.ishr, 1) := by decide +kernel
theorem dL_does_155 : decode cL_does 155 = .ok (.iconst 1, 1) := by decide +kernel
theorem dL_does_156 : decode cL_does 156 = .ok (.iand, 1) := by decide +kernel
theorem dL_does_157 : decode cL_does 157 = .ok (.ifCond .ne 10, 3) := by decide +kernel
theorem dL_does_160 : decode cL_does 160 = .ok (.aload_n 0, 1) := by decide +kernel
theorem dL_does_161 : decode cL_does 161 = .ok (.invokevirtual 27, 3) := by decide +kernel
theorem dL_does_164 : decode cL_does 164 = .ok (.goto 4, 3) := by decide +kernel
theorem dL_does_167 : decode cL_does 167 = .ok (.iconst 0, 1) := by decide +kernel
theorem dL_does_168 : decode cL_does 168 = .ok (.ireturn, 1) := by decide +kernel
theorem dL_does_169 : decode cL_does 169 = .ok (.iload 6, 2) := by decide +kernel
theorem dL_does_171 : decode cL_does 171 = .ok (.ifCond .ne 12, 3) := by decide +kernel
theorem dL_does_174 : decode cL_does 174 = .ok (.aload_n 0, 1) := by decide +kernel
theorem dL_does_175 : decode cL_does 175 = .ok (.iload 4, 2) := by decide +kernel
theorem dL_does_177 : decode cL_does 177 = .ok (.invokevirtual 30, 3) := by decide +kernel
theorem dL_does_180 : decode cL_does 180 = .ok (.goto 4, 3) := by decide +kernel
theorem dL_does_183 : decode cL_does 183 = .ok (.iconst 0, 1) := by decide +kernel
theorem dL_does_184 : decode cL_does 184 = .ok (.ireturn, 1) := by decide +kernel
theorem dL_does_185 : decode cL_does 185 = .ok (.iload 6, 2) := by decide +kernel
theorem dL_does_187 : decode cL_does 187 = .ok (.iconst 1, 1) := by decide +kernel
theorem dL_does_188 : decode cL_does 188 = .ok (.if_icmp .eq 9, 3) := by decide +kernel
theorem dL_does_191 : decode cL_does 191 = .ok (.iload 6, 2) := by decide +kernel
theorem dL_does_193 : decode cL_does 193 = .ok (.iconst 2, 1) := by decide +kernel
theorem dL_does_194 : decode cL_does 194 = .ok (.if_icmp .ne 12, 3) := by decide +kernel
theorem dL_does_197 : decode cL_does 197 = .ok (.aload_n 0, 1) := by decide +kernel
theorem dL_does_198 : decode cL_does 198 = .ok (.iload 4, 2) := by decide +kernel
theorem dL_does_200 : decode cL_does 200 = .ok (.invokevirtual 33, 3) := by decide +kernel
theorem dL_does_203 : decode cL_does 203 = .ok (.goto 4, 3) := by decide +kernel
theorem dL_does_206 : decode cL_does 206 = .ok (.iconst 0, 1) := by decide +kernel
theorem dL_does_207 : decode cL_does 207 = .ok (.ireturn, 1) := by decide +kernel
theorem dL_does_208 : decode cL_does 208 = .ok (.iload_n 3, 1) := by decide +kernel
theorem dL_does_209 : decode cL_does 209 = .ok (.ifCond .le 21, 3) := by decide +kernel
theorem dL_does_212 : decode cL_does 212 = .ok (.aload_n 0, 1) := by decide +kernel
theorem dL_does_213 : decode cL_does 213 = .ok (.iload 5, 2) := by decide +kernel
theorem dL_does_215 : decode cL_does 215 = .ok (.iload_n 1, 1) := by decide +kernel
theorem dL_does_216 : decode cL_does 216 = .ok (.bipush 7, 2) := by decide +kernel
theorem dL_does_218 : decode cL_does 218 = .ok (.ishr, 1) := by decide +kernel
theorem dL_does_219 : decode cL_does 219 = .ok (.bipush 10, 2) := by decide +kernel
theorem dL_does_221 : decode cL_does 221 = .ok (.invokestatic 14, 3) := by decide +kernel
theorem dL_does_224 : decode cL_does 224 = .ok (.invokevirtual 36, 3) := by decide +kernel
theorem dL_does_227 : decode cL_does 227 = .ok (.goto 4, 3) := by decide +kernel
theorem dL_does_230 : decode cL_does 230 = .ok (.iconst 0, 1) := by decide +kernel
theorem dL_does_231 : decode cL_does 231 = .ok (.ireturn, 1) := by decide +kernel
theorem dL_does_232 : decode cL_does 232 = .ok (.iload 6, 2) := by decide +kernel
theorem dL_does_234 : decode cL_does 234 = .ok (.iconst 2, 1) := by decide +kernel
theorem dL_does_235 : decode cL_does 235 = .ok (.if_icmp .ne 36, 3) := by decide +kernel
theorem dL_does_238 : decode cL_does 238 = .ok (.aload_n 0, 1) := by decide +kernel
theorem dL_does_239 : decode cL_does 239 = .ok (.iload 4, 2) := by decide +kernel
theorem dL_does_241 : decode cL_does 241 = .ok (.iconst 5, 1) := by decide +kernel
theorem dL_does_242 : decode cL_does 242 = .ok (.invokevirtual 20, 3) := by decide +kernel
theorem dL_does_245 : decode cL_does 245 = .ok (.ifCond .ne 26, 3) := by decide +kernel
theorem dL_does_248 : decode cL_does 248 = .ok (.aload_n 0, 1) := by decide +kernel
theorem dL_does_249 : decode cL_does 249 = .ok (.iload 4, 2) := by decide +kernel
theorem dL_does_251 : decode cL_does 251 = .ok (.iload_n 1, 1) := by decide +kernel
theorem dL_does_252 : decode cL_does 252 = .ok (.bipush 9, 2) := by decide +kernel
theorem dL_does_254 : decode cL_does 254 = .ok (.ishr, 1) := by decide +kernel
theorem dL_does_255 : decode cL_does 255 = .ok (.iconst 3, 1) := by decide +kernel
theorem dL_does_256 : decode cL_does 256 = .ok (.iand, 1) := by decide +kernel
theorem dL_does_257 : decode cL_does 257 = .ok (.ifCond .ne 7, 3) := by decide +kernel
theorem dL_does_260 : decode cL_does 260 = .ok (.iconst 1, 1) := by decide +kernel
theorem dL_does_261 : decode cL_does 261 = .ok (.goto 4, 3) := by decide +kernel
theorem dL_does_264 : decode cL_does 264 = .ok (.iconst 0, 1) := by decide +kernel
theorem dL_does_265 : decode cL_does 265 = .ok (.invokevirtual 39, 3) := by decide +kernel
theorem dL_does_268 : decode cL_does 268 = .ok (.goto 4, 3) := by decide +kernel
theorem dL_does_271 : decode cL_does 271 = .ok (.iconst 0, 1) := by decide +kernel
theorem dL_does_272 : decode cL_does 272 = .ok (.ireturn, 1) := by decide +kernel
theorem dL_does_273 : decode cL_does 273 = .ok (.iload_n 1, 1) := by decide +kernel
theorem dL_does_274 : decode cL_does 274 = .ok (.iconst 4, 1) := by decide +kernel
theorem dL_does_275 : decode cL_does 275 = .ok (.ishr, 1) := by decide +kernel
theorem dL_does_276 : decode cL_does 276 = .ok (.iconst 4, 1) := by decide +kernel
theorem dL_does_277 : decode cL_does 277 = .ok (.invokestatic 14, 3) := by decide +kernel
theorem dL_does_280 : decode cL_does 280 = .ok (.istore 7, 2) := by decide +kernel
theorem dL_does_282 : decode cL_does 282 = .ok (.aload_n 0, 1) := by decide +kernel
theorem dL_does_283 : decode cL_does 283 = .ok (.iload 7, 2) := by decide +kernel
theorem dL_does_285 : decode cL_does 285 = .ok (.iload 7, 2) := by decide +kernel
theorem dL_does_287 : decode cL_does 287 = .ok (.iconst 1, 1) := by decide +kernel
theorem dL_does_288 : decode cL_does 288 = .ok (.if_icmp .ne 12, 3) := by decide +kernel
theorem dL_does_291 : decode cL_does 291 = .ok (.iload_n 1, 1) := by decide +kernel
theorem dL_does_292 : decode cL_does 292 = .ok (.bipush 6, 2) := by decide +kernel
theorem dL_does_294 : decode cL_does 294 = .ok (.ishr, 1) := by decide +kernel
theorem dL_does_295 : decode cL_does 295 = .ok (.iconst 1, 1) := by decide +kernel
theorem dL_does_296 : decode cL_does 296 = .ok (.iand, 1) := by decide +kernel
theorem dL_does_297 : decode cL_does 297 = .ok (.goto 12, 3) := by decide +kernel
theorem dL_does_300 : decode cL_does 300 = .ok (.iload_n 1, 1) := by decide +kernel
theorem dL_does_301 : decode cL_does 301 = .ok (.bipush 6, 2) := by decide +kernel
theorem dL_does_303 : decode cL_does 303 = .ok (.ishr, 1) := by decide +kernel
theorem dL_does_304 : decode cL_does 304 = .ok (.bipush 10, 2) := by decide +kernel
theorem dL_does_306 : decode cL_does 306 = .ok (.invokestatic 14, 3) := by decide +kernel
theorem dL_does_309 : decode cL_does 309 = .ok (.invokevirtual 43, 3) := by decide +kernel
theorem dL_does_312 : decode cL_does 312 = .ok (.ireturn, 1) := by decide +kernel
theorem dL_does_313 : decode cL_does 313 = .ok (.aload_n 0, 1) := by decide +kernel
theorem dL_does_314 : decode cL_does 314 = .ok (.invokevirtual 46, 3) := by decide +kernel
theorem dL_does_317 : decode cL_does 317 = .ok (.ireturn, 1) := by decide +kernel
theorem dL_arePupilsSo_0 : decode cL_arePupilsSo 0 = .ok (.iconst 0, 1) := by decide +kernel
theorem dL_arePupilsSo_1 : decode cL_arePupilsSo 1 = .ok (.istore_n 1, 1) := by decide +kernel
theorem dL_arePupilsSo_2 : decode cL_arePupilsSo 2 = .ok (.iconst 0, 1) := by decide +kernel
theorem dL_arePupilsSo_3 : decode cL_arePupilsSo 3 = .ok (.istore_n 2, 1) := by decide +kernel
theorem dL_arePupilsSo_4 : decode cL_arePupilsSo 4 = .ok (.iconst 0, 1) := by decide +kernel
theorem dL_arePupilsSo_5 : decode cL_arePupilsSo 5 = .ok (.istore_n 3, 1) := by decide +kernel
theorem dL_arePupilsSo_6 : decode cL_arePupilsSo 6 = .ok (.iconst 0, 1) := by decide +kernel
theorem dL_arePupilsSo_7 : decode cL_arePupilsSo 7 = .ok (.istore 4, 2) := by decide +kernel
theorem dL_arePupilsSo_9 : decode cL_arePupilsSo 9 = .ok (.iconst 0, 1) := by decide +kernel
theorem dL_arePupilsSo_10 : decode cL_arePupilsSo 10 = .ok (.istore 5, 2) := by decide +kernel
theorem dL_arePupilsSo_12 : decode cL_arePupilsSo 12 = .ok (.iconst 0, 1) := by decide +kernel
theorem dL_arePupilsSo_13 : decode cL_arePupilsSo 13 = .ok (.istore 6, 2) := by decide +kernel
theorem dL_arePupilsSo_15 : decode cL_arePupilsSo 15 = .ok (.iload 6, 2) := by decide +kernel
theorem dL_arePupilsSo_17 : decode cL_arePupilsSo 17 = .ok (.aload_n 0, 1) := by decide +kernel
theorem dL_arePupilsSo_18 : decode cL_arePupilsSo 18 = .ok (.iconst 2, 1) := by decide +kernel
theorem dL_arePupilsSo_19 : decode cL_arePupilsSo 19 = .ok (.invokevirtual 8, 3) := by decide +kernel
theorem dL_arePupilsSo_22 : decode cL_arePupilsSo 22 = .ok (.if_icmp .ge 205, 3) := by decide +kernel
theorem dL_arePupilsSo_25 : decode cL_arePupilsSo 25 = .ok (.aload_n 0, 1) := by decide +kernel
theorem dL_arePupilsSo_26 : decode cL_arePupilsSo 26 = .ok (.iload 6, 2) := by decide +kernel
theorem dL_arePupilsSo_28 : decode cL_arePupilsSo 28 = .ok (.iconst 0, 1) := by decide +kernel
theorem dL_arePupilsSo_29 : decode cL_arePupilsSo 29 = .ok (.invokevirtual 20, 3) := by decide +kernel
theorem dL_arePupilsSo_32 : decode cL_arePupilsSo 32 = .ok (.istore 7, 2) := by decide +kernel
theorem dL_arePupilsSo_34 : decode cL_arePupilsSo 34 = .ok (.aload_n 0, 1) := by decide +kernel
theorem dL_arePupilsSo_35 : decode cL_arePupilsSo 35 = .ok (.iload 6, 2) := by decide +kernel
theorem dL_arePupilsSo_37 : decode cL_arePupilsSo 37 = .ok (.iconst 5, 1) := by decide +kernel
theorem dL_arePupilsSo_38 : decode cL_arePupilsSo 38 = .ok (.invokevirtual 20, 3) := by decide +kernel
theorem dL_arePupilsSo_41 : decode cL_arePupilsSo 41 = .ok (.istore 8, 2) := by decide +kernel
theorem dL_arePupilsSo_43 : decode cL_arePupilsSo 43 = .ok (.iload_n 1, 1) := by decide +kernel
theorem dL_arePupilsSo_44 : decode cL_arePupilsSo 44 = .ok (.aload_n 0, 1) := by decide +kernel
theorem dL_arePupilsSo_45 : decode cL_arePupilsSo 45 = .ok (.iload 6, 2) := by decide +kernel
theorem dL_arePupilsSo_47 : decode cL_arePupilsSo 47 = .ok (.bipush 8, 2) := by decide +kernel
theorem dL_arePupilsSo_49 : decode cL_arePupilsSo 49 = .ok (.invokevirtual 20, 3) := by decide +kernel
theorem dL_arePupilsSo_52 : decode cL_arePupilsSo 52 = .ok (.iadd, 1) := by decide +kernel
theorem dL_arePupilsSo_53 : decode cL_arePupilsSo 53 = .ok (.istore_n 1, 1) := by decide +kernel
theorem dL_arePupilsSo_54 : decode cL_arePupilsSo 54 = .ok (.iload_n 2, 1) := by decide +kernel
theorem dL_arePupilsSo_55 : decode cL_arePupilsSo 55 = .ok (.aload_n 0, 1) := by decide +kernel
theorem dL_arePupilsSo_56 : decode cL_arePupilsSo 56 = .ok (.iload 6, 2) := by decide +kernel
theorem dL_arePupilsSo_58 : decode cL_arePupilsSo 58 = .ok (.bipush 10, 2) := by decide +kernel
theorem dL_arePupilsSo_60 : decode cL_arePupilsSo 60 = .ok (.invokevirtual 20, 3) := by decide +kernel
theorem dL_arePupilsSo_63 : decode cL_arePupilsSo 63 = .ok (.iadd, 1) := by decide +kernel
theorem dL_arePupilsSo_64 : decode cL_arePupilsSo 64 = .ok (.istore_n 2, 1) := by decide +kernel
theorem dL_arePupilsSo_65 : decode cL_arePupilsSo 65 = .ok (.iload_n 3, 1) := by decide +kernel
theorem dL_arePupilsSo_66 : decode cL_arePupilsSo 66 = .ok (.iload 8, 2) := by decide +kernel
theorem dL_arePupilsSo_68 : decode cL_arePupilsSo 68 = .ok (.ifCond .ge 7, 3) := by decide +kernel
theorem dL_arePupilsSo_71 : decode cL_arePupilsSo 71 = .ok (.iconst 0, 1) := by decide +kernel
theorem dL_arePupilsSo_72 : decode cL_arePupilsSo 72 = .ok (.goto 5, 3) := by decide +kernel
theorem dL_arePupilsSo_75 : decode cL_arePupilsSo 75 = .ok (.iload 8, 2) := by decide +kernel
theorem dL_arePupilsSo_77 : decode cL_arePupilsSo 77 = .ok (.iadd, 1) := by decide +kernel
theorem dL_arePupilsSo_78 : decode cL_arePupilsSo 78 = .ok (.istore_n 3, 1) := by decide +kernel
theorem dL_arePupilsSo_79 : decode cL_arePupilsSo 79 = .ok (.iload 5, 2) := by decide +kernel
theorem dL_arePupilsSo_81 : decode cL_arePupilsSo 81 = .ok (.iload 7, 2) := by decide +kernel
theorem dL_arePupilsSo_83 : decode cL_arePupilsSo 83 = .ok (.iconst 1, 1) := by decide +kernel
theorem dL_arePupilsSo_84 : decode cL_arePupilsSo 84 = .ok (.if_icmp .ne 7, 3) := by decide +kernel
theorem dL_arePupilsSo_87 : decode cL_arePupilsSo 87 = .ok (.iconst 1, 1) := by decide +kernel
theorem dL_arePupilsSo_88 : decode cL_arePupilsSo 88 = .ok (.goto 4, 3) := by decide +kernel
theorem dL_arePupilsSo_91 : decode cL_arePupilsSo 91 = .ok (.iconst 0, 1) := by decide +kernel
theorem dL_arePupilsSo_92 : decode cL_arePupilsSo 92 = .ok (.iadd, 1) := by decide +kernel
theorem dL_arePupilsSo_93 : decode cL_arePupilsSo 93 = .ok (.istore 5, 2) := by decide +kernel
theorem dL_arePupilsSo_95 : decode cL_arePupilsSo 95 = .ok (.iload 4, 2) := by decide +kernel
theorem dL_arePupilsSo_97 : decode cL_arePupilsSo 97 = .ok (.iload 7, 2) := by decide +kernel
theorem dL_arePupilsSo_99 : decode cL_arePupilsSo 99 = .ok (.iconst 1, 1) := by decide +kernel
theorem dL_arePupilsSo_100 : decode cL_arePupilsSo 100 = .ok (.if_icmp .ne 16, 3) := by decide +kernel
theorem dL_arePupilsSo_103 : decode cL_arePupilsSo 103 = .ok (.iconst 1, 1) := by decide +kernel
theorem dL_arePupilsSo_104 : decode cL_arePupilsSo 104 = .ok (.aload_n 0, 1) := by decide +kernel
theorem dL_arePupilsSo_105 : decode cL_arePupilsSo 105 = .ok (.iload 6, 2) := by decide +kernel
theorem dL_arePupilsSo_107 : decode cL_arePupilsSo 107 = .ok (.bipush 9, 2) := by decide +kernel
theorem dL_arePupilsSo_109 : decode cL_arePupilsSo 109 = .ok (.invokevirtual 20, 3) := by decide +kernel
theorem dL_arePupilsSo_112 : decode cL_arePupilsSo 112 = .ok (.ishl, 1) := by decide +kernel
theorem dL_arePupilsSo_113 : decode cL_arePupilsSo 113 = .ok (.goto 4, 3) := by decide +kernel
theorem dL_arePupilsSo_116 : decode cL_arePupilsSo 116 = .ok (.iconst 0, 1) := by decide +kernel
theorem dL_arePupilsSo_117 : decode cL_arePupilsSo 117 = .ok (.ior, 1) := by decide +kernel
theorem dL_arePupilsSo_118 : decode cL_arePupilsSo 118 = .ok (.istore 4, 2) := by decide +kernel
theorem dL_arePupilsSo_120 : decode cL_arePupilsSo 120 = .ok (.iload 7, 2) := by decide +kernel
theorem dL_arePupilsSo_122 : decode cL_arePupilsSo 122 = .ok (.iconst 2, 1) := by decide +kernel
theorem dL_arePupilsSo_123 : decode cL_arePupilsSo 123 = .ok (.if_icmp .ne 7, 3) := by decide +kernel
theorem dL_arePupilsSo_126 : decode cL_arePupilsSo 126 = .ok (.iconst 1, 1) := by decide +kernel
theorem dL_arePupilsSo_127 : decode cL_arePupilsSo 127 = .ok (.goto 4, 3) := by decide +kernel
theorem dL_arePupilsSo_130 : decode cL_arePupilsSo 130 = .ok (.iconst 0, 1) := by decide +kernel
theorem dL_arePupilsSo_131 : decode cL_arePupilsSo 131 = .ok (.iload 8, 2) := by decide +kernel
theorem dL_arePupilsSo_133 : decode cL_arePupilsSo 133 = .ok (.ifCond .lt 7, 3) := by decide +kernel
theorem dL_arePupilsSo_136 : decode cL_arePupilsSo 136 = .ok (.iconst 1, 1) := by decide +kernel
theorem dL_arePupilsSo_137 : decode cL_arePupilsSo 137 = .ok (.goto 4, 3) := by decide +kernel
theorem dL_arePupilsSo_140 : decode cL_arePupilsSo 140 = .ok (.iconst 0, 1) := by decide +kernel
theorem dL_arePupilsSo_141 : decode cL_arePupilsSo 141 = .ok (.if_icmp .ne 70, 3) := by decide +kernel
theorem dL_arePupilsSo_144 : decode cL_arePupilsSo 144 = .ok (.iload 7, 2) := by decide +kernel
theorem dL_arePupilsSo_146 : decode cL_arePupilsSo 146 = .ok (.iconst 1, 1) := by decide +kernel
theorem dL_arePupilsSo_147 : decode cL_arePupilsSo 147 = .ok (.if_icmp .ne 7, 3) := by decide +kernel
theorem dL_arePupilsSo_150 : decode cL_arePupilsSo 150 = .ok (.iconst 1, 1) := by decide +kernel
theorem dL_arePupilsSo_151 : decode cL_arePupilsSo 151 = .ok (.goto 4, 3) := by decide +kernel
theorem dL_arePupilsSo_154 : decode cL_arePupilsSo 154 = .ok (.iconst 0, 1) := by decide +kernel
theorem dL_arePupilsSo_155 : decode cL_arePupilsSo 155 = .ok (.aload_n 0, 1) := by decide +kernel
theorem dL_arePupilsSo_156 : decode cL_arePupilsSo 156 = .ok (.iload 6, 2) := by decide +kernel
theorem dL_arePupilsSo_158 : decode cL_arePupilsSo 158 = .ok (.bipush 9, 2) := by decide +kernel
theorem dL_arePupilsSo_160 : decode cL_arePupilsSo 160 = .ok (.invokevirtual 20, 3) := by decide +kernel
theorem dL_arePupilsSo_163 : decode cL_arePupilsSo 163 = .ok (.ifCond .lt 7, 3) := by decide +kernel
theorem dL_arePupilsSo_166 : decode cL_arePupilsSo 166 = .ok (.iconst 1, 1) := by decide +kernel
theorem dL_arePupilsSo_167 : decode cL_arePupilsSo 167 = .ok (.goto 4, 3) := by decide +kernel
theorem dL_arePupilsSo_170 : decode cL_arePupilsSo 170 = .ok (.iconst 0, 1) := by decide +kernel
theorem dL_arePupilsSo_171 : decode cL_arePupilsSo 171 = .ok (.if_icmp .ne 40, 3) := by decide +kernel
theorem dL_arePupilsSo_174 : decode cL_arePupilsSo 174 = .ok (.iload 7, 2) := by decide +kernel
theorem dL_arePupilsSo_176 : decode cL_arePupilsSo 176 = .ok (.iconst 2, 1) := by decide +kernel
theorem dL_arePupilsSo_177 : decode cL_arePupilsSo 177 = .ok (.if_icmp .ne 30, 3) := by decide +kernel
theorem dL_arePupilsSo_180 : decode cL_arePupilsSo 180 = .ok (.aload_n 0, 1) := by decide +kernel
theorem dL_arePupilsSo_181 : decode cL_arePupilsSo 181 = .ok (.aload_n 0, 1) := by decide +kernel
theorem dL_arePupilsSo_182 : decode cL_arePupilsSo 182 = .ok (.iload 6, 2) := by decide +kernel
theorem dL_arePupilsSo_184 : decode cL_arePupilsSo 184 = .ok (.bipush 7, 2) := by decide +kernel
theorem dL_arePupilsSo_186 : decode cL_arePupilsSo 186 = .ok (.invokevirtual 20, 3) := by decide +kernel
theorem dL_arePupilsSo_189 : decode cL_arePupilsSo 189 = .ok (.iload 8, 2) := by decide +kernel
theorem dL_arePupilsSo_191 : decode cL_arePupilsSo 191 = .ok (.aload_n 0, 1) := by decide +kernel
theorem dL_arePupilsSo_192 : decode cL_arePupilsSo 192 = .ok (.iload 6, 2) := by decide +kernel
theorem dL_arePupilsSo_194 : decode cL_arePupilsSo 194 = .ok (.bipush 6, 2) := by decide +kernel
theorem dL_arePupilsSo_196 : decode cL_arePupilsSo 196 = .ok (.invokevirtual 20, 3) := by decide +kernel
theorem dL_arePupilsSo_199 : decode cL_arePupilsSo 199 = .ok (.invokevirtual 49, 3) := by decide +kernel
theorem dL_arePupilsSo_202 : decode cL_arePupilsSo 202 = .ok (.iload 6, 2) := by decide +kernel
theorem dL_arePupilsSo_204 : decode cL_arePupilsSo 204 = .ok (.if_icmp .ne 7, 3) := by decide +kernel
theorem dL_arePupilsSo_207 : decode cL_arePupilsSo 207 = .ok (.iconst 1, 1) := by decide +kernel
theorem dL_arePupilsSo_208 : decode cL_arePupilsSo 208 = .ok (.goto 4, 3) := by decide +kernel
theorem dL_arePupilsSo_211 : decode cL_arePupilsSo 211 = .ok (.iconst 0, 1) := by decide +kernel
theorem dL_arePupilsSo_212 : decode cL_arePupilsSo 212 = .ok (.istore 9, 2) := by decide +kernel
theorem dL_arePupilsSo_214 : decode cL_arePupilsSo 214 = .ok (.iload 9, 2) := by decide +kernel
theorem dL_arePupilsSo_216 : decode cL_arePupilsSo 216 = .ok (.ifCond .ne 5, 3) := by decide +kernel
theorem dL_arePupilsSo_219 : decode cL_arePupilsSo 219 = .ok (.iconst 0, 1) := by decide +kernel
theorem dL_arePupilsSo_220 : decode cL_arePupilsSo 220 = .ok (.ireturn, 1) := by decide +kernel
theorem dL_arePupilsSo_221 : decode cL_arePupilsSo 221 = .ok (.iinc 6 1, 3) := by decide +kernel
theorem dL_arePupilsSo_224 : decode cL_arePupilsSo 224 = .ok (.goto (-209), 3) := by decide +kernel
theorem dL_arePupilsSo_227 : decode cL_arePupilsSo 227 = .ok (.iload_n 1, 1) := by decide +kernel
theorem dL_arePupilsSo_228 : decode cL_arePupilsSo 228 = .ok (.aload_n 0, 1) := by decide +kernel
theorem dL_arePupilsSo_229 : decode cL_arePupilsSo 229 = .ok (.bipush 9, 2) := by decide +kernel
theorem dL_arePupilsSo_231 : decode cL_arePupilsSo 231 = .ok (.invokevirtual 8, 3) := by decide +kernel
theorem dL_arePupilsSo_234 : decode cL_arePupilsSo 234 = .ok (.if_icmp .ne 48, 3) := by decide +kernel
theorem dL_arePupilsSo_237 : decode cL_arePupilsSo 237 = .ok (.iload_n 2, 1) := by decide +kernel
theorem dL_arePupilsSo_238 : decode cL_arePupilsSo 238 = .ok (.aload_n 0, 1) := by decide +kernel
theorem dL_arePupilsSo_239 : decode cL_arePupilsSo 239 = .ok (.bipush 11, 2) := by decide +kernel
theorem dL_arePupilsSo_241 : decode cL_arePupilsSo 241 = .ok (.invokevirtual 8, 3) := by decide +kernel
theorem dL_arePupilsSo_244 : decode cL_arePupilsSo 244 = .ok (.if_icmp .ne 38, 3) := by decide +kernel
theorem dL_arePupilsSo_247 : decode cL_arePupilsSo 247 = .ok (.iload_n 3, 1) := by decide +kernel
theorem dL_arePupilsSo_248 : decode cL_arePupilsSo 248 = .ok (.aload_n 0, 1) := by decide +kernel
theorem dL_arePupilsSo_249 : decode cL_arePupilsSo 249 = .ok (.bipush 13, 2) := by decide +kernel
theorem dL_arePupilsSo_251 : decode cL_arePupilsSo 251 = .ok (.invokevirtual 8, 3) := by decide +kernel
theorem dL_arePupilsSo_254 : decode cL_arePupilsSo 254 = .ok (.if_icmp .ne 28, 3) := by decide +kernel
theorem dL_arePupilsSo_257 : decode cL_arePupilsSo 257 = .ok (.iload 4, 2) := by decide +kernel
theorem dL_arePupilsSo_259 : decode cL_arePupilsSo 259 = .ok (.iconst 1, 1) := by decide +kernel
theorem dL_arePupilsSo_260 : decode cL_arePupilsSo 260 = .ok (.iload 5, 2) := by decide +kernel
theorem dL_arePupilsSo_262 : decode cL_arePupilsSo 262 = .ok (.ishl, 1) := by decide +kernel
theorem dL_arePupilsSo_263 : decode cL_arePupilsSo 263 = .ok (.iconst 1, 1) := by decide +kernel
theorem dL_arePupilsSo_264 : decode cL_arePupilsSo 264 = .ok (.isub, 1) := by decide +kernel
theorem dL_arePupilsSo_265 : decode cL_arePupilsSo 265 = .ok (.if_icmp .ne 17, 3) := by decide +kernel
theorem dL_arePupilsSo_268 : decode cL_arePupilsSo 268 = .ok (.iload 5, 2) := by decide +kernel
theorem dL_arePupilsSo_270 : decode cL_arePupilsSo 270 = .ok (.aload_n 0, 1) := by decide +kernel
theorem dL_arePupilsSo_271 : decode cL_arePupilsSo 271 = .ok (.iconst 4, 1) := by decide +kernel
theorem dL_arePupilsSo_272 : decode cL_arePupilsSo 272 = .ok (.invokevirtual 8, 3) := by decide +kernel
theorem dL_arePupilsSo_275 : decode cL_arePupilsSo 275 = .ok (.if_icmp .ne 7, 3) := by decide +kernel
theorem dL_arePupilsSo_278 : decode cL_arePupilsSo 278 = .ok (.iconst 1, 1) := by decide +kernel
theorem dL_arePupilsSo_279 : decode cL_arePupilsSo 279 = .ok (.goto 4, 3) := by decide +kernel
theorem dL_arePupilsSo_282 : decode cL_arePupilsSo 282 = .ok (.iconst 0, 1) := by decide +kernel
theorem dL_arePupilsSo_283 : decode cL_arePupilsSo 283 = .ok (.istore 6, 2) := by decide +kernel
theorem dL_arePupilsSo_285 : decode cL_arePupilsSo 285 = .ok (.iload 6, 2) := by decide +kernel
theorem dL_arePupilsSo_287 : decode cL_arePupilsSo 287 = .ok (.ifCond .eq 39, 3) := by decide +kernel
theorem dL_arePupilsSo_290 : decode cL_arePupilsSo 290 = .ok (.aload_n 0, 1) := by decide +kernel
theorem dL_arePupilsSo_291 : decode cL_arePupilsSo 291 = .ok (.iconst 3, 1) := by decide +kernel
theorem dL_arePupilsSo_292 : decode cL_arePupilsSo 292 = .ok (.invokevirtual 8, 3) := by decide +kernel
theorem dL_arePupilsSo_295 : decode cL_arePupilsSo 295 = .ok (.aload_n 0, 1) := by decide +kernel
theorem dL_arePupilsSo_296 : decode cL_arePupilsSo 296 = .ok (.iconst 4, 1) := by decide +kernel
theorem dL_arePupilsSo_297 : decode cL_arePupilsSo 297 = .ok (.invokevirtual 8, 3) := by decide +kernel
theorem dL_arePupilsSo_300 : decode cL_arePupilsSo 300 = .ok (.iadd, 1) := by decide +kernel
theorem dL_arePupilsSo_301 : decode cL_arePupilsSo 301 = .ok (.aload_n 0, 1) := by decide +kernel
theorem dL_arePupilsSo_302 : decode cL_arePupilsSo 302 = .ok (.iconst 5, 1) := by decide +kernel
theorem dL_arePupilsSo_303 : decode cL_arePupilsSo 303 = .ok (.invokevirtual 8, 3) := by decide +kernel
theorem dL_arePupilsSo_306 : decode cL_arePupilsSo 306 = .ok (.iadd, 1) := by decide +kernel
theorem dL_arePupilsSo_307 : decode cL_arePupilsSo 307 = .ok (.aload_n 0, 1) := by decide +kernel
theorem dL_arePupilsSo_308 : decode cL_arePupilsSo 308 = .ok (.bipush 6, 2) := by decide +kernel
theorem dL_arePupilsSo_310 : decode cL_arePupilsSo 310 = .ok (.invokevirtual 8, 3) := by decide +kernel
theorem dL_arePupilsSo_313 : decode cL_arePupilsSo 313 = .ok (.iadd, 1) := by decide +kernel
theorem dL_arePupilsSo_314 : decode cL_arePupilsSo 314 = .ok (.aload_n 0, 1) := by decide +kernel
theorem dL_arePupilsSo_315 : decode cL_arePupilsSo 315 = .ok (.iconst 2, 1) := by decide +kernel
theorem dL_arePupilsSo_316 : decode cL_arePupilsSo 316 = .ok (.invokevirtual 8, 3) := by decide +kernel
theorem dL_arePupilsSo_319 : decode cL_arePupilsSo 319 = .ok (.if_icmp .ne 7, 3) := by decide +kernel
theorem dL_arePupilsSo_322 : decode cL_arePupilsSo 322 = .ok (.iconst 1, 1) := by decide +kernel
theorem dL_arePupilsSo_323 : decode cL_arePupilsSo 323 = .ok (.goto 4, 3) := by decide +kernel
theorem dL_arePupilsSo_326 : decode cL_arePupilsSo 326 = .ok (.iconst 0, 1) := by decide +kernel
theorem dL_arePupilsSo_327 : decode cL_arePupilsSo 327 = .ok (.ireturn, 1) := by decide +kernel
theorem dL_areExaminersSo_0 : decode cL_areExaminersSo 0 = .ok (.iconst 0, 1) := by decide +kernel
theorem dL_areExaminersSo_1 : decode cL_areExaminersSo 1 = .ok (.istore_n 1, 1) := by decide +kernel
theorem dL_areExaminersSo_2 : decode cL_areExaminersSo 2 = .ok (.iconst 0, 1) := by decide +kernel
theorem dL_areExaminersSo_3 : decode cL_areExaminersSo 3 = .ok (.istore_n 2, 1) := by decide +kernel
theorem dL_areExaminersSo_4 : decode cL_areExaminersSo 4 = .ok (.iconst 0, 1) := by decide +kernel
theorem dL_areExaminersSo_5 : decode cL_areExaminersSo 5 = .ok (.istore_n 3, 1) := by decide +kernel
theorem dL_areExaminersSo_6 : decode cL_areExaminersSo 6 = .ok (.iconst 0, 1) := by decide +kernel
theorem dL_areExaminersSo_7 : decode cL_areExaminersSo 7 = .ok (.istore 4, 2) := by decide +kernel
theorem dL_areExaminersSo_9 : decode cL_areExaminersSo 9 = .ok (.iconst 0, 1) := by decide +kernel
theorem dL_areExaminersSo_10 : decode cL_areExaminersSo 10 = .ok (.istore 5, 2) := by decide +kernel
theorem dL_areExaminersSo_12 : decode cL_areExaminersSo 12 = .ok (.iload 5, 2) := by decide +kernel
theorem dL_areExaminersSo_14 : decode cL_areExaminersSo 14 = .ok (.aload_n 0, 1) := by decide +kernel
theorem dL_areExaminersSo_15 : decode cL_areExaminersSo 15 = .ok (.iconst 1, 1) := by decide +kernel
theorem dL_areExaminersSo_16 : decode cL_areExaminersSo 16 = .ok (.invokevirtual 8, 3) := by decide +kernel
theorem dL_areExaminersSo_19 : decode cL_areExaminersSo 19 = .ok (.if_icmp .ge 194, 3) := by decide +kernel
theorem dL_areExaminersSo_22 : decode cL_areExaminersSo 22 = .ok (.iconst 0, 1) := by decide +kernel
theorem dL_areExaminersSo_23 : decode cL_areExaminersSo 23 = .ok (.istore 6, 2) := by decide +kernel
theorem dL_areExaminersSo_25 : decode cL_areExaminersSo 25 = .ok (.iconst 0, 1) := by decide +kernel
theorem dL_areExaminersSo_26 : decode cL_areExaminersSo 26 = .ok (.istore 7, 2) := by decide +kernel
theorem dL_areExaminersSo_28 : decode cL_areExaminersSo 28 = .ok (.iconst 0, 1) := by decide +kernel
theorem dL_areExaminersSo_29 : decode cL_areExaminersSo 29 = .ok (.istore 8, 2) := by decide +kernel
theorem dL_areExaminersSo_31 : decode cL_areExaminersSo 31 = .ok (.iload 8, 2) := by decide +kernel
theorem dL_areExaminersSo_33 : decode cL_areExaminersSo 33 = .ok (.bipush 40, 2) := by decide +kernel
theorem dL_areExaminersSo_35 : decode cL_areExaminersSo 35 = .ok (.if_icmp .ge 73, 3) := by decide +kernel
theorem dL_areExaminersSo_38 : decode cL_areExaminersSo 38 = .ok (.aload_n 0, 1) := by decide +kernel
theorem dL_areExaminersSo_39 : decode cL_areExaminersSo 39 = .ok (.iload 5, 2) := by decide +kernel
theorem dL_areExaminersSo_41 : decode cL_areExaminersSo 41 = .ok (.iload 8, 2) := by decide +kernel
theorem dL_areExaminersSo_43 : decode cL_areExaminersSo 43 = .ok (.iconst 4, 1) := by decide +kernel
theorem dL_areExaminersSo_44 : decode cL_areExaminersSo 44 = .ok (.idiv, 1) := by decide +kernel
theorem dL_areExaminersSo_45 : decode cL_areExaminersSo 45 = .ok (.iload 8, 2) := by decide +kernel
theorem dL_areExaminersSo_47 : decode cL_areExaminersSo 47 = .ok (.iconst 4, 1) := by decide +kernel
theorem dL_areExaminersSo_48 : decode cL_areExaminersSo 48 = .ok (.irem, 1) := by decide +kernel
theorem dL_areExaminersSo_49 : decode cL_areExaminersSo 49 = .ok (.invokevirtual 49, 3) := by decide +kernel
theorem dL_areExaminersSo_52 : decode cL_areExaminersSo 52 = .ok (.istore 9, 2) := by decide +kernel
theorem dL_areExaminersSo_54 : decode cL_areExaminersSo 54 = .ok (.iload 6, 2) := by decide +kernel
theorem dL_areExaminersSo_56 : decode cL_areExaminersSo 56 = .ok (.iload 9, 2) := by decide +kernel
theorem dL_areExaminersSo_58 : decode cL_areExaminersSo 58 = .ok (.bipush (-2), 2) := by decide +kernel
theorem dL_areExaminersSo_60 : decode cL_areExaminersSo 60 = .ok (.if_icmp .ne 7, 3) := by decide +kernel
theorem dL_areExaminersSo_63 : decode cL_areExaminersSo 63 = .ok (.iconst 1, 1) := by decide +kernel
theorem dL_areExaminersSo_64 : decode cL_areExaminersSo 64 = .ok (.goto 4, 3) := by decide +kernel
theorem dL_areExaminersSo_67 : decode cL_areExaminersSo 67 = .ok (.iconst 0, 1) := by decide +kernel
theorem dL_areExaminersSo_68 : decode cL_areExaminersSo 68 = .ok (.iadd, 1) := by decide +kernel
theorem dL_areExaminersSo_69 : decode cL_areExaminersSo 69 = .ok (.istore 6, 2) := by decide +kernel
theorem dL_areExaminersSo_71 : decode cL_areExaminersSo 71 = .ok (.iload 7, 2) := by decide +kernel
theorem dL_areExaminersSo_73 : decode cL_areExaminersSo 73 = .ok (.iload 9, 2) := by decide +kernel
theorem dL_areExaminersSo_75 : decode cL_areExaminersSo 75 = .ok (.iconst (-1), 1) := by decide +kernel
theorem dL_areExaminersSo_76 : decode cL_areExaminersSo 76 = .ok (.if_icmp .ne 7, 3) := by decide +kernel
theorem dL_areExaminersSo_79 : decode cL_areExaminersSo 79 = .ok (.iconst 1, 1) := by decide +kernel
theorem dL_areExaminersSo_80 : decode cL_areExaminersSo 80 = .ok (.goto 4, 3) := by decide +kernel
theorem dL_areExaminersSo_83 : decode cL_areExaminersSo 83 = .ok (.iconst 0, 1) := by decide +kernel
theorem dL_areExaminersSo_84 : decode cL_areExaminersSo 84 = .ok (.iadd, 1) := by decide +kernel
theorem dL_areExaminersSo_85 : decode cL_areExaminersSo 85 = .ok (.istore 7, 2) := by decide +kernel
theorem dL_areExaminersSo_87 : decode cL_areExaminersSo 87 = .ok (.iload 4, 2) := by decide +kernel
theorem dL_areExaminersSo_89 : decode cL_areExaminersSo 89 = .ok (.iload 9, 2) := by decide +kernel
theorem dL_areExaminersSo_91 : decode cL_areExaminersSo 91 = .ok (.ifCond .lt 7, 3) := by decide +kernel
theorem dL_areExaminersSo_94 : decode cL_areExaminersSo 94 = .ok (.iconst 1, 1) := by decide +kernel
theorem dL_areExaminersSo_95 : decode cL_areExaminersSo 95 = .ok (.goto 4, 3) := by decide +kernel
theorem dL_areExaminersSo_98 : decode cL_areExaminersSo 98 = .ok (.iconst 0, 1) := by decide +kernel
theorem dL_areExaminersSo_99 : decode cL_areExaminersSo 99 = .ok (.iadd, 1) := by decide +kernel
theorem dL_areExaminersSo_100 : decode cL_areExaminersSo 100 = .ok (.istore 4, 2) := by decide +kernel
theorem dL_areExaminersSo_102 : decode cL_areExaminersSo 102 = .ok (.iinc 8 1, 3) := by decide +kernel
theorem dL_areExaminersSo_105 : decode cL_areExaminersSo 105 = .ok (.goto (-74), 3) := by decide +kernel
theorem dL_areExaminersSo_108 : decode cL_areExaminersSo 108 = .ok (.iload_n 3, 1) := by decide +kernel
theorem dL_areExaminersSo_109 : decode cL_areExaminersSo 109 = .ok (.iload 7, 2) := by decide +kernel
theorem dL_areExaminersSo_111 : decode cL_areExaminersSo 111 = .ok (.iadd, 1) := by decide +kernel
theorem dL_areExaminersSo_112 : decode cL_areExaminersSo 112 = .ok (.istore_n 3, 1) := by decide +kernel
theorem dL_areExaminersSo_113 : decode cL_areExaminersSo 113 = .ok (.iload_n 1, 1) := by decide +kernel
theorem dL_areExaminersSo_114 : decode cL_areExaminersSo 114 = .ok (.aload_n 0, 1) := by decide +kernel
theorem dL_areExaminersSo_115 : decode cL_areExaminersSo 115 = .ok (.iload 5, 2) := by decide +kernel
theorem dL_areExaminersSo_117 : decode cL_areExaminersSo 117 = .ok (.iconst 0, 1) := by decide +kernel
theorem dL_areExaminersSo_118 : decode cL_areExaminersSo 118 = .ok (.invokevirtual 53, 3) := by decide +kernel
theorem dL_areExaminersSo_121 : decode cL_areExaminersSo 121 = .ok (.iadd, 1) := by decide +kernel
theorem dL_areExaminersSo_122 : decode cL_areExaminersSo 122 = .ok (.istore_n 1, 1) := by decide +kernel
theorem dL_areExaminersSo_123 : decode cL_areExaminersSo 123 = .ok (.iload_n 2, 1) := by decide +kernel
theorem dL_areExaminersSo_124 : decode cL_areExaminersSo 124 = .ok (.aload_n 0, 1) := by decide +kernel
theorem dL_areExaminersSo_125 : decode cL_areExaminersSo 125 = .ok (.iload 5, 2) := by decide +kernel
theorem dL_areExaminersSo_127 : decode cL_areExaminersSo 127 = .ok (.iconst 1, 1) := by decide +kernel
theorem dL_areExaminersSo_128 : decode cL_areExaminersSo 128 = .ok (.invokevirtual 53, 3) := by decide +kernel
theorem dL_areExaminersSo_131 : decode cL_areExaminersSo 131 = .ok (.iadd, 1) := by decide +kernel
theorem dL_areExaminersSo_132 : decode cL_areExaminersSo 132 = .ok (.istore_n 2, 1) := by decide +kernel
theorem dL_areExaminersSo_133 : decode cL_areExaminersSo 133 = .ok (.aload_n 0, 1) := by decide +kernel
theorem dL_areExaminersSo_134 : decode cL_areExaminersSo 134 = .ok (.iload 5, 2) := by decide +kernel
theorem dL_areExaminersSo_136 : decode cL_areExaminersSo 136 = .ok (.iconst 5, 1) := by decide +kernel
theorem dL_areExaminersSo_137 : decode cL_areExaminersSo 137 = .ok (.invokevirtual 53, 3) := by decide +kernel
theorem dL_areExaminersSo_140 : decode cL_areExaminersSo 140 = .ok (.aload_n 0, 1) := by decide +kernel
theorem dL_areExaminersSo_141 : decode cL_areExaminersSo 141 = .ok (.iload 5, 2) := by decide +kernel
theorem dL_areExaminersSo_143 : decode cL_areExaminersSo 143 = .ok (.bipush 6, 2) := by decide +kernel
theorem dL_areExaminersSo_145 : decode cL_areExaminersSo 145 = .ok (.invokevirtual 53, 3) := by decide +kernel
theorem dL_areExaminersSo_148 : decode cL_areExaminersSo 148 = .ok (.iadd, 1) := by decide +kernel
theorem dL_areExaminersSo_149 : decode cL_areExaminersSo 149 = .ok (.aload_n 0, 1) := by decide +kernel
theorem dL_areExaminersSo_150 : decode cL_areExaminersSo 150 = .ok (.iload 5, 2) := by decide +kernel
theorem dL_areExaminersSo_152 : decode cL_areExaminersSo 152 = .ok (.bipush 7, 2) := by decide +kernel
theorem dL_areExaminersSo_154 : decode cL_areExaminersSo 154 = .ok (.invokevirtual 53, 3) := by decide +kernel
theorem dL_areExaminersSo_157 : decode cL_areExaminersSo 157 = .ok (.iadd, 1) := by decide +kernel
theorem dL_areExaminersSo_158 : decode cL_areExaminersSo 158 = .ok (.aload_n 0, 1) := by decide +kernel
theorem dL_areExaminersSo_159 : decode cL_areExaminersSo 159 = .ok (.iload 5, 2) := by decide +kernel
theorem dL_areExaminersSo_161 : decode cL_areExaminersSo 161 = .ok (.bipush 8, 2) := by decide +kernel
theorem dL_areExaminersSo_163 : decode cL_areExaminersSo 163 = .ok (.invokevirtual 53, 3) := by decide +kernel
theorem dL_areExaminersSo_166 : decode cL_areExaminersSo 166 = .ok (.iadd, 1) := by decide +kernel
theorem dL_areExaminersSo_167 : decode cL_areExaminersSo 167 = .ok (.istore 8, 2) := by decide +kernel
theorem dL_areExaminersSo_169 : decode cL_areExaminersSo 169 = .ok (.iload 7, 2) := by decide +kernel
theorem dL_areExaminersSo_171 : decode cL_areExaminersSo 171 = .ok (.aload_n 0, 1) := by decide +kernel
theorem dL_areExaminersSo_172 : decode cL_areExaminersSo 172 = .ok (.iload 5, 2) := by decide +kernel
theorem dL_areExaminersSo_174 : decode cL_areExaminersSo 174 = .ok (.iconst 2, 1) := by decide +kernel
theorem dL_areExaminersSo_175 : decode cL_areExaminersSo 175 = .ok (.invokevirtual 53, 3) := by decide +kernel
theorem dL_areExaminersSo_178 : decode cL_areExaminersSo 178 = .ok (.if_icmp .ne 27, 3) := by decide +kernel
theorem dL_areExaminersSo_181 : decode cL_areExaminersSo 181 = .ok (.iload 6, 2) := by decide +kernel
theorem dL_areExaminersSo_183 : decode cL_areExaminersSo 183 = .ok (.aload_n 0, 1) := by decide +kernel
theorem dL_areExaminersSo_184 : decode cL_areExaminersSo 184 = .ok (.iload 5, 2) := by decide +kernel
theorem dL_areExaminersSo_186 : decode cL_areExaminersSo 186 = .ok (.iconst 3, 1) := by decide +kernel
theorem dL_areExaminersSo_187 : decode cL_areExaminersSo 187 = .ok (.invokevirtual 53, 3) := by decide +kernel
theorem dL_areExaminersSo_190 : decode cL_areExaminersSo 190 = .ok (.if_icmp .ne 15, 3) := by decide +kernel
theorem dL_areExaminersSo_193 : decode cL_areExaminersSo 193 = .ok (.iload 8, 2) := by decide +kernel
theorem dL_areExaminersSo_195 : decode cL_areExaminersSo 195 = .ok (.aload_n 0, 1) := by decide +kernel
theorem dL_areExaminersSo_196 : decode cL_areExaminersSo 196 = .ok (.iload 5, 2) := by decide +kernel
theorem dL_areExaminersSo_198 : decode cL_areExaminersSo 198 = .ok (.iconst 0, 1) := by decide +kernel
theorem dL_areExaminersSo_199 : decode cL_areExaminersSo 199 = .ok (.invokevirtual 53, 3) := by decide +kernel
theorem dL_areExaminersSo_202 : decode cL_areExaminersSo 202 = .ok (.if_icmp .eq 5, 3) := by decide +kernel
theorem dL_areExaminersSo_205 : decode cL_areExaminersSo 205 = .ok (.iconst 0, 1) := by decide +kernel
theorem dL_areExaminersSo_206 : decode cL_areExaminersSo 206 = .ok (.ireturn, 1) := by decide +kernel
theorem dL_areExaminersSo_207 : decode cL_areExaminersSo 207 = .ok (.iinc 5 1, 3) := by decide +kernel
theorem dL_areExaminersSo_210 : decode cL_areExaminersSo 210 = .ok (.goto (-198), 3) := by decide +kernel
theorem dL_areExaminersSo_213 : decode cL_areExaminersSo 213 = .ok (.iload_n 1, 1) := by decide +kernel
theorem dL_areExaminersSo_214 : decode cL_areExaminersSo 214 = .ok (.aload_n 0, 1) := by decide +kernel
theorem dL_areExaminersSo_215 : decode cL_areExaminersSo 215 = .ok (.bipush 7, 2) := by decide +kernel
theorem dL_areExaminersSo_217 : decode cL_areExaminersSo 217 = .ok (.invokevirtual 8, 3) := by decide +kernel
theorem dL_areExaminersSo_220 : decode cL_areExaminersSo 220 = .ok (.if_icmp .ne 37, 3) := by decide +kernel
theorem dL_areExaminersSo_223 : decode cL_areExaminersSo 223 = .ok (.iload_n 2, 1) := by decide +kernel
theorem dL_areExaminersSo_224 : decode cL_areExaminersSo 224 = .ok (.aload_n 0, 1) := by decide +kernel
theorem dL_areExaminersSo_225 : decode cL_areExaminersSo 225 = .ok (.bipush 8, 2) := by decide +kernel
theorem dL_areExaminersSo_227 : decode cL_areExaminersSo 227 = .ok (.invokevirtual 8, 3) := by decide +kernel
theorem dL_areExaminersSo_230 : decode cL_areExaminersSo 230 = .ok (.if_icmp .ne 27, 3) := by decide +kernel
theorem dL_areExaminersSo_233 : decode cL_areExaminersSo 233 = .ok (.iload_n 3, 1) := by decide +kernel
theorem dL_areExaminersSo_234 : decode cL_areExaminersSo 234 = .ok (.aload_n 0, 1) := by decide +kernel
theorem dL_areExaminersSo_235 : decode cL_areExaminersSo 235 = .ok (.bipush 12, 2) := by decide +kernel
theorem dL_areExaminersSo_237 : decode cL_areExaminersSo 237 = .ok (.invokevirtual 8, 3) := by decide +kernel
theorem dL_areExaminersSo_240 : decode cL_areExaminersSo 240 = .ok (.if_icmp .ne 17, 3) := by decide +kernel
theorem dL_areExaminersSo_243 : decode cL_areExaminersSo 243 = .ok (.iload 4, 2) := by decide +kernel
theorem dL_areExaminersSo_245 : decode cL_areExaminersSo 245 = .ok (.aload_n 0, 1) := by decide +kernel
theorem dL_areExaminersSo_246 : decode cL_areExaminersSo 246 = .ok (.iconst 5, 1) := by decide +kernel
theorem dL_areExaminersSo_247 : decode cL_areExaminersSo 247 = .ok (.invokevirtual 8, 3) := by decide +kernel
theorem dL_areExaminersSo_250 : decode cL_areExaminersSo 250 = .ok (.if_icmp .ne 7, 3) := by decide +kernel
theorem dL_areExaminersSo_253 : decode cL_areExaminersSo 253 = .ok (.iconst 1, 1) := by decide +kernel
theorem dL_areExaminersSo_254 : decode cL_areExaminersSo 254 = .ok (.goto 4, 3) := by decide +kernel
theorem dL_areExaminersSo_257 : decode cL_areExaminersSo 257 = .ok (.iconst 0, 1) := by decide +kernel
theorem dL_areExaminersSo_258 : decode cL_areExaminersSo 258 = .ok (.ireturn, 1) := by decide +kernel
theorem dL_isCancelSo_0 : decode cL_isCancelSo 0 = .ok (.aload_n 0, 1) := by decide +kernel
theorem dL_isCancelSo_1 : decode cL_isCancelSo 1 = .ok (.iload_n 1, 1) := by decide +kernel
theorem dL_isCancelSo_2 : decode cL_isCancelSo 2 = .ok (.iload_n 2, 1) := by decide +kernel
theorem dL_isCancelSo_3 : decode cL_isCancelSo 3 = .ok (.iconst 0, 1) := by decide +kernel
theorem dL_isCancelSo_4 : decode cL_isCancelSo 4 = .ok (.invokevirtual 56, 3) := by decide +kernel
theorem dL_isCancelSo_7 : decode cL_isCancelSo 7 = .ok (.istore_n 3, 1) := by decide +kernel
theorem dL_isCancelSo_8 : decode cL_isCancelSo 8 = .ok (.aload_n 0, 1) := by decide +kernel
theorem dL_isCancelSo_9 : decode cL_isCancelSo 9 = .ok (.iload_n 1, 1) := by decide +kernel
theorem dL_isCancelSo_10 : decode cL_isCancelSo 10 = .ok (.iload_n 2, 1) := by decide +kernel
theorem dL_isCancelSo_11 : decode cL_isCancelSo 11 = .ok (.iconst 1, 1) := by decide +kernel
theorem dL_isCancelSo_12 : decode cL_isCancelSo 12 = .ok (.invokevirtual 56, 3) := by decide +kernel
theorem dL_isCancelSo_15 : decode cL_isCancelSo 15 = .ok (.istore 4, 2) := by decide +kernel
theorem dL_isCancelSo_17 : decode cL_isCancelSo 17 = .ok (.aload_n 0, 1) := by decide +kernel
theorem dL_isCancelSo_18 : decode cL_isCancelSo 18 = .ok (.iload_n 1, 1) := by decide +kernel
theorem dL_isCancelSo_19 : decode cL_isCancelSo 19 = .ok (.iload_n 2, 1) := by decide +kernel
theorem dL_isCancelSo_20 : decode cL_isCancelSo 20 = .ok (.iconst 2, 1) := by decide +kernel
theorem dL_isCancelSo_21 : decode cL_isCancelSo 21 = .ok (.invokevirtual 56, 3) := by decide +kernel
theorem dL_isCancelSo_24 : decode cL_isCancelSo 24 = .ok (.sipush 1000, 3) := by decide +kernel
theorem dL_isCancelSo_27 : decode cL_isCancelSo 27 = .ok (.isub, 1) := by decide +kernel
theorem dL_isCancelSo_28 : decode cL_isCancelSo 28 = .ok (.istore 5, 2) := by decide +kernel
theorem dL_isCancelSo_30 : decode cL_isCancelSo 30 = .ok (.aload_n 0, 1) := by decide +kernel
theorem dL_isCancelSo_31 : decode cL_isCancelSo 31 = .ok (.iload_n 1, 1) := by decide +kernel
theorem dL_isCancelSo_32 : decode cL_isCancelSo 32 = .ok (.iload_n 2, 1) := by decide +kernel
theorem dL_isCancelSo_33 : decode cL_isCancelSo 33 = .ok (.iconst 0, 1) := by decide +kernel
theorem dL_isCancelSo_34 : decode cL_isCancelSo 34 = .ok (.invokevirtual 49, 3) := by decide +kernel
theorem dL_isCancelSo_37 : decode cL_isCancelSo 37 = .ok (.istore 6, 2) := by decide +kernel
theorem dL_isCancelSo_39 : decode cL_isCancelSo 39 = .ok (.aload_n 0, 1) := by decide +kernel
theorem dL_isCancelSo_40 : decode cL_isCancelSo 40 = .ok (.iload_n 1, 1) := by decide +kernel
theorem dL_isCancelSo_41 : decode cL_isCancelSo 41 = .ok (.iload_n 2, 1) := by decide +kernel
theorem dL_isCancelSo_42 : decode cL_isCancelSo 42 = .ok (.iconst 1, 1) := by decide +kernel
theorem dL_isCancelSo_43 : decode cL_isCancelSo 43 = .ok (.invokevirtual 49, 3) := by decide +kernel
theorem dL_isCancelSo_46 : decode cL_isCancelSo 46 = .ok (.istore 7, 2) := by decide +kernel
theorem dL_isCancelSo_48 : decode cL_isCancelSo 48 = .ok (.aload_n 0, 1) := by decide +kernel
theorem dL_isCancelSo_49 : decode cL_isCancelSo 49 = .ok (.iload_n 1, 1) := by decide +kernel
theorem dL_isCancelSo_50 : decode cL_isCancelSo 50 = .ok (.iload_n 2, 1) := by decide +kernel
theorem dL_isCancelSo_51 : decode cL_isCancelSo 51 = .ok (.invokevirtual 36, 3) := by decide +kernel
theorem dL_isCancelSo_54 : decode cL_isCancelSo 54 = .ok (.iload_n 3, 1) := by decide +kernel
theorem dL_isCancelSo_55 : decode cL_isCancelSo 55 = .ok (.if_icmp .ne 56, 3) := by decide +kernel
theorem dL_isCancelSo_58 : decode cL_isCancelSo 58 = .ok (.aload_n 0, 1) := by decide +kernel
theorem dL_isCancelSo_59 : decode cL_isCancelSo 59 = .ok (.iload_n 1, 1) := by decide +kernel
theorem dL_isCancelSo_60 : decode cL_isCancelSo 60 = .ok (.iload_n 2, 1) := by decide +kernel
theorem dL_isCancelSo_61 : decode cL_isCancelSo 61 = .ok (.iconst 0, 1) := by decide +kernel
theorem dL_isCancelSo_62 : decode cL_isCancelSo 62 = .ok (.invokevirtual 49, 3) := by decide +kernel
theorem dL_isCancelSo_65 : decode cL_isCancelSo 65 = .ok (.bipush (-2), 2) := by decide +kernel
theorem dL_isCancelSo_67 : decode cL_isCancelSo 67 = .ok (.if_icmp .ne 44, 3) := by decide +kernel
theorem dL_isCancelSo_70 : decode cL_isCancelSo 70 = .ok (.aload_n 0, 1) := by decide +kernel
theorem dL_isCancelSo_71 : decode cL_isCancelSo 71 = .ok (.iload_n 1, 1) := by decide +kernel
theorem dL_isCancelSo_72 : decode cL_isCancelSo 72 = .ok (.iload_n 2, 1) := by decide +kernel
theorem dL_isCancelSo_73 : decode cL_isCancelSo 73 = .ok (.iconst 1, 1) := by decide +kernel
theorem dL_isCancelSo_74 : decode cL_isCancelSo 74 = .ok (.invokevirtual 49, 3) := by decide +kernel
theorem dL_isCancelSo_77 : decode cL_isCancelSo 77 = .ok (.bipush (-2), 2) := by decide +kernel
theorem dL_isCancelSo_79 : decode cL_isCancelSo 79 = .ok (.if_icmp .ne 32, 3) := by decide +kernel
theorem dL_isCancelSo_82 : decode cL_isCancelSo 82 = .ok (.iload_n 3, 1) := by decide +kernel
theorem dL_isCancelSo_83 : decode cL_isCancelSo 83 = .ok (.iload 6, 2) := by decide +kernel
theorem dL_isCancelSo_85 : decode cL_isCancelSo 85 = .ok (.ifCond .lt 7, 3) := by decide +kernel
theorem dL_isCancelSo_88 : decode cL_isCancelSo 88 = .ok (.iconst 1, 1) := by decide +kernel
theorem dL_isCancelSo_89 : decode cL_isCancelSo 89 = .ok (.goto 4, 3) := by decide +kernel
theorem dL_isCancelSo_92 : decode cL_isCancelSo 92 = .ok (.iconst 0, 1) := by decide +kernel
theorem dL_isCancelSo_93 : decode cL_isCancelSo 93 = .ok (.iload 7, 2) := by decide +kernel
theorem dL_isCancelSo_95 : decode cL_isCancelSo 95 = .ok (.ifCond .lt 7, 3) := by decide +kernel
theorem dL_isCancelSo_98 : decode cL_isCancelSo 98 = .ok (.iconst 1, 1) := by decide +kernel
theorem dL_isCancelSo_99 : decode cL_isCancelSo 99 = .ok (.goto 4, 3) := by decide +kernel
theorem dL_isCancelSo_102 : decode cL_isCancelSo 102 = .ok (.iconst 0, 1) := by decide +kernel
theorem dL_isCancelSo_103 : decode cL_isCancelSo 103 = .ok (.iadd, 1) := by decide +kernel
theorem dL_isCancelSo_104 : decode cL_isCancelSo 104 = .ok (.if_icmp .ne 7, 3) := by decide +kernel
theorem dL_isCancelSo_107 : decode cL_isCancelSo 107 = .ok (.iconst 1, 1) := by decide +kernel
theorem dL_isCancelSo_108 : decode cL_isCancelSo 108 = .ok (.goto 4, 3) := by decide +kernel
theorem dL_isCancelSo_111 : decode cL_isCancelSo 111 = .ok (.iconst 0, 1) := by decide +kernel
theorem dL_isCancelSo_112 : decode cL_isCancelSo 112 = .ok (.istore 8, 2) := by decide +kernel
theorem dL_isCancelSo_114 : decode cL_isCancelSo 114 = .ok (.iconst 0, 1) := by decide +kernel
theorem dL_isCancelSo_115 : decode cL_isCancelSo 115 = .ok (.istore 9, 2) := by decide +kernel
theorem dL_isCancelSo_117 : decode cL_isCancelSo 117 = .ok (.iconst 0, 1) := by decide +kernel
theorem dL_isCancelSo_118 : decode cL_isCancelSo 118 = .ok (.istore 10, 2) := by decide +kernel
theorem dL_isCancelSo_120 : decode cL_isCancelSo 120 = .ok (.iload 6, 2) := by decide +kernel
theorem dL_isCancelSo_122 : decode cL_isCancelSo 122 = .ok (.ifCond .lt 53, 3) := by decide +kernel
theorem dL_isCancelSo_125 : decode cL_isCancelSo 125 = .ok (.iload 9, 2) := by decide +kernel
theorem dL_isCancelSo_127 : decode cL_isCancelSo 127 = .ok (.aload_n 0, 1) := by decide +kernel
theorem dL_isCancelSo_128 : decode cL_isCancelSo 128 = .ok (.iload 6, 2) := by decide +kernel
theorem dL_isCancelSo_130 : decode cL_isCancelSo 130 = .ok (.iconst 0, 1) := by decide +kernel
theorem dL_isCancelSo_131 : decode cL_isCancelSo 131 = .ok (.invokevirtual 20, 3) := by decide +kernel
theorem dL_isCancelSo_134 : decode cL_isCancelSo 134 = .ok (.iconst 1, 1) := by decide +kernel
theorem dL_isCancelSo_135 : decode cL_isCancelSo 135 = .ok (.if_icmp .ne 7, 3) := by decide +kernel
theorem dL_isCancelSo_138 : decode cL_isCancelSo 138 = .ok (.iconst 1, 1) := by decide +kernel
theorem dL_isCancelSo_139 : decode cL_isCancelSo 139 = .ok (.goto 4, 3) := by decide +kernel
theorem dL_isCancelSo_142 : decode cL_isCancelSo 142 = .ok (.iconst 0, 1) := by decide +kernel
theorem dL_isCancelSo_143 : decode cL_isCancelSo 143 = .ok (.iadd, 1) := by decide +kernel
theorem dL_isCancelSo_144 : decode cL_isCancelSo 144 = .ok (.istore 9, 2) := by decide +kernel
theorem dL_isCancelSo_146 : decode cL_isCancelSo 146 = .ok (.iload 10, 2) := by decide +kernel
theorem dL_isCancelSo_148 : decode cL_isCancelSo 148 = .ok (.aload_n 0, 1) := by decide +kernel
theorem dL_isCancelSo_149 : decode cL_isCancelSo 149 = .ok (.iload 6, 2) := by decide +kernel
theorem dL_isCancelSo_151 : decode cL_isCancelSo 151 = .ok (.iconst 0, 1) := by decide +kernel
theorem dL_isCancelSo_152 : decode cL_isCancelSo 152 = .ok (.invokevirtual 20, 3) := by decide +kernel
theorem dL_isCancelSo_155 : decode cL_isCancelSo 155 = .ok (.iconst 1, 1) := by decide +kernel
theorem dL_isCancelSo_156 : decode cL_isCancelSo 156 = .ok (.if_icmp .ne 7, 3) := by decide +kernel
theorem dL_isCancelSo_159 : decode cL_isCancelSo 159 = .ok (.iconst 0, 1) := by decide +kernel
theorem dL_isCancelSo_160 : decode cL_isCancelSo 160 = .ok (.goto 12, 3) := by decide +kernel
theorem dL_isCancelSo_163 : decode cL_isCancelSo 163 = .ok (.aload_n 0, 1) := by decide +kernel
theorem dL_isCancelSo_164 : decode cL_isCancelSo 164 = .ok (.iload 6, 2) := by decide +kernel
theorem dL_isCancelSo_166 : decode cL_isCancelSo 166 = .ok (.iconst 5, 1) := by decide +kernel
theorem dL_isCancelSo_167 : decode cL_isCancelSo 167 = .ok (.invokevirtual 20, 3) := by decide +kernel
theorem dL_isCancelSo_170 : decode cL_isCancelSo 170 = .ok (.iload_n 2, 1) := by decide +kernel
theorem dL_isCancelSo_171 : decode cL_isCancelSo 171 = .ok (.isub, 1) := by decide +kernel
theorem dL_isCancelSo_172 : decode cL_isCancelSo 172 = .ok (.iadd, 1) := by decide +kernel
theorem dL_isCancelSo_173 : decode cL_isCancelSo 173 = .ok (.istore 10, 2) := by decide +kernel
theorem dL_isCancelSo_175 : decode cL_isCancelSo 175 = .ok (.iload 7, 2) := by decide +kernel
theorem dL_isCancelSo_177 : decode cL_isCancelSo 177 = .ok (.ifCond .lt 53, 3) := by decide +kernel
theorem dL_isCancelSo_180 : decode cL_isCancelSo 180 = .ok (.iload 9, 2) := by decide +kernel
theorem dL_isCancelSo_182 : decode cL_isCancelSo 182 = .ok (.aload_n 0, 1) := by decide +kernel
theorem dL_isCancelSo_183 : decode cL_isCancelSo 183 = .ok (.iload 7, 2) := by decide +kernel
theorem dL_isCancelSo_185 : decode cL_isCancelSo 185 = .ok (.iconst 0, 1) := by decide +kernel
theorem dL_isCancelSo_186 : decode cL_isCancelSo 186 = .ok (.invokevirtual 20, 3) := by decide +kernel
theorem dL_isCancelSo_189 : decode cL_isCancelSo 189 = .ok (.iconst 1, 1) := by decide +kernel
theorem dL_isCancelSo_190 : decode cL_isCancelSo 190 = .ok (.if_icmp .ne 7, 3) := by decide +kernel
theorem dL_isCancelSo_193 : decode cL_isCancelSo 193 = .ok (.iconst 1, 1) := by decide +kernel
theorem dL_isCancelSo_194 : decode cL_isCancelSo 194 = .ok (.goto 4, 3) := by decide +kernel
theorem dL_isCancelSo_197 : decode cL_isCancelSo 197 = .ok (.iconst 0, 1) := by decide +kernel
theorem dL_isCancelSo_198 : decode cL_isCancelSo 198 = .ok (.iadd, 1) := by decide +kernel
theorem dL_isCancelSo_199 : decode cL_isCancelSo 199 = .ok (.istore 9, 2) := by decide +kernel
theorem dL_isCancelSo_201 : decode cL_isCancelSo 201 = .ok (.iload 10, 2) := by decide +kernel
theorem dL_isCancelSo_203 : decode cL_isCancelSo 203 = .ok (.aload_n 0, 1) := by decide +kernel
theorem dL_isCancelSo_204 : decode cL_isCancelSo 204 = .ok (.iload 7, 2) := by decide +kernel
theorem dL_isCancelSo_206 : decode cL_isCancelSo 206 = .ok (.iconst 0, 1) := by decide +kernel
theorem dL_isCancelSo_207 : decode cL_isCancelSo 207 = .ok (.invokevirtual 20, 3) := by decide +kernel
theorem dL_isCancelSo_210 : decode cL_isCancelSo 210 = .ok (.iconst 1, 1) := by decide +kernel
theorem dL_isCancelSo_211 : decode cL_isCancelSo 211 = .ok (.if_icmp .ne 7, 3) := by decide +kernel
theorem dL_isCancelSo_214 : decode cL_isCancelSo 214 = .ok (.iconst 0, 1) := by decide +kernel
theorem dL_isCancelSo_215 : decode cL_isCancelSo 215 = .ok (.goto 12, 3) := by decide +kernel
theorem dL_isCancelSo_218 : decode cL_isCancelSo 218 = .ok (.aload_n 0, 1) := by decide +kernel
theorem dL_isCancelSo_219 : decode cL_isCancelSo 219 = .ok (.iload 7, 2) := by decide +kernel
theorem dL_isCancelSo_221 : decode cL_isCancelSo 221 = .ok (.iconst 5, 1) := by decide +kernel
theorem dL_isCancelSo_222 : decode cL_isCancelSo 222 = .ok (.invokevirtual 20, 3) := by decide +kernel
theorem dL_isCancelSo_225 : decode cL_isCancelSo 225 = .ok (.iload_n 2, 1) := by decide +kernel
theorem dL_isCancelSo_226 : decode cL_isCancelSo 226 = .ok (.isub, 1) := by decide +kernel
theorem dL_isCancelSo_227 : decode cL_isCancelSo 227 = .ok (.iadd, 1) := by decide +kernel
theorem dL_isCancelSo_228 : decode cL_isCancelSo 228 = .ok (.istore 10, 2) := by decide +kernel
theorem dL_isCancelSo_230 : decode cL_isCancelSo 230 = .ok (.aload_n 0, 1) := by decide +kernel
theorem dL_isCancelSo_231 : decode cL_isCancelSo 231 = .ok (.invokevirtual 59, 3) := by decide +kernel
theorem dL_isCancelSo_234 : decode cL_isCancelSo 234 = .ok (.istore 11, 2) := by decide +kernel
theorem dL_isCancelSo_236 : decode cL_isCancelSo 236 = .ok (.iload 8, 2) := by decide +kernel
theorem dL_isCancelSo_238 : decode cL_isCancelSo 238 = .ok (.ifCond .eq 50, 3) := by decide +kernel
theorem dL_isCancelSo_241 : decode cL_isCancelSo 241 = .ok (.iload 9, 2) := by decide +kernel
theorem dL_isCancelSo_243 : decode cL_isCancelSo 243 = .ok (.iload 4, 2) := by decide +kernel
theorem dL_isCancelSo_245 : decode cL_isCancelSo 245 = .ok (.if_icmp .ne 43, 3) := by decide +kernel
theorem dL_isCancelSo_248 : decode cL_isCancelSo 248 = .ok (.iload 10, 2) := by decide +kernel
theorem dL_isCancelSo_250 : decode cL_isCancelSo 250 = .ok (.iload 5, 2) := by decide +kernel
theorem dL_isCancelSo_252 : decode cL_isCancelSo 252 = .ok (.if_icmp .ne 36, 3) := by decide +kernel
theorem dL_isCancelSo_255 : decode cL_isCancelSo 255 = .ok (.iload 11, 2) := by decide +kernel
theorem dL_isCancelSo_257 : decode cL_isCancelSo 257 = .ok (.ifCond .lt 31, 3) := by decide +kernel
theorem dL_isCancelSo_260 : decode cL_isCancelSo 260 = .ok (.aload_n 0, 1) := by decide +kernel
theorem dL_isCancelSo_261 : decode cL_isCancelSo 261 = .ok (.iload_n 1, 1) := by decide +kernel
theorem dL_isCancelSo_262 : decode cL_isCancelSo 262 = .ok (.iload_n 2, 1) := by decide +kernel
theorem dL_isCancelSo_263 : decode cL_isCancelSo 263 = .ok (.iconst 0, 1) := by decide +kernel
theorem dL_isCancelSo_264 : decode cL_isCancelSo 264 = .ok (.invokevirtual 49, 3) := by decide +kernel
theorem dL_isCancelSo_267 : decode cL_isCancelSo 267 = .ok (.iload 6, 2) := by decide +kernel
theorem dL_isCancelSo_269 : decode cL_isCancelSo 269 = .ok (.if_icmp .ne 19, 3) := by decide +kernel
theorem dL_isCancelSo_272 : decode cL_isCancelSo 272 = .ok (.aload_n 0, 1) := by decide +kernel
theorem dL_isCancelSo_273 : decode cL_isCancelSo 273 = .ok (.iload_n 1, 1) := by decide +kernel
theorem dL_isCancelSo_274 : decode cL_isCancelSo 274 = .ok (.iload_n 2, 1) := by decide +kernel
theorem dL_isCancelSo_275 : decode cL_isCancelSo 275 = .ok (.iconst 1, 1) := by decide +kernel
theorem dL_isCancelSo_276 : decode cL_isCancelSo 276 = .ok (.invokevirtual 49, 3) := by decide +kernel
theorem dL_isCancelSo_279 : decode cL_isCancelSo 279 = .ok (.iload 7, 2) := by decide +kernel
theorem dL_isCancelSo_281 : decode cL_isCancelSo 281 = .ok (.if_icmp .ne 7, 3) := by decide +kernel
theorem dL_isCancelSo_284 : decode cL_isCancelSo 284 = .ok (.iconst 1, 1) := by decide +kernel
theorem dL_isCancelSo_285 : decode cL_isCancelSo 285 = .ok (.goto 4, 3) := by decide +kernel
theorem dL_isCancelSo_288 : decode cL_isCancelSo 288 = .ok (.iconst 0, 1) := by decide +kernel
theorem dL_isCancelSo_289 : decode cL_isCancelSo 289 = .ok (.ireturn, 1) := by decide +kernel
theorem dL_isAskSo_0 : decode cL_isAskSo 0 = .ok (.aload_n 0, 1) := by decide +kernel
theorem dL_isAskSo_1 : decode cL_isAskSo 1 = .ok (.iload_n 1, 1) := by decide +kernel
theorem dL_isAskSo_2 : decode cL_isAskSo 2 = .ok (.iconst 0, 1) := by decide +kernel
theorem dL_isAskSo_3 : decode cL_isAskSo 3 = .ok (.invokevirtual 20, 3) := by decide +kernel
theorem dL_isAskSo_6 : decode cL_isAskSo 6 = .ok (.ifCond .eq 5, 3) := by decide +kernel
theorem dL_isAskSo_9 : decode cL_isAskSo 9 = .ok (.iconst 1, 1) := by decide +kernel
theorem dL_isAskSo_10 : decode cL_isAskSo 10 = .ok (.ireturn, 1) := by decide +kernel
theorem dL_isAskSo_11 : decode cL_isAskSo 11 = .ok (.aload_n 0, 1) := by decide +kernel
theorem dL_isAskSo_12 : decode cL_isAskSo 12 = .ok (.iload_n 1, 1) := by decide +kernel
theorem dL_isAskSo_13 : decode cL_isAskSo 13 = .ok (.bipush 10, 2) := by decide +kernel
theorem dL_isAskSo_15 : decode cL_isAskSo 15 = .ok (.invokevirtual 20, 3) := by decide +kernel
theorem dL_isAskSo_18 : decode cL_isAskSo 18 = .ok (.istore_n 2, 1) := by decide +kernel
theorem dL_isAskSo_19 : decode cL_isAskSo 19 = .ok (.aload_n 0, 1) := by decide +kernel
theorem dL_isAskSo_20 : decode cL_isAskSo 20 = .ok (.iload_n 1, 1) := by decide +kernel
theorem dL_isAskSo_21 : decode cL_isAskSo 21 = .ok (.invokevirtual 30, 3) := by decide +kernel
theorem dL_isAskSo_24 : decode cL_isAskSo 24 = .ok (.istore_n 3, 1) := by decide +kernel
theorem dL_isAskSo_25 : decode cL_isAskSo 25 = .ok (.iload_n 3, 1) := by decide +kernel
theorem dL_isAskSo_26 : decode cL_isAskSo 26 = .ok (.aload_n 0, 1) := by decide +kernel
theorem dL_isAskSo_27 : decode cL_isAskSo 27 = .ok (.iload_n 1, 1) := by decide +kernel
theorem dL_isAskSo_28 : decode cL_isAskSo 28 = .ok (.iconst 5, 1) := by decide +kernel
theorem dL_isAskSo_29 : decode cL_isAskSo 29 = .ok (.invokevirtual 20, 3) := by decide +kernel
theorem dL_isAskSo_32 : decode cL_isAskSo 32 = .ok (.if_icmp .ne 38, 3) := by decide +kernel
theorem dL_isAskSo_35 : decode cL_isAskSo 35 = .ok (.aload_n 0, 1) := by decide +kernel
theorem dL_isAskSo_36 : decode cL_isAskSo 36 = .ok (.iload_n 1, 1) := by decide +kernel
theorem dL_isAskSo_37 : decode cL_isAskSo 37 = .ok (.bipush 10, 2) := by decide +kernel
theorem dL_isAskSo_39 : decode cL_isAskSo 39 = .ok (.invokevirtual 20, 3) := by decide +kernel
theorem dL_isAskSo_42 : decode cL_isAskSo 42 = .ok (.iload_n 2, 1) := by decide +kernel
theorem dL_isAskSo_43 : decode cL_isAskSo 43 = .ok (.aload_n 0, 1) := by decide +kernel
theorem dL_isAskSo_44 : decode cL_isAskSo 44 = .ok (.iconst 3, 1) := by decide +kernel
theorem dL_isAskSo_45 : decode cL_isAskSo 45 = .ok (.invokevirtual 62, 3) := by decide +kernel
theorem dL_isAskSo_48 : decode cL_isAskSo 48 = .ok (.iadd, 1) := by decide +kernel
theorem dL_isAskSo_49 : decode cL_isAskSo 49 = .ok (.if_icmp .ne 21, 3) := by decide +kernel
theorem dL_isAskSo_52 : decode cL_isAskSo 52 = .ok (.iload_n 3, 1) := by decide +kernel
theorem dL_isAskSo_53 : decode cL_isAskSo 53 = .ok (.ifCond .ge 13, 3) := by decide +kernel
theorem dL_isAskSo_56 : decode cL_isAskSo 56 = .ok (.aload_n 0, 1) := by decide +kernel
theorem dL_isAskSo_57 : decode cL_isAskSo 57 = .ok (.iload_n 1, 1) := by decide +kernel
theorem dL_isAskSo_58 : decode cL_isAskSo 58 = .ok (.iconst 0, 1) := by decide +kernel
theorem dL_isAskSo_59 : decode cL_isAskSo 59 = .ok (.invokevirtual 65, 3) := by decide +kernel
theorem dL_isAskSo_62 : decode cL_isAskSo 62 = .ok (.iconst (-1), 1) := by decide +kernel
theorem dL_isAskSo_63 : decode cL_isAskSo 63 = .ok (.if_icmp .ne 7, 3) := by decide +kernel
theorem dL_isAskSo_66 : decode cL_isAskSo 66 = .ok (.iconst 1, 1) := by decide +kernel
theorem dL_isAskSo_67 : decode cL_isAskSo 67 = .ok (.goto 4, 3) := by decide +kernel
theorem dL_isAskSo_70 : decode cL_isAskSo 70 = .ok (.iconst 0, 1) := by decide +kernel
theorem dL_isAskSo_71 : decode cL_isAskSo 71 = .ok (.istore 4, 2) := by decide +kernel
theorem dL_isAskSo_73 : decode cL_isAskSo 73 = .ok (.aload_n 0, 1) := by decide +kernel
theorem dL_isAskSo_74 : decode cL_isAskSo 74 = .ok (.iload_n 1, 1) := by decide +kernel
theorem dL_isAskSo_75 : decode cL_isAskSo 75 = .ok (.invokevirtual 33, 3) := by decide +kernel
theorem dL_isAskSo_78 : decode cL_isAskSo 78 = .ok (.istore 5, 2) := by decide +kernel
theorem dL_isAskSo_80 : decode cL_isAskSo 80 = .ok (.iload 4, 2) := by decide +kernel
theorem dL_isAskSo_82 : decode cL_isAskSo 82 = .ok (.ifCond .eq 43, 3) := by decide +kernel
theorem dL_isAskSo_85 : decode cL_isAskSo 85 = .ok (.iload 5, 2) := by decide +kernel
theorem dL_isAskSo_87 : decode cL_isAskSo 87 = .ok (.iload_n 3, 1) := by decide +kernel
theorem dL_isAskSo_88 : decode cL_isAskSo 88 = .ok (.ifCond .lt 16, 3) := by decide +kernel
theorem dL_isAskSo_91 : decode cL_isAskSo 91 = .ok (.iload_n 3, 1) := by decide +kernel
theorem dL_isAskSo_92 : decode cL_isAskSo 92 = .ok (.aload_n 0, 1) := by decide +kernel
theorem dL_isAskSo_93 : decode cL_isAskSo 93 = .ok (.iconst 2, 1) := by decide +kernel
theorem dL_isAskSo_94 : decode cL_isAskSo 94 = .ok (.invokevirtual 62, 3) := by decide +kernel
theorem dL_isAskSo_97 : decode cL_isAskSo 97 = .ok (.if_icmp .ge 7, 3) := by decide +kernel
theorem dL_isAskSo_100 : decode cL_isAskSo 100 = .ok (.iconst 0, 1) := by decide +kernel
theorem dL_isAskSo_101 : decode cL_isAskSo 101 = .ok (.goto 8, 3) := by decide +kernel
theorem dL_isAskSo_104 : decode cL_isAskSo 104 = .ok (.aload_n 0, 1) := by decide +kernel
theorem dL_isAskSo_105 : decode cL_isAskSo 105 = .ok (.iconst 3, 1) := by decide +kernel
theorem dL_isAskSo_106 : decode cL_isAskSo 106 = .ok (.invokevirtual 62, 3) := by decide +kernel
theorem dL_isAskSo_109 : decode cL_isAskSo 109 = .ok (.if_icmp .ne 16, 3) := by decide +kernel
theorem dL_isAskSo_112 : decode cL_isAskSo 112 = .ok (.aload_n 0, 1) := by decide +kernel
theorem dL_isAskSo_113 : decode cL_isAskSo 113 = .ok (.iload_n 1, 1) := by decide +kernel
theorem dL_isAskSo_114 : decode cL_isAskSo 114 = .ok (.iconst 0, 1) := by decide +kernel
theorem dL_isAskSo_115 : decode cL_isAskSo 115 = .ok (.invokevirtual 20, 3) := by decide +kernel
theorem dL_isAskSo_118 : decode cL_isAskSo 118 = .ok (.ifCond .ne 7, 3) := by decide +kernel
theorem dL_isAskSo_121 : decode cL_isAskSo 121 = .ok (.iconst 1, 1) := by decide +kernel
theorem dL_isAskSo_122 : decode cL_isAskSo 122 = .ok (.goto 4, 3) := by decide +kernel
theorem dL_isAskSo_125 : decode cL_isAskSo 125 = .ok (.iconst 0, 1) := by decide +kernel
theorem dL_isAskSo_126 : decode cL_isAskSo 126 = .ok (.istore 4, 2) := by decide +kernel
theorem dL_isAskSo_128 : decode cL_isAskSo 128 = .ok (.aload_n 0, 1) := by decide +kernel
theorem dL_isAskSo_129 : decode cL_isAskSo 129 = .ok (.invokevirtual 59, 3) := by decide +kernel
theorem dL_isAskSo_132 : decode cL_isAskSo 132 = .ok (.istore 6, 2) := by decide +kernel
theorem dL_isAskSo_134 : decode cL_isAskSo 134 = .ok (.aload_n 0, 1) := by decide +kernel
theorem dL_isAskSo_135 : decode cL_isAskSo 135 = .ok (.invokevirtual 59, 3) := by decide +kernel
theorem dL_isAskSo_138 : decode cL_isAskSo 138 = .ok (.istore 6, 2) := by decide +kernel
theorem dL_isAskSo_140 : decode cL_isAskSo 140 = .ok (.iload 4, 2) := by decide +kernel
theorem dL_isAskSo_142 : decode cL_isAskSo 142 = .ok (.ifCond .eq 23, 3) := by decide +kernel
theorem dL_isAskSo_145 : decode cL_isAskSo 145 = .ok (.iload 6, 2) := by decide +kernel
theorem dL_isAskSo_147 : decode cL_isAskSo 147 = .ok (.ifCond .lt 18, 3) := by decide +kernel
theorem dL_isAskSo_150 : decode cL_isAskSo 150 = .ok (.aload_n 0, 1) := by decide +kernel
theorem dL_isAskSo_151 : decode cL_isAskSo 151 = .ok (.iload_n 1, 1) := by decide +kernel
theorem dL_isAskSo_152 : decode cL_isAskSo 152 = .ok (.bipush 10, 2) := by decide +kernel
theorem dL_isAskSo_154 : decode cL_isAskSo 154 = .ok (.invokevirtual 20, 3) := by decide +kernel
theorem dL_isAskSo_157 : decode cL_isAskSo 157 = .ok (.iload_n 2, 1) := by decide +kernel
theorem dL_isAskSo_158 : decode cL_isAskSo 158 = .ok (.if_icmp .ne 7, 3) := by decide +kernel
theorem dL_isAskSo_161 : decode cL_isAskSo 161 = .ok (.iconst 1, 1) := by decide +kernel
theorem dL_isAskSo_162 : decode cL_isAskSo 162 = .ok (.goto 4, 3) := by decide +kernel
theorem dL_isAskSo_165 : decode cL_isAskSo 165 = .ok (.iconst 0, 1) := by decide +kernel
theorem dL_isAskSo_166 : decode cL_isAskSo 166 = .ok (.ireturn, 1) := by decide +kernel
theorem dL_couldSo_0 : decode cL_couldSo 0 = .ok (.aload_n 0, 1) := by decide +kernel
theorem dL_couldSo_1 : decode cL_couldSo 1 = .ok (.iload_n 1, 1) := by decide +kernel
theorem dL_couldSo_2 : decode cL_couldSo 2 = .ok (.invokevirtual 68, 3) := by decide +kernel
theorem dL_couldSo_5 : decode cL_couldSo 5 = .ok (.istore_n 2, 1) := by decide +kernel
theorem dL_couldSo_6 : decode cL_couldSo 6 = .ok (.iconst 0, 1) := by decide +kernel
theorem dL_couldSo_7 : decode cL_couldSo 7 = .ok (.istore_n 3, 1) := by decide +kernel
theorem dL_couldSo_8 : decode cL_couldSo 8 = .ok (.iconst 0, 1) := by decide +kernel
theorem dL_couldSo_9 : decode cL_couldSo 9 = .ok (.istore 4, 2) := by decide +kernel
theorem dL_couldSo_11 : decode cL_couldSo 11 = .ok (.iload 4, 2) := by decide +kernel
theorem dL_couldSo_13 : decode cL_couldSo 13 = .ok (.iconst 4, 1) := by decide +kernel
theorem dL_couldSo_14 : decode cL_couldSo 14 = .ok (.aload_n 0, 1) := by decide +kernel
theorem dL_couldSo_15 : decode cL_couldSo 15 = .ok (.iconst 1, 1) := by decide +kernel
theorem dL_couldSo_16 : decode cL_couldSo 16 = .ok (.invokevirtual 8, 3) := by decide +kernel
theorem dL_couldSo_19 : decode cL_couldSo 19 = .ok (.imul, 1) := by decide +kernel
theorem dL_couldSo_20 : decode cL_couldSo 20 = .ok (.if_icmp .ge 34, 3) := by decide +kernel
theorem dL_couldSo_23 : decode cL_couldSo 23 = .ok (.iload_n 3, 1) := by decide +kernel
theorem dL_couldSo_24 : decode cL_couldSo 24 = .ok (.aload_n 0, 1) := by decide +kernel
theorem dL_couldSo_25 : decode cL_couldSo 25 = .ok (.iload 4, 2) := by decide +kernel
theorem dL_couldSo_27 : decode cL_couldSo 27 = .ok (.iconst 4, 1) := by decide +kernel
theorem dL_couldSo_28 : decode cL_couldSo 28 = .ok (.idiv, 1) := by decide +kernel
theorem dL_couldSo_29 : decode cL_couldSo 29 = .ok (.iload_n 1, 1) := by decide +kernel
theorem dL_couldSo_30 : decode cL_couldSo 30 = .ok (.iload 4, 2) := by decide +kernel
theorem dL_couldSo_32 : decode cL_couldSo 32 = .ok (.iconst 4, 1) := by decide +kernel
theorem dL_couldSo_33 : decode cL_couldSo 33 = .ok (.irem, 1) := by decide +kernel
theorem dL_couldSo_34 : decode cL_couldSo 34 = .ok (.invokevirtual 49, 3) := by decide +kernel
theorem dL_couldSo_37 : decode cL_couldSo 37 = .ok (.iconst (-1), 1) := by decide +kernel
theorem dL_couldSo_38 : decode cL_couldSo 38 = .ok (.if_icmp .ne 7, 3) := by decide +kernel
theorem dL_couldSo_41 : decode cL_couldSo 41 = .ok (.iconst 1, 1) := by decide +kernel
theorem dL_couldSo_42 : decode cL_couldSo 42 = .ok (.goto 4, 3) := by decide +kernel
theorem dL_couldSo_45 : decode cL_couldSo 45 = .ok (.iconst 0, 1) := by decide +kernel
theorem dL_couldSo_46 : decode cL_couldSo 46 = .ok (.iadd, 1) := by decide +kernel
theorem dL_couldSo_47 : decode cL_couldSo 47 = .ok (.istore_n 3, 1) := by decide +kernel
theorem dL_couldSo_48 : decode cL_couldSo 48 = .ok (.iinc 4 1, 3) := by decide +kernel
theorem dL_couldSo_51 : decode cL_couldSo 51 = .ok (.goto (-40), 3) := by decide +kernel
theorem dL_couldSo_54 : decode cL_couldSo 54 = .ok (.iload_n 2, 1) := by decide +kernel
theorem dL_couldSo_55 : decode cL_couldSo 55 = .ok (.ifCond .lt 27, 3) := by decide +kernel
theorem dL_couldSo_58 : decode cL_couldSo 58 = .ok (.iload_n 2, 1) := by decide +kernel
theorem dL_couldSo_59 : decode cL_couldSo 59 = .ok (.iload_n 3, 1) := by decide +kernel
theorem dL_couldSo_60 : decode cL_couldSo 60 = .ok (.if_icmp .gt 22, 3) := by decide +kernel
theorem dL_couldSo_63 : decode cL_couldSo 63 = .ok (.iload_n 2, 1) := by decide +kernel
theorem dL_couldSo_64 : decode cL_couldSo 64 = .ok (.aload_n 0, 1) := by decide +kernel
theorem dL_couldSo_65 : decode cL_couldSo 65 = .ok (.iconst 3, 1) := by decide +kernel
theorem dL_couldSo_66 : decode cL_couldSo 66 = .ok (.invokevirtual 8, 3) := by decide +kernel
theorem dL_couldSo_69 : decode cL_couldSo 69 = .ok (.aload_n 0, 1) := by decide +kernel
theorem dL_couldSo_70 : decode cL_couldSo 70 = .ok (.iconst 4, 1) := by decide +kernel
theorem dL_couldSo_71 : decode cL_couldSo 71 = .ok (.invokevirtual 8, 3) := by decide +kernel
theorem dL_couldSo_74 : decode cL_couldSo 74 = .ok (.iadd, 1) := by decide +kernel
theorem dL_couldSo_75 : decode cL_couldSo 75 = .ok (.if_icmp .gt 7, 3) := by decide +kernel
theorem dL_couldSo_78 : decode cL_couldSo 78 = .ok (.iconst 1, 1) := by decide +kernel
theorem dL_couldSo_79 : decode cL_couldSo 79 = .ok (.goto 4, 3) := by decide +kernel
theorem dL_couldSo_82 : decode cL_couldSo 82 = .ok (.iconst 0, 1) := by decide +kernel
theorem dL_couldSo_83 : decode cL_couldSo 83 = .ok (.ireturn, 1) := by decide +kernel
theorem dL_law_0 : decode cL_law 0 = .ok (.new 9, 3) := by decide +kernel
theorem dL_law_3 : decode cL_law 3 = .ok (.dup, 1) := by decide +kernel
theorem dL_law_4 : decode cL_law 4 = .ok (.invokespecial 71, 3) := by decide +kernel
theorem dL_law_7 : decode cL_law 7 = .ok (.astore_n 1, 1) := by decide +kernel
theorem dL_law_8 : decode cL_law 8 = .ok (.iconst 0, 1) := by decide +kernel
theorem dL_law_9 : decode cL_law 9 = .ok (.istore_n 2, 1) := by decide +kernel
theorem dL_law_10 : decode cL_law 10 = .ok (.iload_n 2, 1) := by decide +kernel
theorem dL_law_11 : decode cL_law 11 = .ok (.iconst 3, 1) := by decide +kernel
theorem dL_law_12 : decode cL_law 12 = .ok (.if_icmp .ge 14, 3) := by decide +kernel
theorem dL_law_15 : decode cL_law 15 = .ok (.aload_n 1, 1) := by decide +kernel
theorem dL_law_16 : decode cL_law 16 = .ok (.invokevirtual 23, 3) := by decide +kernel
theorem dL_law_19 : decode cL_law 19 = .ok (.istore_n 3, 1) := by decide +kernel
theorem dL_law_20 : decode cL_law 20 = .ok (.iinc 2 1, 3) := by decide +kernel
theorem dL_law_23 : decode cL_law 23 = .ok (.goto (-13), 3) := by decide +kernel
theorem dL_law_26 : decode cL_law 26 = .ok (.aload_n 1, 1) := by decide +kernel
theorem dL_law_27 : decode cL_law 27 = .ok (.invokevirtual 27, 3) := by decide +kernel
theorem dL_law_30 : decode cL_law 30 = .ok (.istore_n 2, 1) := by decide +kernel
theorem dL_law_31 : decode cL_law 31 = .ok (.iconst 0, 1) := by decide +kernel
theorem dL_law_32 : decode cL_law 32 = .ok (.istore_n 3, 1) := by decide +kernel
theorem dL_law_33 : decode cL_law 33 = .ok (.iload_n 3, 1) := by decide +kernel
theorem dL_law_34 : decode cL_law 34 = .ok (.bipush 52, 2) := by decide +kernel
theorem dL_law_36 : decode cL_law 36 = .ok (.if_icmp .ge 269, 3) := by decide +kernel
theorem dL_law_39 : decode cL_law 39 = .ok (.aload_n 0, 1) := by decide +kernel
theorem dL_law_40 : decode cL_law 40 = .ok (.iload_n 3, 1) := by decide +kernel
theorem dL_law_41 : decode cL_law 41 = .ok (.invokestatic 72, 3) := by decide +kernel
theorem dL_law_44 : decode cL_law 44 = .ok (.istore 4, 2) := by decide +kernel
theorem dL_law_46 : decode cL_law 46 = .ok (.aload_n 1, 1) := by decide +kernel
theorem dL_law_47 : decode cL_law 47 = .ok (.iconst 2, 1) := by decide +kernel
theorem dL_law_48 : decode cL_law 48 = .ok (.invokevirtual 8, 3) := by decide +kernel
theorem dL_law_51 : decode cL_law 51 = .ok (.istore 5, 2) := by decide +kernel
theorem dL_law_53 : decode cL_law 53 = .ok (.iload 4, 2) := by decide +kernel
theorem dL_law_55 : decode cL_law 55 = .ok (.iconst 4, 1) := by decide +kernel
theorem dL_law_56 : decode cL_law 56 = .ok (.ishr, 1) := by decide +kernel
theorem dL_law_57 : decode cL_law 57 = .ok (.iload 5, 2) := by decide +kernel
theorem dL_law_59 : decode cL_law 59 = .ok (.invokestatic 14, 3) := by decide +kernel
theorem dL_law_62 : decode cL_law 62 = .ok (.istore 6, 2) := by decide +kernel
theorem dL_law_64 : decode cL_law 64 = .ok (.iload 4, 2) := by decide +kernel
theorem dL_law_66 : decode cL_law 66 = .ok (.bipush 15, 2) := by decide +kernel
theorem dL_law_68 : decode cL_law 68 = .ok (.iand, 1) := by decide +kernel
theorem dL_law_69 : decode cL_law 69 = .ok (.bipush 8, 2) := by decide +kernel
theorem dL_law_71 : decode cL_law 71 = .ok (.if_icmp .le 38, 3) := by decide +kernel
theorem dL_law_74 : decode cL_law 74 = .ok (.iload 4, 2) := by decide +kernel
theorem dL_law_76 : decode cL_law 76 = .ok (.bipush 15, 2) := by decide +kernel
theorem dL_law_78 : decode cL_law 78 = .ok (.iand, 1) := by decide +kernel
theorem dL_law_79 : decode cL_law 79 = .ok (.bipush 12, 2) := by decide +kernel
theorem dL_law_81 : decode cL_law 81 = .ok (.if_icmp .ge 28, 3) := by decide +kernel
theorem dL_law_84 : decode cL_law 84 = .ok (.aload_n 1, 1) := by decide +kernel
theorem dL_law_85 : decode cL_law 85 = .ok (.iload 6, 2) := by decide +kernel
theorem dL_law_87 : decode cL_law 87 = .ok (.iconst 0, 1) := by decide +kernel
theorem dL_law_88 : decode cL_law 88 = .ok (.invokevirtual 20, 3) := by decide +kernel
theorem dL_law_91 : decode cL_law 91 = .ok (.iconst 2, 1) := by decide +kernel
theorem dL_law_92 : decode cL_law 92 = .ok (.if_icmp .ne 17, 3) := by decide +kernel
theorem dL_law_95 : decode cL_law 95 = .ok (.aload_n 1, 1) := by decide +kernel
theorem dL_law_96 : decode cL_law 96 = .ok (.iload 6, 2) := by decide +kernel
theorem dL_law_98 : decode cL_law 98 = .ok (.iconst 5, 1) := by decide +kernel
theorem dL_law_99 : decode cL_law 99 = .ok (.invokevirtual 20, 3) := by decide +kernel
theorem dL_law_102 : decode cL_law 102 = .ok (.ifCond .ne 7, 3) := by decide +kernel
theorem dL_law_105 : decode cL_law 105 = .ok (.iconst 1, 1) := by decide +kernel
theorem dL_law_106 : decode cL_law 106 = .ok (.goto 4, 3) := by decide +kernel
theorem dL_law_109 : decode cL_law 109 = .ok (.iconst 0, 1) := by decide +kernel
theorem dL_law_110 : decode cL_law 110 = .ok (.istore 7, 2) := by decide +kernel
theorem dL_law_112 : decode cL_law 112 = .ok (.iload 7, 2) := by decide +kernel
theorem dL_law_114 : decode cL_law 114 = .ok (.ifCond .eq 20, 3) := by decide +kernel
theorem dL_law_117 : decode cL_law 117 = .ok (.aload_n 1, 1) := by decide +kernel
theorem dL_law_118 : decode cL_law 118 = .ok (.iload 6, 2) := by decide +kernel
theorem dL_law_120 : decode cL_law 120 = .ok (.aload_n 1, 1) := by decide +kernel
theorem dL_law_121 : decode cL_law 121 = .ok (.iload 6, 2) := by decide +kernel
theorem dL_law_123 : decode cL_law 123 = .ok (.bipush 7, 2) := by decide +kernel
theorem dL_law_125 : decode cL_law 125 = .ok (.invokevirtual 20, 3) := by decide +kernel
theorem dL_law_128 : decode cL_law 128 = .ok (.invokevirtual 76, 3) := by decide +kernel
theorem dL_law_131 : decode cL_law 131 = .ok (.goto 4, 3) := by decide +kernel
theorem dL_law_134 : decode cL_law 134 = .ok (.iconst 0, 1) := by decide +kernel
theorem dL_law_135 : decode cL_law 135 = .ok (.istore 8, 2) := by decide +kernel
theorem dL_law_137 : decode cL_law 137 = .ok (.iload 7, 2) := by decide +kernel
theorem dL_law_139 : decode cL_law 139 = .ok (.ifCond .eq 13, 3) := by decide +kernel
theorem dL_law_142 : decode cL_law 142 = .ok (.aload_n 1, 1) := by decide +kernel
theorem dL_law_143 : decode cL_law 143 = .ok (.iload 6, 2) := by decide +kernel
theorem dL_law_145 : decode cL_law 145 = .ok (.iconst 3, 1) := by decide +kernel
theorem dL_law_146 : decode cL_law 146 = .ok (.invokevirtual 20, 3) := by decide +kernel
theorem dL_law_149 : decode cL_law 149 = .ok (.goto 4, 3) := by decide +kernel
theorem dL_law_152 : decode cL_law 152 = .ok (.iconst 0, 1) := by decide +kernel
theorem dL_law_153 : decode cL_law 153 = .ok (.istore 9, 2) := by decide +kernel
theorem dL_law_155 : decode cL_law 155 = .ok (.aload_n 1, 1) := by decide +kernel
theorem dL_law_156 : decode cL_law 156 = .ok (.iload 4, 2) := by decide +kernel
theorem dL_law_158 : decode cL_law 158 = .ok (.invokestatic 79, 3) := by decide +kernel
theorem dL_law_161 : decode cL_law 161 = .ok (.istore 10, 2) := by decide +kernel
theorem dL_law_163 : decode cL_law 163 = .ok (.iload 7, 2) := by decide +kernel
theorem dL_law_165 : decode cL_law 165 = .ok (.ifCond .eq 29, 3) := by decide +kernel
theorem dL_law_168 : decode cL_law 168 = .ok (.iload 10, 2) := by decide +kernel
theorem dL_law_170 : decode cL_law 170 = .ok (.iload 8, 2) := by decide +kernel
theorem dL_law_172 : decode cL_law 172 = .ok (.if_icmp .ne 43, 3) := by decide +kernel
theorem dL_law_175 : decode cL_law 175 = .ok (.iload 8, 2) := by decide +kernel
theorem dL_law_177 : decode cL_law 177 = .ok (.iload 9, 2) := by decide +kernel
theorem dL_law_179 : decode cL_law 179 = .ok (.if_icmp .eq 36, 3) := by decide +kernel
theorem dL_law_182 : decode cL_law 182 = .ok (.aload_n 1, 1) := by decide +kernel
theorem dL_law_183 : decode cL_law 183 = .ok (.iload 6, 2) := by decide +kernel
theorem dL_law_185 : decode cL_law 185 = .ok (.iconst 3, 1) := by decide +kernel
theorem dL_law_186 : decode cL_law 186 = .ok (.invokevirtual 20, 3) := by decide +kernel
theorem dL_law_189 : decode cL_law 189 = .ok (.iload 8, 2) := by decide +kernel
theorem dL_law_191 : decode cL_law 191 = .ok (.if_icmp .ne 24, 3) := by decide +kernel
theorem dL_law_194 : decode cL_law 194 = .ok (.aload_n 1, 1) := by decide +kernel
theorem dL_law_195 : decode cL_law 195 = .ok (.invokestatic 83, 3) := by decide +kernel
theorem dL_law_198 : decode cL_law 198 = .ok (.ifCond .eq 17, 3) := by decide +kernel
theorem dL_law_201 : decode cL_law 201 = .ok (.iload_n 3, 1) := by decide +kernel
theorem dL_law_202 : decode cL_law 202 = .ok (.iconst 3, 1) := by decide +kernel
theorem dL_law_203 : decode cL_law 203 = .ok (.irem, 1) := by decide +kernel
theorem dL_law_204 : decode cL_law 204 = .ok (.iconst 1, 1) := by decide +kernel
theorem dL_law_205 : decode cL_law 205 = .ok (.if_icmp .ne 12, 3) := by decide +kernel
theorem dL_law_208 : decode cL_law 208 = .ok (.aload_n 1, 1) := by decide +kernel
theorem dL_law_209 : decode cL_law 209 = .ok (.invokestatic 87, 3) := by decide +kernel
theorem dL_law_212 : decode cL_law 212 = .ok (.ifCond .ne 5, 3) := by decide +kernel
theorem dL_law_215 : decode cL_law 215 = .ok (.iconst 0, 1) := by decide +kernel
theorem dL_law_216 : decode cL_law 216 = .ok (.ireturn, 1) := by decide +kernel
theorem dL_law_217 : decode cL_law 217 = .ok (.iload_n 3, 1) := by decide +kernel
theorem dL_law_218 : decode cL_law 218 = .ok (.iconst 4, 1) := by decide +kernel
theorem dL_law_219 : decode cL_law 219 = .ok (.irem, 1) := by decide +kernel
theorem dL_law_220 : decode cL_law 220 = .ok (.iconst 2, 1) := by decide +kernel
theorem dL_law_221 : decode cL_law 221 = .ok (.if_icmp .ne 33, 3) := by decide +kernel
theorem dL_law_224 : decode cL_law 224 = .ok (.aload_n 1, 1) := by decide +kernel
theorem dL_law_225 : decode cL_law 225 = .ok (.iload 4, 2) := by decide +kernel
theorem dL_law_227 : decode cL_law 227 = .ok (.bipush 6, 2) := by decide +kernel
theorem dL_law_229 : decode cL_law 229 = .ok (.ishr, 1) := by decide +kernel
theorem dL_law_230 : decode cL_law 230 = .ok (.aload_n 1, 1) := by decide +kernel
theorem dL_law_231 : decode cL_law 231 = .ok (.iconst 1, 1) := by decide +kernel
theorem dL_law_232 : decode cL_law 232 = .ok (.invokevirtual 8, 3) := by decide +kernel
theorem dL_law_235 : decode cL_law 235 = .ok (.invokestatic 14, 3) := by decide +kernel
theorem dL_law_238 : decode cL_law 238 = .ok (.iload 4, 2) := by decide +kernel
theorem dL_law_240 : decode cL_law 240 = .ok (.bipush 9, 2) := by decide +kernel
theorem dL_law_242 : decode cL_law 242 = .ok (.ishr, 1) := by decide +kernel
theorem dL_law_243 : decode cL_law 243 = .ok (.bipush 10, 2) := by decide +kernel
theorem dL_law_245 : decode cL_law 245 = .ok (.invokestatic 14, 3) := by decide +kernel
theorem dL_law_248 : decode cL_law 248 = .ok (.invokestatic 90, 3) := by decide +kernel
theorem dL_law_251 : decode cL_law 251 = .ok (.ifCond .eq 46, 3) := by decide +kernel
theorem dL_law_254 : decode cL_law 254 = .ok (.iload_n 3, 1) := by decide +kernel
theorem dL_law_255 : decode cL_law 255 = .ok (.iconst 5, 1) := by decide +kernel
theorem dL_law_256 : decode cL_law 256 = .ok (.irem, 1) := by decide +kernel
theorem dL_law_257 : decode cL_law 257 = .ok (.iconst 3, 1) := by decide +kernel
theorem dL_law_258 : decode cL_law 258 = .ok (.if_icmp .ne 22, 3) := by decide +kernel
theorem dL_law_261 : decode cL_law 261 = .ok (.aload_n 1, 1) := by decide +kernel
theorem dL_law_262 : decode cL_law 262 = .ok (.iload 4, 2) := by decide +kernel
theorem dL_law_264 : decode cL_law 264 = .ok (.iconst 5, 1) := by decide +kernel
theorem dL_law_265 : decode cL_law 265 = .ok (.ishr, 1) := by decide +kernel
theorem dL_law_266 : decode cL_law 266 = .ok (.aload_n 1, 1) := by decide +kernel
theorem dL_law_267 : decode cL_law 267 = .ok (.iconst 2, 1) := by decide +kernel
theorem dL_law_268 : decode cL_law 268 = .ok (.invokevirtual 8, 3) := by decide +kernel
theorem dL_law_271 : decode cL_law 271 = .ok (.invokestatic 14, 3) := by decide +kernel
theorem dL_law_274 : decode cL_law 274 = .ok (.invokestatic 94, 3) := by decide +kernel
theorem dL_law_277 : decode cL_law 277 = .ok (.ifCond .eq 20, 3) := by decide +kernel
theorem dL_law_280 : decode cL_law 280 = .ok (.aload_n 1, 1) := by decide +kernel
theorem dL_law_281 : decode cL_law 281 = .ok (.iload 4, 2) := by decide +kernel
theorem dL_law_283 : decode cL_law 283 = .ok (.bipush 8, 2) := by decide +kernel
theorem dL_law_285 : decode cL_law 285 = .ok (.ishr, 1) := by decide +kernel
theorem dL_law_286 : decode cL_law 286 = .ok (.bipush 10, 2) := by decide +kernel
theorem dL_law_288 : decode cL_law 288 = .ok (.invokestatic 14, 3) := by decide +kernel
theorem dL_law_291 : decode cL_law 291 = .ok (.invokestatic 98, 3) := by decide +kernel
theorem dL_law_294 : decode cL_law 294 = .ok (.ifCond .ne 5, 3) := by decide +kernel
theorem dL_law_297 : decode cL_law 297 = .ok (.iconst 0, 1) := by decide +kernel
theorem dL_law_298 : decode cL_law 298 = .ok (.ireturn, 1) := by decide +kernel
theorem dL_law_299 : decode cL_law 299 = .ok (.iinc 3 1, 3) := by decide +kernel
theorem dL_law_302 : decode cL_law 302 = .ok (.goto (-269), 3) := by decide +kernel
theorem dL_law_305 : decode cL_law 305 = .ok (.iload_n 2, 1) := by decide +kernel
theorem dL_law_306 : decode cL_law 306 = .ok (.ifCond .ne 7, 3) := by decide +kernel
theorem dL_law_309 : decode cL_law 309 = .ok (.iconst 1, 1) := by decide +kernel
theorem dL_law_310 : decode cL_law 310 = .ok (.goto 4, 3) := by decide +kernel
theorem dL_law_313 : decode cL_law 313 = .ok (.iconst 0, 1) := by decide +kernel
theorem dL_law_314 : decode cL_law 314 = .ok (.ireturn, 1) := by decide +kernel
