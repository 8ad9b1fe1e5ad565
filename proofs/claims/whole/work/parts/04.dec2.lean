theorem dX5_quitFault_30 : decode cX5_quitFault 30 = .ok (.iconst 2, 1) := by decide +kernel
theorem dX5_quitFault_31 : decode cX5_quitFault 31 = .ok (.goto 4, 3) := by decide +kernel
theorem dX5_quitFault_34 : decode cX5_quitFault 34 = .ok (.iconst 0, 1) := by decide +kernel
theorem dX5_quitFault_35 : decode cX5_quitFault 35 = .ok (.ireturn, 1) := by decide +kernel
theorem dX5_quits_0 : decode cX5_quits 0 = .ok (.aload_n 0, 1) := by decide +kernel
theorem dX5_quits_1 : decode cX5_quits 1 = .ok (.iload_n 1, 1) := by decide +kernel
theorem dX5_quits_2 : decode cX5_quits 2 = .ok (.invokevirtual 106, 3) := by decide +kernel
theorem dX5_quits_5 : decode cX5_quits 5 = .ok (.istore_n 2, 1) := by decide +kernel
theorem dX5_quits_6 : decode cX5_quits 6 = .ok (.iload_n 2, 1) := by decide +kernel
theorem dX5_quits_7 : decode cX5_quits 7 = .ok (.iconst (-1), 1) := by decide +kernel
theorem dX5_quits_8 : decode cX5_quits 8 = .ok (.if_icmp .eq 21, 3) := by decide +kernel
theorem dX5_quits_11 : decode cX5_quits 11 = .ok (.iload_n 2, 1) := by decide +kernel
theorem dX5_quits_12 : decode cX5_quits 12 = .ok (.invokestatic 56, 3) := by decide +kernel
theorem dX5_quits_15 : decode cX5_quits 15 = .ok (.aload_n 0, 1) := by decide +kernel
theorem dX5_quits_16 : decode cX5_quits 16 = .ok (.getfield 7, 3) := by decide +kernel
theorem dX5_quits_19 : decode cX5_quits 19 = .ok (.bipush 7, 2) := by decide +kernel
theorem dX5_quits_21 : decode cX5_quits 21 = .ok (.iaload, 1) := by decide +kernel
theorem dX5_quits_22 : decode cX5_quits 22 = .ok (.if_icmp .ge 7, 3) := by decide +kernel
theorem dX5_quits_25 : decode cX5_quits 25 = .ok (.iconst 0, 1) := by decide +kernel
theorem dX5_quits_26 : decode cX5_quits 26 = .ok (.goto 14, 3) := by decide +kernel
theorem dX5_quits_29 : decode cX5_quits 29 = .ok (.aload_n 0, 1) := by decide +kernel
theorem dX5_quits_30 : decode cX5_quits 30 = .ok (.getfield 7, 3) := by decide +kernel
theorem dX5_quits_33 : decode cX5_quits 33 = .ok (.iload_n 1, 1) := by decide +kernel
theorem dX5_quits_34 : decode cX5_quits 34 = .ok (.bipush 8, 2) := by decide +kernel
theorem dX5_quits_36 : decode cX5_quits 36 = .ok (.invokestatic 69, 3) := by decide +kernel
theorem dX5_quits_39 : decode cX5_quits 39 = .ok (.iaload, 1) := by decide +kernel
theorem dX5_quits_40 : decode cX5_quits 40 = .ok (.istore_n 3, 1) := by decide +kernel
theorem dX5_quits_41 : decode cX5_quits 41 = .ok (.iload_n 2, 1) := by decide +kernel
theorem dX5_quits_42 : decode cX5_quits 42 = .ok (.iconst (-1), 1) := by decide +kernel
theorem dX5_quits_43 : decode cX5_quits 43 = .ok (.if_icmp .eq 13, 3) := by decide +kernel
theorem dX5_quits_46 : decode cX5_quits 46 = .ok (.aload_n 0, 1) := by decide +kernel
theorem dX5_quits_47 : decode cX5_quits 47 = .ok (.getfield 7, 3) := by decide +kernel
theorem dX5_quits_50 : decode cX5_quits 50 = .ok (.iload_n 2, 1) := by decide +kernel
theorem dX5_quits_51 : decode cX5_quits 51 = .ok (.invokestatic 66, 3) := by decide +kernel
theorem dX5_quits_54 : decode cX5_quits 54 = .ok (.iconst (-1), 1) := by decide +kernel
theorem dX5_quits_55 : decode cX5_quits 55 = .ok (.iastore, 1) := by decide +kernel
theorem dX5_quits_56 : decode cX5_quits 56 = .ok (.aload_n 0, 1) := by decide +kernel
theorem dX5_quits_57 : decode cX5_quits 57 = .ok (.getfield 7, 3) := by decide +kernel
theorem dX5_quits_60 : decode cX5_quits 60 = .ok (.iload_n 1, 1) := by decide +kernel
theorem dX5_quits_61 : decode cX5_quits 61 = .ok (.iconst 0, 1) := by decide +kernel
theorem dX5_quits_62 : decode cX5_quits 62 = .ok (.invokestatic 69, 3) := by decide +kernel
theorem dX5_quits_65 : decode cX5_quits 65 = .ok (.iconst 0, 1) := by decide +kernel
theorem dX5_quits_66 : decode cX5_quits 66 = .ok (.iastore, 1) := by decide +kernel
theorem dX5_quits_67 : decode cX5_quits 67 = .ok (.aload_n 0, 1) := by decide +kernel
theorem dX5_quits_68 : decode cX5_quits 68 = .ok (.getfield 7, 3) := by decide +kernel
theorem dX5_quits_71 : decode cX5_quits 71 = .ok (.iload_n 1, 1) := by decide +kernel
theorem dX5_quits_72 : decode cX5_quits 72 = .ok (.bipush 7, 2) := by decide +kernel
theorem dX5_quits_74 : decode cX5_quits 74 = .ok (.invokestatic 69, 3) := by decide +kernel
theorem dX5_quits_77 : decode cX5_quits 77 = .ok (.dup2, 1) := by decide +kernel
theorem dX5_quits_78 : decode cX5_quits 78 = .ok (.iaload, 1) := by decide +kernel
theorem dX5_quits_79 : decode cX5_quits 79 = .ok (.iload_n 3, 1) := by decide +kernel
theorem dX5_quits_80 : decode cX5_quits 80 = .ok (.isub, 1) := by decide +kernel
theorem dX5_quits_81 : decode cX5_quits 81 = .ok (.iastore, 1) := by decide +kernel
theorem dX5_quits_82 : decode cX5_quits 82 = .ok (.aload_n 0, 1) := by decide +kernel
theorem dX5_quits_83 : decode cX5_quits 83 = .ok (.invokevirtual 96, 3) := by decide +kernel
theorem dX5_quits_86 : decode cX5_quits 86 = .ok (.iload_n 3, 1) := by decide +kernel
theorem dX5_quits_87 : decode cX5_quits 87 = .ok (.ireturn, 1) := by decide +kernel
theorem dX5_quit_0 : decode cX5_quit 0 = .ok (.aload_n 0, 1) := by decide +kernel
theorem dX5_quit_1 : decode cX5_quit 1 = .ok (.aload_n 0, 1) := by decide +kernel
theorem dX5_quit_2 : decode cX5_quit 2 = .ok (.iload_n 1, 1) := by decide +kernel
theorem dX5_quit_3 : decode cX5_quit 3 = .ok (.invokevirtual 115, 3) := by decide +kernel
theorem dX5_quit_6 : decode cX5_quit 6 = .ok (.invokevirtual 86, 3) := by decide +kernel
theorem dX5_quit_9 : decode cX5_quit 9 = .ok (.ifCond .ne 5, 3) := by decide +kernel
theorem dX5_quit_12 : decode cX5_quit 12 = .ok (.iconst 0, 1) := by decide +kernel
theorem dX5_quit_13 : decode cX5_quit 13 = .ok (.ireturn, 1) := by decide +kernel
theorem dX5_quit_14 : decode cX5_quit 14 = .ok (.aload_n 0, 1) := by decide +kernel
theorem dX5_quit_15 : decode cX5_quit 15 = .ok (.invokevirtual 90, 3) := by decide +kernel
theorem dX5_quit_18 : decode cX5_quit 18 = .ok (.aload_n 0, 1) := by decide +kernel
theorem dX5_quit_19 : decode cX5_quit 19 = .ok (.iload_n 1, 1) := by decide +kernel
theorem dX5_quit_20 : decode cX5_quit 20 = .ok (.invokevirtual 118, 3) := by decide +kernel
theorem dX5_quit_23 : decode cX5_quit 23 = .ok (.ireturn, 1) := by decide +kernel
theorem dX5_cancelFault_0 : decode cX5_cancelFault 0 = .ok (.aload_n 0, 1) := by decide +kernel
theorem dX5_cancelFault_1 : decode cX5_cancelFault 1 = .ok (.iload_n 1, 1) := by decide +kernel
theorem dX5_cancelFault_2 : decode cX5_cancelFault 2 = .ok (.invokevirtual 121, 3) := by decide +kernel
theorem dX5_cancelFault_5 : decode cX5_cancelFault 5 = .ok (.ifCond .ne 7, 3) := by decide +kernel
theorem dX5_cancelFault_8 : decode cX5_cancelFault 8 = .ok (.iconst 1, 1) := by decide +kernel
theorem dX5_cancelFault_9 : decode cX5_cancelFault 9 = .ok (.goto 18, 3) := by decide +kernel
theorem dX5_cancelFault_12 : decode cX5_cancelFault 12 = .ok (.iload_n 2, 1) := by decide +kernel
theorem dX5_cancelFault_13 : decode cX5_cancelFault 13 = .ok (.iconst 0, 1) := by decide +kernel
theorem dX5_cancelFault_14 : decode cX5_cancelFault 14 = .ok (.bipush 9, 2) := by decide +kernel
theorem dX5_cancelFault_16 : decode cX5_cancelFault 16 = .ok (.invokestatic 45, 3) := by decide +kernel
theorem dX5_cancelFault_19 : decode cX5_cancelFault 19 = .ok (.ifCond .ne 7, 3) := by decide +kernel
theorem dX5_cancelFault_22 : decode cX5_cancelFault 22 = .ok (.iconst 2, 1) := by decide +kernel
theorem dX5_cancelFault_23 : decode cX5_cancelFault 23 = .ok (.goto 4, 3) := by decide +kernel
theorem dX5_cancelFault_26 : decode cX5_cancelFault 26 = .ok (.iconst 0, 1) := by decide +kernel
theorem dX5_cancelFault_27 : decode cX5_cancelFault 27 = .ok (.ireturn, 1) := by decide +kernel
theorem dX5_cancels_0 : decode cX5_cancels 0 = .ok (.iconst 0, 1) := by decide +kernel
theorem dX5_cancels_1 : decode cX5_cancels 1 = .ok (.istore_n 3, 1) := by decide +kernel
theorem dX5_cancels_2 : decode cX5_cancels 2 = .ok (.iconst 0, 1) := by decide +kernel
theorem dX5_cancels_3 : decode cX5_cancels 3 = .ok (.istore 4, 2) := by decide +kernel
theorem dX5_cancels_5 : decode cX5_cancels 5 = .ok (.iload 4, 2) := by decide +kernel
theorem dX5_cancels_7 : decode cX5_cancels 7 = .ok (.iconst 2, 1) := by decide +kernel
theorem dX5_cancels_8 : decode cX5_cancels 8 = .ok (.if_icmp .ge 66, 3) := by decide +kernel
theorem dX5_cancels_11 : decode cX5_cancels 11 = .ok (.aload_n 0, 1) := by decide +kernel
theorem dX5_cancels_12 : decode cX5_cancels 12 = .ok (.getfield 7, 3) := by decide +kernel
theorem dX5_cancels_15 : decode cX5_cancels 15 = .ok (.iload_n 1, 1) := by decide +kernel
theorem dX5_cancels_16 : decode cX5_cancels 16 = .ok (.iload_n 2, 1) := by decide +kernel
theorem dX5_cancels_17 : decode cX5_cancels 17 = .ok (.iload 4, 2) := by decide +kernel
theorem dX5_cancels_19 : decode cX5_cancels 19 = .ok (.invokestatic 62, 3) := by decide +kernel
theorem dX5_cancels_22 : decode cX5_cancels 22 = .ok (.iaload, 1) := by decide +kernel
theorem dX5_cancels_23 : decode cX5_cancels 23 = .ok (.istore 5, 2) := by decide +kernel
theorem dX5_cancels_25 : decode cX5_cancels 25 = .ok (.aload_n 0, 1) := by decide +kernel
theorem dX5_cancels_26 : decode cX5_cancels 26 = .ok (.getfield 7, 3) := by decide +kernel
theorem dX5_cancels_29 : decode cX5_cancels 29 = .ok (.iload_n 1, 1) := by decide +kernel
theorem dX5_cancels_30 : decode cX5_cancels 30 = .ok (.iload_n 2, 1) := by decide +kernel
theorem dX5_cancels_31 : decode cX5_cancels 31 = .ok (.iload 4, 2) := by decide +kernel
theorem dX5_cancels_33 : decode cX5_cancels 33 = .ok (.invokestatic 62, 3) := by decide +kernel
theorem dX5_cancels_36 : decode cX5_cancels 36 = .ok (.bipush (-2), 2) := by decide +kernel
theorem dX5_cancels_38 : decode cX5_cancels 38 = .ok (.iastore, 1) := by decide +kernel
theorem dX5_cancels_39 : decode cX5_cancels 39 = .ok (.iload 5, 2) := by decide +kernel
theorem dX5_cancels_41 : decode cX5_cancels 41 = .ok (.ifCond .lt 27, 3) := by decide +kernel
theorem dX5_cancels_44 : decode cX5_cancels 44 = .ok (.aload_n 0, 1) := by decide +kernel
theorem dX5_cancels_45 : decode cX5_cancels 45 = .ok (.getfield 7, 3) := by decide +kernel
theorem dX5_cancels_48 : decode cX5_cancels 48 = .ok (.iload 5, 2) := by decide +kernel
theorem dX5_cancels_50 : decode cX5_cancels 50 = .ok (.iconst 5, 1) := by decide +kernel
theorem dX5_cancels_51 : decode cX5_cancels 51 = .ok (.invokestatic 69, 3) := by decide +kernel
theorem dX5_cancels_54 : decode cX5_cancels 54 = .ok (.dup2, 1) := by decide +kernel
theorem dX5_cancels_55 : decode cX5_cancels 55 = .ok (.iaload, 1) := by decide +kernel
theorem dX5_cancels_56 : decode cX5_cancels 56 = .ok (.iconst 1, 1) := by decide +kernel
theorem dX5_cancels_57 : decode cX5_cancels 57 = .ok (.iadd, 1) := by decide +kernel
theorem dX5_cancels_58 : decode cX5_cancels 58 = .ok (.iastore, 1) := by decide +kernel
theorem dX5_cancels_59 : decode cX5_cancels 59 = .ok (.aload_n 0, 1) := by decide +kernel
theorem dX5_cancels_60 : decode cX5_cancels 60 = .ok (.iload 5, 2) := by decide +kernel
theorem dX5_cancels_62 : decode cX5_cancels 62 = .ok (.invokevirtual 102, 3) := by decide +kernel
theorem dX5_cancels_65 : decode cX5_cancels 65 = .ok (.iinc 3 1, 3) := by decide +kernel
theorem dX5_cancels_68 : decode cX5_cancels 68 = .ok (.iinc 4 1, 3) := by decide +kernel
theorem dX5_cancels_71 : decode cX5_cancels 71 = .ok (.goto (-66), 3) := by decide +kernel
theorem dX5_cancels_74 : decode cX5_cancels 74 = .ok (.aload_n 0, 1) := by decide +kernel
theorem dX5_cancels_75 : decode cX5_cancels 75 = .ok (.getfield 7, 3) := by decide +kernel
theorem dX5_cancels_78 : decode cX5_cancels 78 = .ok (.iload_n 1, 1) := by decide +kernel
theorem dX5_cancels_79 : decode cX5_cancels 79 = .ok (.iconst 2, 1) := by decide +kernel
theorem dX5_cancels_80 : decode cX5_cancels 80 = .ok (.invokestatic 93, 3) := by decide +kernel
theorem dX5_cancels_83 : decode cX5_cancels 83 = .ok (.dup2, 1) := by decide +kernel
theorem dX5_cancels_84 : decode cX5_cancels 84 = .ok (.iaload, 1) := by decide +kernel
theorem dX5_cancels_85 : decode cX5_cancels 85 = .ok (.iconst 1, 1) := by decide +kernel
theorem dX5_cancels_86 : decode cX5_cancels 86 = .ok (.iadd, 1) := by decide +kernel
theorem dX5_cancels_87 : decode cX5_cancels 87 = .ok (.iastore, 1) := by decide +kernel
theorem dX5_cancels_88 : decode cX5_cancels 88 = .ok (.aload_n 0, 1) := by decide +kernel
theorem dX5_cancels_89 : decode cX5_cancels 89 = .ok (.invokevirtual 96, 3) := by decide +kernel
theorem dX5_cancels_92 : decode cX5_cancels 92 = .ok (.iload_n 3, 1) := by decide +kernel
theorem dX5_cancels_93 : decode cX5_cancels 93 = .ok (.ireturn, 1) := by decide +kernel
theorem dX5_cancel_0 : decode cX5_cancel 0 = .ok (.aload_n 0, 1) := by decide +kernel
theorem dX5_cancel_1 : decode cX5_cancel 1 = .ok (.aload_n 0, 1) := by decide +kernel
theorem dX5_cancel_2 : decode cX5_cancel 2 = .ok (.iload_n 1, 1) := by decide +kernel
theorem dX5_cancel_3 : decode cX5_cancel 3 = .ok (.iload_n 2, 1) := by decide +kernel
theorem dX5_cancel_4 : decode cX5_cancel 4 = .ok (.invokevirtual 124, 3) := by decide +kernel
theorem dX5_cancel_7 : decode cX5_cancel 7 = .ok (.invokevirtual 86, 3) := by decide +kernel
theorem dX5_cancel_10 : decode cX5_cancel 10 = .ok (.ifCond .ne 5, 3) := by decide +kernel
theorem dX5_cancel_13 : decode cX5_cancel 13 = .ok (.iconst 0, 1) := by decide +kernel
theorem dX5_cancel_14 : decode cX5_cancel 14 = .ok (.ireturn, 1) := by decide +kernel
theorem dX5_cancel_15 : decode cX5_cancel 15 = .ok (.aload_n 0, 1) := by decide +kernel
theorem dX5_cancel_16 : decode cX5_cancel 16 = .ok (.invokevirtual 90, 3) := by decide +kernel
theorem dX5_cancel_19 : decode cX5_cancel 19 = .ok (.aload_n 0, 1) := by decide +kernel
theorem dX5_cancel_20 : decode cX5_cancel 20 = .ok (.iload_n 1, 1) := by decide +kernel
theorem dX5_cancel_21 : decode cX5_cancel 21 = .ok (.iload_n 2, 1) := by decide +kernel
theorem dX5_cancel_22 : decode cX5_cancel 22 = .ok (.invokevirtual 127, 3) := by decide +kernel
theorem dX5_cancel_25 : decode cX5_cancel 25 = .ok (.ireturn, 1) := by decide +kernel
theorem dX5_routeFor_0 : decode cX5_routeFor 0 = .ok (.iconst (-1), 1) := by decide +kernel
theorem dX5_routeFor_1 : decode cX5_routeFor 1 = .ok (.istore_n 3, 1) := by decide +kernel
theorem dX5_routeFor_2 : decode cX5_routeFor 2 = .ok (.iconst 0, 1) := by decide +kernel
theorem dX5_routeFor_3 : decode cX5_routeFor 3 = .ok (.istore 4, 2) := by decide +kernel
theorem dX5_routeFor_5 : decode cX5_routeFor 5 = .ok (.iload 4, 2) := by decide +kernel
theorem dX5_routeFor_7 : decode cX5_routeFor 7 = .ok (.iconst 4, 1) := by decide +kernel
theorem dX5_routeFor_8 : decode cX5_routeFor 8 = .ok (.if_icmp .ge 80, 3) := by decide +kernel
theorem dX5_routeFor_11 : decode cX5_routeFor 11 = .ok (.aload_n 0, 1) := by decide +kernel
theorem dX5_routeFor_12 : decode cX5_routeFor 12 = .ok (.getfield 7, 3) := by decide +kernel
theorem dX5_routeFor_15 : decode cX5_routeFor 15 = .ok (.iload_n 2, 1) := by decide +kernel
theorem dX5_routeFor_16 : decode cX5_routeFor 16 = .ok (.iconst 3, 1) := by decide +kernel
theorem dX5_routeFor_17 : decode cX5_routeFor 17 = .ok (.iload 4, 2) := by decide +kernel
theorem dX5_routeFor_19 : decode cX5_routeFor 19 = .ok (.iadd, 1) := by decide +kernel
theorem dX5_routeFor_20 : decode cX5_routeFor 20 = .ok (.invokestatic 93, 3) := by decide +kernel
theorem dX5_routeFor_23 : decode cX5_routeFor 23 = .ok (.iaload, 1) := by decide +kernel
theorem dX5_routeFor_24 : decode cX5_routeFor 24 = .ok (.istore 5, 2) := by decide +kernel
theorem dX5_routeFor_26 : decode cX5_routeFor 26 = .ok (.iload_n 3, 1) := by decide +kernel
theorem dX5_routeFor_27 : decode cX5_routeFor 27 = .ok (.iconst (-1), 1) := by decide +kernel
theorem dX5_routeFor_28 : decode cX5_routeFor 28 = .ok (.if_icmp .eq 20, 3) := by decide +kernel
theorem dX5_routeFor_31 : decode cX5_routeFor 31 = .ok (.iload 5, 2) := by decide +kernel
theorem dX5_routeFor_33 : decode cX5_routeFor 33 = .ok (.aload_n 0, 1) := by decide +kernel
theorem dX5_routeFor_34 : decode cX5_routeFor 34 = .ok (.getfield 7, 3) := by decide +kernel
theorem dX5_routeFor_37 : decode cX5_routeFor 37 = .ok (.iload_n 2, 1) := by decide +kernel
theorem dX5_routeFor_38 : decode cX5_routeFor 38 = .ok (.iconst 3, 1) := by decide +kernel
theorem dX5_routeFor_39 : decode cX5_routeFor 39 = .ok (.iload_n 3, 1) := by decide +kernel
theorem dX5_routeFor_40 : decode cX5_routeFor 40 = .ok (.iadd, 1) := by decide +kernel
theorem dX5_routeFor_41 : decode cX5_routeFor 41 = .ok (.invokestatic 93, 3) := by decide +kernel
theorem dX5_routeFor_44 : decode cX5_routeFor 44 = .ok (.iaload, 1) := by decide +kernel
theorem dX5_routeFor_45 : decode cX5_routeFor 45 = .ok (.if_icmp .ge 7, 3) := by decide +kernel
theorem dX5_routeFor_48 : decode cX5_routeFor 48 = .ok (.iconst 1, 1) := by decide +kernel
theorem dX5_routeFor_49 : decode cX5_routeFor 49 = .ok (.goto 4, 3) := by decide +kernel
theorem dX5_routeFor_52 : decode cX5_routeFor 52 = .ok (.iconst 0, 1) := by decide +kernel
theorem dX5_routeFor_53 : decode cX5_routeFor 53 = .ok (.istore 6, 2) := by decide +kernel
theorem dX5_routeFor_55 : decode cX5_routeFor 55 = .ok (.iload 4, 2) := by decide +kernel
theorem dX5_routeFor_57 : decode cX5_routeFor 57 = .ok (.aload_n 0, 1) := by decide +kernel
theorem dX5_routeFor_58 : decode cX5_routeFor 58 = .ok (.getfield 7, 3) := by decide +kernel
theorem dX5_routeFor_61 : decode cX5_routeFor 61 = .ok (.iload_n 1, 1) := by decide +kernel
theorem dX5_routeFor_62 : decode cX5_routeFor 62 = .ok (.iconst 3, 1) := by decide +kernel
theorem dX5_routeFor_63 : decode cX5_routeFor 63 = .ok (.invokestatic 69, 3) := by decide +kernel
theorem dX5_routeFor_66 : decode cX5_routeFor 66 = .ok (.iaload, 1) := by decide +kernel
theorem dX5_routeFor_67 : decode cX5_routeFor 67 = .ok (.if_icmp .eq 13, 3) := by decide +kernel
theorem dX5_routeFor_70 : decode cX5_routeFor 70 = .ok (.iload 6, 2) := by decide +kernel
theorem dX5_routeFor_72 : decode cX5_routeFor 72 = .ok (.ifCond .eq 8, 3) := by decide +kernel
theorem dX5_routeFor_75 : decode cX5_routeFor 75 = .ok (.iload 4, 2) := by decide +kernel
theorem dX5_routeFor_77 : decode cX5_routeFor 77 = .ok (.goto 4, 3) := by decide +kernel
theorem dX5_routeFor_80 : decode cX5_routeFor 80 = .ok (.iload_n 3, 1) := by decide +kernel
theorem dX5_routeFor_81 : decode cX5_routeFor 81 = .ok (.istore_n 3, 1) := by decide +kernel
theorem dX5_routeFor_82 : decode cX5_routeFor 82 = .ok (.iinc 4 1, 3) := by decide +kernel
theorem dX5_routeFor_85 : decode cX5_routeFor 85 = .ok (.goto (-80), 3) := by decide +kernel
theorem dX5_routeFor_88 : decode cX5_routeFor 88 = .ok (.iload_n 3, 1) := by decide +kernel
theorem dX5_routeFor_89 : decode cX5_routeFor 89 = .ok (.ireturn, 1) := by decide +kernel
theorem dX5_testFault_0 : decode cX5_testFault 0 = .ok (.aload_n 0, 1) := by decide +kernel
theorem dX5_testFault_1 : decode cX5_testFault 1 = .ok (.iload_n 1, 1) := by decide +kernel
theorem dX5_testFault_2 : decode cX5_testFault 2 = .ok (.invokevirtual 99, 3) := by decide +kernel
theorem dX5_testFault_5 : decode cX5_testFault 5 = .ok (.ifCond .ne 5, 3) := by decide +kernel
theorem dX5_testFault_8 : decode cX5_testFault 8 = .ok (.iconst 1, 1) := by decide +kernel
theorem dX5_testFault_9 : decode cX5_testFault 9 = .ok (.ireturn, 1) := by decide +kernel
theorem dX5_testFault_10 : decode cX5_testFault 10 = .ok (.aload_n 0, 1) := by decide +kernel
theorem dX5_testFault_11 : decode cX5_testFault 11 = .ok (.iload_n 1, 1) := by decide +kernel
theorem dX5_testFault_12 : decode cX5_testFault 12 = .ok (.invokevirtual 106, 3) := by decide +kernel
theorem dX5_testFault_15 : decode cX5_testFault 15 = .ok (.istore_n 2, 1) := by decide +kernel
theorem dX5_testFault_16 : decode cX5_testFault 16 = .ok (.iload_n 2, 1) := by decide +kernel
theorem dX5_testFault_17 : decode cX5_testFault 17 = .ok (.iconst (-1), 1) := by decide +kernel
theorem dX5_testFault_18 : decode cX5_testFault 18 = .ok (.if_icmp .eq 10, 3) := by decide +kernel
theorem dX5_testFault_21 : decode cX5_testFault 21 = .ok (.iload_n 2, 1) := by decide +kernel
theorem dX5_testFault_22 : decode cX5_testFault 22 = .ok (.invokestatic 56, 3) := by decide +kernel
theorem dX5_testFault_25 : decode cX5_testFault 25 = .ok (.ifCond .le 7, 3) := by decide +kernel
theorem dX5_testFault_28 : decode cX5_testFault 28 = .ok (.iconst 2, 1) := by decide +kernel
theorem dX5_testFault_29 : decode cX5_testFault 29 = .ok (.goto 4, 3) := by decide +kernel
theorem dX5_testFault_32 : decode cX5_testFault 32 = .ok (.iconst 0, 1) := by decide +kernel
theorem dX5_testFault_33 : decode cX5_testFault 33 = .ok (.ireturn, 1) := by decide +kernel
theorem dX5_tests_0 : decode cX5_tests 0 = .ok (.aload_n 0, 1) := by decide +kernel
theorem dX5_tests_1 : decode cX5_tests 1 = .ok (.iload_n 1, 1) := by decide +kernel
theorem dX5_tests_2 : decode cX5_tests 2 = .ok (.invokevirtual 106, 3) := by decide +kernel
theorem dX5_tests_5 : decode cX5_tests 5 = .ok (.istore_n 3, 1) := by decide +kernel
theorem dX5_tests_6 : decode cX5_tests 6 = .ok (.iload_n 3, 1) := by decide +kernel
theorem dX5_tests_7 : decode cX5_tests 7 = .ok (.invokestatic 52, 3) := by decide +kernel
theorem dX5_tests_10 : decode cX5_tests 10 = .ok (.istore 4, 2) := by decide +kernel
theorem dX5_tests_12 : decode cX5_tests 12 = .ok (.aload_n 0, 1) := by decide +kernel
theorem dX5_tests_13 : decode cX5_tests 13 = .ok (.iload_n 1, 1) := by decide +kernel
theorem dX5_tests_14 : decode cX5_tests 14 = .ok (.iload 4, 2) := by decide +kernel
theorem dX5_tests_16 : decode cX5_tests 16 = .ok (.invokevirtual 130, 3) := by decide +kernel
theorem dX5_tests_19 : decode cX5_tests 19 = .ok (.istore 5, 2) := by decide +kernel
theorem dX5_tests_21 : decode cX5_tests 21 = .ok (.aload_n 0, 1) := by decide +kernel
theorem dX5_tests_22 : decode cX5_tests 22 = .ok (.getfield 7, 3) := by decide +kernel
theorem dX5_tests_25 : decode cX5_tests 25 = .ok (.iload_n 3, 1) := by decide +kernel
theorem dX5_tests_26 : decode cX5_tests 26 = .ok (.invokestatic 66, 3) := by decide +kernel
theorem dX5_tests_29 : decode cX5_tests 29 = .ok (.bipush (-2), 2) := by decide +kernel
theorem dX5_tests_31 : decode cX5_tests 31 = .ok (.iastore, 1) := by decide +kernel
theorem dX5_tests_32 : decode cX5_tests 32 = .ok (.aload_n 0, 1) := by decide +kernel
theorem dX5_tests_33 : decode cX5_tests 33 = .ok (.getfield 7, 3) := by decide +kernel
theorem dX5_tests_36 : decode cX5_tests 36 = .ok (.iload 4, 2) := by decide +kernel
theorem dX5_tests_38 : decode cX5_tests 38 = .ok (.iconst 0, 1) := by decide +kernel
theorem dX5_tests_39 : decode cX5_tests 39 = .ok (.invokestatic 93, 3) := by decide +kernel
theorem dX5_tests_42 : decode cX5_tests 42 = .ok (.dup2, 1) := by decide +kernel
theorem dX5_tests_43 : decode cX5_tests 43 = .ok (.iaload, 1) := by decide +kernel
theorem dX5_tests_44 : decode cX5_tests 44 = .ok (.iconst 1, 1) := by decide +kernel
theorem dX5_tests_45 : decode cX5_tests 45 = .ok (.iadd, 1) := by decide +kernel
theorem dX5_tests_46 : decode cX5_tests 46 = .ok (.iastore, 1) := by decide +kernel
theorem dX5_tests_47 : decode cX5_tests 47 = .ok (.aload_n 0, 1) := by decide +kernel
theorem dX5_tests_48 : decode cX5_tests 48 = .ok (.getfield 7, 3) := by decide +kernel
theorem dX5_tests_51 : decode cX5_tests 51 = .ok (.iload 4, 2) := by decide +kernel
theorem dX5_tests_53 : decode cX5_tests 53 = .ok (.iconst 3, 1) := by decide +kernel
theorem dX5_tests_54 : decode cX5_tests 54 = .ok (.iload 5, 2) := by decide +kernel
theorem dX5_tests_56 : decode cX5_tests 56 = .ok (.iadd, 1) := by decide +kernel
theorem dX5_tests_57 : decode cX5_tests 57 = .ok (.invokestatic 93, 3) := by decide +kernel
theorem dX5_tests_60 : decode cX5_tests 60 = .ok (.dup2, 1) := by decide +kernel
theorem dX5_tests_61 : decode cX5_tests 61 = .ok (.iaload, 1) := by decide +kernel
theorem dX5_tests_62 : decode cX5_tests 62 = .ok (.iconst 1, 1) := by decide +kernel
theorem dX5_tests_63 : decode cX5_tests 63 = .ok (.iadd, 1) := by decide +kernel
theorem dX5_tests_64 : decode cX5_tests 64 = .ok (.iastore, 1) := by decide +kernel
theorem dX5_tests_65 : decode cX5_tests 65 = .ok (.aload_n 0, 1) := by decide +kernel
theorem dX5_tests_66 : decode cX5_tests 66 = .ok (.getfield 7, 3) := by decide +kernel
theorem dX5_tests_69 : decode cX5_tests 69 = .ok (.iload_n 1, 1) := by decide +kernel
theorem dX5_tests_70 : decode cX5_tests 70 = .ok (.iconst 3, 1) := by decide +kernel
theorem dX5_tests_71 : decode cX5_tests 71 = .ok (.invokestatic 69, 3) := by decide +kernel
theorem dX5_tests_74 : decode cX5_tests 74 = .ok (.iload 5, 2) := by decide +kernel
theorem dX5_tests_76 : decode cX5_tests 76 = .ok (.iastore, 1) := by decide +kernel
theorem dX5_tests_77 : decode cX5_tests 77 = .ok (.aload_n 0, 1) := by decide +kernel
theorem dX5_tests_78 : decode cX5_tests 78 = .ok (.getfield 7, 3) := by decide +kernel
theorem dX5_tests_81 : decode cX5_tests 81 = .ok (.iload_n 1, 1) := by decide +kernel
theorem dX5_tests_82 : decode cX5_tests 82 = .ok (.iconst 4, 1) := by decide +kernel
theorem dX5_tests_83 : decode cX5_tests 83 = .ok (.invokestatic 69, 3) := by decide +kernel
theorem dX5_tests_86 : decode cX5_tests 86 = .ok (.iload 4, 2) := by decide +kernel
theorem dX5_tests_88 : decode cX5_tests 88 = .ok (.iastore, 1) := by decide +kernel
theorem dX5_tests_89 : decode cX5_tests 89 = .ok (.iload_n 2, 1) := by decide +kernel
theorem dX5_tests_90 : decode cX5_tests 90 = .ok (.ifCond .eq 32, 3) := by decide +kernel
theorem dX5_tests_93 : decode cX5_tests 93 = .ok (.aload_n 0, 1) := by decide +kernel
theorem dX5_tests_94 : decode cX5_tests 94 = .ok (.getfield 7, 3) := by decide +kernel
theorem dX5_tests_97 : decode cX5_tests 97 = .ok (.iload 4, 2) := by decide +kernel
theorem dX5_tests_99 : decode cX5_tests 99 = .ok (.iconst 1, 1) := by decide +kernel
theorem dX5_tests_100 : decode cX5_tests 100 = .ok (.invokestatic 93, 3) := by decide +kernel
theorem dX5_tests_103 : decode cX5_tests 103 = .ok (.dup2, 1) := by decide +kernel
theorem dX5_tests_104 : decode cX5_tests 104 = .ok (.iaload, 1) := by decide +kernel
theorem dX5_tests_105 : decode cX5_tests 105 = .ok (.iconst 1, 1) := by decide +kernel
theorem dX5_tests_106 : decode cX5_tests 106 = .ok (.iadd, 1) := by decide +kernel
theorem dX5_tests_107 : decode cX5_tests 107 = .ok (.iastore, 1) := by decide +kernel
theorem dX5_tests_108 : decode cX5_tests 108 = .ok (.aload_n 0, 1) := by decide +kernel
theorem dX5_tests_109 : decode cX5_tests 109 = .ok (.getfield 7, 3) := by decide +kernel
theorem dX5_tests_112 : decode cX5_tests 112 = .ok (.iload_n 1, 1) := by decide +kernel
theorem dX5_tests_113 : decode cX5_tests 113 = .ok (.iconst 0, 1) := by decide +kernel
theorem dX5_tests_114 : decode cX5_tests 114 = .ok (.invokestatic 69, 3) := by decide +kernel
theorem dX5_tests_117 : decode cX5_tests 117 = .ok (.iconst 3, 1) := by decide +kernel
theorem dX5_tests_118 : decode cX5_tests 118 = .ok (.iastore, 1) := by decide +kernel
theorem dX5_tests_119 : decode cX5_tests 119 = .ok (.iload 5, 2) := by decide +kernel
theorem dX5_tests_121 : decode cX5_tests 121 = .ok (.ireturn, 1) := by decide +kernel
theorem dX5_tests_122 : decode cX5_tests 122 = .ok (.aload_n 0, 1) := by decide +kernel
theorem dX5_tests_123 : decode cX5_tests 123 = .ok (.getfield 7, 3) := by decide +kernel
theorem dX5_tests_126 : decode cX5_tests 126 = .ok (.iload_n 1, 1) := by decide +kernel
theorem dX5_tests_127 : decode cX5_tests 127 = .ok (.iconst 1, 1) := by decide +kernel
theorem dX5_tests_128 : decode cX5_tests 128 = .ok (.invokestatic 69, 3) := by decide +kernel
theorem dX5_tests_131 : decode cX5_tests 131 = .ok (.dup2, 1) := by decide +kernel
theorem dX5_tests_132 : decode cX5_tests 132 = .ok (.iaload, 1) := by decide +kernel
theorem dX5_tests_133 : decode cX5_tests 133 = .ok (.iconst 1, 1) := by decide +kernel
theorem dX5_tests_134 : decode cX5_tests 134 = .ok (.iadd, 1) := by decide +kernel
theorem dX5_tests_135 : decode cX5_tests 135 = .ok (.iastore, 1) := by decide +kernel
theorem dX5_tests_136 : decode cX5_tests 136 = .ok (.aload_n 0, 1) := by decide +kernel
theorem dX5_tests_137 : decode cX5_tests 137 = .ok (.getfield 7, 3) := by decide +kernel
theorem dX5_tests_140 : decode cX5_tests 140 = .ok (.iload_n 1, 1) := by decide +kernel
theorem dX5_tests_141 : decode cX5_tests 141 = .ok (.iconst 0, 1) := by decide +kernel
theorem dX5_tests_142 : decode cX5_tests 142 = .ok (.invokestatic 69, 3) := by decide +kernel
theorem dX5_tests_145 : decode cX5_tests 145 = .ok (.iconst 0, 1) := by decide +kernel
theorem dX5_tests_146 : decode cX5_tests 146 = .ok (.iastore, 1) := by decide +kernel
theorem dX5_tests_147 : decode cX5_tests 147 = .ok (.aload_n 0, 1) := by decide +kernel
theorem dX5_tests_148 : decode cX5_tests 148 = .ok (.getfield 7, 3) := by decide +kernel
theorem dX5_tests_151 : decode cX5_tests 151 = .ok (.iconst 5, 1) := by decide +kernel
theorem dX5_tests_152 : decode cX5_tests 152 = .ok (.iaload, 1) := by decide +kernel
theorem dX5_tests_153 : decode cX5_tests 153 = .ok (.aload_n 0, 1) := by decide +kernel
theorem dX5_tests_154 : decode cX5_tests 154 = .ok (.getfield 7, 3) := by decide +kernel
theorem dX5_tests_157 : decode cX5_tests 157 = .ok (.iload_n 1, 1) := by decide +kernel
theorem dX5_tests_158 : decode cX5_tests 158 = .ok (.iconst 1, 1) := by decide +kernel
theorem dX5_tests_159 : decode cX5_tests 159 = .ok (.invokestatic 69, 3) := by decide +kernel
theorem dX5_tests_162 : decode cX5_tests 162 = .ok (.iaload, 1) := by decide +kernel
theorem dX5_tests_163 : decode cX5_tests 163 = .ok (.imul, 1) := by decide +kernel
theorem dX5_tests_164 : decode cX5_tests 164 = .ok (.istore 6, 2) := by decide +kernel
theorem dX5_tests_166 : decode cX5_tests 166 = .ok (.aload_n 0, 1) := by decide +kernel
theorem dX5_tests_167 : decode cX5_tests 167 = .ok (.getfield 7, 3) := by decide +kernel
theorem dX5_tests_170 : decode cX5_tests 170 = .ok (.iload_n 1, 1) := by decide +kernel
theorem dX5_tests_171 : decode cX5_tests 171 = .ok (.iconst 2, 1) := by decide +kernel
theorem dX5_tests_172 : decode cX5_tests 172 = .ok (.invokestatic 69, 3) := by decide +kernel
theorem dX5_tests_175 : decode cX5_tests 175 = .ok (.aload_n 0, 1) := by decide +kernel
theorem dX5_tests_176 : decode cX5_tests 176 = .ok (.getfield 7, 3) := by decide +kernel
theorem dX5_tests_179 : decode cX5_tests 179 = .ok (.iconst 0, 1) := by decide +kernel
theorem dX5_tests_180 : decode cX5_tests 180 = .ok (.iaload, 1) := by decide +kernel
theorem dX5_tests_181 : decode cX5_tests 181 = .ok (.iload 6, 2) := by decide +kernel
theorem dX5_tests_183 : decode cX5_tests 183 = .ok (.bipush 60, 2) := by decide +kernel
theorem dX5_tests_185 : decode cX5_tests 185 = .ok (.if_icmp .le 8, 3) := by decide +kernel
theorem dX5_tests_188 : decode cX5_tests 188 = .ok (.bipush 60, 2) := by decide +kernel
theorem dX5_tests_190 : decode cX5_tests 190 = .ok (.goto 5, 3) := by decide +kernel
theorem dX5_tests_193 : decode cX5_tests 193 = .ok (.iload 6, 2) := by decide +kernel
theorem dX5_tests_195 : decode cX5_tests 195 = .ok (.iadd, 1) := by decide +kernel
theorem dX5_tests_196 : decode cX5_tests 196 = .ok (.iastore, 1) := by decide +kernel
theorem dX5_tests_197 : decode cX5_tests 197 = .ok (.iload 5, 2) := by decide +kernel
theorem dX5_tests_199 : decode cX5_tests 199 = .ok (.ireturn, 1) := by decide +kernel
theorem dX5_test_0 : decode cX5_test 0 = .ok (.aload_n 0, 1) := by decide +kernel
theorem dX5_test_1 : decode cX5_test 1 = .ok (.aload_n 0, 1) := by decide +kernel
theorem dX5_test_2 : decode cX5_test 2 = .ok (.iload_n 1, 1) := by decide +kernel
theorem dX5_test_3 : decode cX5_test 3 = .ok (.invokevirtual 133, 3) := by decide +kernel
theorem dX5_test_6 : decode cX5_test 6 = .ok (.invokevirtual 86, 3) := by decide +kernel
theorem dX5_test_9 : decode cX5_test 9 = .ok (.ifCond .ne 5, 3) := by decide +kernel
theorem dX5_test_12 : decode cX5_test 12 = .ok (.iconst 0, 1) := by decide +kernel
theorem dX5_test_13 : decode cX5_test 13 = .ok (.ireturn, 1) := by decide +kernel
theorem dX5_test_14 : decode cX5_test 14 = .ok (.aload_n 0, 1) := by decide +kernel
theorem dX5_test_15 : decode cX5_test 15 = .ok (.invokevirtual 90, 3) := by decide +kernel
theorem dX5_test_18 : decode cX5_test 18 = .ok (.aload_n 0, 1) := by decide +kernel
theorem dX5_test_19 : decode cX5_test 19 = .ok (.iload_n 1, 1) := by decide +kernel
theorem dX5_test_20 : decode cX5_test 20 = .ok (.iload_n 2, 1) := by decide +kernel
theorem dX5_test_21 : decode cX5_test 21 = .ok (.invokevirtual 136, 3) := by decide +kernel
theorem dX5_test_24 : decode cX5_test 24 = .ok (.ireturn, 1) := by decide +kernel
theorem dX5_nextFault_0 : decode cX5_nextFault 0 = .ok (.aload_n 0, 1) := by decide +kernel
theorem dX5_nextFault_1 : decode cX5_nextFault 1 = .ok (.getfield 7, 3) := by decide +kernel
theorem dX5_nextFault_4 : decode cX5_nextFault 4 = .ok (.iconst 0, 1) := by decide +kernel
theorem dX5_nextFault_5 : decode cX5_nextFault 5 = .ok (.iaload, 1) := by decide +kernel
theorem dX5_nextFault_6 : decode cX5_nextFault 6 = .ok (.sipush 9999, 3) := by decide +kernel
theorem dX5_nextFault_9 : decode cX5_nextFault 9 = .ok (.if_icmp .ne 7, 3) := by decide +kernel
theorem dX5_nextFault_12 : decode cX5_nextFault 12 = .ok (.iconst 1, 1) := by decide +kernel
theorem dX5_nextFault_13 : decode cX5_nextFault 13 = .ok (.goto 4, 3) := by decide +kernel
theorem dX5_nextFault_16 : decode cX5_nextFault 16 = .ok (.iconst 0, 1) := by decide +kernel
theorem dX5_nextFault_17 : decode cX5_nextFault 17 = .ok (.ireturn, 1) := by decide +kernel
theorem dX5_goesOn_0 : decode cX5_goesOn 0 = .ok (.iconst 0, 1) := by decide +kernel
theorem dX5_goesOn_1 : decode cX5_goesOn 1 = .ok (.istore_n 1, 1) := by decide +kernel
theorem dX5_goesOn_2 : decode cX5_goesOn 2 = .ok (.iconst 0, 1) := by decide +kernel
theorem dX5_goesOn_3 : decode cX5_goesOn 3 = .ok (.istore_n 2, 1) := by decide +kernel
theorem dX5_goesOn_4 : decode cX5_goesOn 4 = .ok (.iload_n 2, 1) := by decide +kernel
theorem dX5_goesOn_5 : decode cX5_goesOn 5 = .ok (.aload_n 0, 1) := by decide +kernel
theorem dX5_goesOn_6 : decode cX5_goesOn 6 = .ok (.getfield 7, 3) := by decide +kernel
theorem dX5_goesOn_9 : decode cX5_goesOn 9 = .ok (.iconst 1, 1) := by decide +kernel
theorem dX5_goesOn_10 : decode cX5_goesOn 10 = .ok (.iaload, 1) := by decide +kernel
theorem dX5_goesOn_11 : decode cX5_goesOn 11 = .ok (.if_icmp .ge 109, 3) := by decide +kernel
theorem dX5_goesOn_14 : decode cX5_goesOn 14 = .ok (.iconst 0, 1) := by decide +kernel
theorem dX5_goesOn_15 : decode cX5_goesOn 15 = .ok (.istore_n 3, 1) := by decide +kernel
theorem dX5_goesOn_16 : decode cX5_goesOn 16 = .ok (.iload_n 3, 1) := by decide +kernel
theorem dX5_goesOn_17 : decode cX5_goesOn 17 = .ok (.iconst 4, 1) := by decide +kernel
theorem dX5_goesOn_18 : decode cX5_goesOn 18 = .ok (.if_icmp .ge 42, 3) := by decide +kernel
theorem dX5_goesOn_21 : decode cX5_goesOn 21 = .ok (.aload_n 0, 1) := by decide +kernel
theorem dX5_goesOn_22 : decode cX5_goesOn 22 = .ok (.getfield 7, 3) := by decide +kernel
theorem dX5_goesOn_25 : decode cX5_goesOn 25 = .ok (.iload_n 2, 1) := by decide +kernel
theorem dX5_goesOn_26 : decode cX5_goesOn 26 = .ok (.iconst 0, 1) := by decide +kernel
theorem dX5_goesOn_27 : decode cX5_goesOn 27 = .ok (.iload_n 3, 1) := by decide +kernel
theorem dX5_goesOn_28 : decode cX5_goesOn 28 = .ok (.invokestatic 62, 3) := by decide +kernel
theorem dX5_goesOn_31 : decode cX5_goesOn 31 = .ok (.iaload, 1) := by decide +kernel
theorem dX5_goesOn_32 : decode cX5_goesOn 32 = .ok (.istore 4, 2) := by decide +kernel
theorem dX5_goesOn_34 : decode cX5_goesOn 34 = .ok (.iload 4, 2) := by decide +kernel
theorem dX5_goesOn_36 : decode cX5_goesOn 36 = .ok (.ifCond .lt 18, 3) := by decide +kernel
theorem dX5_goesOn_39 : decode cX5_goesOn 39 = .ok (.aload_n 0, 1) := by decide +kernel
theorem dX5_goesOn_40 : decode cX5_goesOn 40 = .ok (.getfield 7, 3) := by decide +kernel
theorem dX5_goesOn_43 : decode cX5_goesOn 43 = .ok (.iload 4, 2) := by decide +kernel
theorem dX5_goesOn_45 : decode cX5_goesOn 45 = .ok (.iconst 0, 1) := by decide +kernel
theorem dX5_goesOn_46 : decode cX5_goesOn 46 = .ok (.invokestatic 69, 3) := by decide +kernel
theorem dX5_goesOn_49 : decode cX5_goesOn 49 = .ok (.iconst 0, 1) := by decide +kernel
theorem dX5_goesOn_50 : decode cX5_goesOn 50 = .ok (.iastore, 1) := by decide +kernel
theorem dX5_goesOn_51 : decode cX5_goesOn 51 = .ok (.iinc 1 1, 3) := by decide +kernel
theorem dX5_goesOn_54 : decode cX5_goesOn 54 = .ok (.iinc 3 1, 3) := by decide +kernel
theorem dX5_goesOn_57 : decode cX5_goesOn 57 = .ok (.goto (-41), 3) := by decide +kernel
theorem dX5_goesOn_60 : decode cX5_goesOn 60 = .ok (.iconst 0, 1) := by decide +kernel
theorem dX5_goesOn_61 : decode cX5_goesOn 61 = .ok (.istore_n 3, 1) := by decide +kernel
theorem dX5_goesOn_62 : decode cX5_goesOn 62 = .ok (.iload_n 3, 1) := by decide +kernel
theorem dX5_goesOn_63 : decode cX5_goesOn 63 = .ok (.bipush 40, 2) := by decide +kernel
theorem dX5_goesOn_65 : decode cX5_goesOn 65 = .ok (.if_icmp .ge 49, 3) := by decide +kernel
theorem dX5_goesOn_68 : decode cX5_goesOn 68 = .ok (.aload_n 0, 1) := by decide +kernel
theorem dX5_goesOn_69 : decode cX5_goesOn 69 = .ok (.getfield 7, 3) := by decide +kernel
theorem dX5_goesOn_72 : decode cX5_goesOn 72 = .ok (.bipush 9, 2) := by decide +kernel
theorem dX5_goesOn_74 : decode cX5_goesOn 74 = .ok (.bipush 40, 2) := by decide +kernel
theorem dX5_goesOn_76 : decode cX5_goesOn 76 = .ok (.iload_n 2, 1) := by decide +kernel
theorem dX5_goesOn_77 : decode cX5_goesOn 77 = .ok (.imul, 1) := by decide +kernel
theorem dX5_goesOn_78 : decode cX5_goesOn 78 = .ok (.iadd, 1) := by decide +kernel
theorem dX5_goesOn_79 : decode cX5_goesOn 79 = .ok (.iload_n 3, 1) := by decide +kernel
theorem dX5_goesOn_80 : decode cX5_goesOn 80 = .ok (.iadd, 1) := by decide +kernel
theorem dX5_goesOn_81 : decode cX5_goesOn 81 = .ok (.iload_n 3, 1) := by decide +kernel
theorem dX5_goesOn_82 : decode cX5_goesOn 82 = .ok (.bipush 36, 2) := by decide +kernel
theorem dX5_goesOn_84 : decode cX5_goesOn 84 = .ok (.if_icmp .ge 22, 3) := by decide +kernel
theorem dX5_goesOn_87 : decode cX5_goesOn 87 = .ok (.aload_n 0, 1) := by decide +kernel
theorem dX5_goesOn_88 : decode cX5_goesOn 88 = .ok (.getfield 7, 3) := by decide +kernel
theorem dX5_goesOn_91 : decode cX5_goesOn 91 = .ok (.bipush 9, 2) := by decide +kernel
theorem dX5_goesOn_93 : decode cX5_goesOn 93 = .ok (.bipush 40, 2) := by decide +kernel
theorem dX5_goesOn_95 : decode cX5_goesOn 95 = .ok (.iload_n 2, 1) := by decide +kernel
theorem dX5_goesOn_96 : decode cX5_goesOn 96 = .ok (.imul, 1) := by decide +kernel
theorem dX5_goesOn_97 : decode cX5_goesOn 97 = .ok (.iadd, 1) := by decide +kernel
theorem dX5_goesOn_98 : decode cX5_goesOn 98 = .ok (.iload_n 3, 1) := by decide +kernel
theorem dX5_goesOn_99 : decode cX5_goesOn 99 = .ok (.iadd, 1) := by decide +kernel
theorem dX5_goesOn_100 : decode cX5_goesOn 100 = .ok (.iconst 4, 1) := by decide +kernel
theorem dX5_goesOn_101 : decode cX5_goesOn 101 = .ok (.iadd, 1) := by decide +kernel
theorem dX5_goesOn_102 : decode cX5_goesOn 102 = .ok (.iaload, 1) := by decide +kernel
theorem dX5_goesOn_103 : decode cX5_goesOn 103 = .ok (.goto 4, 3) := by decide +kernel
theorem dX5_goesOn_106 : decode cX5_goesOn 106 = .ok (.iconst (-1), 1) := by decide +kernel
theorem dX5_goesOn_107 : decode cX5_goesOn 107 = .ok (.iastore, 1) := by decide +kernel
theorem dX5_goesOn_108 : decode cX5_goesOn 108 = .ok (.iinc 3 1, 3) := by decide +kernel
theorem dX5_goesOn_111 : decode cX5_goesOn 111 = .ok (.goto (-49), 3) := by decide +kernel
theorem dX5_goesOn_114 : decode cX5_goesOn 114 = .ok (.iinc 2 1, 3) := by decide +kernel
theorem dX5_goesOn_117 : decode cX5_goesOn 117 = .ok (.goto (-113), 3) := by decide +kernel
theorem dX5_goesOn_120 : decode cX5_goesOn 120 = .ok (.aload_n 0, 1) := by decide +kernel
theorem dX5_goesOn_121 : decode cX5_goesOn 121 = .ok (.getfield 7, 3) := by decide +kernel
theorem dX5_goesOn_124 : decode cX5_goesOn 124 = .ok (.iconst 4, 1) := by decide +kernel
theorem dX5_goesOn_125 : decode cX5_goesOn 125 = .ok (.dup2, 1) := by decide +kernel
theorem dX5_goesOn_126 : decode cX5_goesOn 126 = .ok (.iaload, 1) := by decide +kernel
theorem dX5_goesOn_127 : decode cX5_goesOn 127 = .ok (.iload_n 1, 1) := by decide +kernel
theorem dX5_goesOn_128 : decode cX5_goesOn 128 = .ok (.iadd, 1) := by decide +kernel
theorem dX5_goesOn_129 : decode cX5_goesOn 129 = .ok (.iastore, 1) := by decide +kernel
theorem dX5_goesOn_130 : decode cX5_goesOn 130 = .ok (.aload_n 0, 1) := by decide +kernel
theorem dX5_goesOn_131 : decode cX5_goesOn 131 = .ok (.getfield 7, 3) := by decide +kernel
theorem dX5_goesOn_134 : decode cX5_goesOn 134 = .ok (.iconst 0, 1) := by decide +kernel
theorem dX5_goesOn_135 : decode cX5_goesOn 135 = .ok (.dup2, 1) := by decide +kernel
theorem dX5_goesOn_136 : decode cX5_goesOn 136 = .ok (.iaload, 1) := by decide +kernel
theorem dX5_goesOn_137 : decode cX5_goesOn 137 = .ok (.iconst 1, 1) := by decide +kernel
theorem dX5_goesOn_138 : decode cX5_goesOn 138 = .ok (.iadd, 1) := by decide +kernel
theorem dX5_goesOn_139 : decode cX5_goesOn 139 = .ok (.iastore, 1) := by decide +kernel
theorem dX5_goesOn_140 : decode cX5_goesOn 140 = .ok (.aload_n 0, 1) := by decide +kernel
theorem dX5_goesOn_141 : decode cX5_goesOn 141 = .ok (.invokevirtual 96, 3) := by decide +kernel
theorem dX5_goesOn_144 : decode cX5_goesOn 144 = .ok (.iload_n 1, 1) := by decide +kernel
theorem dX5_goesOn_145 : decode cX5_goesOn 145 = .ok (.ireturn, 1) := by decide +kernel
theorem dX5_next_0 : decode cX5_next 0 = .ok (.aload_n 0, 1) := by decide +kernel
theorem dX5_next_1 : decode cX5_next 1 = .ok (.aload_n 0, 1) := by decide +kernel
theorem dX5_next_2 : decode cX5_next 2 = .ok (.invokevirtual 140, 3) := by decide +kernel
theorem dX5_next_5 : decode cX5_next 5 = .ok (.invokevirtual 86, 3) := by decide +kernel
theorem dX5_next_8 : decode cX5_next 8 = .ok (.ifCond .ne 5, 3) := by decide +kernel
theorem dX5_next_11 : decode cX5_next 11 = .ok (.iconst 0, 1) := by decide +kernel
theorem dX5_next_12 : decode cX5_next 12 = .ok (.ireturn, 1) := by decide +kernel
theorem dX5_next_13 : decode cX5_next 13 = .ok (.aload_n 0, 1) := by decide +kernel
theorem dX5_next_14 : decode cX5_next 14 = .ok (.invokevirtual 90, 3) := by decide +kernel
theorem dX5_next_17 : decode cX5_next 17 = .ok (.aload_n 0, 1) := by decide +kernel
theorem dX5_next_18 : decode cX5_next 18 = .ok (.invokevirtual 144, 3) := by decide +kernel
theorem dX5_next_21 : decode cX5_next 21 = .ok (.ireturn, 1) := by decide +kernel
theorem dX5_set_0 : decode cX5_set 0 = .ok (.iload_n 1, 1) := by decide +kernel
theorem dX5_set_1 : decode cX5_set 1 = .ok (.ifCond .ne 8, 3) := by decide +kernel
theorem dX5_set_4 : decode cX5_set 4 = .ok (.bipush 20, 2) := by decide +kernel
theorem dX5_set_6 : decode cX5_set 6 = .ok (.goto 25, 3) := by decide +kernel
theorem dX5_set_9 : decode cX5_set 9 = .ok (.iload_n 1, 1) := by decide +kernel
theorem dX5_set_10 : decode cX5_set 10 = .ok (.iconst 1, 1) := by decide +kernel
theorem dX5_set_11 : decode cX5_set 11 = .ok (.if_icmp .ne 7, 3) := by decide +kernel
theorem dX5_set_14 : decode cX5_set 14 = .ok (.iconst 1, 1) := by decide +kernel
theorem dX5_set_15 : decode cX5_set 15 = .ok (.goto 16, 3) := by decide +kernel
theorem dX5_set_18 : decode cX5_set 18 = .ok (.iload_n 1, 1) := by decide +kernel
theorem dX5_set_19 : decode cX5_set 19 = .ok (.iconst 2, 1) := by decide +kernel
theorem dX5_set_20 : decode cX5_set 20 = .ok (.if_icmp .ne 8, 3) := by decide +kernel
theorem dX5_set_23 : decode cX5_set 23 = .ok (.bipush 9, 2) := by decide +kernel
theorem dX5_set_25 : decode cX5_set 25 = .ok (.goto 6, 3) := by decide +kernel
theorem dX5_set_28 : decode cX5_set 28 = .ok (.sipush 999, 3) := by decide +kernel
theorem dX5_set_31 : decode cX5_set 31 = .ok (.istore_n 3, 1) := by decide +kernel
theorem dX5_set_32 : decode cX5_set 32 = .ok (.aload_n 0, 1) := by decide +kernel
theorem dX5_set_33 : decode cX5_set 33 = .ok (.iload_n 1, 1) := by decide +kernel
theorem dX5_set_34 : decode cX5_set 34 = .ok (.iconst 0, 1) := by decide +kernel
theorem dX5_set_35 : decode cX5_set 35 = .ok (.iconst 3, 1) := by decide +kernel
theorem dX5_set_36 : decode cX5_set 36 = .ok (.invokestatic 45, 3) := by decide +kernel
theorem dX5_set_39 : decode cX5_set 39 = .ok (.ifCond .ne 7, 3) := by decide +kernel
theorem dX5_set_42 : decode cX5_set 42 = .ok (.iconst 1, 1) := by decide +kernel
theorem dX5_set_43 : decode cX5_set 43 = .ok (.goto 17, 3) := by decide +kernel
theorem dX5_set_46 : decode cX5_set 46 = .ok (.iload_n 2, 1) := by decide +kernel
theorem dX5_set_47 : decode cX5_set 47 = .ok (.iconst 0, 1) := by decide +kernel
theorem dX5_set_48 : decode cX5_set 48 = .ok (.iload_n 3, 1) := by decide +kernel
theorem dX5_set_49 : decode cX5_set 49 = .ok (.invokestatic 45, 3) := by decide +kernel
theorem dX5_set_52 : decode cX5_set 52 = .ok (.ifCond .ne 7, 3) := by decide +kernel
theorem dX5_set_55 : decode cX5_set 55 = .ok (.iconst 2, 1) := by decide +kernel
theorem dX5_set_56 : decode cX5_set 56 = .ok (.goto 4, 3) := by decide +kernel
theorem dX5_set_59 : decode cX5_set 59 = .ok (.iconst 0, 1) := by decide +kernel
theorem dX5_set_60 : decode cX5_set 60 = .ok (.invokevirtual 86, 3) := by decide +kernel
theorem dX5_set_63 : decode cX5_set 63 = .ok (.ifCond .ne 5, 3) := by decide +kernel
theorem dX5_set_66 : decode cX5_set 66 = .ok (.iconst 0, 1) := by decide +kernel
theorem dX5_set_67 : decode cX5_set 67 = .ok (.ireturn, 1) := by decide +kernel
theorem dX5_set_68 : decode cX5_set 68 = .ok (.aload_n 0, 1) := by decide +kernel
theorem dX5_set_69 : decode cX5_set 69 = .ok (.invokevirtual 90, 3) := by decide +kernel
theorem dX5_set_72 : decode cX5_set 72 = .ok (.aload_n 0, 1) := by decide +kernel
theorem dX5_set_73 : decode cX5_set 73 = .ok (.getfield 7, 3) := by decide +kernel
theorem dX5_set_76 : decode cX5_set 76 = .ok (.iconst 5, 1) := by decide +kernel
theorem dX5_set_77 : decode cX5_set 77 = .ok (.iload_n 1, 1) := by decide +kernel
theorem dX5_set_78 : decode cX5_set 78 = .ok (.iadd, 1) := by decide +kernel
theorem dX5_set_79 : decode cX5_set 79 = .ok (.iaload, 1) := by decide +kernel
theorem dX5_set_80 : decode cX5_set 80 = .ok (.istore 4, 2) := by decide +kernel
theorem dX5_set_82 : decode cX5_set 82 = .ok (.aload_n 0, 1) := by decide +kernel
theorem dX5_set_83 : decode cX5_set 83 = .ok (.getfield 7, 3) := by decide +kernel
theorem dX5_set_86 : decode cX5_set 86 = .ok (.iconst 5, 1) := by decide +kernel
theorem dX5_set_87 : decode cX5_set 87 = .ok (.iload_n 1, 1) := by decide +kernel
theorem dX5_set_88 : decode cX5_set 88 = .ok (.iadd, 1) := by decide +kernel
theorem dX5_set_89 : decode cX5_set 89 = .ok (.iload_n 2, 1) := by decide +kernel
theorem dX5_set_90 : decode cX5_set 90 = .ok (.iastore, 1) := by decide +kernel
theorem dX5_set_91 : decode cX5_set 91 = .ok (.iload 4, 2) := by decide +kernel
theorem dX5_set_93 : decode cX5_set 93 = .ok (.ireturn, 1) := by decide +kernel
theorem dX5_append_0 : decode cX5_append 0 = .ok (.aload_n 0, 1) := by decide +kernel
theorem dX5_append_1 : decode cX5_append 1 = .ok (.iload_n 1, 1) := by decide +kernel
theorem dX5_append_2 : decode cX5_append 2 = .ok (.bipush 33, 2) := by decide +kernel
theorem dX5_append_4 : decode cX5_append 4 = .ok (.bipush 126, 2) := by decide +kernel
theorem dX5_append_6 : decode cX5_append 6 = .ok (.invokestatic 45, 3) := by decide +kernel
theorem dX5_append_9 : decode cX5_append 9 = .ok (.ifCond .ne 7, 3) := by decide +kernel
theorem dX5_append_12 : decode cX5_append 12 = .ok (.iconst 1, 1) := by decide +kernel
theorem dX5_append_13 : decode cX5_append 13 = .ok (.goto 17, 3) := by decide +kernel
theorem dX5_append_16 : decode cX5_append 16 = .ok (.aload_n 0, 1) := by decide +kernel
theorem dX5_append_17 : decode cX5_append 17 = .ok (.getfield 147, 3) := by decide +kernel
theorem dX5_append_20 : decode cX5_append 20 = .ok (.bipush 60, 2) := by decide +kernel
theorem dX5_append_22 : decode cX5_append 22 = .ok (.if_icmp .ne 7, 3) := by decide +kernel
theorem dX5_append_25 : decode cX5_append 25 = .ok (.iconst 2, 1) := by decide +kernel
theorem dX5_append_26 : decode cX5_append 26 = .ok (.goto 4, 3) := by decide +kernel
theorem dX5_append_29 : decode cX5_append 29 = .ok (.iconst 0, 1) := by decide +kernel
theorem dX5_append_30 : decode cX5_append 30 = .ok (.invokevirtual 86, 3) := by decide +kernel
theorem dX5_append_33 : decode cX5_append 33 = .ok (.ifCond .ne 5, 3) := by decide +kernel
theorem dX5_append_36 : decode cX5_append 36 = .ok (.iconst 0, 1) := by decide +kernel
theorem dX5_append_37 : decode cX5_append 37 = .ok (.ireturn, 1) := by decide +kernel
theorem dX5_append_38 : decode cX5_append 38 = .ok (.aload_n 0, 1) := by decide +kernel
theorem dX5_append_39 : decode cX5_append 39 = .ok (.getfield 19, 3) := by decide +kernel
theorem dX5_append_42 : decode cX5_append 42 = .ok (.aload_n 0, 1) := by decide +kernel
theorem dX5_append_43 : decode cX5_append 43 = .ok (.getfield 147, 3) := by decide +kernel
theorem dX5_append_46 : decode cX5_append 46 = .ok (.iload_n 1, 1) := by decide +kernel
theorem dX5_append_47 : decode cX5_append 47 = .ok (.iastore, 1) := by decide +kernel
theorem dX5_append_48 : decode cX5_append 48 = .ok (.aload_n 0, 1) := by decide +kernel
theorem dX5_append_49 : decode cX5_append 49 = .ok (.dup, 1) := by decide +kernel
theorem dX5_append_50 : decode cX5_append 50 = .ok (.getfield 147, 3) := by decide +kernel
theorem dX5_append_53 : decode cX5_append 53 = .ok (.iconst 1, 1) := by decide +kernel
theorem dX5_append_54 : decode cX5_append 54 = .ok (.iadd, 1) := by decide +kernel
theorem dX5_append_55 : decode cX5_append 55 = .ok (.putfield 147, 3) := by decide +kernel
theorem dX5_append_58 : decode cX5_append 58 = .ok (.aload_n 0, 1) := by decide +kernel
theorem dX5_append_59 : decode cX5_append 59 = .ok (.getfield 147, 3) := by decide +kernel
theorem dX5_append_62 : decode cX5_append 62 = .ok (.ireturn, 1) := by decide +kernel
theorem dX5_clearBuffer_0 : decode cX5_clearBuffer 0 = .ok (.aload_n 0, 1) := by decide +kernel
theorem dX5_clearBuffer_1 : decode cX5_clearBuffer 1 = .ok (.iconst 0, 1) := by decide +kernel
theorem dX5_clearBuffer_2 : decode cX5_clearBuffer 2 = .ok (.putfield 41, 3) := by decide +kernel
theorem dX5_clearBuffer_5 : decode cX5_clearBuffer 5 = .ok (.aload_n 0, 1) := by decide +kernel
theorem dX5_clearBuffer_6 : decode cX5_clearBuffer 6 = .ok (.getfield 147, 3) := by decide +kernel
theorem dX5_clearBuffer_9 : decode cX5_clearBuffer 9 = .ok (.istore_n 1, 1) := by decide +kernel
theorem dX5_clearBuffer_10 : decode cX5_clearBuffer 10 = .ok (.aload_n 0, 1) := by decide +kernel
theorem dX5_clearBuffer_11 : decode cX5_clearBuffer 11 = .ok (.iconst 0, 1) := by decide +kernel
theorem dX5_clearBuffer_12 : decode cX5_clearBuffer 12 = .ok (.putfield 147, 3) := by decide +kernel
theorem dX5_clearBuffer_15 : decode cX5_clearBuffer 15 = .ok (.iload_n 1, 1) := by decide +kernel
theorem dX5_clearBuffer_16 : decode cX5_clearBuffer 16 = .ok (.ireturn, 1) := by decide +kernel
theorem dX5_sign_0 : decode cX5_sign 0 = .ok (.aload_n 0, 1) := by decide +kernel
theorem dX5_sign_1 : decode cX5_sign 1 = .ok (.getfield 150, 3) := by decide +kernel
theorem dX5_sign_4 : decode cX5_sign 4 = .ok (.aload_n 0, 1) := by decide +kernel
theorem dX5_sign_5 : decode cX5_sign 5 = .ok (.getfield 147, 3) := by decide +kernel
theorem dX5_sign_8 : decode cX5_sign 8 = .ok (.if_icmp .ge 15, 3) := by decide +kernel
theorem dX5_sign_11 : decode cX5_sign 11 = .ok (.aload_n 0, 1) := by decide +kernel
theorem dX5_sign_12 : decode cX5_sign 12 = .ok (.getfield 19, 3) := by decide +kernel
theorem dX5_sign_15 : decode cX5_sign 15 = .ok (.aload_n 0, 1) := by decide +kernel
theorem dX5_sign_16 : decode cX5_sign 16 = .ok (.getfield 150, 3) := by decide +kernel
theorem dX5_sign_19 : decode cX5_sign 19 = .ok (.iaload, 1) := by decide +kernel
theorem dX5_sign_20 : decode cX5_sign 20 = .ok (.goto 4, 3) := by decide +kernel
theorem dX5_sign_23 : decode cX5_sign 23 = .ok (.iconst 0, 1) := by decide +kernel
theorem dX5_sign_24 : decode cX5_sign 24 = .ok (.istore_n 3, 1) := by decide +kernel
theorem dX5_sign_25 : decode cX5_sign 25 = .ok (.aload_n 0, 1) := by decide +kernel
theorem dX5_sign_26 : decode cX5_sign 26 = .ok (.aload_n 0, 1) := by decide +kernel
theorem dX5_sign_27 : decode cX5_sign 27 = .ok (.getfield 153, 3) := by decide +kernel
theorem dX5_sign_30 : decode cX5_sign 30 = .ok (.ifCond .ne 12, 3) := by decide +kernel
theorem dX5_sign_33 : decode cX5_sign 33 = .ok (.iload_n 3, 1) := by decide +kernel
theorem dX5_sign_34 : decode cX5_sign 34 = .ok (.iload_n 1, 1) := by decide +kernel
theorem dX5_sign_35 : decode cX5_sign 35 = .ok (.iload_n 2, 1) := by decide +kernel
theorem dX5_sign_36 : decode cX5_sign 36 = .ok (.invokestatic 45, 3) := by decide +kernel
theorem dX5_sign_39 : decode cX5_sign 39 = .ok (.ifCond .ne 7, 3) := by decide +kernel
theorem dX5_sign_42 : decode cX5_sign 42 = .ok (.iconst 1, 1) := by decide +kernel
theorem dX5_sign_43 : decode cX5_sign 43 = .ok (.goto 4, 3) := by decide +kernel
theorem dX5_sign_46 : decode cX5_sign 46 = .ok (.iconst 0, 1) := by decide +kernel
theorem dX5_sign_47 : decode cX5_sign 47 = .ok (.putfield 153, 3) := by decide +kernel
theorem dX5_sign_50 : decode cX5_sign 50 = .ok (.aload_n 0, 1) := by decide +kernel
theorem dX5_sign_51 : decode cX5_sign 51 = .ok (.dup, 1) := by decide +kernel
theorem dX5_sign_52 : decode cX5_sign 52 = .ok (.getfield 150, 3) := by decide +kernel
theorem dX5_sign_55 : decode cX5_sign 55 = .ok (.aload_n 0, 1) := by decide +kernel
theorem dX5_sign_56 : decode cX5_sign 56 = .ok (.getfield 153, 3) := by decide +kernel
theorem dX5_sign_59 : decode cX5_sign 59 = .ok (.ifCond .eq 7, 3) := by decide +kernel
theorem dX5_sign_62 : decode cX5_sign 62 = .ok (.iconst 0, 1) := by decide +kernel
theorem dX5_sign_63 : decode cX5_sign 63 = .ok (.goto 4, 3) := by decide +kernel
theorem dX5_sign_66 : decode cX5_sign 66 = .ok (.iconst 1, 1) := by decide +kernel
theorem dX5_sign_67 : decode cX5_sign 67 = .ok (.iadd, 1) := by decide +kernel
theorem dX5_sign_68 : decode cX5_sign 68 = .ok (.putfield 150, 3) := by decide +kernel
theorem dX5_sign_71 : decode cX5_sign 71 = .ok (.iload_n 3, 1) := by decide +kernel
theorem dX5_sign_72 : decode cX5_sign 72 = .ok (.ireturn, 1) := by decide +kernel
theorem dX5_word_0 : decode cX5_word 0 = .ok (.ldc 157, 2) := by decide +kernel
theorem dX5_word_2 : decode cX5_word 2 = .ok (.istore_n 2, 1) := by decide +kernel
theorem dX5_word_3 : decode cX5_word 3 = .ok (.iload_n 2, 1) := by decide +kernel
theorem dX5_word_4 : decode cX5_word 4 = .ok (.ifCond .le 36, 3) := by decide +kernel
theorem dX5_word_7 : decode cX5_word 7 = .ok (.iload_n 1, 1) := by decide +kernel
theorem dX5_word_8 : decode cX5_word 8 = .ok (.iload_n 2, 1) := by decide +kernel
theorem dX5_word_9 : decode cX5_word 9 = .ok (.idiv, 1) := by decide +kernel
theorem dX5_word_10 : decode cX5_word 10 = .ok (.sipush 256, 3) := by decide +kernel
theorem dX5_word_13 : decode cX5_word 13 = .ok (.irem, 1) := by decide +kernel
theorem dX5_word_14 : decode cX5_word 14 = .ok (.istore_n 3, 1) := by decide +kernel
theorem dX5_word_15 : decode cX5_word 15 = .ok (.iload_n 3, 1) := by decide +kernel
theorem dX5_word_16 : decode cX5_word 16 = .ok (.ifCond .ne 7, 3) := by decide +kernel
theorem dX5_word_19 : decode cX5_word 19 = .ok (.iconst 0, 1) := by decide +kernel
theorem dX5_word_20 : decode cX5_word 20 = .ok (.goto 9, 3) := by decide +kernel
theorem dX5_word_23 : decode cX5_word 23 = .ok (.aload_n 0, 1) := by decide +kernel
theorem dX5_word_24 : decode cX5_word 24 = .ok (.iload_n 3, 1) := by decide +kernel
theorem dX5_word_25 : decode cX5_word 25 = .ok (.iload_n 3, 1) := by decide +kernel
theorem dX5_word_26 : decode cX5_word 26 = .ok (.invokevirtual 158, 3) := by decide +kernel
theorem dX5_word_29 : decode cX5_word 29 = .ok (.istore 4, 2) := by decide +kernel
theorem dX5_word_31 : decode cX5_word 31 = .ok (.iload_n 2, 1) := by decide +kernel
theorem dX5_word_32 : decode cX5_word 32 = .ok (.sipush 256, 3) := by decide +kernel
theorem dX5_word_35 : decode cX5_word 35 = .ok (.idiv, 1) := by decide +kernel
theorem dX5_word_36 : decode cX5_word 36 = .ok (.istore_n 2, 1) := by decide +kernel
theorem dX5_word_37 : decode cX5_word 37 = .ok (.goto (-34), 3) := by decide +kernel
theorem dX5_word_40 : decode cX5_word 40 = .ok (.return_, 1) := by decide +kernel
theorem dX5_order_0 : decode cX5_order 0 = .ok (.aload_n 0, 1) := by decide +kernel
theorem dX5_order_1 : decode cX5_order 1 = .ok (.getfield 150, 3) := by decide +kernel
theorem dX5_order_4 : decode cX5_order 4 = .ok (.aload_n 0, 1) := by decide +kernel
theorem dX5_order_5 : decode cX5_order 5 = .ok (.getfield 147, 3) := by decide +kernel
theorem dX5_order_8 : decode cX5_order 8 = .ok (.if_icmp .ge 15, 3) := by decide +kernel
theorem dX5_order_11 : decode cX5_order 11 = .ok (.aload_n 0, 1) := by decide +kernel
theorem dX5_order_12 : decode cX5_order 12 = .ok (.getfield 19, 3) := by decide +kernel
theorem dX5_order_15 : decode cX5_order 15 = .ok (.aload_n 0, 1) := by decide +kernel
theorem dX5_order_16 : decode cX5_order 16 = .ok (.getfield 150, 3) := by decide +kernel
theorem dX5_order_19 : decode cX5_order 19 = .ok (.iaload, 1) := by decide +kernel
theorem dX5_order_20 : decode cX5_order 20 = .ok (.goto 4, 3) := by decide +kernel
theorem dX5_order_23 : decode cX5_order 23 = .ok (.iconst 0, 1) := by decide +kernel
theorem dX5_order_24 : decode cX5_order 24 = .ok (.istore_n 1, 1) := by decide +kernel
theorem dX5_order_25 : decode cX5_order 25 = .ok (.aload_n 0, 1) := by decide +kernel
theorem dX5_order_26 : decode cX5_order 26 = .ok (.aload_n 0, 1) := by decide +kernel
theorem dX5_order_27 : decode cX5_order 27 = .ok (.getfield 153, 3) := by decide +kernel
theorem dX5_order_30 : decode cX5_order 30 = .ok (.ifCond .ne 39, 3) := by decide +kernel
theorem dX5_order_33 : decode cX5_order 33 = .ok (.iload_n 1, 1) := by decide +kernel
theorem dX5_order_34 : decode cX5_order 34 = .ok (.bipush 97, 2) := by decide +kernel
theorem dX5_order_36 : decode cX5_order 36 = .ok (.if_icmp .eq 37, 3) := by decide +kernel
theorem dX5_order_39 : decode cX5_order 39 = .ok (.iload_n 1, 1) := by decide +kernel
theorem dX5_order_40 : decode cX5_order 40 = .ok (.bipush 113, 2) := by decide +kernel
theorem dX5_order_42 : decode cX5_order 42 = .ok (.if_icmp .eq 31, 3) := by decide +kernel
theorem dX5_order_45 : decode cX5_order 45 = .ok (.iload_n 1, 1) := by decide +kernel
theorem dX5_order_46 : decode cX5_order 46 = .ok (.bipush 112, 2) := by decide +kernel
theorem dX5_order_48 : decode cX5_order 48 = .ok (.if_icmp .eq 25, 3) := by decide +kernel
theorem dX5_order_51 : decode cX5_order 51 = .ok (.iload_n 1, 1) := by decide +kernel
theorem dX5_order_52 : decode cX5_order 52 = .ok (.bipush 102, 2) := by decide +kernel
theorem dX5_order_54 : decode cX5_order 54 = .ok (.if_icmp .eq 19, 3) := by decide +kernel
theorem dX5_order_57 : decode cX5_order 57 = .ok (.iload_n 1, 1) := by decide +kernel
theorem dX5_order_58 : decode cX5_order 58 = .ok (.bipush 105, 2) := by decide +kernel
theorem dX5_order_60 : decode cX5_order 60 = .ok (.if_icmp .eq 13, 3) := by decide +kernel
theorem dX5_order_63 : decode cX5_order 63 = .ok (.iload_n 1, 1) := by decide +kernel
theorem dX5_order_64 : decode cX5_order 64 = .ok (.bipush 110, 2) := by decide +kernel
theorem dX5_order_66 : decode cX5_order 66 = .ok (.if_icmp .eq 7, 3) := by decide +kernel
theorem dX5_order_69 : decode cX5_order 69 = .ok (.iconst 1, 1) := by decide +kernel
theorem dX5_order_70 : decode cX5_order 70 = .ok (.goto 4, 3) := by decide +kernel
theorem dX5_order_73 : decode cX5_order 73 = .ok (.iconst 0, 1) := by decide +kernel
theorem dX5_order_74 : decode cX5_order 74 = .ok (.putfield 153, 3) := by decide +kernel
theorem dX5_order_77 : decode cX5_order 77 = .ok (.aload_n 0, 1) := by decide +kernel
theorem dX5_order_78 : decode cX5_order 78 = .ok (.dup, 1) := by decide +kernel
theorem dX5_order_79 : decode cX5_order 79 = .ok (.getfield 150, 3) := by decide +kernel
theorem dX5_order_82 : decode cX5_order 82 = .ok (.aload_n 0, 1) := by decide +kernel
theorem dX5_order_83 : decode cX5_order 83 = .ok (.getfield 153, 3) := by decide +kernel
theorem dX5_order_86 : decode cX5_order 86 = .ok (.ifCond .eq 7, 3) := by decide +kernel
theorem dX5_order_89 : decode cX5_order 89 = .ok (.iconst 0, 1) := by decide +kernel
theorem dX5_order_90 : decode cX5_order 90 = .ok (.goto 4, 3) := by decide +kernel
theorem dX5_order_93 : decode cX5_order 93 = .ok (.iconst 1, 1) := by decide +kernel
theorem dX5_order_94 : decode cX5_order 94 = .ok (.iadd, 1) := by decide +kernel
theorem dX5_order_95 : decode cX5_order 95 = .ok (.putfield 150, 3) := by decide +kernel
theorem dX5_order_98 : decode cX5_order 98 = .ok (.aload_n 0, 1) := by decide +kernel
theorem dX5_order_99 : decode cX5_order 99 = .ok (.getfield 25, 3) := by decide +kernel
theorem dX5_order_102 : decode cX5_order 102 = .ok (.iconst 0, 1) := by decide +kernel
theorem dX5_order_103 : decode cX5_order 103 = .ok (.iload_n 1, 1) := by decide +kernel
theorem dX5_order_104 : decode cX5_order 104 = .ok (.iastore, 1) := by decide +kernel
theorem dX5_order_105 : decode cX5_order 105 = .ok (.aload_n 0, 1) := by decide +kernel
theorem dX5_order_106 : decode cX5_order 106 = .ok (.getfield 153, 3) := by decide +kernel
theorem dX5_order_109 : decode cX5_order 109 = .ok (.ifCond .eq 4, 3) := by decide +kernel
theorem dX5_order_112 : decode cX5_order 112 = .ok (.return_, 1) := by decide +kernel
theorem dX5_order_113 : decode cX5_order 113 = .ok (.iload_n 1, 1) := by decide +kernel
theorem dX5_order_114 : decode cX5_order 114 = .ok (.bipush 97, 2) := by decide +kernel
theorem dX5_order_116 : decode cX5_order 116 = .ok (.if_icmp .ne 9, 3) := by decide +kernel
theorem dX5_order_119 : decode cX5_order 119 = .ok (.sipush 29547, 3) := by decide +kernel
theorem dX5_order_122 : decode cX5_order 122 = .ok (.goto 26, 3) := by decide +kernel
theorem dX5_order_125 : decode cX5_order 125 = .ok (.iload_n 1, 1) := by decide +kernel
theorem dX5_order_126 : decode cX5_order 126 = .ok (.bipush 113, 2) := by decide +kernel
theorem dX5_order_128 : decode cX5_order 128 = .ok (.if_icmp .ne 8, 3) := by decide +kernel
theorem dX5_order_131 : decode cX5_order 131 = .ok (.ldc 161, 2) := by decide +kernel
theorem dX5_order_133 : decode cX5_order 133 = .ok (.goto 15, 3) := by decide +kernel
theorem dX5_order_136 : decode cX5_order 136 = .ok (.iload_n 1, 1) := by decide +kernel
theorem dX5_order_137 : decode cX5_order 137 = .ok (.bipush 112, 2) := by decide +kernel
theorem dX5_order_139 : decode cX5_order 139 = .ok (.if_icmp .ne 8, 3) := by decide +kernel
theorem dX5_order_142 : decode cX5_order 142 = .ok (.ldc 162, 2) := by decide +kernel
theorem dX5_order_144 : decode cX5_order 144 = .ok (.goto 4, 3) := by decide +kernel
theorem dX5_order_147 : decode cX5_order 147 = .ok (.iconst 0, 1) := by decide +kernel
theorem dX5_order_148 : decode cX5_order 148 = .ok (.istore_n 2, 1) := by decide +kernel
theorem dX5_order_149 : decode cX5_order 149 = .ok (.iload_n 1, 1) := by decide +kernel
theorem dX5_order_150 : decode cX5_order 150 = .ok (.bipush 102, 2) := by decide +kernel
theorem dX5_order_152 : decode cX5_order 152 = .ok (.if_icmp .ne 8, 3) := by decide +kernel
theorem dX5_order_155 : decode cX5_order 155 = .ok (.ldc 163, 2) := by decide +kernel
theorem dX5_order_157 : decode cX5_order 157 = .ok (.goto 27, 3) := by decide +kernel
theorem dX5_order_160 : decode cX5_order 160 = .ok (.iload_n 1, 1) := by decide +kernel
theorem dX5_order_161 : decode cX5_order 161 = .ok (.bipush 105, 2) := by decide +kernel
theorem dX5_order_163 : decode cX5_order 163 = .ok (.if_icmp .ne 9, 3) := by decide +kernel
theorem dX5_order_166 : decode cX5_order 166 = .ok (.sipush 27756, 3) := by decide +kernel
theorem dX5_order_169 : decode cX5_order 169 = .ok (.goto 15, 3) := by decide +kernel
theorem dX5_order_172 : decode cX5_order 172 = .ok (.iload_n 1, 1) := by decide +kernel
theorem dX5_order_173 : decode cX5_order 173 = .ok (.bipush 110, 2) := by decide +kernel
theorem dX5_order_175 : decode cX5_order 175 = .ok (.if_icmp .ne 8, 3) := by decide +kernel
theorem dX5_order_178 : decode cX5_order 178 = .ok (.ldc 164, 2) := by decide +kernel
theorem dX5_order_180 : decode cX5_order 180 = .ok (.goto 4, 3) := by decide +kernel
theorem dX5_order_183 : decode cX5_order 183 = .ok (.iload_n 2, 1) := by decide +kernel
theorem dX5_order_184 : decode cX5_order 184 = .ok (.istore_n 2, 1) := by decide +kernel
theorem dX5_order_185 : decode cX5_order 185 = .ok (.aload_n 0, 1) := by decide +kernel
theorem dX5_order_186 : decode cX5_order 186 = .ok (.iload_n 2, 1) := by decide +kernel
theorem dX5_order_187 : decode cX5_order 187 = .ok (.invokevirtual 165, 3) := by decide +kernel
theorem dX5_order_190 : decode cX5_order 190 = .ok (.aload_n 0, 1) := by decide +kernel
theorem dX5_order_191 : decode cX5_order 191 = .ok (.getfield 25, 3) := by decide +kernel
theorem dX5_order_194 : decode cX5_order 194 = .ok (.iconst 1, 1) := by decide +kernel
theorem dX5_order_195 : decode cX5_order 195 = .ok (.iconst 0, 1) := by decide +kernel
theorem dX5_order_196 : decode cX5_order 196 = .ok (.iastore, 1) := by decide +kernel
theorem dX5_order_197 : decode cX5_order 197 = .ok (.aload_n 0, 1) := by decide +kernel
theorem dX5_order_198 : decode cX5_order 198 = .ok (.getfield 25, 3) := by decide +kernel
theorem dX5_order_201 : decode cX5_order 201 = .ok (.iconst 2, 1) := by decide +kernel
theorem dX5_order_202 : decode cX5_order 202 = .ok (.iconst 0, 1) := by decide +kernel
theorem dX5_order_203 : decode cX5_order 203 = .ok (.iastore, 1) := by decide +kernel
theorem dX5_order_204 : decode cX5_order 204 = .ok (.iload_n 1, 1) := by decide +kernel
theorem dX5_order_205 : decode cX5_order 205 = .ok (.bipush 105, 2) := by decide +kernel
theorem dX5_order_207 : decode cX5_order 207 = .ok (.if_icmp .ne 49, 3) := by decide +kernel
theorem dX5_order_210 : decode cX5_order 210 = .ok (.aload_n 0, 1) := by decide +kernel
theorem dX5_order_211 : decode cX5_order 211 = .ok (.getfield 25, 3) := by decide +kernel
theorem dX5_order_214 : decode cX5_order 214 = .ok (.iconst 1, 1) := by decide +kernel
theorem dX5_order_215 : decode cX5_order 215 = .ok (.aload_n 0, 1) := by decide +kernel
theorem dX5_order_216 : decode cX5_order 216 = .ok (.bipush 48, 2) := by decide +kernel
theorem dX5_order_218 : decode cX5_order 218 = .ok (.bipush 51, 2) := by decide +kernel
theorem dX5_order_220 : decode cX5_order 220 = .ok (.invokevirtual 158, 3) := by decide +kernel
theorem dX5_order_223 : decode cX5_order 223 = .ok (.bipush 48, 2) := by decide +kernel
theorem dX5_order_225 : decode cX5_order 225 = .ok (.isub, 1) := by decide +kernel
theorem dX5_order_226 : decode cX5_order 226 = .ok (.iastore, 1) := by decide +kernel
theorem dX5_order_227 : decode cX5_order 227 = .ok (.aload_n 0, 1) := by decide +kernel
theorem dX5_order_228 : decode cX5_order 228 = .ok (.bipush 64, 2) := by decide +kernel
theorem dX5_order_230 : decode cX5_order 230 = .ok (.bipush 64, 2) := by decide +kernel
theorem dX5_order_232 : decode cX5_order 232 = .ok (.invokevirtual 158, 3) := by decide +kernel
theorem dX5_order_235 : decode cX5_order 235 = .ok (.istore_n 3, 1) := by decide +kernel
theorem dX5_order_236 : decode cX5_order 236 = .ok (.aload_n 0, 1) := by decide +kernel
theorem dX5_order_237 : decode cX5_order 237 = .ok (.getfield 25, 3) := by decide +kernel
theorem dX5_order_240 : decode cX5_order 240 = .ok (.iconst 2, 1) := by decide +kernel
theorem dX5_order_241 : decode cX5_order 241 = .ok (.aload_n 0, 1) := by decide +kernel
theorem dX5_order_242 : decode cX5_order 242 = .ok (.bipush 48, 2) := by decide +kernel
theorem dX5_order_244 : decode cX5_order 244 = .ok (.bipush 57, 2) := by decide +kernel
theorem dX5_order_246 : decode cX5_order 246 = .ok (.invokevirtual 158, 3) := by decide +kernel
theorem dX5_order_249 : decode cX5_order 249 = .ok (.bipush 48, 2) := by decide +kernel
theorem dX5_order_251 : decode cX5_order 251 = .ok (.isub, 1) := by decide +kernel
theorem dX5_order_252 : decode cX5_order 252 = .ok (.iastore, 1) := by decide +kernel
theorem dX5_order_253 : decode cX5_order 253 = .ok (.goto 112, 3) := by decide +kernel
theorem dX5_order_256 : decode cX5_order 256 = .ok (.iload_n 1, 1) := by decide +kernel
theorem dX5_order_257 : decode cX5_order 257 = .ok (.bipush 110, 2) := by decide +kernel
theorem dX5_order_259 : decode cX5_order 259 = .ok (.if_icmp .eq 106, 3) := by decide +kernel
theorem dX5_order_262 : decode cX5_order 262 = .ok (.aload_n 0, 1) := by decide +kernel
theorem dX5_order_263 : decode cX5_order 263 = .ok (.getfield 25, 3) := by decide +kernel
theorem dX5_order_266 : decode cX5_order 266 = .ok (.iconst 1, 1) := by decide +kernel
theorem dX5_order_267 : decode cX5_order 267 = .ok (.aload_n 0, 1) := by decide +kernel
theorem dX5_order_268 : decode cX5_order 268 = .ok (.bipush 48, 2) := by decide +kernel
theorem dX5_order_270 : decode cX5_order 270 = .ok (.bipush 57, 2) := by decide +kernel
theorem dX5_order_272 : decode cX5_order 272 = .ok (.invokevirtual 158, 3) := by decide +kernel
theorem dX5_order_275 : decode cX5_order 275 = .ok (.bipush 48, 2) := by decide +kernel
theorem dX5_order_277 : decode cX5_order 277 = .ok (.isub, 1) := by decide +kernel
theorem dX5_order_278 : decode cX5_order 278 = .ok (.iastore, 1) := by decide +kernel
theorem dX5_order_279 : decode cX5_order 279 = .ok (.aload_n 0, 1) := by decide +kernel
theorem dX5_order_280 : decode cX5_order 280 = .ok (.getfield 153, 3) := by decide +kernel
theorem dX5_order_283 : decode cX5_order 283 = .ok (.ifCond .ne 47, 3) := by decide +kernel
theorem dX5_order_286 : decode cX5_order 286 = .ok (.aload_n 0, 1) := by decide +kernel
theorem dX5_order_287 : decode cX5_order 287 = .ok (.getfield 25, 3) := by decide +kernel
theorem dX5_order_290 : decode cX5_order 290 = .ok (.iconst 1, 1) := by decide +kernel
theorem dX5_order_291 : decode cX5_order 291 = .ok (.iaload, 1) := by decide +kernel
theorem dX5_order_292 : decode cX5_order 292 = .ok (.iconst 1, 1) := by decide +kernel
theorem dX5_order_293 : decode cX5_order 293 = .ok (.if_icmp .ne 37, 3) := by decide +kernel
theorem dX5_order_296 : decode cX5_order 296 = .ok (.aload_n 0, 1) := by decide +kernel
theorem dX5_order_297 : decode cX5_order 297 = .ok (.getfield 150, 3) := by decide +kernel
theorem dX5_order_300 : decode cX5_order 300 = .ok (.aload_n 0, 1) := by decide +kernel
theorem dX5_order_301 : decode cX5_order 301 = .ok (.getfield 147, 3) := by decide +kernel
theorem dX5_order_304 : decode cX5_order 304 = .ok (.if_icmp .ge 26, 3) := by decide +kernel
theorem dX5_order_307 : decode cX5_order 307 = .ok (.aload_n 0, 1) := by decide +kernel
theorem dX5_order_308 : decode cX5_order 308 = .ok (.getfield 19, 3) := by decide +kernel
theorem dX5_order_311 : decode cX5_order 311 = .ok (.aload_n 0, 1) := by decide +kernel
theorem dX5_order_312 : decode cX5_order 312 = .ok (.getfield 150, 3) := by decide +kernel
theorem dX5_order_315 : decode cX5_order 315 = .ok (.iaload, 1) := by decide +kernel
theorem dX5_order_316 : decode cX5_order 316 = .ok (.bipush 48, 2) := by decide +kernel
theorem dX5_order_318 : decode cX5_order 318 = .ok (.bipush 49, 2) := by decide +kernel
theorem dX5_order_320 : decode cX5_order 320 = .ok (.invokestatic 45, 3) := by decide +kernel
theorem dX5_order_323 : decode cX5_order 323 = .ok (.ifCond .eq 7, 3) := by decide +kernel
theorem dX5_order_326 : decode cX5_order 326 = .ok (.iconst 1, 1) := by decide +kernel
theorem dX5_order_327 : decode cX5_order 327 = .ok (.goto 4, 3) := by decide +kernel
theorem dX5_order_330 : decode cX5_order 330 = .ok (.iconst 0, 1) := by decide +kernel
theorem dX5_order_331 : decode cX5_order 331 = .ok (.istore_n 3, 1) := by decide +kernel
theorem dX5_order_332 : decode cX5_order 332 = .ok (.aload_n 0, 1) := by decide +kernel
theorem dX5_order_333 : decode cX5_order 333 = .ok (.getfield 25, 3) := by decide +kernel
theorem dX5_order_336 : decode cX5_order 336 = .ok (.iconst 1, 1) := by decide +kernel
theorem dX5_order_337 : decode cX5_order 337 = .ok (.iload_n 3, 1) := by decide +kernel
theorem dX5_order_338 : decode cX5_order 338 = .ok (.ifCond .eq 20, 3) := by decide +kernel
theorem dX5_order_341 : decode cX5_order 341 = .ok (.bipush 10, 2) := by decide +kernel
theorem dX5_order_343 : decode cX5_order 343 = .ok (.aload_n 0, 1) := by decide +kernel
theorem dX5_order_344 : decode cX5_order 344 = .ok (.bipush 48, 2) := by decide +kernel
theorem dX5_order_346 : decode cX5_order 346 = .ok (.bipush 49, 2) := by decide +kernel
theorem dX5_order_348 : decode cX5_order 348 = .ok (.invokevirtual 158, 3) := by decide +kernel
theorem dX5_order_351 : decode cX5_order 351 = .ok (.iadd, 1) := by decide +kernel
theorem dX5_order_352 : decode cX5_order 352 = .ok (.bipush 48, 2) := by decide +kernel
theorem dX5_order_354 : decode cX5_order 354 = .ok (.isub, 1) := by decide +kernel
theorem dX5_order_355 : decode cX5_order 355 = .ok (.goto 9, 3) := by decide +kernel
theorem dX5_order_358 : decode cX5_order 358 = .ok (.aload_n 0, 1) := by decide +kernel
theorem dX5_order_359 : decode cX5_order 359 = .ok (.getfield 25, 3) := by decide +kernel
theorem dX5_order_362 : decode cX5_order 362 = .ok (.iconst 1, 1) := by decide +kernel
theorem dX5_order_363 : decode cX5_order 363 = .ok (.iaload, 1) := by decide +kernel
theorem dX5_order_364 : decode cX5_order 364 = .ok (.iastore, 1) := by decide +kernel
theorem dX5_order_365 : decode cX5_order 365 = .ok (.return_, 1) := by decide +kernel
theorem dX5_does_0 : decode cX5_does 0 = .ok (.aload_n 0, 1) := by decide +kernel
theorem dX5_does_1 : decode cX5_does 1 = .ok (.getfield 25, 3) := by decide +kernel
theorem dX5_does_4 : decode cX5_does 4 = .ok (.iconst 0, 1) := by decide +kernel
theorem dX5_does_5 : decode cX5_does 5 = .ok (.iaload, 1) := by decide +kernel
theorem dX5_does_6 : decode cX5_does 6 = .ok (.istore_n 1, 1) := by decide +kernel
theorem dX5_does_7 : decode cX5_does 7 = .ok (.aload_n 0, 1) := by decide +kernel
theorem dX5_does_8 : decode cX5_does 8 = .ok (.getfield 25, 3) := by decide +kernel
theorem dX5_does_11 : decode cX5_does 11 = .ok (.iconst 1, 1) := by decide +kernel
theorem dX5_does_12 : decode cX5_does 12 = .ok (.iaload, 1) := by decide +kernel
theorem dX5_does_13 : decode cX5_does 13 = .ok (.istore_n 2, 1) := by decide +kernel
theorem dX5_does_14 : decode cX5_does 14 = .ok (.aload_n 0, 1) := by decide +kernel
theorem dX5_does_15 : decode cX5_does 15 = .ok (.getfield 25, 3) := by decide +kernel
theorem dX5_does_18 : decode cX5_does 18 = .ok (.iconst 2, 1) := by decide +kernel
theorem dX5_does_19 : decode cX5_does 19 = .ok (.iaload, 1) := by decide +kernel
theorem dX5_does_20 : decode cX5_does 20 = .ok (.istore_n 3, 1) := by decide +kernel
theorem dX5_does_21 : decode cX5_does 21 = .ok (.iload_n 1, 1) := by decide +kernel
theorem dX5_does_22 : decode cX5_does 22 = .ok (.bipush 97, 2) := by decide +kernel
theorem dX5_does_24 : decode cX5_does 24 = .ok (.if_icmp .ne 11, 3) := by decide +kernel
theorem dX5_does_27 : decode cX5_does 27 = .ok (.aload_n 0, 1) := by decide +kernel
theorem dX5_does_28 : decode cX5_does 28 = .ok (.iload_n 2, 1) := by decide +kernel
theorem dX5_does_29 : decode cX5_does 29 = .ok (.invokevirtual 109, 3) := by decide +kernel
theorem dX5_does_32 : decode cX5_does 32 = .ok (.goto 56, 3) := by decide +kernel
theorem dX5_does_35 : decode cX5_does 35 = .ok (.iload_n 1, 1) := by decide +kernel
theorem dX5_does_36 : decode cX5_does 36 = .ok (.bipush 113, 2) := by decide +kernel
theorem dX5_does_38 : decode cX5_does 38 = .ok (.if_icmp .ne 11, 3) := by decide +kernel
theorem dX5_does_41 : decode cX5_does 41 = .ok (.aload_n 0, 1) := by decide +kernel
theorem dX5_does_42 : decode cX5_does 42 = .ok (.iload_n 2, 1) := by decide +kernel
theorem dX5_does_43 : decode cX5_does 43 = .ok (.invokevirtual 115, 3) := by decide +kernel
theorem dX5_does_46 : decode cX5_does 46 = .ok (.goto 42, 3) := by decide +kernel
theorem dX5_does_49 : decode cX5_does 49 = .ok (.iload_n 1, 1) := by decide +kernel
theorem dX5_does_50 : decode cX5_does 50 = .ok (.bipush 112, 2) := by decide +kernel
theorem dX5_does_52 : decode cX5_does 52 = .ok (.if_icmp .eq 9, 3) := by decide +kernel
theorem dX5_does_55 : decode cX5_does 55 = .ok (.iload_n 1, 1) := by decide +kernel
theorem dX5_does_56 : decode cX5_does 56 = .ok (.bipush 102, 2) := by decide +kernel
theorem dX5_does_58 : decode cX5_does 58 = .ok (.if_icmp .ne 11, 3) := by decide +kernel
theorem dX5_does_61 : decode cX5_does 61 = .ok (.aload_n 0, 1) := by decide +kernel
theorem dX5_does_62 : decode cX5_does 62 = .ok (.iload_n 2, 1) := by decide +kernel
theorem dX5_does_63 : decode cX5_does 63 = .ok (.invokevirtual 133, 3) := by decide +kernel
theorem dX5_does_66 : decode cX5_does 66 = .ok (.goto 22, 3) := by decide +kernel
theorem dX5_does_69 : decode cX5_does 69 = .ok (.iload_n 1, 1) := by decide +kernel
theorem dX5_does_70 : decode cX5_does 70 = .ok (.bipush 105, 2) := by decide +kernel
theorem dX5_does_72 : decode cX5_does 72 = .ok (.if_icmp .ne 12, 3) := by decide +kernel
theorem dX5_does_75 : decode cX5_does 75 = .ok (.aload_n 0, 1) := by decide +kernel
theorem dX5_does_76 : decode cX5_does 76 = .ok (.iload_n 2, 1) := by decide +kernel
theorem dX5_does_77 : decode cX5_does 77 = .ok (.iload_n 3, 1) := by decide +kernel
theorem dX5_does_78 : decode cX5_does 78 = .ok (.invokevirtual 124, 3) := by decide +kernel
theorem dX5_does_81 : decode cX5_does 81 = .ok (.goto 7, 3) := by decide +kernel
theorem dX5_does_84 : decode cX5_does 84 = .ok (.aload_n 0, 1) := by decide +kernel
theorem dX5_does_85 : decode cX5_does 85 = .ok (.invokevirtual 140, 3) := by decide +kernel
theorem dX5_does_88 : decode cX5_does 88 = .ok (.istore 4, 2) := by decide +kernel
theorem dX5_does_90 : decode cX5_does 90 = .ok (.iload 4, 2) := by decide +kernel
theorem dX5_does_92 : decode cX5_does 92 = .ok (.ifCond .ne 83, 3) := by decide +kernel
theorem dX5_does_95 : decode cX5_does 95 = .ok (.iload_n 1, 1) := by decide +kernel
theorem dX5_does_96 : decode cX5_does 96 = .ok (.bipush 97, 2) := by decide +kernel
theorem dX5_does_98 : decode cX5_does 98 = .ok (.if_icmp .ne 11, 3) := by decide +kernel
theorem dX5_does_101 : decode cX5_does 101 = .ok (.aload_n 0, 1) := by decide +kernel
theorem dX5_does_102 : decode cX5_does 102 = .ok (.iload_n 2, 1) := by decide +kernel
theorem dX5_does_103 : decode cX5_does 103 = .ok (.invokevirtual 112, 3) := by decide +kernel
theorem dX5_does_106 : decode cX5_does 106 = .ok (.goto 67, 3) := by decide +kernel
theorem dX5_does_109 : decode cX5_does 109 = .ok (.iload_n 1, 1) := by decide +kernel
theorem dX5_does_110 : decode cX5_does 110 = .ok (.bipush 113, 2) := by decide +kernel
theorem dX5_does_112 : decode cX5_does 112 = .ok (.if_icmp .ne 11, 3) := by decide +kernel
theorem dX5_does_115 : decode cX5_does 115 = .ok (.aload_n 0, 1) := by decide +kernel
theorem dX5_does_116 : decode cX5_does 116 = .ok (.iload_n 2, 1) := by decide +kernel
theorem dX5_does_117 : decode cX5_does 117 = .ok (.invokevirtual 118, 3) := by decide +kernel
theorem dX5_does_120 : decode cX5_does 120 = .ok (.goto 53, 3) := by decide +kernel
theorem dX5_does_123 : decode cX5_does 123 = .ok (.iload_n 1, 1) := by decide +kernel
theorem dX5_does_124 : decode cX5_does 124 = .ok (.bipush 112, 2) := by decide +kernel
theorem dX5_does_126 : decode cX5_does 126 = .ok (.if_icmp .eq 9, 3) := by decide +kernel
theorem dX5_does_129 : decode cX5_does 129 = .ok (.iload_n 1, 1) := by decide +kernel
theorem dX5_does_130 : decode cX5_does 130 = .ok (.bipush 102, 2) := by decide +kernel
theorem dX5_does_132 : decode cX5_does 132 = .ok (.if_icmp .ne 22, 3) := by decide +kernel
theorem dX5_does_135 : decode cX5_does 135 = .ok (.aload_n 0, 1) := by decide +kernel
theorem dX5_does_136 : decode cX5_does 136 = .ok (.iload_n 2, 1) := by decide +kernel
theorem dX5_does_137 : decode cX5_does 137 = .ok (.iload_n 1, 1) := by decide +kernel
theorem dX5_does_138 : decode cX5_does 138 = .ok (.bipush 112, 2) := by decide +kernel
theorem dX5_does_140 : decode cX5_does 140 = .ok (.if_icmp .ne 7, 3) := by decide +kernel
theorem dX5_does_143 : decode cX5_does 143 = .ok (.iconst 1, 1) := by decide +kernel
theorem dX5_does_144 : decode cX5_does 144 = .ok (.goto 4, 3) := by decide +kernel
theorem dX5_does_147 : decode cX5_does 147 = .ok (.iconst 0, 1) := by decide +kernel
theorem dX5_does_148 : decode cX5_does 148 = .ok (.invokevirtual 136, 3) := by decide +kernel
theorem dX5_does_151 : decode cX5_does 151 = .ok (.goto 22, 3) := by decide +kernel
theorem dX5_does_154 : decode cX5_does 154 = .ok (.iload_n 1, 1) := by decide +kernel
theorem dX5_does_155 : decode cX5_does 155 = .ok (.bipush 105, 2) := by decide +kernel
theorem dX5_does_157 : decode cX5_does 157 = .ok (.if_icmp .ne 12, 3) := by decide +kernel
theorem dX5_does_160 : decode cX5_does 160 = .ok (.aload_n 0, 1) := by decide +kernel
theorem dX5_does_161 : decode cX5_does 161 = .ok (.iload_n 2, 1) := by decide +kernel
theorem dX5_does_162 : decode cX5_does 162 = .ok (.iload_n 3, 1) := by decide +kernel
theorem dX5_does_163 : decode cX5_does 163 = .ok (.invokevirtual 127, 3) := by decide +kernel
theorem dX5_does_166 : decode cX5_does 166 = .ok (.goto 7, 3) := by decide +kernel
theorem dX5_does_169 : decode cX5_does 169 = .ok (.aload_n 0, 1) := by decide +kernel
theorem dX5_does_170 : decode cX5_does 170 = .ok (.invokevirtual 144, 3) := by decide +kernel
theorem dX5_does_173 : decode cX5_does 173 = .ok (.istore 5, 2) := by decide +kernel
theorem dX5_does_175 : decode cX5_does 175 = .ok (.iload 4, 2) := by decide +kernel
theorem dX5_does_177 : decode cX5_does 177 = .ok (.ifCond .ne 7, 3) := by decide +kernel
theorem dX5_does_180 : decode cX5_does 180 = .ok (.iconst 1, 1) := by decide +kernel
theorem dX5_does_181 : decode cX5_does 181 = .ok (.goto 4, 3) := by decide +kernel
theorem dX5_does_184 : decode cX5_does 184 = .ok (.iconst 0, 1) := by decide +kernel
theorem dX5_does_185 : decode cX5_does 185 = .ok (.ireturn, 1) := by decide +kernel
theorem dX5_go_0 : decode cX5_go 0 = .ok (.aload_n 0, 1) := by decide +kernel
theorem dX5_go_1 : decode cX5_go 1 = .ok (.iconst 0, 1) := by decide +kernel
theorem dX5_go_2 : decode cX5_go 2 = .ok (.putfield 150, 3) := by decide +kernel
theorem dX5_go_5 : decode cX5_go 5 = .ok (.aload_n 0, 1) := by decide +kernel
theorem dX5_go_6 : decode cX5_go 6 = .ok (.iconst 0, 1) := by decide +kernel
theorem dX5_go_7 : decode cX5_go 7 = .ok (.putfield 153, 3) := by decide +kernel
theorem dX5_go_10 : decode cX5_go 10 = .ok (.iconst 0, 1) := by decide +kernel
theorem dX5_go_11 : decode cX5_go 11 = .ok (.istore_n 2, 1) := by decide +kernel
theorem dX5_go_12 : decode cX5_go 12 = .ok (.iconst 1, 1) := by decide +kernel
theorem dX5_go_13 : decode cX5_go 13 = .ok (.istore_n 3, 1) := by decide +kernel
theorem dX5_go_14 : decode cX5_go 14 = .ok (.iload_n 3, 1) := by decide +kernel
theorem dX5_go_15 : decode cX5_go 15 = .ok (.ifCond .eq 101, 3) := by decide +kernel
theorem dX5_go_18 : decode cX5_go 18 = .ok (.aload_n 0, 1) := by decide +kernel
theorem dX5_go_19 : decode cX5_go 19 = .ok (.invokevirtual 168, 3) := by decide +kernel
theorem dX5_go_22 : decode cX5_go 22 = .ok (.iload_n 1, 1) := by decide +kernel
theorem dX5_go_23 : decode cX5_go 23 = .ok (.ifCond .eq 14, 3) := by decide +kernel
theorem dX5_go_26 : decode cX5_go 26 = .ok (.aload_n 0, 1) := by decide +kernel
theorem dX5_go_27 : decode cX5_go 27 = .ok (.invokevirtual 170, 3) := by decide +kernel
theorem dX5_go_30 : decode cX5_go 30 = .ok (.ifCond .eq 7, 3) := by decide +kernel
theorem dX5_go_33 : decode cX5_go 33 = .ok (.iconst 1, 1) := by decide +kernel
theorem dX5_go_34 : decode cX5_go 34 = .ok (.goto 4, 3) := by decide +kernel
theorem dX5_go_37 : decode cX5_go 37 = .ok (.iconst 0, 1) := by decide +kernel
theorem dX5_go_38 : decode cX5_go 38 = .ok (.istore 4, 2) := by decide +kernel
theorem dX5_go_40 : decode cX5_go 40 = .ok (.iload_n 2, 1) := by decide +kernel
theorem dX5_go_41 : decode cX5_go 41 = .ok (.iload 4, 2) := by decide +kernel
theorem dX5_go_43 : decode cX5_go 43 = .ok (.ifCond .eq 7, 3) := by decide +kernel
theorem dX5_go_46 : decode cX5_go 46 = .ok (.iconst 1, 1) := by decide +kernel
theorem dX5_go_47 : decode cX5_go 47 = .ok (.goto 4, 3) := by decide +kernel
theorem dX5_go_50 : decode cX5_go 50 = .ok (.iconst 0, 1) := by decide +kernel
theorem dX5_go_51 : decode cX5_go 51 = .ok (.iadd, 1) := by decide +kernel
theorem dX5_go_52 : decode cX5_go 52 = .ok (.istore_n 2, 1) := by decide +kernel
theorem dX5_go_53 : decode cX5_go 53 = .ok (.aload_n 0, 1) := by decide +kernel
theorem dX5_go_54 : decode cX5_go 54 = .ok (.getfield 153, 3) := by decide +kernel
theorem dX5_go_57 : decode cX5_go 57 = .ok (.ifCond .ne 27, 3) := by decide +kernel
theorem dX5_go_60 : decode cX5_go 60 = .ok (.iload 4, 2) := by decide +kernel
theorem dX5_go_62 : decode cX5_go 62 = .ok (.ifCond .ne 7, 3) := by decide +kernel
theorem dX5_go_65 : decode cX5_go 65 = .ok (.iload_n 1, 1) := by decide +kernel
theorem dX5_go_66 : decode cX5_go 66 = .ok (.ifCond .ne 18, 3) := by decide +kernel
theorem dX5_go_69 : decode cX5_go 69 = .ok (.aload_n 0, 1) := by decide +kernel
theorem dX5_go_70 : decode cX5_go 70 = .ok (.getfield 150, 3) := by decide +kernel
theorem dX5_go_73 : decode cX5_go 73 = .ok (.aload_n 0, 1) := by decide +kernel
theorem dX5_go_74 : decode cX5_go 74 = .ok (.getfield 147, 3) := by decide +kernel
theorem dX5_go_77 : decode cX5_go 77 = .ok (.if_icmp .ge 7, 3) := by decide +kernel
theorem dX5_go_80 : decode cX5_go 80 = .ok (.iconst 1, 1) := by decide +kernel
theorem dX5_go_81 : decode cX5_go 81 = .ok (.goto 4, 3) := by decide +kernel
theorem dX5_go_84 : decode cX5_go 84 = .ok (.iconst 0, 1) := by decide +kernel
theorem dX5_go_85 : decode cX5_go 85 = .ok (.istore_n 3, 1) := by decide +kernel
theorem dX5_go_86 : decode cX5_go 86 = .ok (.iload_n 3, 1) := by decide +kernel
theorem dX5_go_87 : decode cX5_go 87 = .ok (.ifCond .eq 26, 3) := by decide +kernel
theorem dX5_go_90 : decode cX5_go 90 = .ok (.aload_n 0, 1) := by decide +kernel
theorem dX5_go_91 : decode cX5_go 91 = .ok (.bipush 59, 2) := by decide +kernel
theorem dX5_go_93 : decode cX5_go 93 = .ok (.bipush 59, 2) := by decide +kernel
theorem dX5_go_95 : decode cX5_go 95 = .ok (.invokevirtual 158, 3) := by decide +kernel
theorem dX5_go_98 : decode cX5_go 98 = .ok (.istore 5, 2) := by decide +kernel
theorem dX5_go_100 : decode cX5_go 100 = .ok (.aload_n 0, 1) := by decide +kernel
theorem dX5_go_101 : decode cX5_go 101 = .ok (.getfield 153, 3) := by decide +kernel
theorem dX5_go_104 : decode cX5_go 104 = .ok (.ifCond .ne 7, 3) := by decide +kernel
theorem dX5_go_107 : decode cX5_go 107 = .ok (.iconst 1, 1) := by decide +kernel
theorem dX5_go_108 : decode cX5_go 108 = .ok (.goto 4, 3) := by decide +kernel
theorem dX5_go_111 : decode cX5_go 111 = .ok (.iconst 0, 1) := by decide +kernel
theorem dX5_go_112 : decode cX5_go 112 = .ok (.istore_n 3, 1) := by decide +kernel
theorem dX5_go_113 : decode cX5_go 113 = .ok (.goto (-99), 3) := by decide +kernel
theorem dX5_go_116 : decode cX5_go 116 = .ok (.iload_n 2, 1) := by decide +kernel
theorem dX5_go_117 : decode cX5_go 117 = .ok (.ireturn, 1) := by decide +kernel
theorem dX5_firstError_0 : decode cX5_firstError 0 = .ok (.aload_n 0, 1) := by decide +kernel
theorem dX5_firstError_1 : decode cX5_firstError 1 = .ok (.iconst 0, 1) := by decide +kernel
theorem dX5_firstError_2 : decode cX5_firstError 2 = .ok (.putfield 41, 3) := by decide +kernel
theorem dX5_firstError_5 : decode cX5_firstError 5 = .ok (.aload_n 0, 1) := by decide +kernel
theorem dX5_firstError_6 : decode cX5_firstError 6 = .ok (.iconst 0, 1) := by decide +kernel
theorem dX5_firstError_7 : decode cX5_firstError 7 = .ok (.invokevirtual 174, 3) := by decide +kernel
theorem dX5_firstError_10 : decode cX5_firstError 10 = .ok (.istore_n 1, 1) := by decide +kernel
theorem dX5_firstError_11 : decode cX5_firstError 11 = .ok (.aload_n 0, 1) := by decide +kernel
theorem dX5_firstError_12 : decode cX5_firstError 12 = .ok (.getfield 153, 3) := by decide +kernel
theorem dX5_firstError_15 : decode cX5_firstError 15 = .ok (.ifCond .eq 10, 3) := by decide +kernel
theorem dX5_firstError_18 : decode cX5_firstError 18 = .ok (.aload_n 0, 1) := by decide +kernel
theorem dX5_firstError_19 : decode cX5_firstError 19 = .ok (.getfield 150, 3) := by decide +kernel
theorem dX5_firstError_22 : decode cX5_firstError 22 = .ok (.goto 7, 3) := by decide +kernel
theorem dX5_firstError_25 : decode cX5_firstError 25 = .ok (.aload_n 0, 1) := by decide +kernel
theorem dX5_firstError_26 : decode cX5_firstError 26 = .ok (.getfield 147, 3) := by decide +kernel
theorem dX5_firstError_29 : decode cX5_firstError 29 = .ok (.ireturn, 1) := by decide +kernel
theorem dX5_run_0 : decode cX5_run 0 = .ok (.aload_n 0, 1) := by decide +kernel
theorem dX5_run_1 : decode cX5_run 1 = .ok (.iconst 0, 1) := by decide +kernel
theorem dX5_run_2 : decode cX5_run 2 = .ok (.invokevirtual 174, 3) := by decide +kernel
theorem dX5_run_5 : decode cX5_run 5 = .ok (.istore_n 1, 1) := by decide +kernel
theorem dX5_run_6 : decode cX5_run 6 = .ok (.aload_n 0, 1) := by decide +kernel
theorem dX5_run_7 : decode cX5_run 7 = .ok (.aload_n 0, 1) := by decide +kernel
theorem dX5_run_8 : decode cX5_run 8 = .ok (.getfield 153, 3) := by decide +kernel
theorem dX5_run_11 : decode cX5_run 11 = .ok (.ifCond .eq 7, 3) := by decide +kernel
theorem dX5_run_14 : decode cX5_run 14 = .ok (.iconst 1, 1) := by decide +kernel
theorem dX5_run_15 : decode cX5_run 15 = .ok (.goto 4, 3) := by decide +kernel
theorem dX5_run_18 : decode cX5_run 18 = .ok (.iconst 0, 1) := by decide +kernel
theorem dX5_run_19 : decode cX5_run 19 = .ok (.invokevirtual 86, 3) := by decide +kernel
theorem dX5_run_22 : decode cX5_run 22 = .ok (.ifCond .ne 5, 3) := by decide +kernel
theorem dX5_run_25 : decode cX5_run 25 = .ok (.iconst 0, 1) := by decide +kernel
theorem dX5_run_26 : decode cX5_run 26 = .ok (.ireturn, 1) := by decide +kernel
theorem dX5_run_27 : decode cX5_run 27 = .ok (.aload_n 0, 1) := by decide +kernel
theorem dX5_run_28 : decode cX5_run 28 = .ok (.invokevirtual 90, 3) := by decide +kernel
theorem dX5_run_31 : decode cX5_run 31 = .ok (.aload_n 0, 1) := by decide +kernel
theorem dX5_run_32 : decode cX5_run 32 = .ok (.iconst 1, 1) := by decide +kernel
theorem dX5_run_33 : decode cX5_run 33 = .ok (.invokevirtual 174, 3) := by decide +kernel
theorem dX5_run_36 : decode cX5_run 36 = .ok (.istore_n 2, 1) := by decide +kernel
theorem dX5_run_37 : decode cX5_run 37 = .ok (.aload_n 0, 1) := by decide +kernel
theorem dX5_run_38 : decode cX5_run 38 = .ok (.iconst 0, 1) := by decide +kernel
theorem dX5_run_39 : decode cX5_run 39 = .ok (.putfield 147, 3) := by decide +kernel
theorem dX5_run_42 : decode cX5_run 42 = .ok (.iload_n 2, 1) := by decide +kernel
theorem dX5_run_43 : decode cX5_run 43 = .ok (.ireturn, 1) := by decide +kernel
theorem dX5_undo_0 : decode cX5_undo 0 = .ok (.aload_n 0, 1) := by decide +kernel
theorem dX5_undo_1 : decode cX5_undo 1 = .ok (.aload_n 0, 1) := by decide +kernel
theorem dX5_undo_2 : decode cX5_undo 2 = .ok (.getfield 49, 3) := by decide +kernel
theorem dX5_undo_5 : decode cX5_undo 5 = .ok (.ifCond .le 7, 3) := by decide +kernel
theorem dX5_undo_8 : decode cX5_undo 8 = .ok (.iconst 0, 1) := by decide +kernel
theorem dX5_undo_9 : decode cX5_undo 9 = .ok (.goto 4, 3) := by decide +kernel
theorem dX5_undo_12 : decode cX5_undo 12 = .ok (.iconst 1, 1) := by decide +kernel
theorem dX5_undo_13 : decode cX5_undo 13 = .ok (.invokevirtual 86, 3) := by decide +kernel
theorem dX5_undo_16 : decode cX5_undo 16 = .ok (.ifCond .ne 5, 3) := by decide +kernel
theorem dX5_undo_19 : decode cX5_undo 19 = .ok (.iconst 0, 1) := by decide +kernel
theorem dX5_undo_20 : decode cX5_undo 20 = .ok (.ireturn, 1) := by decide +kernel
theorem dX5_undo_21 : decode cX5_undo 21 = .ok (.aload_n 0, 1) := by decide +kernel
theorem dX5_undo_22 : decode cX5_undo 22 = .ok (.dup, 1) := by decide +kernel
theorem dX5_undo_23 : decode cX5_undo 23 = .ok (.getfield 49, 3) := by decide +kernel
theorem dX5_undo_26 : decode cX5_undo 26 = .ok (.iconst 1, 1) := by decide +kernel
theorem dX5_undo_27 : decode cX5_undo 27 = .ok (.isub, 1) := by decide +kernel
theorem dX5_undo_28 : decode cX5_undo 28 = .ok (.putfield 49, 3) := by decide +kernel
theorem dX5_undo_31 : decode cX5_undo 31 = .ok (.iconst 0, 1) := by decide +kernel
theorem dX5_undo_32 : decode cX5_undo 32 = .ok (.istore_n 1, 1) := by decide +kernel
theorem dX5_undo_33 : decode cX5_undo 33 = .ok (.iload_n 1, 1) := by decide +kernel
theorem dX5_undo_34 : decode cX5_undo 34 = .ok (.sipush 341, 3) := by decide +kernel
theorem dX5_undo_37 : decode cX5_undo 37 = .ok (.if_icmp .ge 30, 3) := by decide +kernel
theorem dX5_undo_40 : decode cX5_undo 40 = .ok (.aload_n 0, 1) := by decide +kernel
theorem dX5_undo_41 : decode cX5_undo 41 = .ok (.getfield 7, 3) := by decide +kernel
theorem dX5_undo_44 : decode cX5_undo 44 = .ok (.iload_n 1, 1) := by decide +kernel
theorem dX5_undo_45 : decode cX5_undo 45 = .ok (.aload_n 0, 1) := by decide +kernel
theorem dX5_undo_46 : decode cX5_undo 46 = .ok (.getfield 16, 3) := by decide +kernel
theorem dX5_undo_49 : decode cX5_undo 49 = .ok (.sipush 341, 3) := by decide +kernel
theorem dX5_undo_52 : decode cX5_undo 52 = .ok (.aload_n 0, 1) := by decide +kernel
theorem dX5_undo_53 : decode cX5_undo 53 = .ok (.getfield 49, 3) := by decide +kernel
theorem dX5_undo_56 : decode cX5_undo 56 = .ok (.imul, 1) := by decide +kernel
theorem dX5_undo_57 : decode cX5_undo 57 = .ok (.iload_n 1, 1) := by decide +kernel
theorem dX5_undo_58 : decode cX5_undo 58 = .ok (.iadd, 1) := by decide +kernel
theorem dX5_undo_59 : decode cX5_undo 59 = .ok (.iaload, 1) := by decide +kernel
theorem dX5_undo_60 : decode cX5_undo 60 = .ok (.iastore, 1) := by decide +kernel
theorem dX5_undo_61 : decode cX5_undo 61 = .ok (.iinc 1 1, 3) := by decide +kernel
theorem dX5_undo_64 : decode cX5_undo 64 = .ok (.goto (-31), 3) := by decide +kernel
theorem dX5_undo_67 : decode cX5_undo 67 = .ok (.aload_n 0, 1) := by decide +kernel
theorem dX5_undo_68 : decode cX5_undo 68 = .ok (.getfield 49, 3) := by decide +kernel
theorem dX5_undo_71 : decode cX5_undo 71 = .ok (.ireturn, 1) := by decide +kernel
theorem dX5_told_0 : decode cX5_told 0 = .ok (.iload_n 0, 1) := by decide +kernel
theorem dX5_told_1 : decode cX5_told 1 = .ok (.iconst (-1), 1) := by decide +kernel
theorem dX5_told_2 : decode cX5_told 2 = .ok (.if_icmp .ne 7, 3) := by decide +kernel
theorem dX5_told_5 : decode cX5_told 5 = .ok (.iconst (-1), 1) := by decide +kernel
theorem dX5_told_6 : decode cX5_told 6 = .ok (.goto 30, 3) := by decide +kernel
theorem dX5_told_9 : decode cX5_told 9 = .ok (.iload_n 1, 1) := by decide +kernel
theorem dX5_told_10 : decode cX5_told 10 = .ok (.ifCond .ne 10, 3) := by decide +kernel
theorem dX5_told_13 : decode cX5_told 13 = .ok (.iload_n 0, 1) := by decide +kernel
theorem dX5_told_14 : decode cX5_told 14 = .ok (.invokestatic 56, 3) := by decide +kernel
theorem dX5_told_17 : decode cX5_told 17 = .ok (.goto 19, 3) := by decide +kernel
theorem dX5_told_20 : decode cX5_told 20 = .ok (.iload_n 1, 1) := by decide +kernel
theorem dX5_told_21 : decode cX5_told 21 = .ok (.iconst 1, 1) := by decide +kernel
theorem dX5_told_22 : decode cX5_told 22 = .ok (.if_icmp .ne 10, 3) := by decide +kernel
theorem dX5_told_25 : decode cX5_told 25 = .ok (.iload_n 0, 1) := by decide +kernel
theorem dX5_told_26 : decode cX5_told 26 = .ok (.invokestatic 59, 3) := by decide +kernel
theorem dX5_told_29 : decode cX5_told 29 = .ok (.goto 7, 3) := by decide +kernel
theorem dX5_told_32 : decode cX5_told 32 = .ok (.iload_n 0, 1) := by decide +kernel
theorem dX5_told_33 : decode cX5_told 33 = .ok (.invokestatic 52, 3) := by decide +kernel
theorem dX5_told_36 : decode cX5_told 36 = .ok (.ireturn, 1) := by decide +kernel
theorem dX5_pupilOf_0 : decode cX5_pupilOf 0 = .ok (.iload_n 2, 1) := by decide +kernel
theorem dX5_pupilOf_1 : decode cX5_pupilOf 1 = .ok (.tableswitch 113 0 9 #[55, 55, 55, 55, 55, 66, 66, 66, 78, 89], 55) := by decide +kernel
theorem dX5_pupilOf_56 : decode cX5_pupilOf 56 = .ok (.aload_n 0, 1) := by decide +kernel
theorem dX5_pupilOf_57 : decode cX5_pupilOf 57 = .ok (.getfield 7, 3) := by decide +kernel
theorem dX5_pupilOf_60 : decode cX5_pupilOf 60 = .ok (.iload_n 1, 1) := by decide +kernel
theorem dX5_pupilOf_61 : decode cX5_pupilOf 61 = .ok (.iload_n 2, 1) := by decide +kernel
theorem dX5_pupilOf_62 : decode cX5_pupilOf 62 = .ok (.invokestatic 69, 3) := by decide +kernel
theorem dX5_pupilOf_65 : decode cX5_pupilOf 65 = .ok (.iaload, 1) := by decide +kernel
theorem dX5_pupilOf_66 : decode cX5_pupilOf 66 = .ok (.ireturn, 1) := by decide +kernel
theorem dX5_pupilOf_67 : decode cX5_pupilOf 67 = .ok (.aload_n 0, 1) := by decide +kernel
theorem dX5_pupilOf_68 : decode cX5_pupilOf 68 = .ok (.iload_n 1, 1) := by decide +kernel
theorem dX5_pupilOf_69 : decode cX5_pupilOf 69 = .ok (.invokevirtual 106, 3) := by decide +kernel
theorem dX5_pupilOf_72 : decode cX5_pupilOf 72 = .ok (.iload_n 2, 1) := by decide +kernel
theorem dX5_pupilOf_73 : decode cX5_pupilOf 73 = .ok (.iconst 5, 1) := by decide +kernel
theorem dX5_pupilOf_74 : decode cX5_pupilOf 74 = .ok (.isub, 1) := by decide +kernel
theorem dX5_pupilOf_75 : decode cX5_pupilOf 75 = .ok (.invokestatic 178, 3) := by decide +kernel
theorem dX5_pupilOf_78 : decode cX5_pupilOf 78 = .ok (.ireturn, 1) := by decide +kernel
theorem dX5_pupilOf_79 : decode cX5_pupilOf 79 = .ok (.aload_n 0, 1) := by decide +kernel
theorem dX5_pupilOf_80 : decode cX5_pupilOf 80 = .ok (.getfield 7, 3) := by decide +kernel
theorem dX5_pupilOf_83 : decode cX5_pupilOf 83 = .ok (.iload_n 1, 1) := by decide +kernel
theorem dX5_pupilOf_84 : decode cX5_pupilOf 84 = .ok (.iconst 5, 1) := by decide +kernel
theorem dX5_pupilOf_85 : decode cX5_pupilOf 85 = .ok (.invokestatic 69, 3) := by decide +kernel
theorem dX5_pupilOf_88 : decode cX5_pupilOf 88 = .ok (.iaload, 1) := by decide +kernel
theorem dX5_pupilOf_89 : decode cX5_pupilOf 89 = .ok (.ireturn, 1) := by decide +kernel
theorem dX5_pupilOf_90 : decode cX5_pupilOf 90 = .ok (.aload_n 0, 1) := by decide +kernel
theorem dX5_pupilOf_91 : decode cX5_pupilOf 91 = .ok (.getfield 7, 3) := by decide +kernel
theorem dX5_pupilOf_94 : decode cX5_pupilOf 94 = .ok (.iload_n 1, 1) := by decide +kernel
theorem dX5_pupilOf_95 : decode cX5_pupilOf 95 = .ok (.iconst 0, 1) := by decide +kernel
theorem dX5_pupilOf_96 : decode cX5_pupilOf 96 = .ok (.invokestatic 69, 3) := by decide +kernel
theorem dX5_pupilOf_99 : decode cX5_pupilOf 99 = .ok (.iaload, 1) := by decide +kernel
theorem dX5_pupilOf_100 : decode cX5_pupilOf 100 = .ok (.iconst 1, 1) := by decide +kernel
theorem dX5_pupilOf_101 : decode cX5_pupilOf 101 = .ok (.if_icmp .ne 11, 3) := by decide +kernel
theorem dX5_pupilOf_104 : decode cX5_pupilOf 104 = .ok (.aload_n 0, 1) := by decide +kernel
theorem dX5_pupilOf_105 : decode cX5_pupilOf 105 = .ok (.iload_n 1, 1) := by decide +kernel
theorem dX5_pupilOf_106 : decode cX5_pupilOf 106 = .ok (.invokevirtual 80, 3) := by decide +kernel
theorem dX5_pupilOf_109 : decode cX5_pupilOf 109 = .ok (.goto 4, 3) := by decide +kernel
theorem dX5_pupilOf_112 : decode cX5_pupilOf 112 = .ok (.iconst (-1), 1) := by decide +kernel
theorem dX5_pupilOf_113 : decode cX5_pupilOf 113 = .ok (.ireturn, 1) := by decide +kernel
theorem dX5_pupilOf_114 : decode cX5_pupilOf 114 = .ok (.aload_n 0, 1) := by decide +kernel
theorem dX5_pupilOf_115 : decode cX5_pupilOf 115 = .ok (.getfield 7, 3) := by decide +kernel
theorem dX5_pupilOf_118 : decode cX5_pupilOf 118 = .ok (.iload_n 1, 1) := by decide +kernel
theorem dX5_pupilOf_119 : decode cX5_pupilOf 119 = .ok (.bipush 7, 2) := by decide +kernel
theorem dX5_pupilOf_121 : decode cX5_pupilOf 121 = .ok (.invokestatic 69, 3) := by decide +kernel
theorem dX5_pupilOf_124 : decode cX5_pupilOf 124 = .ok (.iaload, 1) := by decide +kernel
theorem dX5_pupilOf_125 : decode cX5_pupilOf 125 = .ok (.ireturn, 1) := by decide +kernel
theorem dX5_pupil_0 : decode cX5_pupil 0 = .ok (.aload_n 0, 1) := by decide +kernel
theorem dX5_pupil_1 : decode cX5_pupil 1 = .ok (.aload_n 0, 1) := by decide +kernel
theorem dX5_pupil_2 : decode cX5_pupil 2 = .ok (.iload_n 1, 1) := by decide +kernel
theorem dX5_pupil_3 : decode cX5_pupil 3 = .ok (.invokevirtual 99, 3) := by decide +kernel
theorem dX5_pupil_6 : decode cX5_pupil 6 = .ok (.ifCond .ne 7, 3) := by decide +kernel
theorem dX5_pupil_9 : decode cX5_pupil 9 = .ok (.iconst 1, 1) := by decide +kernel
theorem dX5_pupil_10 : decode cX5_pupil 10 = .ok (.goto 18, 3) := by decide +kernel
theorem dX5_pupil_13 : decode cX5_pupil 13 = .ok (.iload_n 2, 1) := by decide +kernel
theorem dX5_pupil_14 : decode cX5_pupil 14 = .ok (.iconst 0, 1) := by decide +kernel
theorem dX5_pupil_15 : decode cX5_pupil 15 = .ok (.bipush 10, 2) := by decide +kernel
theorem dX5_pupil_17 : decode cX5_pupil 17 = .ok (.invokestatic 45, 3) := by decide +kernel
theorem dX5_pupil_20 : decode cX5_pupil 20 = .ok (.ifCond .ne 7, 3) := by decide +kernel
theorem dX5_pupil_23 : decode cX5_pupil 23 = .ok (.iconst 2, 1) := by decide +kernel
theorem dX5_pupil_24 : decode cX5_pupil 24 = .ok (.goto 4, 3) := by decide +kernel
theorem dX5_pupil_27 : decode cX5_pupil 27 = .ok (.iconst 0, 1) := by decide +kernel
theorem dX5_pupil_28 : decode cX5_pupil 28 = .ok (.invokevirtual 86, 3) := by decide +kernel
theorem dX5_pupil_31 : decode cX5_pupil 31 = .ok (.ifCond .eq 12, 3) := by decide +kernel
theorem dX5_pupil_34 : decode cX5_pupil 34 = .ok (.aload_n 0, 1) := by decide +kernel
theorem dX5_pupil_35 : decode cX5_pupil 35 = .ok (.iload_n 1, 1) := by decide +kernel
theorem dX5_pupil_36 : decode cX5_pupil 36 = .ok (.iload_n 2, 1) := by decide +kernel
theorem dX5_pupil_37 : decode cX5_pupil 37 = .ok (.invokevirtual 180, 3) := by decide +kernel
theorem dX5_pupil_40 : decode cX5_pupil 40 = .ok (.goto 4, 3) := by decide +kernel
theorem dX5_pupil_43 : decode cX5_pupil 43 = .ok (.iconst 0, 1) := by decide +kernel
theorem dX5_pupil_44 : decode cX5_pupil 44 = .ok (.ireturn, 1) := by decide +kernel
theorem dX5_slotsOf_0 : decode cX5_slotsOf 0 = .ok (.iconst 0, 1) := by decide +kernel
theorem dX5_slotsOf_1 : decode cX5_slotsOf 1 = .ok (.istore_n 3, 1) := by decide +kernel
theorem dX5_slotsOf_2 : decode cX5_slotsOf 2 = .ok (.iconst 0, 1) := by decide +kernel
theorem dX5_slotsOf_3 : decode cX5_slotsOf 3 = .ok (.istore 4, 2) := by decide +kernel
theorem dX5_slotsOf_5 : decode cX5_slotsOf 5 = .ok (.iload 4, 2) := by decide +kernel
theorem dX5_slotsOf_7 : decode cX5_slotsOf 7 = .ok (.bipush 40, 2) := by decide +kernel
theorem dX5_slotsOf_9 : decode cX5_slotsOf 9 = .ok (.if_icmp .ge 36, 3) := by decide +kernel
theorem dX5_slotsOf_12 : decode cX5_slotsOf 12 = .ok (.iload_n 3, 1) := by decide +kernel
theorem dX5_slotsOf_13 : decode cX5_slotsOf 13 = .ok (.aload_n 0, 1) := by decide +kernel
theorem dX5_slotsOf_14 : decode cX5_slotsOf 14 = .ok (.getfield 7, 3) := by decide +kernel
theorem dX5_slotsOf_17 : decode cX5_slotsOf 17 = .ok (.bipush 9, 2) := by decide +kernel
theorem dX5_slotsOf_19 : decode cX5_slotsOf 19 = .ok (.bipush 40, 2) := by decide +kernel
theorem dX5_slotsOf_21 : decode cX5_slotsOf 21 = .ok (.iload_n 1, 1) := by decide +kernel
theorem dX5_slotsOf_22 : decode cX5_slotsOf 22 = .ok (.imul, 1) := by decide +kernel
theorem dX5_slotsOf_23 : decode cX5_slotsOf 23 = .ok (.iadd, 1) := by decide +kernel
theorem dX5_slotsOf_24 : decode cX5_slotsOf 24 = .ok (.iload 4, 2) := by decide +kernel
theorem dX5_slotsOf_26 : decode cX5_slotsOf 26 = .ok (.iadd, 1) := by decide +kernel
theorem dX5_slotsOf_27 : decode cX5_slotsOf 27 = .ok (.iaload, 1) := by decide +kernel
theorem dX5_slotsOf_28 : decode cX5_slotsOf 28 = .ok (.iload_n 2, 1) := by decide +kernel
theorem dX5_slotsOf_29 : decode cX5_slotsOf 29 = .ok (.if_icmp .ne 7, 3) := by decide +kernel
theorem dX5_slotsOf_32 : decode cX5_slotsOf 32 = .ok (.iconst 1, 1) := by decide +kernel
theorem dX5_slotsOf_33 : decode cX5_slotsOf 33 = .ok (.goto 4, 3) := by decide +kernel
theorem dX5_slotsOf_36 : decode cX5_slotsOf 36 = .ok (.iconst 0, 1) := by decide +kernel
theorem dX5_slotsOf_37 : decode cX5_slotsOf 37 = .ok (.iadd, 1) := by decide +kernel
theorem dX5_slotsOf_38 : decode cX5_slotsOf 38 = .ok (.istore_n 3, 1) := by decide +kernel
theorem dX5_slotsOf_39 : decode cX5_slotsOf 39 = .ok (.iinc 4 1, 3) := by decide +kernel
theorem dX5_slotsOf_42 : decode cX5_slotsOf 42 = .ok (.goto (-37), 3) := by decide +kernel
theorem dX5_slotsOf_45 : decode cX5_slotsOf 45 = .ok (.iload_n 3, 1) := by decide +kernel
theorem dX5_slotsOf_46 : decode cX5_slotsOf 46 = .ok (.ireturn, 1) := by decide +kernel
theorem dX5_examinerOf__0 : decode cX5_examinerOf_ 0 = .ok (.iload_n 2, 1) := by decide +kernel
theorem dX5_examinerOf__1 : decode cX5_examinerOf_ 1 = .ok (.iconst 2, 1) := by decide +kernel
theorem dX5_examinerOf__2 : decode cX5_examinerOf_ 2 = .ok (.if_icmp .ge 16, 3) := by decide +kernel
theorem dX5_examinerOf__5 : decode cX5_examinerOf_ 5 = .ok (.aload_n 0, 1) := by decide +kernel
theorem dX5_examinerOf__6 : decode cX5_examinerOf_ 6 = .ok (.getfield 7, 3) := by decide +kernel
theorem dX5_examinerOf__9 : decode cX5_examinerOf_ 9 = .ok (.iload_n 1, 1) := by decide +kernel
theorem dX5_examinerOf__10 : decode cX5_examinerOf_ 10 = .ok (.iload_n 2, 1) := by decide +kernel
theorem dX5_examinerOf__11 : decode cX5_examinerOf_ 11 = .ok (.invokestatic 93, 3) := by decide +kernel
theorem dX5_examinerOf__14 : decode cX5_examinerOf_ 14 = .ok (.iaload, 1) := by decide +kernel
theorem dX5_examinerOf__15 : decode cX5_examinerOf_ 15 = .ok (.goto 44, 3) := by decide +kernel
theorem dX5_examinerOf__18 : decode cX5_examinerOf_ 18 = .ok (.iload_n 2, 1) := by decide +kernel
theorem dX5_examinerOf__19 : decode cX5_examinerOf_ 19 = .ok (.iconst 2, 1) := by decide +kernel
theorem dX5_examinerOf__20 : decode cX5_examinerOf_ 20 = .ok (.if_icmp .ne 12, 3) := by decide +kernel
theorem dX5_examinerOf__23 : decode cX5_examinerOf_ 23 = .ok (.aload_n 0, 1) := by decide +kernel
theorem dX5_examinerOf__24 : decode cX5_examinerOf_ 24 = .ok (.iload_n 1, 1) := by decide +kernel
theorem dX5_examinerOf__25 : decode cX5_examinerOf_ 25 = .ok (.iconst (-1), 1) := by decide +kernel
theorem dX5_examinerOf__26 : decode cX5_examinerOf_ 26 = .ok (.invokevirtual 183, 3) := by decide +kernel
theorem dX5_examinerOf__29 : decode cX5_examinerOf_ 29 = .ok (.goto 30, 3) := by decide +kernel
theorem dX5_examinerOf__32 : decode cX5_examinerOf_ 32 = .ok (.iload_n 2, 1) := by decide +kernel
theorem dX5_examinerOf__33 : decode cX5_examinerOf_ 33 = .ok (.iconst 3, 1) := by decide +kernel
theorem dX5_examinerOf__34 : decode cX5_examinerOf_ 34 = .ok (.if_icmp .ne 13, 3) := by decide +kernel
theorem dX5_examinerOf__37 : decode cX5_examinerOf_ 37 = .ok (.aload_n 0, 1) := by decide +kernel
theorem dX5_examinerOf__38 : decode cX5_examinerOf_ 38 = .ok (.iload_n 1, 1) := by decide +kernel
theorem dX5_examinerOf__39 : decode cX5_examinerOf_ 39 = .ok (.bipush (-2), 2) := by decide +kernel
theorem dX5_examinerOf__41 : decode cX5_examinerOf_ 41 = .ok (.invokevirtual 183, 3) := by decide +kernel
theorem dX5_examinerOf__44 : decode cX5_examinerOf_ 44 = .ok (.goto 15, 3) := by decide +kernel
theorem dX5_examinerOf__47 : decode cX5_examinerOf_ 47 = .ok (.aload_n 0, 1) := by decide +kernel
theorem dX5_examinerOf__48 : decode cX5_examinerOf_ 48 = .ok (.getfield 7, 3) := by decide +kernel
theorem dX5_examinerOf__51 : decode cX5_examinerOf_ 51 = .ok (.iload_n 1, 1) := by decide +kernel
theorem dX5_examinerOf__52 : decode cX5_examinerOf_ 52 = .ok (.iload_n 2, 1) := by decide +kernel
theorem dX5_examinerOf__53 : decode cX5_examinerOf_ 53 = .ok (.iconst 2, 1) := by decide +kernel
theorem dX5_examinerOf__54 : decode cX5_examinerOf_ 54 = .ok (.isub, 1) := by decide +kernel
theorem dX5_examinerOf__55 : decode cX5_examinerOf_ 55 = .ok (.invokestatic 93, 3) := by decide +kernel
theorem dX5_examinerOf__58 : decode cX5_examinerOf_ 58 = .ok (.iaload, 1) := by decide +kernel
theorem dX5_examinerOf__59 : decode cX5_examinerOf_ 59 = .ok (.ireturn, 1) := by decide +kernel
theorem dX5_examiner_0 : decode cX5_examiner 0 = .ok (.aload_n 0, 1) := by decide +kernel
theorem dX5_examiner_1 : decode cX5_examiner 1 = .ok (.aload_n 0, 1) := by decide +kernel
theorem dX5_examiner_2 : decode cX5_examiner 2 = .ok (.iload_n 1, 1) := by decide +kernel
theorem dX5_examiner_3 : decode cX5_examiner 3 = .ok (.invokevirtual 121, 3) := by decide +kernel
theorem dX5_examiner_6 : decode cX5_examiner 6 = .ok (.ifCond .ne 7, 3) := by decide +kernel
theorem dX5_examiner_9 : decode cX5_examiner 9 = .ok (.iconst 1, 1) := by decide +kernel
theorem dX5_examiner_10 : decode cX5_examiner 10 = .ok (.goto 18, 3) := by decide +kernel
theorem dX5_examiner_13 : decode cX5_examiner 13 = .ok (.iload_n 2, 1) := by decide +kernel
theorem dX5_examiner_14 : decode cX5_examiner 14 = .ok (.iconst 0, 1) := by decide +kernel
theorem dX5_examiner_15 : decode cX5_examiner 15 = .ok (.bipush 8, 2) := by decide +kernel
theorem dX5_examiner_17 : decode cX5_examiner 17 = .ok (.invokestatic 45, 3) := by decide +kernel
theorem dX5_examiner_20 : decode cX5_examiner 20 = .ok (.ifCond .ne 7, 3) := by decide +kernel
theorem dX5_examiner_23 : decode cX5_examiner 23 = .ok (.iconst 2, 1) := by decide +kernel
theorem dX5_examiner_24 : decode cX5_examiner 24 = .ok (.goto 4, 3) := by decide +kernel
theorem dX5_examiner_27 : decode cX5_examiner 27 = .ok (.iconst 0, 1) := by decide +kernel
theorem dX5_examiner_28 : decode cX5_examiner 28 = .ok (.invokevirtual 86, 3) := by decide +kernel
theorem dX5_examiner_31 : decode cX5_examiner 31 = .ok (.ifCond .eq 12, 3) := by decide +kernel
theorem dX5_examiner_34 : decode cX5_examiner 34 = .ok (.aload_n 0, 1) := by decide +kernel
theorem dX5_examiner_35 : decode cX5_examiner 35 = .ok (.iload_n 1, 1) := by decide +kernel
theorem dX5_examiner_36 : decode cX5_examiner 36 = .ok (.iload_n 2, 1) := by decide +kernel
theorem dX5_examiner_37 : decode cX5_examiner 37 = .ok (.invokevirtual 186, 3) := by decide +kernel
theorem dX5_examiner_40 : decode cX5_examiner 40 = .ok (.goto 4, 3) := by decide +kernel
theorem dX5_examiner_43 : decode cX5_examiner 43 = .ok (.iconst 0, 1) := by decide +kernel
theorem dX5_examiner_44 : decode cX5_examiner 44 = .ok (.ireturn, 1) := by decide +kernel
theorem dX5_slot_0 : decode cX5_slot 0 = .ok (.aload_n 0, 1) := by decide +kernel
theorem dX5_slot_1 : decode cX5_slot 1 = .ok (.aload_n 0, 1) := by decide +kernel
theorem dX5_slot_2 : decode cX5_slot 2 = .ok (.iload_n 1, 1) := by decide +kernel
theorem dX5_slot_3 : decode cX5_slot 3 = .ok (.invokevirtual 121, 3) := by decide +kernel
theorem dX5_slot_6 : decode cX5_slot 6 = .ok (.ifCond .ne 7, 3) := by decide +kernel
theorem dX5_slot_9 : decode cX5_slot 9 = .ok (.iconst 1, 1) := by decide +kernel
theorem dX5_slot_10 : decode cX5_slot 10 = .ok (.goto 27, 3) := by decide +kernel
theorem dX5_slot_13 : decode cX5_slot 13 = .ok (.iload_n 2, 1) := by decide +kernel
theorem dX5_slot_14 : decode cX5_slot 14 = .ok (.iconst 0, 1) := by decide +kernel
theorem dX5_slot_15 : decode cX5_slot 15 = .ok (.bipush 9, 2) := by decide +kernel
theorem dX5_slot_17 : decode cX5_slot 17 = .ok (.invokestatic 45, 3) := by decide +kernel
theorem dX5_slot_20 : decode cX5_slot 20 = .ok (.ifCond .eq 12, 3) := by decide +kernel
theorem dX5_slot_23 : decode cX5_slot 23 = .ok (.iload_n 3, 1) := by decide +kernel
theorem dX5_slot_24 : decode cX5_slot 24 = .ok (.iconst 0, 1) := by decide +kernel
theorem dX5_slot_25 : decode cX5_slot 25 = .ok (.iconst 3, 1) := by decide +kernel
theorem dX5_slot_26 : decode cX5_slot 26 = .ok (.invokestatic 45, 3) := by decide +kernel
theorem dX5_slot_29 : decode cX5_slot 29 = .ok (.ifCond .ne 7, 3) := by decide +kernel
theorem dX5_slot_32 : decode cX5_slot 32 = .ok (.iconst 2, 1) := by decide +kernel
theorem dX5_slot_33 : decode cX5_slot 33 = .ok (.goto 4, 3) := by decide +kernel
theorem dX5_slot_36 : decode cX5_slot 36 = .ok (.iconst 0, 1) := by decide +kernel
theorem dX5_slot_37 : decode cX5_slot 37 = .ok (.invokevirtual 86, 3) := by decide +kernel
theorem dX5_slot_40 : decode cX5_slot 40 = .ok (.ifCond .eq 17, 3) := by decide +kernel
theorem dX5_slot_43 : decode cX5_slot 43 = .ok (.aload_n 0, 1) := by decide +kernel
theorem dX5_slot_44 : decode cX5_slot 44 = .ok (.getfield 7, 3) := by decide +kernel
theorem dX5_slot_47 : decode cX5_slot 47 = .ok (.iload_n 1, 1) := by decide +kernel
theorem dX5_slot_48 : decode cX5_slot 48 = .ok (.iload_n 2, 1) := by decide +kernel
theorem dX5_slot_49 : decode cX5_slot 49 = .ok (.iload_n 3, 1) := by decide +kernel
theorem dX5_slot_50 : decode cX5_slot 50 = .ok (.invokestatic 62, 3) := by decide +kernel
theorem dX5_slot_53 : decode cX5_slot 53 = .ok (.iaload, 1) := by decide +kernel
theorem dX5_slot_54 : decode cX5_slot 54 = .ok (.goto 4, 3) := by decide +kernel
theorem dX5_slot_57 : decode cX5_slot 57 = .ok (.iconst 0, 1) := by decide +kernel
theorem dX5_slot_58 : decode cX5_slot 58 = .ok (.ireturn, 1) := by decide +kernel
theorem dX5_stages_0 : decode cX5_stages 0 = .ok (.iconst 0, 1) := by decide +kernel
theorem dX5_stages_1 : decode cX5_stages 1 = .ok (.istore_n 2, 1) := by decide +kernel
theorem dX5_stages_2 : decode cX5_stages 2 = .ok (.iconst 0, 1) := by decide +kernel
theorem dX5_stages_3 : decode cX5_stages 3 = .ok (.istore_n 3, 1) := by decide +kernel
theorem dX5_stages_4 : decode cX5_stages 4 = .ok (.iload_n 3, 1) := by decide +kernel
theorem dX5_stages_5 : decode cX5_stages 5 = .ok (.aload_n 0, 1) := by decide +kernel
theorem dX5_stages_6 : decode cX5_stages 6 = .ok (.getfield 7, 3) := by decide +kernel
theorem dX5_stages_9 : decode cX5_stages 9 = .ok (.iconst 2, 1) := by decide +kernel
theorem dX5_stages_10 : decode cX5_stages 10 = .ok (.iaload, 1) := by decide +kernel
theorem dX5_stages_11 : decode cX5_stages 11 = .ok (.if_icmp .ge 31, 3) := by decide +kernel
theorem dX5_stages_14 : decode cX5_stages 14 = .ok (.iload_n 2, 1) := by decide +kernel
theorem dX5_stages_15 : decode cX5_stages 15 = .ok (.aload_n 0, 1) := by decide +kernel
theorem dX5_stages_16 : decode cX5_stages 16 = .ok (.getfield 7, 3) := by decide +kernel
theorem dX5_stages_19 : decode cX5_stages 19 = .ok (.iload_n 3, 1) := by decide +kernel
theorem dX5_stages_20 : decode cX5_stages 20 = .ok (.iconst 0, 1) := by decide +kernel
theorem dX5_stages_21 : decode cX5_stages 21 = .ok (.invokestatic 69, 3) := by decide +kernel
theorem dX5_stages_24 : decode cX5_stages 24 = .ok (.iaload, 1) := by decide +kernel
theorem dX5_stages_25 : decode cX5_stages 25 = .ok (.iload_n 1, 1) := by decide +kernel
theorem dX5_stages_26 : decode cX5_stages 26 = .ok (.if_icmp .ne 7, 3) := by decide +kernel
theorem dX5_stages_29 : decode cX5_stages 29 = .ok (.iconst 1, 1) := by decide +kernel
theorem dX5_stages_30 : decode cX5_stages 30 = .ok (.goto 4, 3) := by decide +kernel
theorem dX5_stages_33 : decode cX5_stages 33 = .ok (.iconst 0, 1) := by decide +kernel
theorem dX5_stages_34 : decode cX5_stages 34 = .ok (.iadd, 1) := by decide +kernel
theorem dX5_stages_35 : decode cX5_stages 35 = .ok (.istore_n 2, 1) := by decide +kernel
theorem dX5_stages_36 : decode cX5_stages 36 = .ok (.iinc 3 1, 3) := by decide +kernel
theorem dX5_stages_39 : decode cX5_stages 39 = .ok (.goto (-35), 3) := by decide +kernel
theorem dX5_stages_42 : decode cX5_stages 42 = .ok (.iload_n 2, 1) := by decide +kernel
theorem dX5_stages_43 : decode cX5_stages 43 = .ok (.ireturn, 1) := by decide +kernel
theorem dX5_sumOfPupils_0 : decode cX5_sumOfPupils 0 = .ok (.iconst 0, 1) := by decide +kernel
theorem dX5_sumOfPupils_1 : decode cX5_sumOfPupils 1 = .ok (.istore_n 2, 1) := by decide +kernel
theorem dX5_sumOfPupils_2 : decode cX5_sumOfPupils 2 = .ok (.iconst 0, 1) := by decide +kernel
theorem dX5_sumOfPupils_3 : decode cX5_sumOfPupils 3 = .ok (.istore_n 3, 1) := by decide +kernel
theorem dX5_sumOfPupils_4 : decode cX5_sumOfPupils 4 = .ok (.iload_n 3, 1) := by decide +kernel
theorem dX5_sumOfPupils_5 : decode cX5_sumOfPupils 5 = .ok (.aload_n 0, 1) := by decide +kernel
theorem dX5_sumOfPupils_6 : decode cX5_sumOfPupils 6 = .ok (.getfield 7, 3) := by decide +kernel
theorem dX5_sumOfPupils_9 : decode cX5_sumOfPupils 9 = .ok (.iconst 2, 1) := by decide +kernel
theorem dX5_sumOfPupils_10 : decode cX5_sumOfPupils 10 = .ok (.iaload, 1) := by decide +kernel
theorem dX5_sumOfPupils_11 : decode cX5_sumOfPupils 11 = .ok (.if_icmp .ge 22, 3) := by decide +kernel
theorem dX5_sumOfPupils_14 : decode cX5_sumOfPupils 14 = .ok (.iload_n 2, 1) := by decide +kernel
theorem dX5_sumOfPupils_15 : decode cX5_sumOfPupils 15 = .ok (.aload_n 0, 1) := by decide +kernel
theorem dX5_sumOfPupils_16 : decode cX5_sumOfPupils 16 = .ok (.getfield 7, 3) := by decide +kernel
theorem dX5_sumOfPupils_19 : decode cX5_sumOfPupils 19 = .ok (.iload_n 3, 1) := by decide +kernel
theorem dX5_sumOfPupils_20 : decode cX5_sumOfPupils 20 = .ok (.iload_n 1, 1) := by decide +kernel
theorem dX5_sumOfPupils_21 : decode cX5_sumOfPupils 21 = .ok (.invokestatic 69, 3) := by decide +kernel
theorem dX5_sumOfPupils_24 : decode cX5_sumOfPupils 24 = .ok (.iaload, 1) := by decide +kernel
theorem dX5_sumOfPupils_25 : decode cX5_sumOfPupils 25 = .ok (.iadd, 1) := by decide +kernel
theorem dX5_sumOfPupils_26 : decode cX5_sumOfPupils 26 = .ok (.istore_n 2, 1) := by decide +kernel
theorem dX5_sumOfPupils_27 : decode cX5_sumOfPupils 27 = .ok (.iinc 3 1, 3) := by decide +kernel
theorem dX5_sumOfPupils_30 : decode cX5_sumOfPupils 30 = .ok (.goto (-26), 3) := by decide +kernel
theorem dX5_sumOfPupils_33 : decode cX5_sumOfPupils 33 = .ok (.iload_n 2, 1) := by decide +kernel
theorem dX5_sumOfPupils_34 : decode cX5_sumOfPupils 34 = .ok (.ireturn, 1) := by decide +kernel
theorem dX5_sumOfExaminers_0 : decode cX5_sumOfExaminers 0 = .ok (.iconst 0, 1) := by decide +kernel
theorem dX5_sumOfExaminers_1 : decode cX5_sumOfExaminers 1 = .ok (.istore_n 2, 1) := by decide +kernel
theorem dX5_sumOfExaminers_2 : decode cX5_sumOfExaminers 2 = .ok (.iconst 0, 1) := by decide +kernel
theorem dX5_sumOfExaminers_3 : decode cX5_sumOfExaminers 3 = .ok (.istore_n 3, 1) := by decide +kernel
theorem dX5_sumOfExaminers_4 : decode cX5_sumOfExaminers 4 = .ok (.iload_n 3, 1) := by decide +kernel
theorem dX5_sumOfExaminers_5 : decode cX5_sumOfExaminers 5 = .ok (.aload_n 0, 1) := by decide +kernel
theorem dX5_sumOfExaminers_6 : decode cX5_sumOfExaminers 6 = .ok (.getfield 7, 3) := by decide +kernel
theorem dX5_sumOfExaminers_9 : decode cX5_sumOfExaminers 9 = .ok (.iconst 1, 1) := by decide +kernel
theorem dX5_sumOfExaminers_10 : decode cX5_sumOfExaminers 10 = .ok (.iaload, 1) := by decide +kernel
theorem dX5_sumOfExaminers_11 : decode cX5_sumOfExaminers 11 = .ok (.if_icmp .ge 18, 3) := by decide +kernel
theorem dX5_sumOfExaminers_14 : decode cX5_sumOfExaminers 14 = .ok (.iload_n 2, 1) := by decide +kernel
theorem dX5_sumOfExaminers_15 : decode cX5_sumOfExaminers 15 = .ok (.aload_n 0, 1) := by decide +kernel
theorem dX5_sumOfExaminers_16 : decode cX5_sumOfExaminers 16 = .ok (.iload_n 3, 1) := by decide +kernel
theorem dX5_sumOfExaminers_17 : decode cX5_sumOfExaminers 17 = .ok (.iload_n 1, 1) := by decide +kernel
theorem dX5_sumOfExaminers_18 : decode cX5_sumOfExaminers 18 = .ok (.invokevirtual 186, 3) := by decide +kernel
theorem dX5_sumOfExaminers_21 : decode cX5_sumOfExaminers 21 = .ok (.iadd, 1) := by decide +kernel
theorem dX5_sumOfExaminers_22 : decode cX5_sumOfExaminers 22 = .ok (.istore_n 2, 1) := by decide +kernel
theorem dX5_sumOfExaminers_23 : decode cX5_sumOfExaminers 23 = .ok (.iinc 3 1, 3) := by decide +kernel
theorem dX5_sumOfExaminers_26 : decode cX5_sumOfExaminers 26 = .ok (.goto (-22), 3) := by decide +kernel
theorem dX5_sumOfExaminers_29 : decode cX5_sumOfExaminers 29 = .ok (.iload_n 2, 1) := by decide +kernel
theorem dX5_sumOfExaminers_30 : decode cX5_sumOfExaminers 30 = .ok (.ireturn, 1) := by decide +kernel
theorem dX5_sumOfDays_0 : decode cX5_sumOfDays 0 = .ok (.iconst 0, 1) := by decide +kernel
theorem dX5_sumOfDays_1 : decode cX5_sumOfDays 1 = .ok (.istore_n 1, 1) := by decide +kernel
theorem dX5_sumOfDays_2 : decode cX5_sumOfDays 2 = .ok (.iconst 0, 1) := by decide +kernel
theorem dX5_sumOfDays_3 : decode cX5_sumOfDays 3 = .ok (.istore_n 2, 1) := by decide +kernel
theorem dX5_sumOfDays_4 : decode cX5_sumOfDays 4 = .ok (.iload_n 2, 1) := by decide +kernel
theorem dX5_sumOfDays_5 : decode cX5_sumOfDays 5 = .ok (.aload_n 0, 1) := by decide +kernel
theorem dX5_sumOfDays_6 : decode cX5_sumOfDays 6 = .ok (.getfield 7, 3) := by decide +kernel
theorem dX5_sumOfDays_9 : decode cX5_sumOfDays 9 = .ok (.iconst 2, 1) := by decide +kernel
theorem dX5_sumOfDays_10 : decode cX5_sumOfDays 10 = .ok (.iaload, 1) := by decide +kernel
theorem dX5_sumOfDays_11 : decode cX5_sumOfDays 11 = .ok (.if_icmp .ge 31, 3) := by decide +kernel
theorem dX5_sumOfDays_14 : decode cX5_sumOfDays 14 = .ok (.aload_n 0, 1) := by decide +kernel
theorem dX5_sumOfDays_15 : decode cX5_sumOfDays 15 = .ok (.iload_n 2, 1) := by decide +kernel
theorem dX5_sumOfDays_16 : decode cX5_sumOfDays 16 = .ok (.invokevirtual 106, 3) := by decide +kernel
theorem dX5_sumOfDays_19 : decode cX5_sumOfDays 19 = .ok (.istore_n 3, 1) := by decide +kernel
theorem dX5_sumOfDays_20 : decode cX5_sumOfDays 20 = .ok (.iload_n 1, 1) := by decide +kernel
theorem dX5_sumOfDays_21 : decode cX5_sumOfDays 21 = .ok (.iload_n 3, 1) := by decide +kernel
theorem dX5_sumOfDays_22 : decode cX5_sumOfDays 22 = .ok (.iconst (-1), 1) := by decide +kernel
theorem dX5_sumOfDays_23 : decode cX5_sumOfDays 23 = .ok (.if_icmp .ne 7, 3) := by decide +kernel
theorem dX5_sumOfDays_26 : decode cX5_sumOfDays 26 = .ok (.iconst 0, 1) := by decide +kernel
theorem dX5_sumOfDays_27 : decode cX5_sumOfDays 27 = .ok (.goto 7, 3) := by decide +kernel
theorem dX5_sumOfDays_30 : decode cX5_sumOfDays 30 = .ok (.iload_n 3, 1) := by decide +kernel
theorem dX5_sumOfDays_31 : decode cX5_sumOfDays 31 = .ok (.invokestatic 56, 3) := by decide +kernel
theorem dX5_sumOfDays_34 : decode cX5_sumOfDays 34 = .ok (.iadd, 1) := by decide +kernel
theorem dX5_sumOfDays_35 : decode cX5_sumOfDays 35 = .ok (.istore_n 1, 1) := by decide +kernel
theorem dX5_sumOfDays_36 : decode cX5_sumOfDays 36 = .ok (.iinc 2 1, 3) := by decide +kernel
theorem dX5_sumOfDays_39 : decode cX5_sumOfDays 39 = .ok (.goto (-35), 3) := by decide +kernel
theorem dX5_sumOfDays_42 : decode cX5_sumOfDays 42 = .ok (.iload_n 1, 1) := by decide +kernel
theorem dX5_sumOfDays_43 : decode cX5_sumOfDays 43 = .ok (.ireturn, 1) := by decide +kernel
theorem dX5_counted_0 : decode cX5_counted 0 = .ok (.iload_n 1, 1) := by decide +kernel
theorem dX5_counted_1 : decode cX5_counted 1 = .ok (.tableswitch 126 0 13 #[71, 71, 71, 78, 78, 78, 78, 86, 86, 95, 101, 108, 115, 121], 71) := by decide +kernel
theorem dX5_counted_72 : decode cX5_counted 72 = .ok (.aload_n 0, 1) := by decide +kernel
theorem dX5_counted_73 : decode cX5_counted 73 = .ok (.getfield 7, 3) := by decide +kernel
theorem dX5_counted_76 : decode cX5_counted 76 = .ok (.iload_n 1, 1) := by decide +kernel
theorem dX5_counted_77 : decode cX5_counted 77 = .ok (.iaload, 1) := by decide +kernel
theorem dX5_counted_78 : decode cX5_counted 78 = .ok (.ireturn, 1) := by decide +kernel
theorem dX5_counted_79 : decode cX5_counted 79 = .ok (.aload_n 0, 1) := by decide +kernel
theorem dX5_counted_80 : decode cX5_counted 80 = .ok (.iload_n 1, 1) := by decide +kernel
theorem dX5_counted_81 : decode cX5_counted 81 = .ok (.iconst 3, 1) := by decide +kernel
theorem dX5_counted_82 : decode cX5_counted 82 = .ok (.isub, 1) := by decide +kernel
theorem dX5_counted_83 : decode cX5_counted 83 = .ok (.invokevirtual 188, 3) := by decide +kernel
theorem dX5_counted_86 : decode cX5_counted 86 = .ok (.ireturn, 1) := by decide +kernel
theorem dX5_counted_87 : decode cX5_counted 87 = .ok (.aload_n 0, 1) := by decide +kernel
theorem dX5_counted_88 : decode cX5_counted 88 = .ok (.iload_n 1, 1) := by decide +kernel
theorem dX5_counted_89 : decode cX5_counted 89 = .ok (.bipush 7, 2) := by decide +kernel
theorem dX5_counted_91 : decode cX5_counted 91 = .ok (.isub, 1) := by decide +kernel
theorem dX5_counted_92 : decode cX5_counted 92 = .ok (.invokevirtual 191, 3) := by decide +kernel
theorem dX5_counted_95 : decode cX5_counted 95 = .ok (.ireturn, 1) := by decide +kernel
theorem dX5_counted_96 : decode cX5_counted 96 = .ok (.aload_n 0, 1) := by decide +kernel
theorem dX5_counted_97 : decode cX5_counted 97 = .ok (.iconst 5, 1) := by decide +kernel
theorem dX5_counted_98 : decode cX5_counted 98 = .ok (.invokevirtual 194, 3) := by decide +kernel
theorem dX5_counted_101 : decode cX5_counted 101 = .ok (.ireturn, 1) := by decide +kernel
theorem dX5_counted_102 : decode cX5_counted 102 = .ok (.aload_n 0, 1) := by decide +kernel
theorem dX5_counted_103 : decode cX5_counted 103 = .ok (.getfield 7, 3) := by decide +kernel
theorem dX5_counted_106 : decode cX5_counted 106 = .ok (.iconst 4, 1) := by decide +kernel
theorem dX5_counted_107 : decode cX5_counted 107 = .ok (.iaload, 1) := by decide +kernel
theorem dX5_counted_108 : decode cX5_counted 108 = .ok (.ireturn, 1) := by decide +kernel
theorem dX5_counted_109 : decode cX5_counted 109 = .ok (.aload_n 0, 1) := by decide +kernel
theorem dX5_counted_110 : decode cX5_counted 110 = .ok (.bipush 7, 2) := by decide +kernel
theorem dX5_counted_112 : decode cX5_counted 112 = .ok (.invokevirtual 194, 3) := by decide +kernel
theorem dX5_counted_115 : decode cX5_counted 115 = .ok (.ireturn, 1) := by decide +kernel
theorem dX5_counted_116 : decode cX5_counted 116 = .ok (.aload_n 0, 1) := by decide +kernel
theorem dX5_counted_117 : decode cX5_counted 117 = .ok (.iconst 2, 1) := by decide +kernel
theorem dX5_counted_118 : decode cX5_counted 118 = .ok (.invokevirtual 191, 3) := by decide +kernel
theorem dX5_counted_121 : decode cX5_counted 121 = .ok (.ireturn, 1) := by decide +kernel
theorem dX5_counted_122 : decode cX5_counted 122 = .ok (.aload_n 0, 1) := by decide +kernel
theorem dX5_counted_123 : decode cX5_counted 123 = .ok (.invokevirtual 197, 3) := by decide +kernel
theorem dX5_counted_126 : decode cX5_counted 126 = .ok (.ireturn, 1) := by decide +kernel
theorem dX5_counted_127 : decode cX5_counted 127 = .ok (.aload_n 0, 1) := by decide +kernel
theorem dX5_counted_128 : decode cX5_counted 128 = .ok (.getfield 49, 3) := by decide +kernel
theorem dX5_counted_131 : decode cX5_counted 131 = .ok (.ireturn, 1) := by decide +kernel
theorem dX5_count_0 : decode cX5_count 0 = .ok (.aload_n 0, 1) := by decide +kernel
theorem dX5_count_1 : decode cX5_count 1 = .ok (.iload_n 1, 1) := by decide +kernel
theorem dX5_count_2 : decode cX5_count 2 = .ok (.iconst 0, 1) := by decide +kernel
theorem dX5_count_3 : decode cX5_count 3 = .ok (.bipush 14, 2) := by decide +kernel
theorem dX5_count_5 : decode cX5_count 5 = .ok (.invokestatic 45, 3) := by decide +kernel
theorem dX5_count_8 : decode cX5_count 8 = .ok (.ifCond .eq 7, 3) := by decide +kernel
theorem dX5_count_11 : decode cX5_count 11 = .ok (.iconst 0, 1) := by decide +kernel
theorem dX5_count_12 : decode cX5_count 12 = .ok (.goto 4, 3) := by decide +kernel
theorem dX5_count_15 : decode cX5_count 15 = .ok (.iconst 1, 1) := by decide +kernel
theorem dX5_count_16 : decode cX5_count 16 = .ok (.invokevirtual 86, 3) := by decide +kernel
theorem dX5_count_19 : decode cX5_count 19 = .ok (.ifCond .eq 11, 3) := by decide +kernel
theorem dX5_count_22 : decode cX5_count 22 = .ok (.aload_n 0, 1) := by decide +kernel
theorem dX5_count_23 : decode cX5_count 23 = .ok (.iload_n 1, 1) := by decide +kernel
theorem dX5_count_24 : decode cX5_count 24 = .ok (.invokevirtual 200, 3) := by decide +kernel
theorem dX5_count_27 : decode cX5_count 27 = .ok (.goto 4, 3) := by decide +kernel
theorem dX5_count_30 : decode cX5_count 30 = .ok (.iconst 0, 1) := by decide +kernel
theorem dX5_count_31 : decode cX5_count 31 = .ok (.ireturn, 1) := by decide +kernel
theorem dX5_setting_0 : decode cX5_setting 0 = .ok (.aload_n 0, 1) := by decide +kernel
theorem dX5_setting_1 : decode cX5_setting 1 = .ok (.iload_n 1, 1) := by decide +kernel
theorem dX5_setting_2 : decode cX5_setting 2 = .ok (.iconst 0, 1) := by decide +kernel
theorem dX5_setting_3 : decode cX5_setting 3 = .ok (.iconst 3, 1) := by decide +kernel
theorem dX5_setting_4 : decode cX5_setting 4 = .ok (.invokestatic 45, 3) := by decide +kernel
theorem dX5_setting_7 : decode cX5_setting 7 = .ok (.ifCond .eq 7, 3) := by decide +kernel
theorem dX5_setting_10 : decode cX5_setting 10 = .ok (.iconst 0, 1) := by decide +kernel
theorem dX5_setting_11 : decode cX5_setting 11 = .ok (.goto 4, 3) := by decide +kernel
theorem dX5_setting_14 : decode cX5_setting 14 = .ok (.iconst 1, 1) := by decide +kernel
theorem dX5_setting_15 : decode cX5_setting 15 = .ok (.invokevirtual 86, 3) := by decide +kernel
theorem dX5_setting_18 : decode cX5_setting 18 = .ok (.ifCond .eq 14, 3) := by decide +kernel
theorem dX5_setting_21 : decode cX5_setting 21 = .ok (.aload_n 0, 1) := by decide +kernel
theorem dX5_setting_22 : decode cX5_setting 22 = .ok (.getfield 7, 3) := by decide +kernel
theorem dX5_setting_25 : decode cX5_setting 25 = .ok (.iconst 5, 1) := by decide +kernel
theorem dX5_setting_26 : decode cX5_setting 26 = .ok (.iload_n 1, 1) := by decide +kernel
theorem dX5_setting_27 : decode cX5_setting 27 = .ok (.iadd, 1) := by decide +kernel
theorem dX5_setting_28 : decode cX5_setting 28 = .ok (.iaload, 1) := by decide +kernel
theorem dX5_setting_29 : decode cX5_setting 29 = .ok (.goto 4, 3) := by decide +kernel
theorem dX5_setting_32 : decode cX5_setting 32 = .ok (.iconst 0, 1) := by decide +kernel
theorem dX5_setting_33 : decode cX5_setting 33 = .ok (.ireturn, 1) := by decide +kernel
theorem dX5_earliest_0 : decode cX5_earliest 0 = .ok (.aload_n 0, 1) := by decide +kernel
theorem dX5_earliest_1 : decode cX5_earliest 1 = .ok (.aload_n 0, 1) := by decide +kernel
theorem dX5_earliest_2 : decode cX5_earliest 2 = .ok (.iload_n 1, 1) := by decide +kernel
theorem dX5_earliest_3 : decode cX5_earliest 3 = .ok (.invokevirtual 99, 3) := by decide +kernel
theorem dX5_earliest_6 : decode cX5_earliest 6 = .ok (.ifCond .ne 7, 3) := by decide +kernel
theorem dX5_earliest_9 : decode cX5_earliest 9 = .ok (.iconst 1, 1) := by decide +kernel
theorem dX5_earliest_10 : decode cX5_earliest 10 = .ok (.goto 17, 3) := by decide +kernel
theorem dX5_earliest_13 : decode cX5_earliest 13 = .ok (.iload_n 2, 1) := by decide +kernel
theorem dX5_earliest_14 : decode cX5_earliest 14 = .ok (.iconst 0, 1) := by decide +kernel
theorem dX5_earliest_15 : decode cX5_earliest 15 = .ok (.iconst 2, 1) := by decide +kernel
theorem dX5_earliest_16 : decode cX5_earliest 16 = .ok (.invokestatic 45, 3) := by decide +kernel
theorem dX5_earliest_19 : decode cX5_earliest 19 = .ok (.ifCond .ne 7, 3) := by decide +kernel
theorem dX5_earliest_22 : decode cX5_earliest 22 = .ok (.iconst 2, 1) := by decide +kernel
theorem dX5_earliest_23 : decode cX5_earliest 23 = .ok (.goto 4, 3) := by decide +kernel
theorem dX5_earliest_26 : decode cX5_earliest 26 = .ok (.iconst 0, 1) := by decide +kernel
theorem dX5_earliest_27 : decode cX5_earliest 27 = .ok (.invokevirtual 86, 3) := by decide +kernel
theorem dX5_earliest_30 : decode cX5_earliest 30 = .ok (.ifCond .eq 15, 3) := by decide +kernel
theorem dX5_earliest_33 : decode cX5_earliest 33 = .ok (.aload_n 0, 1) := by decide +kernel
theorem dX5_earliest_34 : decode cX5_earliest 34 = .ok (.iload_n 1, 1) := by decide +kernel
theorem dX5_earliest_35 : decode cX5_earliest 35 = .ok (.invokevirtual 83, 3) := by decide +kernel
theorem dX5_earliest_38 : decode cX5_earliest 38 = .ok (.iload_n 2, 1) := by decide +kernel
theorem dX5_earliest_39 : decode cX5_earliest 39 = .ok (.invokestatic 178, 3) := by decide +kernel
theorem dX5_earliest_42 : decode cX5_earliest 42 = .ok (.goto 4, 3) := by decide +kernel
theorem dX5_earliest_45 : decode cX5_earliest 45 = .ok (.iconst 0, 1) := by decide +kernel
theorem dX5_earliest_46 : decode cX5_earliest 46 = .ok (.ireturn, 1) := by decide +kernel
theorem dX5_cancelled_0 : decode cX5_cancelled 0 = .ok (.aload_n 0, 1) := by decide +kernel
theorem dX5_cancelled_1 : decode cX5_cancelled 1 = .ok (.getfield 7, 3) := by decide +kernel
theorem dX5_cancelled_4 : decode cX5_cancelled 4 = .ok (.iload_n 1, 1) := by decide +kernel
theorem dX5_cancelled_5 : decode cX5_cancelled 5 = .ok (.iload_n 2, 1) := by decide +kernel
theorem dX5_cancelled_6 : decode cX5_cancelled 6 = .ok (.iconst 0, 1) := by decide +kernel
theorem dX5_cancelled_7 : decode cX5_cancelled 7 = .ok (.invokestatic 62, 3) := by decide +kernel
theorem dX5_cancelled_10 : decode cX5_cancelled 10 = .ok (.iaload, 1) := by decide +kernel
theorem dX5_cancelled_11 : decode cX5_cancelled 11 = .ok (.istore 4, 2) := by decide +kernel
theorem dX5_cancelled_13 : decode cX5_cancelled 13 = .ok (.aload_n 0, 1) := by decide +kernel
theorem dX5_cancelled_14 : decode cX5_cancelled 14 = .ok (.getfield 7, 3) := by decide +kernel
theorem dX5_cancelled_17 : decode cX5_cancelled 17 = .ok (.iload_n 1, 1) := by decide +kernel
theorem dX5_cancelled_18 : decode cX5_cancelled 18 = .ok (.iload_n 2, 1) := by decide +kernel
theorem dX5_cancelled_19 : decode cX5_cancelled 19 = .ok (.iconst 1, 1) := by decide +kernel
theorem dX5_cancelled_20 : decode cX5_cancelled 20 = .ok (.invokestatic 62, 3) := by decide +kernel
theorem dX5_cancelled_23 : decode cX5_cancelled 23 = .ok (.iaload, 1) := by decide +kernel
theorem dX5_cancelled_24 : decode cX5_cancelled 24 = .ok (.istore 5, 2) := by decide +kernel
theorem dX5_cancelled_26 : decode cX5_cancelled 26 = .ok (.iconst 0, 1) := by decide +kernel
theorem dX5_cancelled_27 : decode cX5_cancelled 27 = .ok (.istore 6, 2) := by decide +kernel
theorem dX5_cancelled_29 : decode cX5_cancelled 29 = .ok (.iload 6, 2) := by decide +kernel
theorem dX5_cancelled_31 : decode cX5_cancelled 31 = .ok (.sipush 341, 3) := by decide +kernel
theorem dX5_cancelled_34 : decode cX5_cancelled 34 = .ok (.if_icmp .ge 23, 3) := by decide +kernel
theorem dX5_cancelled_37 : decode cX5_cancelled 37 = .ok (.aload_n 0, 1) := by decide +kernel
theorem dX5_cancelled_38 : decode cX5_cancelled 38 = .ok (.getfield 13, 3) := by decide +kernel
theorem dX5_cancelled_41 : decode cX5_cancelled 41 = .ok (.iload 6, 2) := by decide +kernel
theorem dX5_cancelled_43 : decode cX5_cancelled 43 = .ok (.aload_n 0, 1) := by decide +kernel
theorem dX5_cancelled_44 : decode cX5_cancelled 44 = .ok (.getfield 7, 3) := by decide +kernel
theorem dX5_cancelled_47 : decode cX5_cancelled 47 = .ok (.iload 6, 2) := by decide +kernel
theorem dX5_cancelled_49 : decode cX5_cancelled 49 = .ok (.iaload, 1) := by decide +kernel
theorem dX5_cancelled_50 : decode cX5_cancelled 50 = .ok (.iastore, 1) := by decide +kernel
theorem dX5_cancelled_51 : decode cX5_cancelled 51 = .ok (.iinc 6 1, 3) := by decide +kernel
theorem dX5_cancelled_54 : decode cX5_cancelled 54 = .ok (.goto (-25), 3) := by decide +kernel
theorem dX5_cancelled_57 : decode cX5_cancelled 57 = .ok (.aload_n 0, 1) := by decide +kernel
theorem dX5_cancelled_58 : decode cX5_cancelled 58 = .ok (.iload_n 1, 1) := by decide +kernel
theorem dX5_cancelled_59 : decode cX5_cancelled 59 = .ok (.iload_n 2, 1) := by decide +kernel
theorem dX5_cancelled_60 : decode cX5_cancelled 60 = .ok (.invokevirtual 127, 3) := by decide +kernel
theorem dX5_cancelled_63 : decode cX5_cancelled 63 = .ok (.istore 6, 2) := by decide +kernel
theorem dX5_cancelled_65 : decode cX5_cancelled 65 = .ok (.iconst 0, 1) := by decide +kernel
theorem dX5_cancelled_66 : decode cX5_cancelled 66 = .ok (.istore 7, 2) := by decide +kernel
theorem dX5_cancelled_68 : decode cX5_cancelled 68 = .ok (.sipush 1000, 3) := by decide +kernel
theorem dX5_cancelled_71 : decode cX5_cancelled 71 = .ok (.istore 8, 2) := by decide +kernel
theorem dX5_cancelled_73 : decode cX5_cancelled 73 = .ok (.iconst 0, 1) := by decide +kernel
theorem dX5_cancelled_74 : decode cX5_cancelled 74 = .ok (.istore 9, 2) := by decide +kernel
theorem dX5_cancelled_76 : decode cX5_cancelled 76 = .ok (.iload 9, 2) := by decide +kernel
theorem dX5_cancelled_78 : decode cX5_cancelled 78 = .ok (.iconst 2, 1) := by decide +kernel
theorem dX5_cancelled_79 : decode cX5_cancelled 79 = .ok (.if_icmp .ge 83, 3) := by decide +kernel
theorem dX5_cancelled_82 : decode cX5_cancelled 82 = .ok (.iload 9, 2) := by decide +kernel
theorem dX5_cancelled_84 : decode cX5_cancelled 84 = .ok (.ifCond .ne 8, 3) := by decide +kernel
theorem dX5_cancelled_87 : decode cX5_cancelled 87 = .ok (.iload 4, 2) := by decide +kernel
theorem dX5_cancelled_89 : decode cX5_cancelled 89 = .ok (.goto 5, 3) := by decide +kernel
theorem dX5_cancelled_92 : decode cX5_cancelled 92 = .ok (.iload 5, 2) := by decide +kernel
theorem dX5_cancelled_94 : decode cX5_cancelled 94 = .ok (.istore 10, 2) := by decide +kernel
theorem dX5_cancelled_96 : decode cX5_cancelled 96 = .ok (.iload 10, 2) := by decide +kernel
theorem dX5_cancelled_98 : decode cX5_cancelled 98 = .ok (.ifCond .ge 7, 3) := by decide +kernel
theorem dX5_cancelled_101 : decode cX5_cancelled 101 = .ok (.iconst (-1), 1) := by decide +kernel
theorem dX5_cancelled_102 : decode cX5_cancelled 102 = .ok (.goto 9, 3) := by decide +kernel
theorem dX5_cancelled_105 : decode cX5_cancelled 105 = .ok (.aload_n 0, 1) := by decide +kernel
theorem dX5_cancelled_106 : decode cX5_cancelled 106 = .ok (.iload 10, 2) := by decide +kernel
theorem dX5_cancelled_108 : decode cX5_cancelled 108 = .ok (.invokevirtual 106, 3) := by decide +kernel
theorem dX5_cancelled_111 : decode cX5_cancelled 111 = .ok (.istore 11, 2) := by decide +kernel
theorem dX5_cancelled_113 : decode cX5_cancelled 113 = .ok (.iload 7, 2) := by decide +kernel
theorem dX5_cancelled_115 : decode cX5_cancelled 115 = .ok (.iload 10, 2) := by decide +kernel
theorem dX5_cancelled_117 : decode cX5_cancelled 117 = .ok (.ifCond .lt 13, 3) := by decide +kernel
theorem dX5_cancelled_120 : decode cX5_cancelled 120 = .ok (.iload 11, 2) := by decide +kernel
theorem dX5_cancelled_122 : decode cX5_cancelled 122 = .ok (.iconst (-1), 1) := by decide +kernel
theorem dX5_cancelled_123 : decode cX5_cancelled 123 = .ok (.if_icmp .ne 7, 3) := by decide +kernel
theorem dX5_cancelled_126 : decode cX5_cancelled 126 = .ok (.iconst 1, 1) := by decide +kernel
theorem dX5_cancelled_127 : decode cX5_cancelled 127 = .ok (.goto 4, 3) := by decide +kernel
theorem dX5_cancelled_130 : decode cX5_cancelled 130 = .ok (.iconst 0, 1) := by decide +kernel
theorem dX5_cancelled_131 : decode cX5_cancelled 131 = .ok (.iadd, 1) := by decide +kernel
theorem dX5_cancelled_132 : decode cX5_cancelled 132 = .ok (.istore 7, 2) := by decide +kernel
theorem dX5_cancelled_134 : decode cX5_cancelled 134 = .ok (.iload 8, 2) := by decide +kernel
theorem dX5_cancelled_136 : decode cX5_cancelled 136 = .ok (.iload 11, 2) := by decide +kernel
theorem dX5_cancelled_138 : decode cX5_cancelled 138 = .ok (.iconst (-1), 1) := by decide +kernel
theorem dX5_cancelled_139 : decode cX5_cancelled 139 = .ok (.if_icmp .ne 7, 3) := by decide +kernel
theorem dX5_cancelled_142 : decode cX5_cancelled 142 = .ok (.iconst 0, 1) := by decide +kernel
theorem dX5_cancelled_143 : decode cX5_cancelled 143 = .ok (.goto 10, 3) := by decide +kernel
theorem dX5_cancelled_146 : decode cX5_cancelled 146 = .ok (.iload 11, 2) := by decide +kernel
theorem dX5_cancelled_148 : decode cX5_cancelled 148 = .ok (.invokestatic 56, 3) := by decide +kernel
theorem dX5_cancelled_151 : decode cX5_cancelled 151 = .ok (.iload_n 2, 1) := by decide +kernel
theorem dX5_cancelled_152 : decode cX5_cancelled 152 = .ok (.isub, 1) := by decide +kernel
theorem dX5_cancelled_153 : decode cX5_cancelled 153 = .ok (.iadd, 1) := by decide +kernel
theorem dX5_cancelled_154 : decode cX5_cancelled 154 = .ok (.istore 8, 2) := by decide +kernel
theorem dX5_cancelled_156 : decode cX5_cancelled 156 = .ok (.iinc 9 1, 3) := by decide +kernel
theorem dX5_cancelled_159 : decode cX5_cancelled 159 = .ok (.goto (-83), 3) := by decide +kernel
theorem dX5_cancelled_162 : decode cX5_cancelled 162 = .ok (.iconst 0, 1) := by decide +kernel
theorem dX5_cancelled_163 : decode cX5_cancelled 163 = .ok (.istore 9, 2) := by decide +kernel
theorem dX5_cancelled_165 : decode cX5_cancelled 165 = .ok (.iload 9, 2) := by decide +kernel
theorem dX5_cancelled_167 : decode cX5_cancelled 167 = .ok (.sipush 341, 3) := by decide +kernel
theorem dX5_cancelled_170 : decode cX5_cancelled 170 = .ok (.if_icmp .ge 23, 3) := by decide +kernel
theorem dX5_cancelled_173 : decode cX5_cancelled 173 = .ok (.aload_n 0, 1) := by decide +kernel
theorem dX5_cancelled_174 : decode cX5_cancelled 174 = .ok (.getfield 7, 3) := by decide +kernel
theorem dX5_cancelled_177 : decode cX5_cancelled 177 = .ok (.iload 9, 2) := by decide +kernel
theorem dX5_cancelled_179 : decode cX5_cancelled 179 = .ok (.aload_n 0, 1) := by decide +kernel
theorem dX5_cancelled_180 : decode cX5_cancelled 180 = .ok (.getfield 13, 3) := by decide +kernel
theorem dX5_cancelled_183 : decode cX5_cancelled 183 = .ok (.iload 9, 2) := by decide +kernel
theorem dX5_cancelled_185 : decode cX5_cancelled 185 = .ok (.iaload, 1) := by decide +kernel
theorem dX5_cancelled_186 : decode cX5_cancelled 186 = .ok (.iastore, 1) := by decide +kernel
theorem dX5_cancelled_187 : decode cX5_cancelled 187 = .ok (.iinc 9 1, 3) := by decide +kernel
theorem dX5_cancelled_190 : decode cX5_cancelled 190 = .ok (.goto (-25), 3) := by decide +kernel
theorem dX5_cancelled_193 : decode cX5_cancelled 193 = .ok (.iload_n 3, 1) := by decide +kernel
theorem dX5_cancelled_194 : decode cX5_cancelled 194 = .ok (.ifCond .ne 8, 3) := by decide +kernel
theorem dX5_cancelled_197 : decode cX5_cancelled 197 = .ok (.iload 6, 2) := by decide +kernel
theorem dX5_cancelled_199 : decode cX5_cancelled 199 = .ok (.goto 15, 3) := by decide +kernel
theorem dX5_cancelled_202 : decode cX5_cancelled 202 = .ok (.iload_n 3, 1) := by decide +kernel
theorem dX5_cancelled_203 : decode cX5_cancelled 203 = .ok (.iconst 1, 1) := by decide +kernel
theorem dX5_cancelled_204 : decode cX5_cancelled 204 = .ok (.if_icmp .ne 8, 3) := by decide +kernel
theorem dX5_cancelled_207 : decode cX5_cancelled 207 = .ok (.iload 7, 2) := by decide +kernel
theorem dX5_cancelled_209 : decode cX5_cancelled 209 = .ok (.goto 5, 3) := by decide +kernel
theorem dX5_cancelled_212 : decode cX5_cancelled 212 = .ok (.iload 8, 2) := by decide +kernel
theorem dX5_cancelled_214 : decode cX5_cancelled 214 = .ok (.ireturn, 1) := by decide +kernel
theorem dX5_ifCancelled_0 : decode cX5_ifCancelled 0 = .ok (.aload_n 0, 1) := by decide +kernel
theorem dX5_ifCancelled_1 : decode cX5_ifCancelled 1 = .ok (.iload_n 1, 1) := by decide +kernel
theorem dX5_ifCancelled_2 : decode cX5_ifCancelled 2 = .ok (.invokevirtual 121, 3) := by decide +kernel
theorem dX5_ifCancelled_5 : decode cX5_ifCancelled 5 = .ok (.ifCond .ne 7, 3) := by decide +kernel
theorem dX5_ifCancelled_8 : decode cX5_ifCancelled 8 = .ok (.iconst 1, 1) := by decide +kernel
theorem dX5_ifCancelled_9 : decode cX5_ifCancelled 9 = .ok (.goto 27, 3) := by decide +kernel
theorem dX5_ifCancelled_12 : decode cX5_ifCancelled 12 = .ok (.iload_n 2, 1) := by decide +kernel
theorem dX5_ifCancelled_13 : decode cX5_ifCancelled 13 = .ok (.iconst 0, 1) := by decide +kernel
theorem dX5_ifCancelled_14 : decode cX5_ifCancelled 14 = .ok (.bipush 9, 2) := by decide +kernel
theorem dX5_ifCancelled_16 : decode cX5_ifCancelled 16 = .ok (.invokestatic 45, 3) := by decide +kernel
theorem dX5_ifCancelled_19 : decode cX5_ifCancelled 19 = .ok (.ifCond .eq 12, 3) := by decide +kernel
theorem dX5_ifCancelled_22 : decode cX5_ifCancelled 22 = .ok (.iload_n 3, 1) := by decide +kernel
theorem dX5_ifCancelled_23 : decode cX5_ifCancelled 23 = .ok (.iconst 0, 1) := by decide +kernel
theorem dX5_ifCancelled_24 : decode cX5_ifCancelled 24 = .ok (.iconst 2, 1) := by decide +kernel
theorem dX5_ifCancelled_25 : decode cX5_ifCancelled 25 = .ok (.invokestatic 45, 3) := by decide +kernel
theorem dX5_ifCancelled_28 : decode cX5_ifCancelled 28 = .ok (.ifCond .ne 7, 3) := by decide +kernel
theorem dX5_ifCancelled_31 : decode cX5_ifCancelled 31 = .ok (.iconst 2, 1) := by decide +kernel
theorem dX5_ifCancelled_32 : decode cX5_ifCancelled 32 = .ok (.goto 4, 3) := by decide +kernel
theorem dX5_ifCancelled_35 : decode cX5_ifCancelled 35 = .ok (.iconst 0, 1) := by decide +kernel
theorem dX5_ifCancelled_36 : decode cX5_ifCancelled 36 = .ok (.istore 4, 2) := by decide +kernel
theorem dX5_ifCancelled_38 : decode cX5_ifCancelled 38 = .ok (.aload_n 0, 1) := by decide +kernel
theorem dX5_ifCancelled_39 : decode cX5_ifCancelled 39 = .ok (.iload 4, 2) := by decide +kernel
theorem dX5_ifCancelled_41 : decode cX5_ifCancelled 41 = .ok (.invokevirtual 86, 3) := by decide +kernel
theorem dX5_ifCancelled_44 : decode cX5_ifCancelled 44 = .ok (.ifCond .eq 13, 3) := by decide +kernel
theorem dX5_ifCancelled_47 : decode cX5_ifCancelled 47 = .ok (.aload_n 0, 1) := by decide +kernel
theorem dX5_ifCancelled_48 : decode cX5_ifCancelled 48 = .ok (.iload_n 1, 1) := by decide +kernel
theorem dX5_ifCancelled_49 : decode cX5_ifCancelled 49 = .ok (.iload_n 2, 1) := by decide +kernel
theorem dX5_ifCancelled_50 : decode cX5_ifCancelled 50 = .ok (.iload_n 3, 1) := by decide +kernel
theorem dX5_ifCancelled_51 : decode cX5_ifCancelled 51 = .ok (.invokevirtual 203, 3) := by decide +kernel
theorem dX5_ifCancelled_54 : decode cX5_ifCancelled 54 = .ok (.goto 4, 3) := by decide +kernel
theorem dX5_ifCancelled_57 : decode cX5_ifCancelled 57 = .ok (.iconst 0, 1) := by decide +kernel
theorem dX5_ifCancelled_58 : decode cX5_ifCancelled 58 = .ok (.ireturn, 1) := by decide +kernel
theorem dX5_ifTested_0 : decode cX5_ifTested 0 = .ok (.aload_n 0, 1) := by decide +kernel
theorem dX5_ifTested_1 : decode cX5_ifTested 1 = .ok (.aload_n 0, 1) := by decide +kernel
theorem dX5_ifTested_2 : decode cX5_ifTested 2 = .ok (.iload_n 1, 1) := by decide +kernel
theorem dX5_ifTested_3 : decode cX5_ifTested 3 = .ok (.invokevirtual 99, 3) := by decide +kernel
theorem dX5_ifTested_6 : decode cX5_ifTested 6 = .ok (.ifCond .eq 15, 3) := by decide +kernel
theorem dX5_ifTested_9 : decode cX5_ifTested 9 = .ok (.aload_n 0, 1) := by decide +kernel
theorem dX5_ifTested_10 : decode cX5_ifTested 10 = .ok (.iload_n 2, 1) := by decide +kernel
theorem dX5_ifTested_11 : decode cX5_ifTested 11 = .ok (.invokevirtual 121, 3) := by decide +kernel
theorem dX5_ifTested_14 : decode cX5_ifTested 14 = .ok (.ifCond .eq 7, 3) := by decide +kernel
theorem dX5_ifTested_17 : decode cX5_ifTested 17 = .ok (.iconst 0, 1) := by decide +kernel
theorem dX5_ifTested_18 : decode cX5_ifTested 18 = .ok (.goto 4, 3) := by decide +kernel
theorem dX5_ifTested_21 : decode cX5_ifTested 21 = .ok (.iconst 1, 1) := by decide +kernel
theorem dX5_ifTested_22 : decode cX5_ifTested 22 = .ok (.invokevirtual 86, 3) := by decide +kernel
theorem dX5_ifTested_25 : decode cX5_ifTested 25 = .ok (.ifCond .eq 12, 3) := by decide +kernel
theorem dX5_ifTested_28 : decode cX5_ifTested 28 = .ok (.aload_n 0, 1) := by decide +kernel
theorem dX5_ifTested_29 : decode cX5_ifTested 29 = .ok (.iload_n 1, 1) := by decide +kernel
theorem dX5_ifTested_30 : decode cX5_ifTested 30 = .ok (.iload_n 2, 1) := by decide +kernel
theorem dX5_ifTested_31 : decode cX5_ifTested 31 = .ok (.invokevirtual 130, 3) := by decide +kernel
theorem dX5_ifTested_34 : decode cX5_ifTested 34 = .ok (.goto 4, 3) := by decide +kernel
theorem dX5_ifTested_37 : decode cX5_ifTested 37 = .ok (.iconst 0, 1) := by decide +kernel
theorem dX5_ifTested_38 : decode cX5_ifTested 38 = .ok (.ireturn, 1) := by decide +kernel
theorem dX5_goAlong_0 : decode cX5_goAlong 0 = .ok (.iconst 1, 1) := by decide +kernel
theorem dX5_goAlong_1 : decode cX5_goAlong 1 = .ok (.istore_n 2, 1) := by decide +kernel
theorem dX5_goAlong_2 : decode cX5_goAlong 2 = .ok (.iload_n 2, 1) := by decide +kernel
theorem dX5_goAlong_3 : decode cX5_goAlong 3 = .ok (.ifCond .eq 114, 3) := by decide +kernel
theorem dX5_goAlong_6 : decode cX5_goAlong 6 = .ok (.iconst 0, 1) := by decide +kernel
theorem dX5_goAlong_7 : decode cX5_goAlong 7 = .ok (.istore_n 2, 1) := by decide +kernel
theorem dX5_goAlong_8 : decode cX5_goAlong 8 = .ok (.iconst 0, 1) := by decide +kernel
theorem dX5_goAlong_9 : decode cX5_goAlong 9 = .ok (.istore_n 3, 1) := by decide +kernel
theorem dX5_goAlong_10 : decode cX5_goAlong 10 = .ok (.iload_n 3, 1) := by decide +kernel
theorem dX5_goAlong_11 : decode cX5_goAlong 11 = .ok (.aload_n 0, 1) := by decide +kernel
theorem dX5_goAlong_12 : decode cX5_goAlong 12 = .ok (.getfield 7, 3) := by decide +kernel
theorem dX5_goAlong_15 : decode cX5_goAlong 15 = .ok (.iconst 2, 1) := by decide +kernel
theorem dX5_goAlong_16 : decode cX5_goAlong 16 = .ok (.iaload, 1) := by decide +kernel
theorem dX5_goAlong_17 : decode cX5_goAlong 17 = .ok (.if_icmp .ge 97, 3) := by decide +kernel
theorem dX5_goAlong_20 : decode cX5_goAlong 20 = .ok (.iconst 0, 1) := by decide +kernel
theorem dX5_goAlong_21 : decode cX5_goAlong 21 = .ok (.istore 4, 2) := by decide +kernel
theorem dX5_goAlong_23 : decode cX5_goAlong 23 = .ok (.iload 4, 2) := by decide +kernel
theorem dX5_goAlong_25 : decode cX5_goAlong 25 = .ok (.bipush 16, 2) := by decide +kernel
theorem dX5_goAlong_27 : decode cX5_goAlong 27 = .ok (.if_icmp .ge 81, 3) := by decide +kernel
theorem dX5_goAlong_30 : decode cX5_goAlong 30 = .ok (.aload_n 0, 1) := by decide +kernel
theorem dX5_goAlong_31 : decode cX5_goAlong 31 = .ok (.getfield 37, 3) := by decide +kernel
theorem dX5_goAlong_34 : decode cX5_goAlong 34 = .ok (.iload_n 3, 1) := by decide +kernel
theorem dX5_goAlong_35 : decode cX5_goAlong 35 = .ok (.baload, 1) := by decide +kernel
theorem dX5_goAlong_36 : decode cX5_goAlong 36 = .ok (.ifCond .eq 72, 3) := by decide +kernel
theorem dX5_goAlong_39 : decode cX5_goAlong 39 = .ok (.aload_n 0, 1) := by decide +kernel
theorem dX5_goAlong_40 : decode cX5_goAlong 40 = .ok (.getfield 34, 3) := by decide +kernel
theorem dX5_goAlong_43 : decode cX5_goAlong 43 = .ok (.iload 4, 2) := by decide +kernel
theorem dX5_goAlong_45 : decode cX5_goAlong 45 = .ok (.iaload, 1) := by decide +kernel
theorem dX5_goAlong_46 : decode cX5_goAlong 46 = .ok (.iconst (-1), 1) := by decide +kernel
theorem dX5_goAlong_47 : decode cX5_goAlong 47 = .ok (.if_icmp .ne 55, 3) := by decide +kernel
theorem dX5_goAlong_50 : decode cX5_goAlong 50 = .ok (.aload_n 0, 1) := by decide +kernel
theorem dX5_goAlong_51 : decode cX5_goAlong 51 = .ok (.iload_n 3, 1) := by decide +kernel
theorem dX5_goAlong_52 : decode cX5_goAlong 52 = .ok (.bipush 16, 2) := by decide +kernel
theorem dX5_goAlong_54 : decode cX5_goAlong 54 = .ok (.iload_n 1, 1) := by decide +kernel
theorem dX5_goAlong_55 : decode cX5_goAlong 55 = .ok (.imul, 1) := by decide +kernel
theorem dX5_goAlong_56 : decode cX5_goAlong 56 = .ok (.iload 4, 2) := by decide +kernel
theorem dX5_goAlong_58 : decode cX5_goAlong 58 = .ok (.iadd, 1) := by decide +kernel
theorem dX5_goAlong_59 : decode cX5_goAlong 59 = .ok (.invokevirtual 73, 3) := by decide +kernel
theorem dX5_goAlong_62 : decode cX5_goAlong 62 = .ok (.ifCond .eq 40, 3) := by decide +kernel
theorem dX5_goAlong_65 : decode cX5_goAlong 65 = .ok (.aload_n 0, 1) := by decide +kernel
theorem dX5_goAlong_66 : decode cX5_goAlong 66 = .ok (.getfield 34, 3) := by decide +kernel
theorem dX5_goAlong_69 : decode cX5_goAlong 69 = .ok (.iload 4, 2) := by decide +kernel
theorem dX5_goAlong_71 : decode cX5_goAlong 71 = .ok (.iload_n 3, 1) := by decide +kernel
theorem dX5_goAlong_72 : decode cX5_goAlong 72 = .ok (.iastore, 1) := by decide +kernel
theorem dX5_goAlong_73 : decode cX5_goAlong 73 = .ok (.aload_n 0, 1) := by decide +kernel
theorem dX5_goAlong_74 : decode cX5_goAlong 74 = .ok (.getfield 28, 3) := by decide +kernel
theorem dX5_goAlong_77 : decode cX5_goAlong 77 = .ok (.iload 4, 2) := by decide +kernel
theorem dX5_goAlong_79 : decode cX5_goAlong 79 = .ok (.iaload, 1) := by decide +kernel
theorem dX5_goAlong_80 : decode cX5_goAlong 80 = .ok (.iconst (-1), 1) := by decide +kernel
theorem dX5_goAlong_81 : decode cX5_goAlong 81 = .ok (.if_icmp .ne 6, 3) := by decide +kernel
theorem dX5_goAlong_84 : decode cX5_goAlong 84 = .ok (.iload 4, 2) := by decide +kernel
theorem dX5_goAlong_86 : decode cX5_goAlong 86 = .ok (.ireturn, 1) := by decide +kernel
theorem dX5_goAlong_87 : decode cX5_goAlong 87 = .ok (.aload_n 0, 1) := by decide +kernel
theorem dX5_goAlong_88 : decode cX5_goAlong 88 = .ok (.getfield 37, 3) := by decide +kernel
theorem dX5_goAlong_91 : decode cX5_goAlong 91 = .ok (.aload_n 0, 1) := by decide +kernel
theorem dX5_goAlong_92 : decode cX5_goAlong 92 = .ok (.getfield 28, 3) := by decide +kernel
theorem dX5_goAlong_95 : decode cX5_goAlong 95 = .ok (.iload 4, 2) := by decide +kernel
theorem dX5_goAlong_97 : decode cX5_goAlong 97 = .ok (.iaload, 1) := by decide +kernel
theorem dX5_goAlong_98 : decode cX5_goAlong 98 = .ok (.iconst 1, 1) := by decide +kernel
theorem dX5_goAlong_99 : decode cX5_goAlong 99 = .ok (.bastore, 1) := by decide +kernel
theorem dX5_goAlong_100 : decode cX5_goAlong 100 = .ok (.iconst 1, 1) := by decide +kernel
theorem dX5_goAlong_101 : decode cX5_goAlong 101 = .ok (.istore_n 2, 1) := by decide +kernel
theorem dX5_goAlong_102 : decode cX5_goAlong 102 = .ok (.iinc 4 1, 3) := by decide +kernel
theorem dX5_goAlong_105 : decode cX5_goAlong 105 = .ok (.goto (-82), 3) := by decide +kernel
theorem dX5_goAlong_108 : decode cX5_goAlong 108 = .ok (.iinc 3 1, 3) := by decide +kernel
theorem dX5_goAlong_111 : decode cX5_goAlong 111 = .ok (.goto (-101), 3) := by decide +kernel
theorem dX5_goAlong_114 : decode cX5_goAlong 114 = .ok (.goto (-112), 3) := by decide +kernel
theorem dX5_goAlong_117 : decode cX5_goAlong 117 = .ok (.iconst (-1), 1) := by decide +kernel
theorem dX5_goAlong_118 : decode cX5_goAlong 118 = .ok (.ireturn, 1) := by decide +kernel
theorem dX5_could_0 : decode cX5_could 0 = .ok (.iconst 0, 1) := by decide +kernel
theorem dX5_could_1 : decode cX5_could 1 = .ok (.istore_n 2, 1) := by decide +kernel
theorem dX5_could_2 : decode cX5_could 2 = .ok (.iconst 0, 1) := by decide +kernel
theorem dX5_could_3 : decode cX5_could 3 = .ok (.istore_n 3, 1) := by decide +kernel
theorem dX5_could_4 : decode cX5_could 4 = .ok (.iload_n 3, 1) := by decide +kernel
theorem dX5_could_5 : decode cX5_could 5 = .ok (.bipush 16, 2) := by decide +kernel
theorem dX5_could_7 : decode cX5_could 7 = .ok (.if_icmp .ge 16, 3) := by decide +kernel
theorem dX5_could_10 : decode cX5_could 10 = .ok (.aload_n 0, 1) := by decide +kernel
theorem dX5_could_11 : decode cX5_could 11 = .ok (.getfield 28, 3) := by decide +kernel
theorem dX5_could_14 : decode cX5_could 14 = .ok (.iload_n 3, 1) := by decide +kernel
theorem dX5_could_15 : decode cX5_could 15 = .ok (.iconst (-1), 1) := by decide +kernel
theorem dX5_could_16 : decode cX5_could 16 = .ok (.iastore, 1) := by decide +kernel
theorem dX5_could_17 : decode cX5_could 17 = .ok (.iinc 3 1, 3) := by decide +kernel
theorem dX5_could_20 : decode cX5_could 20 = .ok (.goto (-16), 3) := by decide +kernel
theorem dX5_could_23 : decode cX5_could 23 = .ok (.iconst 0, 1) := by decide +kernel
theorem dX5_could_24 : decode cX5_could 24 = .ok (.istore_n 3, 1) := by decide +kernel
theorem dX5_could_25 : decode cX5_could 25 = .ok (.iload_n 3, 1) := by decide +kernel
theorem dX5_could_26 : decode cX5_could 26 = .ok (.bipush 12, 2) := by decide +kernel
theorem dX5_could_28 : decode cX5_could 28 = .ok (.if_icmp .ge 16, 3) := by decide +kernel
theorem dX5_could_31 : decode cX5_could 31 = .ok (.aload_n 0, 1) := by decide +kernel
theorem dX5_could_32 : decode cX5_could 32 = .ok (.getfield 31, 3) := by decide +kernel
theorem dX5_could_35 : decode cX5_could 35 = .ok (.iload_n 3, 1) := by decide +kernel
theorem dX5_could_36 : decode cX5_could 36 = .ok (.iconst (-1), 1) := by decide +kernel
theorem dX5_could_37 : decode cX5_could 37 = .ok (.iastore, 1) := by decide +kernel
