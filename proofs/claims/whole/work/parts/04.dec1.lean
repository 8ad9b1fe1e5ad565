theorem dX4_ask_14 : decode cX4_ask 14 = .ok (.dup, 1) := by decide +kernel
theorem dX4_ask_15 : decode cX4_ask 15 = .ok (.ldc 65, 2) := by decide +kernel
theorem dX4_ask_17 : decode cX4_ask 17 = .ok (.invokespecial 67, 3) := by decide +kernel
theorem dX4_ask_20 : decode cX4_ask 20 = .ok (.athrow, 1) := by decide +kernel
theorem dX4_ask_21 : decode cX4_ask 21 = .ok (.aload_n 0, 1) := by decide +kernel
theorem dX4_ask_22 : decode cX4_ask 22 = .ok (.getfield 12, 3) := by decide +kernel
theorem dX4_ask_25 : decode cX4_ask 25 = .ok (.iload_n 1, 1) := by decide +kernel
theorem dX4_ask_26 : decode cX4_ask 26 = .ok (.invokevirtual 68, 3) := by decide +kernel
theorem dX4_ask_29 : decode cX4_ask 29 = .ok (.ifCond .ne 13, 3) := by decide +kernel
theorem dX4_ask_32 : decode cX4_ask 32 = .ok (.new 37, 3) := by decide +kernel
theorem dX4_ask_35 : decode cX4_ask 35 = .ok (.dup, 1) := by decide +kernel
theorem dX4_ask_36 : decode cX4_ask 36 = .ok (.ldc 71, 2) := by decide +kernel
theorem dX4_ask_38 : decode cX4_ask 38 = .ok (.invokespecial 41, 3) := by decide +kernel
theorem dX4_ask_41 : decode cX4_ask 41 = .ok (.athrow, 1) := by decide +kernel
theorem dX4_ask_42 : decode cX4_ask 42 = .ok (.aload_n 0, 1) := by decide +kernel
theorem dX4_ask_43 : decode cX4_ask 43 = .ok (.invokevirtual 44, 3) := by decide +kernel
theorem dX4_ask_46 : decode cX4_ask 46 = .ok (.aload_n 0, 1) := by decide +kernel
theorem dX4_ask_47 : decode cX4_ask 47 = .ok (.getfield 12, 3) := by decide +kernel
theorem dX4_ask_50 : decode cX4_ask 50 = .ok (.iload_n 1, 1) := by decide +kernel
theorem dX4_ask_51 : decode cX4_ask 51 = .ok (.invokevirtual 73, 3) := by decide +kernel
theorem dX4_ask_54 : decode cX4_ask 54 = .ok (.ireturn, 1) := by decide +kernel
theorem dX4_quit_0 : decode cX4_quit 0 = .ok (.aload_n 0, 1) := by decide +kernel
theorem dX4_quit_1 : decode cX4_quit 1 = .ok (.getfield 12, 3) := by decide +kernel
theorem dX4_quit_4 : decode cX4_quit 4 = .ok (.iload_n 1, 1) := by decide +kernel
theorem dX4_quit_5 : decode cX4_quit 5 = .ok (.invokevirtual 59, 3) := by decide +kernel
theorem dX4_quit_8 : decode cX4_quit 8 = .ok (.ifCond .ne 13, 3) := by decide +kernel
theorem dX4_quit_11 : decode cX4_quit 11 = .ok (.new 63, 3) := by decide +kernel
theorem dX4_quit_14 : decode cX4_quit 14 = .ok (.dup, 1) := by decide +kernel
theorem dX4_quit_15 : decode cX4_quit 15 = .ok (.ldc 65, 2) := by decide +kernel
theorem dX4_quit_17 : decode cX4_quit 17 = .ok (.invokespecial 67, 3) := by decide +kernel
theorem dX4_quit_20 : decode cX4_quit 20 = .ok (.athrow, 1) := by decide +kernel
theorem dX4_quit_21 : decode cX4_quit 21 = .ok (.aload_n 0, 1) := by decide +kernel
theorem dX4_quit_22 : decode cX4_quit 22 = .ok (.getfield 12, 3) := by decide +kernel
theorem dX4_quit_25 : decode cX4_quit 25 = .ok (.iload_n 1, 1) := by decide +kernel
theorem dX4_quit_26 : decode cX4_quit 26 = .ok (.invokevirtual 77, 3) := by decide +kernel
theorem dX4_quit_29 : decode cX4_quit 29 = .ok (.ifCond .ne 13, 3) := by decide +kernel
theorem dX4_quit_32 : decode cX4_quit 32 = .ok (.new 37, 3) := by decide +kernel
theorem dX4_quit_35 : decode cX4_quit 35 = .ok (.dup, 1) := by decide +kernel
theorem dX4_quit_36 : decode cX4_quit 36 = .ok (.ldc 80, 2) := by decide +kernel
theorem dX4_quit_38 : decode cX4_quit 38 = .ok (.invokespecial 41, 3) := by decide +kernel
theorem dX4_quit_41 : decode cX4_quit 41 = .ok (.athrow, 1) := by decide +kernel
theorem dX4_quit_42 : decode cX4_quit 42 = .ok (.aload_n 0, 1) := by decide +kernel
theorem dX4_quit_43 : decode cX4_quit 43 = .ok (.invokevirtual 44, 3) := by decide +kernel
theorem dX4_quit_46 : decode cX4_quit 46 = .ok (.aload_n 0, 1) := by decide +kernel
theorem dX4_quit_47 : decode cX4_quit 47 = .ok (.getfield 12, 3) := by decide +kernel
theorem dX4_quit_50 : decode cX4_quit 50 = .ok (.iload_n 1, 1) := by decide +kernel
theorem dX4_quit_51 : decode cX4_quit 51 = .ok (.invokevirtual 82, 3) := by decide +kernel
theorem dX4_quit_54 : decode cX4_quit 54 = .ok (.ireturn, 1) := by decide +kernel
theorem dX4_cancel_0 : decode cX4_cancel 0 = .ok (.aload_n 0, 1) := by decide +kernel
theorem dX4_cancel_1 : decode cX4_cancel 1 = .ok (.getfield 12, 3) := by decide +kernel
theorem dX4_cancel_4 : decode cX4_cancel 4 = .ok (.iload_n 1, 1) := by decide +kernel
theorem dX4_cancel_5 : decode cX4_cancel 5 = .ok (.invokevirtual 85, 3) := by decide +kernel
theorem dX4_cancel_8 : decode cX4_cancel 8 = .ok (.ifCond .ne 13, 3) := by decide +kernel
theorem dX4_cancel_11 : decode cX4_cancel 11 = .ok (.new 63, 3) := by decide +kernel
theorem dX4_cancel_14 : decode cX4_cancel 14 = .ok (.dup, 1) := by decide +kernel
theorem dX4_cancel_15 : decode cX4_cancel 15 = .ok (.ldc 88, 2) := by decide +kernel
theorem dX4_cancel_17 : decode cX4_cancel 17 = .ok (.invokespecial 67, 3) := by decide +kernel
theorem dX4_cancel_20 : decode cX4_cancel 20 = .ok (.athrow, 1) := by decide +kernel
theorem dX4_cancel_21 : decode cX4_cancel 21 = .ok (.iload_n 2, 1) := by decide +kernel
theorem dX4_cancel_22 : decode cX4_cancel 22 = .ok (.iconst 0, 1) := by decide +kernel
theorem dX4_cancel_23 : decode cX4_cancel 23 = .ok (.bipush 9, 2) := by decide +kernel
theorem dX4_cancel_25 : decode cX4_cancel 25 = .ok (.invokestatic 90, 3) := by decide +kernel
theorem dX4_cancel_28 : decode cX4_cancel 28 = .ok (.ifCond .ne 13, 3) := by decide +kernel
theorem dX4_cancel_31 : decode cX4_cancel 31 = .ok (.new 94, 3) := by decide +kernel
theorem dX4_cancel_34 : decode cX4_cancel 34 = .ok (.dup, 1) := by decide +kernel
theorem dX4_cancel_35 : decode cX4_cancel 35 = .ok (.ldc 96, 2) := by decide +kernel
theorem dX4_cancel_37 : decode cX4_cancel 37 = .ok (.invokespecial 98, 3) := by decide +kernel
theorem dX4_cancel_40 : decode cX4_cancel 40 = .ok (.athrow, 1) := by decide +kernel
theorem dX4_cancel_41 : decode cX4_cancel 41 = .ok (.aload_n 0, 1) := by decide +kernel
theorem dX4_cancel_42 : decode cX4_cancel 42 = .ok (.invokevirtual 44, 3) := by decide +kernel
theorem dX4_cancel_45 : decode cX4_cancel 45 = .ok (.aload_n 0, 1) := by decide +kernel
theorem dX4_cancel_46 : decode cX4_cancel 46 = .ok (.getfield 12, 3) := by decide +kernel
theorem dX4_cancel_49 : decode cX4_cancel 49 = .ok (.iload_n 1, 1) := by decide +kernel
theorem dX4_cancel_50 : decode cX4_cancel 50 = .ok (.iload_n 2, 1) := by decide +kernel
theorem dX4_cancel_51 : decode cX4_cancel 51 = .ok (.invokevirtual 99, 3) := by decide +kernel
theorem dX4_cancel_54 : decode cX4_cancel 54 = .ok (.ireturn, 1) := by decide +kernel
theorem dX4_test_0 : decode cX4_test 0 = .ok (.aload_n 0, 1) := by decide +kernel
theorem dX4_test_1 : decode cX4_test 1 = .ok (.getfield 12, 3) := by decide +kernel
theorem dX4_test_4 : decode cX4_test 4 = .ok (.iload_n 1, 1) := by decide +kernel
theorem dX4_test_5 : decode cX4_test 5 = .ok (.invokevirtual 59, 3) := by decide +kernel
theorem dX4_test_8 : decode cX4_test 8 = .ok (.ifCond .ne 13, 3) := by decide +kernel
theorem dX4_test_11 : decode cX4_test 11 = .ok (.new 63, 3) := by decide +kernel
theorem dX4_test_14 : decode cX4_test 14 = .ok (.dup, 1) := by decide +kernel
theorem dX4_test_15 : decode cX4_test 15 = .ok (.ldc 65, 2) := by decide +kernel
theorem dX4_test_17 : decode cX4_test 17 = .ok (.invokespecial 67, 3) := by decide +kernel
theorem dX4_test_20 : decode cX4_test 20 = .ok (.athrow, 1) := by decide +kernel
theorem dX4_test_21 : decode cX4_test 21 = .ok (.aload_n 0, 1) := by decide +kernel
theorem dX4_test_22 : decode cX4_test 22 = .ok (.getfield 12, 3) := by decide +kernel
theorem dX4_test_25 : decode cX4_test 25 = .ok (.iload_n 1, 1) := by decide +kernel
theorem dX4_test_26 : decode cX4_test 26 = .ok (.invokevirtual 103, 3) := by decide +kernel
theorem dX4_test_29 : decode cX4_test 29 = .ok (.ifCond .ne 13, 3) := by decide +kernel
theorem dX4_test_32 : decode cX4_test 32 = .ok (.new 37, 3) := by decide +kernel
theorem dX4_test_35 : decode cX4_test 35 = .ok (.dup, 1) := by decide +kernel
theorem dX4_test_36 : decode cX4_test 36 = .ok (.ldc 106, 2) := by decide +kernel
theorem dX4_test_38 : decode cX4_test 38 = .ok (.invokespecial 41, 3) := by decide +kernel
theorem dX4_test_41 : decode cX4_test 41 = .ok (.athrow, 1) := by decide +kernel
theorem dX4_test_42 : decode cX4_test 42 = .ok (.aload_n 0, 1) := by decide +kernel
theorem dX4_test_43 : decode cX4_test 43 = .ok (.invokevirtual 44, 3) := by decide +kernel
theorem dX4_test_46 : decode cX4_test 46 = .ok (.aload_n 0, 1) := by decide +kernel
theorem dX4_test_47 : decode cX4_test 47 = .ok (.getfield 12, 3) := by decide +kernel
theorem dX4_test_50 : decode cX4_test 50 = .ok (.iload_n 1, 1) := by decide +kernel
theorem dX4_test_51 : decode cX4_test 51 = .ok (.iload_n 2, 1) := by decide +kernel
theorem dX4_test_52 : decode cX4_test 52 = .ok (.invokevirtual 108, 3) := by decide +kernel
theorem dX4_test_55 : decode cX4_test 55 = .ok (.ireturn, 1) := by decide +kernel
theorem dX4_next_0 : decode cX4_next 0 = .ok (.aload_n 0, 1) := by decide +kernel
theorem dX4_next_1 : decode cX4_next 1 = .ok (.getfield 12, 3) := by decide +kernel
theorem dX4_next_4 : decode cX4_next 4 = .ok (.invokevirtual 112, 3) := by decide +kernel
theorem dX4_next_7 : decode cX4_next 7 = .ok (.ifCond .ne 13, 3) := by decide +kernel
theorem dX4_next_10 : decode cX4_next 10 = .ok (.new 37, 3) := by decide +kernel
theorem dX4_next_13 : decode cX4_next 13 = .ok (.dup, 1) := by decide +kernel
theorem dX4_next_14 : decode cX4_next 14 = .ok (.ldc 116, 2) := by decide +kernel
theorem dX4_next_16 : decode cX4_next 16 = .ok (.invokespecial 41, 3) := by decide +kernel
theorem dX4_next_19 : decode cX4_next 19 = .ok (.athrow, 1) := by decide +kernel
theorem dX4_next_20 : decode cX4_next 20 = .ok (.aload_n 0, 1) := by decide +kernel
theorem dX4_next_21 : decode cX4_next 21 = .ok (.invokevirtual 44, 3) := by decide +kernel
theorem dX4_next_24 : decode cX4_next 24 = .ok (.aload_n 0, 1) := by decide +kernel
theorem dX4_next_25 : decode cX4_next 25 = .ok (.getfield 12, 3) := by decide +kernel
theorem dX4_next_28 : decode cX4_next 28 = .ok (.invokevirtual 118, 3) := by decide +kernel
theorem dX4_next_31 : decode cX4_next 31 = .ok (.ireturn, 1) := by decide +kernel
theorem dX4_set_0 : decode cX4_set 0 = .ok (.iload_n 1, 1) := by decide +kernel
theorem dX4_set_1 : decode cX4_set 1 = .ok (.invokestatic 121, 3) := by decide +kernel
theorem dX4_set_4 : decode cX4_set 4 = .ok (.ifCond .ne 13, 3) := by decide +kernel
theorem dX4_set_7 : decode cX4_set 7 = .ok (.new 63, 3) := by decide +kernel
theorem dX4_set_10 : decode cX4_set 10 = .ok (.dup, 1) := by decide +kernel
theorem dX4_set_11 : decode cX4_set 11 = .ok (.ldc 124, 2) := by decide +kernel
theorem dX4_set_13 : decode cX4_set 13 = .ok (.invokespecial 67, 3) := by decide +kernel
theorem dX4_set_16 : decode cX4_set 16 = .ok (.athrow, 1) := by decide +kernel
theorem dX4_set_17 : decode cX4_set 17 = .ok (.iload_n 2, 1) := by decide +kernel
theorem dX4_set_18 : decode cX4_set 18 = .ok (.iconst 0, 1) := by decide +kernel
theorem dX4_set_19 : decode cX4_set 19 = .ok (.getstatic 126, 3) := by decide +kernel
theorem dX4_set_22 : decode cX4_set 22 = .ok (.iload_n 1, 1) := by decide +kernel
theorem dX4_set_23 : decode cX4_set 23 = .ok (.iaload, 1) := by decide +kernel
theorem dX4_set_24 : decode cX4_set 24 = .ok (.invokestatic 90, 3) := by decide +kernel
theorem dX4_set_27 : decode cX4_set 27 = .ok (.ifCond .ne 13, 3) := by decide +kernel
theorem dX4_set_30 : decode cX4_set 30 = .ok (.new 94, 3) := by decide +kernel
theorem dX4_set_33 : decode cX4_set 33 = .ok (.dup, 1) := by decide +kernel
theorem dX4_set_34 : decode cX4_set 34 = .ok (.ldc 130, 2) := by decide +kernel
theorem dX4_set_36 : decode cX4_set 36 = .ok (.invokespecial 98, 3) := by decide +kernel
theorem dX4_set_39 : decode cX4_set 39 = .ok (.athrow, 1) := by decide +kernel
theorem dX4_set_40 : decode cX4_set 40 = .ok (.aload_n 0, 1) := by decide +kernel
theorem dX4_set_41 : decode cX4_set 41 = .ok (.invokevirtual 44, 3) := by decide +kernel
theorem dX4_set_44 : decode cX4_set 44 = .ok (.aload_n 0, 1) := by decide +kernel
theorem dX4_set_45 : decode cX4_set 45 = .ok (.getfield 12, 3) := by decide +kernel
theorem dX4_set_48 : decode cX4_set 48 = .ok (.getfield 132, 3) := by decide +kernel
theorem dX4_set_51 : decode cX4_set 51 = .ok (.iload_n 1, 1) := by decide +kernel
theorem dX4_set_52 : decode cX4_set 52 = .ok (.iaload, 1) := by decide +kernel
theorem dX4_set_53 : decode cX4_set 53 = .ok (.istore_n 3, 1) := by decide +kernel
theorem dX4_set_54 : decode cX4_set 54 = .ok (.aload_n 0, 1) := by decide +kernel
theorem dX4_set_55 : decode cX4_set 55 = .ok (.getfield 12, 3) := by decide +kernel
theorem dX4_set_58 : decode cX4_set 58 = .ok (.getfield 132, 3) := by decide +kernel
theorem dX4_set_61 : decode cX4_set 61 = .ok (.iload_n 1, 1) := by decide +kernel
theorem dX4_set_62 : decode cX4_set 62 = .ok (.iload_n 2, 1) := by decide +kernel
theorem dX4_set_63 : decode cX4_set 63 = .ok (.iastore, 1) := by decide +kernel
theorem dX4_set_64 : decode cX4_set 64 = .ok (.iload_n 3, 1) := by decide +kernel
theorem dX4_set_65 : decode cX4_set 65 = .ok (.ireturn, 1) := by decide +kernel
theorem dX4_append_0 : decode cX4_append 0 = .ok (.iload_n 1, 1) := by decide +kernel
theorem dX4_append_1 : decode cX4_append 1 = .ok (.bipush 33, 2) := by decide +kernel
theorem dX4_append_3 : decode cX4_append 3 = .ok (.bipush 126, 2) := by decide +kernel
theorem dX4_append_5 : decode cX4_append 5 = .ok (.invokestatic 90, 3) := by decide +kernel
theorem dX4_append_8 : decode cX4_append 8 = .ok (.ifCond .ne 13, 3) := by decide +kernel
theorem dX4_append_11 : decode cX4_append 11 = .ok (.new 94, 3) := by decide +kernel
theorem dX4_append_14 : decode cX4_append 14 = .ok (.dup, 1) := by decide +kernel
theorem dX4_append_15 : decode cX4_append 15 = .ok (.ldc 135, 2) := by decide +kernel
theorem dX4_append_17 : decode cX4_append 17 = .ok (.invokespecial 98, 3) := by decide +kernel
theorem dX4_append_20 : decode cX4_append 20 = .ok (.athrow, 1) := by decide +kernel
theorem dX4_append_21 : decode cX4_append 21 = .ok (.aload_n 0, 1) := by decide +kernel
theorem dX4_append_22 : decode cX4_append 22 = .ok (.getfield 30, 3) := by decide +kernel
theorem dX4_append_25 : decode cX4_append 25 = .ok (.invokevirtual 137, 3) := by decide +kernel
theorem dX4_append_28 : decode cX4_append 28 = .ok (.ifCond .ne 13, 3) := by decide +kernel
theorem dX4_append_31 : decode cX4_append 31 = .ok (.new 37, 3) := by decide +kernel
theorem dX4_append_34 : decode cX4_append 34 = .ok (.dup, 1) := by decide +kernel
theorem dX4_append_35 : decode cX4_append 35 = .ok (.ldc 140, 2) := by decide +kernel
theorem dX4_append_37 : decode cX4_append 37 = .ok (.invokespecial 41, 3) := by decide +kernel
theorem dX4_append_40 : decode cX4_append 40 = .ok (.athrow, 1) := by decide +kernel
theorem dX4_append_41 : decode cX4_append 41 = .ok (.aload_n 0, 1) := by decide +kernel
theorem dX4_append_42 : decode cX4_append 42 = .ok (.getfield 30, 3) := by decide +kernel
theorem dX4_append_45 : decode cX4_append 45 = .ok (.iload_n 1, 1) := by decide +kernel
theorem dX4_append_46 : decode cX4_append 46 = .ok (.invokevirtual 142, 3) := by decide +kernel
theorem dX4_append_49 : decode cX4_append 49 = .ok (.aload_n 0, 1) := by decide +kernel
theorem dX4_append_50 : decode cX4_append 50 = .ok (.getfield 30, 3) := by decide +kernel
theorem dX4_append_53 : decode cX4_append 53 = .ok (.getfield 146, 3) := by decide +kernel
theorem dX4_append_56 : decode cX4_append 56 = .ok (.ireturn, 1) := by decide +kernel
theorem dX4_clearBuffer_0 : decode cX4_clearBuffer 0 = .ok (.aload_n 0, 1) := by decide +kernel
theorem dX4_clearBuffer_1 : decode cX4_clearBuffer 1 = .ok (.getfield 30, 3) := by decide +kernel
theorem dX4_clearBuffer_4 : decode cX4_clearBuffer 4 = .ok (.getfield 146, 3) := by decide +kernel
theorem dX4_clearBuffer_7 : decode cX4_clearBuffer 7 = .ok (.istore_n 1, 1) := by decide +kernel
theorem dX4_clearBuffer_8 : decode cX4_clearBuffer 8 = .ok (.aload_n 0, 1) := by decide +kernel
theorem dX4_clearBuffer_9 : decode cX4_clearBuffer 9 = .ok (.getfield 30, 3) := by decide +kernel
theorem dX4_clearBuffer_12 : decode cX4_clearBuffer 12 = .ok (.iconst 0, 1) := by decide +kernel
theorem dX4_clearBuffer_13 : decode cX4_clearBuffer 13 = .ok (.putfield 146, 3) := by decide +kernel
theorem dX4_clearBuffer_16 : decode cX4_clearBuffer 16 = .ok (.iload_n 1, 1) := by decide +kernel
theorem dX4_clearBuffer_17 : decode cX4_clearBuffer 17 = .ok (.ireturn, 1) := by decide +kernel
theorem dX4_firstError_0 : decode cX4_firstError 0 = .ok (.aload_n 0, 1) := by decide +kernel
theorem dX4_firstError_1 : decode cX4_firstError 1 = .ok (.getfield 30, 3) := by decide +kernel
theorem dX4_firstError_4 : decode cX4_firstError 4 = .ok (.invokevirtual 149, 3) := by decide +kernel
theorem dX4_firstError_7 : decode cX4_firstError 7 = .ok (.pop, 1) := by decide +kernel
theorem dX4_firstError_8 : decode cX4_firstError 8 = .ok (.aload_n 0, 1) := by decide +kernel
theorem dX4_firstError_9 : decode cX4_firstError 9 = .ok (.getfield 30, 3) := by decide +kernel
theorem dX4_firstError_12 : decode cX4_firstError 12 = .ok (.getfield 152, 3) := by decide +kernel
theorem dX4_firstError_15 : decode cX4_firstError 15 = .ok (.ireturn, 1) := by decide +kernel
theorem dX4_run_0 : decode cX4_run 0 = .ok (.aload_n 0, 1) := by decide +kernel
theorem dX4_run_1 : decode cX4_run 1 = .ok (.getfield 30, 3) := by decide +kernel
theorem dX4_run_4 : decode cX4_run 4 = .ok (.invokevirtual 149, 3) := by decide +kernel
theorem dX4_run_7 : decode cX4_run 7 = .ok (.ifCond .ne 13, 3) := by decide +kernel
theorem dX4_run_10 : decode cX4_run 10 = .ok (.new 94, 3) := by decide +kernel
theorem dX4_run_13 : decode cX4_run 13 = .ok (.dup, 1) := by decide +kernel
theorem dX4_run_14 : decode cX4_run 14 = .ok (.ldc 155, 2) := by decide +kernel
theorem dX4_run_16 : decode cX4_run 16 = .ok (.invokespecial 98, 3) := by decide +kernel
theorem dX4_run_19 : decode cX4_run 19 = .ok (.athrow, 1) := by decide +kernel
theorem dX4_run_20 : decode cX4_run 20 = .ok (.aload_n 0, 1) := by decide +kernel
theorem dX4_run_21 : decode cX4_run 21 = .ok (.invokevirtual 44, 3) := by decide +kernel
theorem dX4_run_24 : decode cX4_run 24 = .ok (.iconst 0, 1) := by decide +kernel
theorem dX4_run_25 : decode cX4_run 25 = .ok (.istore_n 1, 1) := by decide +kernel
theorem dX4_run_26 : decode cX4_run 26 = .ok (.iload_n 1, 1) := by decide +kernel
theorem dX4_run_27 : decode cX4_run 27 = .ok (.aload_n 0, 1) := by decide +kernel
theorem dX4_run_28 : decode cX4_run 28 = .ok (.getfield 30, 3) := by decide +kernel
theorem dX4_run_31 : decode cX4_run 31 = .ok (.getfield 157, 3) := by decide +kernel
theorem dX4_run_34 : decode cX4_run 34 = .ok (.if_icmp .ge 17, 3) := by decide +kernel
theorem dX4_run_37 : decode cX4_run 37 = .ok (.aload_n 0, 1) := by decide +kernel
theorem dX4_run_38 : decode cX4_run 38 = .ok (.iload_n 1, 1) := by decide +kernel
theorem dX4_run_39 : decode cX4_run 39 = .ok (.invokevirtual 160, 3) := by decide +kernel
theorem dX4_run_42 : decode cX4_run 42 = .ok (.ifCond .eq 9, 3) := by decide +kernel
theorem dX4_run_45 : decode cX4_run 45 = .ok (.iinc 1 1, 3) := by decide +kernel
theorem dX4_run_48 : decode cX4_run 48 = .ok (.goto (-22), 3) := by decide +kernel
theorem dX4_run_51 : decode cX4_run 51 = .ok (.aload_n 0, 1) := by decide +kernel
theorem dX4_run_52 : decode cX4_run 52 = .ok (.getfield 30, 3) := by decide +kernel
theorem dX4_run_55 : decode cX4_run 55 = .ok (.iconst 0, 1) := by decide +kernel
theorem dX4_run_56 : decode cX4_run 56 = .ok (.putfield 146, 3) := by decide +kernel
theorem dX4_run_59 : decode cX4_run 59 = .ok (.iload_n 1, 1) := by decide +kernel
theorem dX4_run_60 : decode cX4_run 60 = .ok (.ireturn, 1) := by decide +kernel
theorem dX4_undo_0 : decode cX4_undo 0 = .ok (.aload_n 0, 1) := by decide +kernel
theorem dX4_undo_1 : decode cX4_undo 1 = .ok (.getfield 23, 3) := by decide +kernel
theorem dX4_undo_4 : decode cX4_undo 4 = .ok (.iconst 1, 1) := by decide +kernel
theorem dX4_undo_5 : decode cX4_undo 5 = .ok (.aload_n 0, 1) := by decide +kernel
theorem dX4_undo_6 : decode cX4_undo 6 = .ok (.getfield 19, 3) := by decide +kernel
theorem dX4_undo_9 : decode cX4_undo 9 = .ok (.arraylength, 1) := by decide +kernel
theorem dX4_undo_10 : decode cX4_undo 10 = .ok (.invokestatic 90, 3) := by decide +kernel
theorem dX4_undo_13 : decode cX4_undo 13 = .ok (.ifCond .ne 13, 3) := by decide +kernel
theorem dX4_undo_16 : decode cX4_undo 16 = .ok (.new 37, 3) := by decide +kernel
theorem dX4_undo_19 : decode cX4_undo 19 = .ok (.dup, 1) := by decide +kernel
theorem dX4_undo_20 : decode cX4_undo 20 = .ok (.ldc 163, 2) := by decide +kernel
theorem dX4_undo_22 : decode cX4_undo 22 = .ok (.invokespecial 41, 3) := by decide +kernel
theorem dX4_undo_25 : decode cX4_undo 25 = .ok (.athrow, 1) := by decide +kernel
theorem dX4_undo_26 : decode cX4_undo 26 = .ok (.aload_n 0, 1) := by decide +kernel
theorem dX4_undo_27 : decode cX4_undo 27 = .ok (.dup, 1) := by decide +kernel
theorem dX4_undo_28 : decode cX4_undo 28 = .ok (.getfield 23, 3) := by decide +kernel
theorem dX4_undo_31 : decode cX4_undo 31 = .ok (.iconst 1, 1) := by decide +kernel
theorem dX4_undo_32 : decode cX4_undo 32 = .ok (.isub, 1) := by decide +kernel
theorem dX4_undo_33 : decode cX4_undo 33 = .ok (.putfield 23, 3) := by decide +kernel
theorem dX4_undo_36 : decode cX4_undo 36 = .ok (.aload_n 0, 1) := by decide +kernel
theorem dX4_undo_37 : decode cX4_undo 37 = .ok (.getfield 12, 3) := by decide +kernel
theorem dX4_undo_40 : decode cX4_undo 40 = .ok (.aload_n 0, 1) := by decide +kernel
theorem dX4_undo_41 : decode cX4_undo 41 = .ok (.getfield 19, 3) := by decide +kernel
theorem dX4_undo_44 : decode cX4_undo 44 = .ok (.aload_n 0, 1) := by decide +kernel
theorem dX4_undo_45 : decode cX4_undo 45 = .ok (.getfield 23, 3) := by decide +kernel
theorem dX4_undo_48 : decode cX4_undo 48 = .ok (.aaload, 1) := by decide +kernel
theorem dX4_undo_49 : decode cX4_undo 49 = .ok (.invokevirtual 165, 3) := by decide +kernel
theorem dX4_undo_52 : decode cX4_undo 52 = .ok (.aload_n 0, 1) := by decide +kernel
theorem dX4_undo_53 : decode cX4_undo 53 = .ok (.getfield 23, 3) := by decide +kernel
theorem dX4_undo_56 : decode cX4_undo 56 = .ok (.ireturn, 1) := by decide +kernel
theorem dX4_pupil_0 : decode cX4_pupil 0 = .ok (.aload_n 0, 1) := by decide +kernel
theorem dX4_pupil_1 : decode cX4_pupil 1 = .ok (.getfield 12, 3) := by decide +kernel
theorem dX4_pupil_4 : decode cX4_pupil 4 = .ok (.iload_n 1, 1) := by decide +kernel
theorem dX4_pupil_5 : decode cX4_pupil 5 = .ok (.invokevirtual 59, 3) := by decide +kernel
theorem dX4_pupil_8 : decode cX4_pupil 8 = .ok (.ifCond .ne 13, 3) := by decide +kernel
theorem dX4_pupil_11 : decode cX4_pupil 11 = .ok (.new 63, 3) := by decide +kernel
theorem dX4_pupil_14 : decode cX4_pupil 14 = .ok (.dup, 1) := by decide +kernel
theorem dX4_pupil_15 : decode cX4_pupil 15 = .ok (.ldc 65, 2) := by decide +kernel
theorem dX4_pupil_17 : decode cX4_pupil 17 = .ok (.invokespecial 67, 3) := by decide +kernel
theorem dX4_pupil_20 : decode cX4_pupil 20 = .ok (.athrow, 1) := by decide +kernel
theorem dX4_pupil_21 : decode cX4_pupil 21 = .ok (.iload_n 2, 1) := by decide +kernel
theorem dX4_pupil_22 : decode cX4_pupil 22 = .ok (.iconst 0, 1) := by decide +kernel
theorem dX4_pupil_23 : decode cX4_pupil 23 = .ok (.bipush 10, 2) := by decide +kernel
theorem dX4_pupil_25 : decode cX4_pupil 25 = .ok (.invokestatic 90, 3) := by decide +kernel
theorem dX4_pupil_28 : decode cX4_pupil 28 = .ok (.ifCond .ne 13, 3) := by decide +kernel
theorem dX4_pupil_31 : decode cX4_pupil 31 = .ok (.new 94, 3) := by decide +kernel
theorem dX4_pupil_34 : decode cX4_pupil 34 = .ok (.dup, 1) := by decide +kernel
theorem dX4_pupil_35 : decode cX4_pupil 35 = .ok (.ldc 169, 2) := by decide +kernel
theorem dX4_pupil_37 : decode cX4_pupil 37 = .ok (.invokespecial 98, 3) := by decide +kernel
theorem dX4_pupil_40 : decode cX4_pupil 40 = .ok (.athrow, 1) := by decide +kernel
theorem dX4_pupil_41 : decode cX4_pupil 41 = .ok (.aload_n 0, 1) := by decide +kernel
theorem dX4_pupil_42 : decode cX4_pupil 42 = .ok (.getfield 12, 3) := by decide +kernel
theorem dX4_pupil_45 : decode cX4_pupil 45 = .ok (.iload_n 1, 1) := by decide +kernel
theorem dX4_pupil_46 : decode cX4_pupil 46 = .ok (.iload_n 2, 1) := by decide +kernel
theorem dX4_pupil_47 : decode cX4_pupil 47 = .ok (.invokevirtual 171, 3) := by decide +kernel
theorem dX4_pupil_50 : decode cX4_pupil 50 = .ok (.ireturn, 1) := by decide +kernel
theorem dX4_examiner_0 : decode cX4_examiner 0 = .ok (.aload_n 0, 1) := by decide +kernel
theorem dX4_examiner_1 : decode cX4_examiner 1 = .ok (.getfield 12, 3) := by decide +kernel
theorem dX4_examiner_4 : decode cX4_examiner 4 = .ok (.iload_n 1, 1) := by decide +kernel
theorem dX4_examiner_5 : decode cX4_examiner 5 = .ok (.invokevirtual 85, 3) := by decide +kernel
theorem dX4_examiner_8 : decode cX4_examiner 8 = .ok (.ifCond .ne 13, 3) := by decide +kernel
theorem dX4_examiner_11 : decode cX4_examiner 11 = .ok (.new 63, 3) := by decide +kernel
theorem dX4_examiner_14 : decode cX4_examiner 14 = .ok (.dup, 1) := by decide +kernel
theorem dX4_examiner_15 : decode cX4_examiner 15 = .ok (.ldc 88, 2) := by decide +kernel
theorem dX4_examiner_17 : decode cX4_examiner 17 = .ok (.invokespecial 67, 3) := by decide +kernel
theorem dX4_examiner_20 : decode cX4_examiner 20 = .ok (.athrow, 1) := by decide +kernel
theorem dX4_examiner_21 : decode cX4_examiner 21 = .ok (.iload_n 2, 1) := by decide +kernel
theorem dX4_examiner_22 : decode cX4_examiner 22 = .ok (.iconst 0, 1) := by decide +kernel
theorem dX4_examiner_23 : decode cX4_examiner 23 = .ok (.bipush 8, 2) := by decide +kernel
theorem dX4_examiner_25 : decode cX4_examiner 25 = .ok (.invokestatic 90, 3) := by decide +kernel
theorem dX4_examiner_28 : decode cX4_examiner 28 = .ok (.ifCond .ne 13, 3) := by decide +kernel
theorem dX4_examiner_31 : decode cX4_examiner 31 = .ok (.new 94, 3) := by decide +kernel
theorem dX4_examiner_34 : decode cX4_examiner 34 = .ok (.dup, 1) := by decide +kernel
theorem dX4_examiner_35 : decode cX4_examiner 35 = .ok (.ldc 174, 2) := by decide +kernel
theorem dX4_examiner_37 : decode cX4_examiner 37 = .ok (.invokespecial 98, 3) := by decide +kernel
theorem dX4_examiner_40 : decode cX4_examiner 40 = .ok (.athrow, 1) := by decide +kernel
theorem dX4_examiner_41 : decode cX4_examiner 41 = .ok (.aload_n 0, 1) := by decide +kernel
theorem dX4_examiner_42 : decode cX4_examiner 42 = .ok (.getfield 12, 3) := by decide +kernel
theorem dX4_examiner_45 : decode cX4_examiner 45 = .ok (.iload_n 1, 1) := by decide +kernel
theorem dX4_examiner_46 : decode cX4_examiner 46 = .ok (.iload_n 2, 1) := by decide +kernel
theorem dX4_examiner_47 : decode cX4_examiner 47 = .ok (.invokevirtual 176, 3) := by decide +kernel
theorem dX4_examiner_50 : decode cX4_examiner 50 = .ok (.ireturn, 1) := by decide +kernel
theorem dX4_slot_0 : decode cX4_slot 0 = .ok (.aload_n 0, 1) := by decide +kernel
theorem dX4_slot_1 : decode cX4_slot 1 = .ok (.getfield 12, 3) := by decide +kernel
theorem dX4_slot_4 : decode cX4_slot 4 = .ok (.iload_n 1, 1) := by decide +kernel
theorem dX4_slot_5 : decode cX4_slot 5 = .ok (.invokevirtual 85, 3) := by decide +kernel
theorem dX4_slot_8 : decode cX4_slot 8 = .ok (.ifCond .ne 13, 3) := by decide +kernel
theorem dX4_slot_11 : decode cX4_slot 11 = .ok (.new 63, 3) := by decide +kernel
theorem dX4_slot_14 : decode cX4_slot 14 = .ok (.dup, 1) := by decide +kernel
theorem dX4_slot_15 : decode cX4_slot 15 = .ok (.ldc 88, 2) := by decide +kernel
theorem dX4_slot_17 : decode cX4_slot 17 = .ok (.invokespecial 67, 3) := by decide +kernel
theorem dX4_slot_20 : decode cX4_slot 20 = .ok (.athrow, 1) := by decide +kernel
theorem dX4_slot_21 : decode cX4_slot 21 = .ok (.iload_n 2, 1) := by decide +kernel
theorem dX4_slot_22 : decode cX4_slot 22 = .ok (.iconst 0, 1) := by decide +kernel
theorem dX4_slot_23 : decode cX4_slot 23 = .ok (.bipush 9, 2) := by decide +kernel
theorem dX4_slot_25 : decode cX4_slot 25 = .ok (.invokestatic 90, 3) := by decide +kernel
theorem dX4_slot_28 : decode cX4_slot 28 = .ok (.ifCond .eq 12, 3) := by decide +kernel
theorem dX4_slot_31 : decode cX4_slot 31 = .ok (.iload_n 3, 1) := by decide +kernel
theorem dX4_slot_32 : decode cX4_slot 32 = .ok (.iconst 0, 1) := by decide +kernel
theorem dX4_slot_33 : decode cX4_slot 33 = .ok (.iconst 3, 1) := by decide +kernel
theorem dX4_slot_34 : decode cX4_slot 34 = .ok (.invokestatic 90, 3) := by decide +kernel
theorem dX4_slot_37 : decode cX4_slot 37 = .ok (.ifCond .ne 13, 3) := by decide +kernel
theorem dX4_slot_40 : decode cX4_slot 40 = .ok (.new 94, 3) := by decide +kernel
theorem dX4_slot_43 : decode cX4_slot 43 = .ok (.dup, 1) := by decide +kernel
theorem dX4_slot_44 : decode cX4_slot 44 = .ok (.ldc 179, 2) := by decide +kernel
theorem dX4_slot_46 : decode cX4_slot 46 = .ok (.invokespecial 98, 3) := by decide +kernel
theorem dX4_slot_49 : decode cX4_slot 49 = .ok (.athrow, 1) := by decide +kernel
theorem dX4_slot_50 : decode cX4_slot 50 = .ok (.aload_n 0, 1) := by decide +kernel
theorem dX4_slot_51 : decode cX4_slot 51 = .ok (.getfield 12, 3) := by decide +kernel
theorem dX4_slot_54 : decode cX4_slot 54 = .ok (.getfield 181, 3) := by decide +kernel
theorem dX4_slot_57 : decode cX4_slot 57 = .ok (.iload_n 1, 1) := by decide +kernel
theorem dX4_slot_58 : decode cX4_slot 58 = .ok (.iload_n 2, 1) := by decide +kernel
theorem dX4_slot_59 : decode cX4_slot 59 = .ok (.iload_n 3, 1) := by decide +kernel
theorem dX4_slot_60 : decode cX4_slot 60 = .ok (.invokestatic 184, 3) := by decide +kernel
theorem dX4_slot_63 : decode cX4_slot 63 = .ok (.iaload, 1) := by decide +kernel
theorem dX4_slot_64 : decode cX4_slot 64 = .ok (.ireturn, 1) := by decide +kernel
theorem dX4_count_0 : decode cX4_count 0 = .ok (.iload_n 1, 1) := by decide +kernel
theorem dX4_count_1 : decode cX4_count 1 = .ok (.iconst 0, 1) := by decide +kernel
theorem dX4_count_2 : decode cX4_count 2 = .ok (.bipush 14, 2) := by decide +kernel
theorem dX4_count_4 : decode cX4_count 4 = .ok (.invokestatic 90, 3) := by decide +kernel
theorem dX4_count_7 : decode cX4_count 7 = .ok (.ifCond .ne 13, 3) := by decide +kernel
theorem dX4_count_10 : decode cX4_count 10 = .ok (.new 94, 3) := by decide +kernel
theorem dX4_count_13 : decode cX4_count 13 = .ok (.dup, 1) := by decide +kernel
theorem dX4_count_14 : decode cX4_count 14 = .ok (.ldc 188, 2) := by decide +kernel
theorem dX4_count_16 : decode cX4_count 16 = .ok (.invokespecial 98, 3) := by decide +kernel
theorem dX4_count_19 : decode cX4_count 19 = .ok (.athrow, 1) := by decide +kernel
theorem dX4_count_20 : decode cX4_count 20 = .ok (.iload_n 1, 1) := by decide +kernel
theorem dX4_count_21 : decode cX4_count 21 = .ok (.bipush 14, 2) := by decide +kernel
theorem dX4_count_23 : decode cX4_count 23 = .ok (.if_icmp .ne 10, 3) := by decide +kernel
theorem dX4_count_26 : decode cX4_count 26 = .ok (.aload_n 0, 1) := by decide +kernel
theorem dX4_count_27 : decode cX4_count 27 = .ok (.getfield 23, 3) := by decide +kernel
theorem dX4_count_30 : decode cX4_count 30 = .ok (.goto 11, 3) := by decide +kernel
theorem dX4_count_33 : decode cX4_count 33 = .ok (.aload_n 0, 1) := by decide +kernel
theorem dX4_count_34 : decode cX4_count 34 = .ok (.getfield 12, 3) := by decide +kernel
theorem dX4_count_37 : decode cX4_count 37 = .ok (.iload_n 1, 1) := by decide +kernel
theorem dX4_count_38 : decode cX4_count 38 = .ok (.invokevirtual 190, 3) := by decide +kernel
theorem dX4_count_41 : decode cX4_count 41 = .ok (.ireturn, 1) := by decide +kernel
theorem dX4_setting_0 : decode cX4_setting 0 = .ok (.iload_n 1, 1) := by decide +kernel
theorem dX4_setting_1 : decode cX4_setting 1 = .ok (.invokestatic 121, 3) := by decide +kernel
theorem dX4_setting_4 : decode cX4_setting 4 = .ok (.ifCond .ne 13, 3) := by decide +kernel
theorem dX4_setting_7 : decode cX4_setting 7 = .ok (.new 63, 3) := by decide +kernel
theorem dX4_setting_10 : decode cX4_setting 10 = .ok (.dup, 1) := by decide +kernel
theorem dX4_setting_11 : decode cX4_setting 11 = .ok (.ldc 124, 2) := by decide +kernel
theorem dX4_setting_13 : decode cX4_setting 13 = .ok (.invokespecial 67, 3) := by decide +kernel
theorem dX4_setting_16 : decode cX4_setting 16 = .ok (.athrow, 1) := by decide +kernel
theorem dX4_setting_17 : decode cX4_setting 17 = .ok (.aload_n 0, 1) := by decide +kernel
theorem dX4_setting_18 : decode cX4_setting 18 = .ok (.getfield 12, 3) := by decide +kernel
theorem dX4_setting_21 : decode cX4_setting 21 = .ok (.getfield 132, 3) := by decide +kernel
theorem dX4_setting_24 : decode cX4_setting 24 = .ok (.iload_n 1, 1) := by decide +kernel
theorem dX4_setting_25 : decode cX4_setting 25 = .ok (.iaload, 1) := by decide +kernel
theorem dX4_setting_26 : decode cX4_setting 26 = .ok (.ireturn, 1) := by decide +kernel
theorem dX4_earliest_0 : decode cX4_earliest 0 = .ok (.aload_n 0, 1) := by decide +kernel
theorem dX4_earliest_1 : decode cX4_earliest 1 = .ok (.getfield 12, 3) := by decide +kernel
theorem dX4_earliest_4 : decode cX4_earliest 4 = .ok (.iload_n 1, 1) := by decide +kernel
theorem dX4_earliest_5 : decode cX4_earliest 5 = .ok (.invokevirtual 59, 3) := by decide +kernel
theorem dX4_earliest_8 : decode cX4_earliest 8 = .ok (.ifCond .ne 13, 3) := by decide +kernel
theorem dX4_earliest_11 : decode cX4_earliest 11 = .ok (.new 63, 3) := by decide +kernel
theorem dX4_earliest_14 : decode cX4_earliest 14 = .ok (.dup, 1) := by decide +kernel
theorem dX4_earliest_15 : decode cX4_earliest 15 = .ok (.ldc 65, 2) := by decide +kernel
theorem dX4_earliest_17 : decode cX4_earliest 17 = .ok (.invokespecial 67, 3) := by decide +kernel
theorem dX4_earliest_20 : decode cX4_earliest 20 = .ok (.athrow, 1) := by decide +kernel
theorem dX4_earliest_21 : decode cX4_earliest 21 = .ok (.iload_n 2, 1) := by decide +kernel
theorem dX4_earliest_22 : decode cX4_earliest 22 = .ok (.iconst 0, 1) := by decide +kernel
theorem dX4_earliest_23 : decode cX4_earliest 23 = .ok (.iconst 2, 1) := by decide +kernel
theorem dX4_earliest_24 : decode cX4_earliest 24 = .ok (.invokestatic 90, 3) := by decide +kernel
theorem dX4_earliest_27 : decode cX4_earliest 27 = .ok (.ifCond .ne 13, 3) := by decide +kernel
theorem dX4_earliest_30 : decode cX4_earliest 30 = .ok (.new 94, 3) := by decide +kernel
theorem dX4_earliest_33 : decode cX4_earliest 33 = .ok (.dup, 1) := by decide +kernel
theorem dX4_earliest_34 : decode cX4_earliest 34 = .ok (.ldc 193, 2) := by decide +kernel
theorem dX4_earliest_36 : decode cX4_earliest 36 = .ok (.invokespecial 98, 3) := by decide +kernel
theorem dX4_earliest_39 : decode cX4_earliest 39 = .ok (.athrow, 1) := by decide +kernel
theorem dX4_earliest_40 : decode cX4_earliest 40 = .ok (.aload_n 0, 1) := by decide +kernel
theorem dX4_earliest_41 : decode cX4_earliest 41 = .ok (.getfield 12, 3) := by decide +kernel
theorem dX4_earliest_44 : decode cX4_earliest 44 = .ok (.iload_n 1, 1) := by decide +kernel
theorem dX4_earliest_45 : decode cX4_earliest 45 = .ok (.invokevirtual 195, 3) := by decide +kernel
theorem dX4_earliest_48 : decode cX4_earliest 48 = .ok (.iload_n 2, 1) := by decide +kernel
theorem dX4_earliest_49 : decode cX4_earliest 49 = .ok (.invokestatic 198, 3) := by decide +kernel
theorem dX4_earliest_52 : decode cX4_earliest 52 = .ok (.ireturn, 1) := by decide +kernel
theorem dX4_ifCancelled_0 : decode cX4_ifCancelled 0 = .ok (.aload_n 0, 1) := by decide +kernel
theorem dX4_ifCancelled_1 : decode cX4_ifCancelled 1 = .ok (.getfield 12, 3) := by decide +kernel
theorem dX4_ifCancelled_4 : decode cX4_ifCancelled 4 = .ok (.iload_n 1, 1) := by decide +kernel
theorem dX4_ifCancelled_5 : decode cX4_ifCancelled 5 = .ok (.invokevirtual 85, 3) := by decide +kernel
theorem dX4_ifCancelled_8 : decode cX4_ifCancelled 8 = .ok (.ifCond .ne 13, 3) := by decide +kernel
theorem dX4_ifCancelled_11 : decode cX4_ifCancelled 11 = .ok (.new 63, 3) := by decide +kernel
theorem dX4_ifCancelled_14 : decode cX4_ifCancelled 14 = .ok (.dup, 1) := by decide +kernel
theorem dX4_ifCancelled_15 : decode cX4_ifCancelled 15 = .ok (.ldc 88, 2) := by decide +kernel
theorem dX4_ifCancelled_17 : decode cX4_ifCancelled 17 = .ok (.invokespecial 67, 3) := by decide +kernel
theorem dX4_ifCancelled_20 : decode cX4_ifCancelled 20 = .ok (.athrow, 1) := by decide +kernel
theorem dX4_ifCancelled_21 : decode cX4_ifCancelled 21 = .ok (.iload_n 2, 1) := by decide +kernel
theorem dX4_ifCancelled_22 : decode cX4_ifCancelled 22 = .ok (.iconst 0, 1) := by decide +kernel
theorem dX4_ifCancelled_23 : decode cX4_ifCancelled 23 = .ok (.bipush 9, 2) := by decide +kernel
theorem dX4_ifCancelled_25 : decode cX4_ifCancelled 25 = .ok (.invokestatic 90, 3) := by decide +kernel
theorem dX4_ifCancelled_28 : decode cX4_ifCancelled 28 = .ok (.ifCond .eq 12, 3) := by decide +kernel
theorem dX4_ifCancelled_31 : decode cX4_ifCancelled 31 = .ok (.iload_n 3, 1) := by decide +kernel
theorem dX4_ifCancelled_32 : decode cX4_ifCancelled 32 = .ok (.iconst 0, 1) := by decide +kernel
theorem dX4_ifCancelled_33 : decode cX4_ifCancelled 33 = .ok (.iconst 2, 1) := by decide +kernel
theorem dX4_ifCancelled_34 : decode cX4_ifCancelled 34 = .ok (.invokestatic 90, 3) := by decide +kernel
theorem dX4_ifCancelled_37 : decode cX4_ifCancelled 37 = .ok (.ifCond .ne 13, 3) := by decide +kernel
theorem dX4_ifCancelled_40 : decode cX4_ifCancelled 40 = .ok (.new 94, 3) := by decide +kernel
theorem dX4_ifCancelled_43 : decode cX4_ifCancelled 43 = .ok (.dup, 1) := by decide +kernel
theorem dX4_ifCancelled_44 : decode cX4_ifCancelled 44 = .ok (.ldc 201, 2) := by decide +kernel
theorem dX4_ifCancelled_46 : decode cX4_ifCancelled 46 = .ok (.invokespecial 98, 3) := by decide +kernel
theorem dX4_ifCancelled_49 : decode cX4_ifCancelled 49 = .ok (.athrow, 1) := by decide +kernel
theorem dX4_ifCancelled_50 : decode cX4_ifCancelled 50 = .ok (.aload_n 0, 1) := by decide +kernel
theorem dX4_ifCancelled_51 : decode cX4_ifCancelled 51 = .ok (.getfield 16, 3) := by decide +kernel
theorem dX4_ifCancelled_54 : decode cX4_ifCancelled 54 = .ok (.aload_n 0, 1) := by decide +kernel
theorem dX4_ifCancelled_55 : decode cX4_ifCancelled 55 = .ok (.getfield 12, 3) := by decide +kernel
theorem dX4_ifCancelled_58 : decode cX4_ifCancelled 58 = .ok (.invokevirtual 165, 3) := by decide +kernel
theorem dX4_ifCancelled_61 : decode cX4_ifCancelled 61 = .ok (.aload_n 0, 1) := by decide +kernel
theorem dX4_ifCancelled_62 : decode cX4_ifCancelled 62 = .ok (.getfield 16, 3) := by decide +kernel
theorem dX4_ifCancelled_65 : decode cX4_ifCancelled 65 = .ok (.iload_n 1, 1) := by decide +kernel
theorem dX4_ifCancelled_66 : decode cX4_ifCancelled 66 = .ok (.iload_n 2, 1) := by decide +kernel
theorem dX4_ifCancelled_67 : decode cX4_ifCancelled 67 = .ok (.invokevirtual 99, 3) := by decide +kernel
theorem dX4_ifCancelled_70 : decode cX4_ifCancelled 70 = .ok (.istore 4, 2) := by decide +kernel
theorem dX4_ifCancelled_72 : decode cX4_ifCancelled 72 = .ok (.iload_n 3, 1) := by decide +kernel
theorem dX4_ifCancelled_73 : decode cX4_ifCancelled 73 = .ok (.ifCond .ne 6, 3) := by decide +kernel
theorem dX4_ifCancelled_76 : decode cX4_ifCancelled 76 = .ok (.iload 4, 2) := by decide +kernel
theorem dX4_ifCancelled_78 : decode cX4_ifCancelled 78 = .ok (.ireturn, 1) := by decide +kernel
theorem dX4_ifCancelled_79 : decode cX4_ifCancelled 79 = .ok (.iconst 0, 1) := by decide +kernel
theorem dX4_ifCancelled_80 : decode cX4_ifCancelled 80 = .ok (.istore 5, 2) := by decide +kernel
theorem dX4_ifCancelled_82 : decode cX4_ifCancelled 82 = .ok (.sipush 1000, 3) := by decide +kernel
theorem dX4_ifCancelled_85 : decode cX4_ifCancelled 85 = .ok (.istore 6, 2) := by decide +kernel
theorem dX4_ifCancelled_87 : decode cX4_ifCancelled 87 = .ok (.iconst 0, 1) := by decide +kernel
theorem dX4_ifCancelled_88 : decode cX4_ifCancelled 88 = .ok (.istore 7, 2) := by decide +kernel
theorem dX4_ifCancelled_90 : decode cX4_ifCancelled 90 = .ok (.iload 7, 2) := by decide +kernel
theorem dX4_ifCancelled_92 : decode cX4_ifCancelled 92 = .ok (.iconst 2, 1) := by decide +kernel
theorem dX4_ifCancelled_93 : decode cX4_ifCancelled 93 = .ok (.if_icmp .ge 88, 3) := by decide +kernel
theorem dX4_ifCancelled_96 : decode cX4_ifCancelled 96 = .ok (.aload_n 0, 1) := by decide +kernel
theorem dX4_ifCancelled_97 : decode cX4_ifCancelled 97 = .ok (.getfield 12, 3) := by decide +kernel
theorem dX4_ifCancelled_100 : decode cX4_ifCancelled 100 = .ok (.getfield 181, 3) := by decide +kernel
theorem dX4_ifCancelled_103 : decode cX4_ifCancelled 103 = .ok (.iload_n 1, 1) := by decide +kernel
theorem dX4_ifCancelled_104 : decode cX4_ifCancelled 104 = .ok (.iload_n 2, 1) := by decide +kernel
theorem dX4_ifCancelled_105 : decode cX4_ifCancelled 105 = .ok (.iload 7, 2) := by decide +kernel
theorem dX4_ifCancelled_107 : decode cX4_ifCancelled 107 = .ok (.invokestatic 184, 3) := by decide +kernel
theorem dX4_ifCancelled_110 : decode cX4_ifCancelled 110 = .ok (.iaload, 1) := by decide +kernel
theorem dX4_ifCancelled_111 : decode cX4_ifCancelled 111 = .ok (.istore 8, 2) := by decide +kernel
theorem dX4_ifCancelled_113 : decode cX4_ifCancelled 113 = .ok (.aload_n 0, 1) := by decide +kernel
theorem dX4_ifCancelled_114 : decode cX4_ifCancelled 114 = .ok (.getfield 12, 3) := by decide +kernel
theorem dX4_ifCancelled_117 : decode cX4_ifCancelled 117 = .ok (.iload 8, 2) := by decide +kernel
theorem dX4_ifCancelled_119 : decode cX4_ifCancelled 119 = .ok (.invokevirtual 59, 3) := by decide +kernel
theorem dX4_ifCancelled_122 : decode cX4_ifCancelled 122 = .ok (.ifCond .eq 53, 3) := by decide +kernel
theorem dX4_ifCancelled_125 : decode cX4_ifCancelled 125 = .ok (.aload_n 0, 1) := by decide +kernel
theorem dX4_ifCancelled_126 : decode cX4_ifCancelled 126 = .ok (.getfield 16, 3) := by decide +kernel
theorem dX4_ifCancelled_129 : decode cX4_ifCancelled 129 = .ok (.iload 8, 2) := by decide +kernel
theorem dX4_ifCancelled_131 : decode cX4_ifCancelled 131 = .ok (.invokevirtual 203, 3) := by decide +kernel
theorem dX4_ifCancelled_134 : decode cX4_ifCancelled 134 = .ok (.iconst 0, 1) := by decide +kernel
theorem dX4_ifCancelled_135 : decode cX4_ifCancelled 135 = .ok (.invokestatic 198, 3) := by decide +kernel
theorem dX4_ifCancelled_138 : decode cX4_ifCancelled 138 = .ok (.istore 9, 2) := by decide +kernel
theorem dX4_ifCancelled_140 : decode cX4_ifCancelled 140 = .ok (.iload 5, 2) := by decide +kernel
theorem dX4_ifCancelled_142 : decode cX4_ifCancelled 142 = .ok (.iload 9, 2) := by decide +kernel
theorem dX4_ifCancelled_144 : decode cX4_ifCancelled 144 = .ok (.iconst (-1), 1) := by decide +kernel
theorem dX4_ifCancelled_145 : decode cX4_ifCancelled 145 = .ok (.if_icmp .ne 7, 3) := by decide +kernel
theorem dX4_ifCancelled_148 : decode cX4_ifCancelled 148 = .ok (.iconst 1, 1) := by decide +kernel
theorem dX4_ifCancelled_149 : decode cX4_ifCancelled 149 = .ok (.goto 4, 3) := by decide +kernel
theorem dX4_ifCancelled_152 : decode cX4_ifCancelled 152 = .ok (.iconst 0, 1) := by decide +kernel
theorem dX4_ifCancelled_153 : decode cX4_ifCancelled 153 = .ok (.iadd, 1) := by decide +kernel
theorem dX4_ifCancelled_154 : decode cX4_ifCancelled 154 = .ok (.istore 5, 2) := by decide +kernel
theorem dX4_ifCancelled_156 : decode cX4_ifCancelled 156 = .ok (.iload 6, 2) := by decide +kernel
theorem dX4_ifCancelled_158 : decode cX4_ifCancelled 158 = .ok (.iload 9, 2) := by decide +kernel
theorem dX4_ifCancelled_160 : decode cX4_ifCancelled 160 = .ok (.iconst (-1), 1) := by decide +kernel
theorem dX4_ifCancelled_161 : decode cX4_ifCancelled 161 = .ok (.if_icmp .ne 7, 3) := by decide +kernel
theorem dX4_ifCancelled_164 : decode cX4_ifCancelled 164 = .ok (.iconst 0, 1) := by decide +kernel
theorem dX4_ifCancelled_165 : decode cX4_ifCancelled 165 = .ok (.goto 7, 3) := by decide +kernel
theorem dX4_ifCancelled_168 : decode cX4_ifCancelled 168 = .ok (.iload 9, 2) := by decide +kernel
theorem dX4_ifCancelled_170 : decode cX4_ifCancelled 170 = .ok (.iload_n 2, 1) := by decide +kernel
theorem dX4_ifCancelled_171 : decode cX4_ifCancelled 171 = .ok (.isub, 1) := by decide +kernel
theorem dX4_ifCancelled_172 : decode cX4_ifCancelled 172 = .ok (.iadd, 1) := by decide +kernel
theorem dX4_ifCancelled_173 : decode cX4_ifCancelled 173 = .ok (.istore 6, 2) := by decide +kernel
theorem dX4_ifCancelled_175 : decode cX4_ifCancelled 175 = .ok (.iinc 7 1, 3) := by decide +kernel
theorem dX4_ifCancelled_178 : decode cX4_ifCancelled 178 = .ok (.goto (-88), 3) := by decide +kernel
theorem dX4_ifCancelled_181 : decode cX4_ifCancelled 181 = .ok (.iload_n 3, 1) := by decide +kernel
theorem dX4_ifCancelled_182 : decode cX4_ifCancelled 182 = .ok (.iconst 1, 1) := by decide +kernel
theorem dX4_ifCancelled_183 : decode cX4_ifCancelled 183 = .ok (.if_icmp .ne 8, 3) := by decide +kernel
theorem dX4_ifCancelled_186 : decode cX4_ifCancelled 186 = .ok (.iload 5, 2) := by decide +kernel
theorem dX4_ifCancelled_188 : decode cX4_ifCancelled 188 = .ok (.goto 5, 3) := by decide +kernel
theorem dX4_ifCancelled_191 : decode cX4_ifCancelled 191 = .ok (.iload 6, 2) := by decide +kernel
theorem dX4_ifCancelled_193 : decode cX4_ifCancelled 193 = .ok (.ireturn, 1) := by decide +kernel
theorem dX4_ifTested_0 : decode cX4_ifTested 0 = .ok (.aload_n 0, 1) := by decide +kernel
theorem dX4_ifTested_1 : decode cX4_ifTested 1 = .ok (.getfield 12, 3) := by decide +kernel
theorem dX4_ifTested_4 : decode cX4_ifTested 4 = .ok (.iload_n 1, 1) := by decide +kernel
theorem dX4_ifTested_5 : decode cX4_ifTested 5 = .ok (.invokevirtual 59, 3) := by decide +kernel
theorem dX4_ifTested_8 : decode cX4_ifTested 8 = .ok (.ifCond .eq 14, 3) := by decide +kernel
theorem dX4_ifTested_11 : decode cX4_ifTested 11 = .ok (.aload_n 0, 1) := by decide +kernel
theorem dX4_ifTested_12 : decode cX4_ifTested 12 = .ok (.getfield 12, 3) := by decide +kernel
theorem dX4_ifTested_15 : decode cX4_ifTested 15 = .ok (.iload_n 2, 1) := by decide +kernel
theorem dX4_ifTested_16 : decode cX4_ifTested 16 = .ok (.invokevirtual 85, 3) := by decide +kernel
theorem dX4_ifTested_19 : decode cX4_ifTested 19 = .ok (.ifCond .ne 13, 3) := by decide +kernel
theorem dX4_ifTested_22 : decode cX4_ifTested 22 = .ok (.new 63, 3) := by decide +kernel
theorem dX4_ifTested_25 : decode cX4_ifTested 25 = .ok (.dup, 1) := by decide +kernel
theorem dX4_ifTested_26 : decode cX4_ifTested 26 = .ok (.ldc 206, 2) := by decide +kernel
theorem dX4_ifTested_28 : decode cX4_ifTested 28 = .ok (.invokespecial 67, 3) := by decide +kernel
theorem dX4_ifTested_31 : decode cX4_ifTested 31 = .ok (.athrow, 1) := by decide +kernel
theorem dX4_ifTested_32 : decode cX4_ifTested 32 = .ok (.aload_n 0, 1) := by decide +kernel
theorem dX4_ifTested_33 : decode cX4_ifTested 33 = .ok (.getfield 12, 3) := by decide +kernel
theorem dX4_ifTested_36 : decode cX4_ifTested 36 = .ok (.iload_n 1, 1) := by decide +kernel
theorem dX4_ifTested_37 : decode cX4_ifTested 37 = .ok (.iload_n 2, 1) := by decide +kernel
theorem dX4_ifTested_38 : decode cX4_ifTested 38 = .ok (.invokevirtual 208, 3) := by decide +kernel
theorem dX4_ifTested_41 : decode cX4_ifTested 41 = .ok (.ireturn, 1) := by decide +kernel
theorem dX4_couldHave_0 : decode cX4_couldHave 0 = .ok (.iload_n 1, 1) := by decide +kernel
theorem dX4_couldHave_1 : decode cX4_couldHave 1 = .ok (.iconst 0, 1) := by decide +kernel
theorem dX4_couldHave_2 : decode cX4_couldHave 2 = .ok (.bipush 9, 2) := by decide +kernel
theorem dX4_couldHave_4 : decode cX4_couldHave 4 = .ok (.invokestatic 90, 3) := by decide +kernel
theorem dX4_couldHave_7 : decode cX4_couldHave 7 = .ok (.ifCond .ne 13, 3) := by decide +kernel
theorem dX4_couldHave_10 : decode cX4_couldHave 10 = .ok (.new 94, 3) := by decide +kernel
theorem dX4_couldHave_13 : decode cX4_couldHave 13 = .ok (.dup, 1) := by decide +kernel
theorem dX4_couldHave_14 : decode cX4_couldHave 14 = .ok (.ldc 96, 2) := by decide +kernel
theorem dX4_couldHave_16 : decode cX4_couldHave 16 = .ok (.invokespecial 98, 3) := by decide +kernel
theorem dX4_couldHave_19 : decode cX4_couldHave 19 = .ok (.athrow, 1) := by decide +kernel
theorem dX4_couldHave_20 : decode cX4_couldHave 20 = .ok (.aload_n 0, 1) := by decide +kernel
theorem dX4_couldHave_21 : decode cX4_couldHave 21 = .ok (.getfield 12, 3) := by decide +kernel
theorem dX4_couldHave_24 : decode cX4_couldHave 24 = .ok (.iload_n 1, 1) := by decide +kernel
theorem dX4_couldHave_25 : decode cX4_couldHave 25 = .ok (.invokevirtual 211, 3) := by decide +kernel
theorem dX4_couldHave_28 : decode cX4_couldHave 28 = .ok (.ireturn, 1) := by decide +kernel
theorem dX4_passedShare_0 : decode cX4_passedShare 0 = .ok (.aload_n 0, 1) := by decide +kernel
theorem dX4_passedShare_1 : decode cX4_passedShare 1 = .ok (.getfield 12, 3) := by decide +kernel
theorem dX4_passedShare_4 : decode cX4_passedShare 4 = .ok (.invokevirtual 214, 3) := by decide +kernel
theorem dX4_passedShare_7 : decode cX4_passedShare 7 = .ok (.istore_n 1, 1) := by decide +kernel
theorem dX4_passedShare_8 : decode cX4_passedShare 8 = .ok (.iload_n 1, 1) := by decide +kernel
theorem dX4_passedShare_9 : decode cX4_passedShare 9 = .ok (.ifCond .ne 7, 3) := by decide +kernel
theorem dX4_passedShare_12 : decode cX4_passedShare 12 = .ok (.dconst 1, 1) := by decide +kernel
theorem dX4_passedShare_13 : decode cX4_passedShare 13 = .ok (.goto 14, 3) := by decide +kernel
theorem dX4_passedShare_16 : decode cX4_passedShare 16 = .ok (.aload_n 0, 1) := by decide +kernel
theorem dX4_passedShare_17 : decode cX4_passedShare 17 = .ok (.getfield 12, 3) := by decide +kernel
theorem dX4_passedShare_20 : decode cX4_passedShare 20 = .ok (.invokevirtual 217, 3) := by decide +kernel
theorem dX4_passedShare_23 : decode cX4_passedShare 23 = .ok (.i2d, 1) := by decide +kernel
theorem dX4_passedShare_24 : decode cX4_passedShare 24 = .ok (.iload_n 1, 1) := by decide +kernel
theorem dX4_passedShare_25 : decode cX4_passedShare 25 = .ok (.i2d, 1) := by decide +kernel
theorem dX4_passedShare_26 : decode cX4_passedShare 26 = .ok (.ddiv, 1) := by decide +kernel
theorem dX4_passedShare_27 : decode cX4_passedShare 27 = .ok (.dreturn, 1) := by decide +kernel
theorem dX4_digest_0 : decode cX4_digest 0 = .ok (.ldc2_w 220, 3) := by decide +kernel
theorem dX4_digest_3 : decode cX4_digest 3 = .ok (.lstore_n 1, 1) := by decide +kernel
theorem dX4_digest_4 : decode cX4_digest 4 = .ok (.iconst 0, 1) := by decide +kernel
theorem dX4_digest_5 : decode cX4_digest 5 = .ok (.istore_n 3, 1) := by decide +kernel
theorem dX4_digest_6 : decode cX4_digest 6 = .ok (.iload_n 3, 1) := by decide +kernel
theorem dX4_digest_7 : decode cX4_digest 7 = .ok (.bipush 14, 2) := by decide +kernel
theorem dX4_digest_9 : decode cX4_digest 9 = .ok (.if_icmp .gt 20, 3) := by decide +kernel
theorem dX4_digest_12 : decode cX4_digest 12 = .ok (.lload_n 1, 1) := by decide +kernel
theorem dX4_digest_13 : decode cX4_digest 13 = .ok (.aload_n 0, 1) := by decide +kernel
theorem dX4_digest_14 : decode cX4_digest 14 = .ok (.iload_n 3, 1) := by decide +kernel
theorem dX4_digest_15 : decode cX4_digest 15 = .ok (.invokevirtual 222, 3) := by decide +kernel
theorem dX4_digest_18 : decode cX4_digest 18 = .ok (.i2l, 1) := by decide +kernel
theorem dX4_digest_19 : decode cX4_digest 19 = .ok (.invokestatic 225, 3) := by decide +kernel
theorem dX4_digest_22 : decode cX4_digest 22 = .ok (.lstore_n 1, 1) := by decide +kernel
theorem dX4_digest_23 : decode cX4_digest 23 = .ok (.iinc 3 1, 3) := by decide +kernel
theorem dX4_digest_26 : decode cX4_digest 26 = .ok (.goto (-20), 3) := by decide +kernel
theorem dX4_digest_29 : decode cX4_digest 29 = .ok (.iconst 0, 1) := by decide +kernel
theorem dX4_digest_30 : decode cX4_digest 30 = .ok (.istore_n 3, 1) := by decide +kernel
theorem dX4_digest_31 : decode cX4_digest 31 = .ok (.iload_n 3, 1) := by decide +kernel
theorem dX4_digest_32 : decode cX4_digest 32 = .ok (.aload_n 0, 1) := by decide +kernel
theorem dX4_digest_33 : decode cX4_digest 33 = .ok (.getfield 12, 3) := by decide +kernel
theorem dX4_digest_36 : decode cX4_digest 36 = .ok (.getfield 132, 3) := by decide +kernel
theorem dX4_digest_39 : decode cX4_digest 39 = .ok (.arraylength, 1) := by decide +kernel
theorem dX4_digest_40 : decode cX4_digest 40 = .ok (.if_icmp .ge 24, 3) := by decide +kernel
theorem dX4_digest_43 : decode cX4_digest 43 = .ok (.lload_n 1, 1) := by decide +kernel
theorem dX4_digest_44 : decode cX4_digest 44 = .ok (.aload_n 0, 1) := by decide +kernel
theorem dX4_digest_45 : decode cX4_digest 45 = .ok (.getfield 12, 3) := by decide +kernel
theorem dX4_digest_48 : decode cX4_digest 48 = .ok (.getfield 132, 3) := by decide +kernel
theorem dX4_digest_51 : decode cX4_digest 51 = .ok (.iload_n 3, 1) := by decide +kernel
theorem dX4_digest_52 : decode cX4_digest 52 = .ok (.iaload, 1) := by decide +kernel
theorem dX4_digest_53 : decode cX4_digest 53 = .ok (.i2l, 1) := by decide +kernel
theorem dX4_digest_54 : decode cX4_digest 54 = .ok (.invokestatic 225, 3) := by decide +kernel
theorem dX4_digest_57 : decode cX4_digest 57 = .ok (.lstore_n 1, 1) := by decide +kernel
theorem dX4_digest_58 : decode cX4_digest 58 = .ok (.iinc 3 1, 3) := by decide +kernel
theorem dX4_digest_61 : decode cX4_digest 61 = .ok (.goto (-30), 3) := by decide +kernel
theorem dX4_digest_64 : decode cX4_digest 64 = .ok (.iconst 0, 1) := by decide +kernel
theorem dX4_digest_65 : decode cX4_digest 65 = .ok (.istore_n 3, 1) := by decide +kernel
theorem dX4_digest_66 : decode cX4_digest 66 = .ok (.iload_n 3, 1) := by decide +kernel
theorem dX4_digest_67 : decode cX4_digest 67 = .ok (.aload_n 0, 1) := by decide +kernel
theorem dX4_digest_68 : decode cX4_digest 68 = .ok (.getfield 12, 3) := by decide +kernel
theorem dX4_digest_71 : decode cX4_digest 71 = .ok (.getfield 51, 3) := by decide +kernel
theorem dX4_digest_74 : decode cX4_digest 74 = .ok (.if_icmp .ge 16, 3) := by decide +kernel
theorem dX4_digest_77 : decode cX4_digest 77 = .ok (.aload_n 0, 1) := by decide +kernel
theorem dX4_digest_78 : decode cX4_digest 78 = .ok (.lload_n 1, 1) := by decide +kernel
theorem dX4_digest_79 : decode cX4_digest 79 = .ok (.iload_n 3, 1) := by decide +kernel
theorem dX4_digest_80 : decode cX4_digest 80 = .ok (.invokevirtual 229, 3) := by decide +kernel
theorem dX4_digest_83 : decode cX4_digest 83 = .ok (.lstore_n 1, 1) := by decide +kernel
theorem dX4_digest_84 : decode cX4_digest 84 = .ok (.iinc 3 1, 3) := by decide +kernel
theorem dX4_digest_87 : decode cX4_digest 87 = .ok (.goto (-21), 3) := by decide +kernel
theorem dX4_digest_90 : decode cX4_digest 90 = .ok (.iconst 0, 1) := by decide +kernel
theorem dX4_digest_91 : decode cX4_digest 91 = .ok (.istore_n 3, 1) := by decide +kernel
theorem dX4_digest_92 : decode cX4_digest 92 = .ok (.iload_n 3, 1) := by decide +kernel
theorem dX4_digest_93 : decode cX4_digest 93 = .ok (.aload_n 0, 1) := by decide +kernel
theorem dX4_digest_94 : decode cX4_digest 94 = .ok (.getfield 12, 3) := by decide +kernel
theorem dX4_digest_97 : decode cX4_digest 97 = .ok (.getfield 34, 3) := by decide +kernel
theorem dX4_digest_100 : decode cX4_digest 100 = .ok (.if_icmp .ge 16, 3) := by decide +kernel
theorem dX4_digest_103 : decode cX4_digest 103 = .ok (.aload_n 0, 1) := by decide +kernel
theorem dX4_digest_104 : decode cX4_digest 104 = .ok (.lload_n 1, 1) := by decide +kernel
theorem dX4_digest_105 : decode cX4_digest 105 = .ok (.iload_n 3, 1) := by decide +kernel
theorem dX4_digest_106 : decode cX4_digest 106 = .ok (.invokevirtual 233, 3) := by decide +kernel
theorem dX4_digest_109 : decode cX4_digest 109 = .ok (.lstore_n 1, 1) := by decide +kernel
theorem dX4_digest_110 : decode cX4_digest 110 = .ok (.iinc 3 1, 3) := by decide +kernel
theorem dX4_digest_113 : decode cX4_digest 113 = .ok (.goto (-21), 3) := by decide +kernel
theorem dX4_digest_116 : decode cX4_digest 116 = .ok (.lload_n 1, 1) := by decide +kernel
theorem dX4_digest_117 : decode cX4_digest 117 = .ok (.aload_n 0, 1) := by decide +kernel
theorem dX4_digest_118 : decode cX4_digest 118 = .ok (.iconst 0, 1) := by decide +kernel
theorem dX4_digest_119 : decode cX4_digest 119 = .ok (.invokevirtual 236, 3) := by decide +kernel
theorem dX4_digest_122 : decode cX4_digest 122 = .ok (.i2l, 1) := by decide +kernel
theorem dX4_digest_123 : decode cX4_digest 123 = .ok (.invokestatic 225, 3) := by decide +kernel
theorem dX4_digest_126 : decode cX4_digest 126 = .ok (.lstore_n 1, 1) := by decide +kernel
theorem dX4_digest_127 : decode cX4_digest 127 = .ok (.lload_n 1, 1) := by decide +kernel
theorem dX4_digest_128 : decode cX4_digest 128 = .ok (.aload_n 0, 1) := by decide +kernel
theorem dX4_digest_129 : decode cX4_digest 129 = .ok (.iconst 1, 1) := by decide +kernel
theorem dX4_digest_130 : decode cX4_digest 130 = .ok (.invokevirtual 236, 3) := by decide +kernel
theorem dX4_digest_133 : decode cX4_digest 133 = .ok (.i2l, 1) := by decide +kernel
theorem dX4_digest_134 : decode cX4_digest 134 = .ok (.invokestatic 225, 3) := by decide +kernel
theorem dX4_digest_137 : decode cX4_digest 137 = .ok (.lstore_n 1, 1) := by decide +kernel
theorem dX4_digest_138 : decode cX4_digest 138 = .ok (.lload_n 1, 1) := by decide +kernel
theorem dX4_digest_139 : decode cX4_digest 139 = .ok (.aload_n 0, 1) := by decide +kernel
theorem dX4_digest_140 : decode cX4_digest 140 = .ok (.iconst 5, 1) := by decide +kernel
theorem dX4_digest_141 : decode cX4_digest 141 = .ok (.invokevirtual 236, 3) := by decide +kernel
theorem dX4_digest_144 : decode cX4_digest 144 = .ok (.i2l, 1) := by decide +kernel
theorem dX4_digest_145 : decode cX4_digest 145 = .ok (.invokestatic 225, 3) := by decide +kernel
theorem dX4_digest_148 : decode cX4_digest 148 = .ok (.lstore_n 1, 1) := by decide +kernel
theorem dX4_digest_149 : decode cX4_digest 149 = .ok (.lload_n 1, 1) := by decide +kernel
theorem dX4_digest_150 : decode cX4_digest 150 = .ok (.aload_n 0, 1) := by decide +kernel
theorem dX4_digest_151 : decode cX4_digest 151 = .ok (.invokevirtual 239, 3) := by decide +kernel
theorem dX4_digest_154 : decode cX4_digest 154 = .ok (.invokestatic 243, 3) := by decide +kernel
theorem dX4_digest_157 : decode cX4_digest 157 = .ok (.invokestatic 225, 3) := by decide +kernel
theorem dX4_digest_160 : decode cX4_digest 160 = .ok (.lstore_n 1, 1) := by decide +kernel
theorem dX4_digest_161 : decode cX4_digest 161 = .ok (.lload_n 1, 1) := by decide +kernel
theorem dX4_digest_162 : decode cX4_digest 162 = .ok (.aload_n 0, 1) := by decide +kernel
theorem dX4_digest_163 : decode cX4_digest 163 = .ok (.getfield 30, 3) := by decide +kernel
theorem dX4_digest_166 : decode cX4_digest 166 = .ok (.getfield 146, 3) := by decide +kernel
theorem dX4_digest_169 : decode cX4_digest 169 = .ok (.i2l, 1) := by decide +kernel
theorem dX4_digest_170 : decode cX4_digest 170 = .ok (.invokestatic 225, 3) := by decide +kernel
theorem dX4_digest_173 : decode cX4_digest 173 = .ok (.lstore_n 1, 1) := by decide +kernel
theorem dX4_digest_174 : decode cX4_digest 174 = .ok (.iconst 0, 1) := by decide +kernel
theorem dX4_digest_175 : decode cX4_digest 175 = .ok (.istore_n 3, 1) := by decide +kernel
theorem dX4_digest_176 : decode cX4_digest 176 = .ok (.iload_n 3, 1) := by decide +kernel
theorem dX4_digest_177 : decode cX4_digest 177 = .ok (.aload_n 0, 1) := by decide +kernel
theorem dX4_digest_178 : decode cX4_digest 178 = .ok (.getfield 30, 3) := by decide +kernel
theorem dX4_digest_181 : decode cX4_digest 181 = .ok (.getfield 247, 3) := by decide +kernel
theorem dX4_digest_184 : decode cX4_digest 184 = .ok (.arraylength, 1) := by decide +kernel
theorem dX4_digest_185 : decode cX4_digest 185 = .ok (.if_icmp .ge 35, 3) := by decide +kernel
theorem dX4_digest_188 : decode cX4_digest 188 = .ok (.iload_n 3, 1) := by decide +kernel
theorem dX4_digest_189 : decode cX4_digest 189 = .ok (.aload_n 0, 1) := by decide +kernel
theorem dX4_digest_190 : decode cX4_digest 190 = .ok (.getfield 30, 3) := by decide +kernel
theorem dX4_digest_193 : decode cX4_digest 193 = .ok (.getfield 146, 3) := by decide +kernel
theorem dX4_digest_196 : decode cX4_digest 196 = .ok (.if_icmp .ge 24, 3) := by decide +kernel
theorem dX4_digest_199 : decode cX4_digest 199 = .ok (.lload_n 1, 1) := by decide +kernel
theorem dX4_digest_200 : decode cX4_digest 200 = .ok (.aload_n 0, 1) := by decide +kernel
theorem dX4_digest_201 : decode cX4_digest 201 = .ok (.getfield 30, 3) := by decide +kernel
theorem dX4_digest_204 : decode cX4_digest 204 = .ok (.getfield 247, 3) := by decide +kernel
theorem dX4_digest_207 : decode cX4_digest 207 = .ok (.iload_n 3, 1) := by decide +kernel
theorem dX4_digest_208 : decode cX4_digest 208 = .ok (.iaload, 1) := by decide +kernel
theorem dX4_digest_209 : decode cX4_digest 209 = .ok (.i2l, 1) := by decide +kernel
theorem dX4_digest_210 : decode cX4_digest 210 = .ok (.invokestatic 225, 3) := by decide +kernel
theorem dX4_digest_213 : decode cX4_digest 213 = .ok (.lstore_n 1, 1) := by decide +kernel
theorem dX4_digest_214 : decode cX4_digest 214 = .ok (.iinc 3 1, 3) := by decide +kernel
theorem dX4_digest_217 : decode cX4_digest 217 = .ok (.goto (-41), 3) := by decide +kernel
theorem dX4_digest_220 : decode cX4_digest 220 = .ok (.lload_n 1, 1) := by decide +kernel
theorem dX4_digest_221 : decode cX4_digest 221 = .ok (.lreturn, 1) := by decide +kernel
theorem dX4_isFromTo_0 : decode cX4_isFromTo 0 = .ok (.iload_n 0, 1) := by decide +kernel
theorem dX4_isFromTo_1 : decode cX4_isFromTo 1 = .ok (.iload_n 1, 1) := by decide +kernel
theorem dX4_isFromTo_2 : decode cX4_isFromTo 2 = .ok (.if_icmp .lt 12, 3) := by decide +kernel
theorem dX4_isFromTo_5 : decode cX4_isFromTo 5 = .ok (.iload_n 0, 1) := by decide +kernel
theorem dX4_isFromTo_6 : decode cX4_isFromTo 6 = .ok (.iload_n 2, 1) := by decide +kernel
theorem dX4_isFromTo_7 : decode cX4_isFromTo 7 = .ok (.if_icmp .gt 7, 3) := by decide +kernel
theorem dX4_isFromTo_10 : decode cX4_isFromTo 10 = .ok (.iconst 1, 1) := by decide +kernel
theorem dX4_isFromTo_11 : decode cX4_isFromTo 11 = .ok (.goto 4, 3) := by decide +kernel
theorem dX4_isFromTo_14 : decode cX4_isFromTo 14 = .ok (.iconst 0, 1) := by decide +kernel
theorem dX4_isFromTo_15 : decode cX4_isFromTo 15 = .ok (.ireturn, 1) := by decide +kernel
theorem dX4_isSetting_0 : decode cX4_isSetting 0 = .ok (.iload_n 0, 1) := by decide +kernel
theorem dX4_isSetting_1 : decode cX4_isSetting 1 = .ok (.iconst 0, 1) := by decide +kernel
theorem dX4_isSetting_2 : decode cX4_isSetting 2 = .ok (.getstatic 250, 3) := by decide +kernel
theorem dX4_isSetting_5 : decode cX4_isSetting 5 = .ok (.arraylength, 1) := by decide +kernel
theorem dX4_isSetting_6 : decode cX4_isSetting 6 = .ok (.iconst 1, 1) := by decide +kernel
theorem dX4_isSetting_7 : decode cX4_isSetting 7 = .ok (.isub, 1) := by decide +kernel
theorem dX4_isSetting_8 : decode cX4_isSetting 8 = .ok (.invokestatic 90, 3) := by decide +kernel
theorem dX4_isSetting_11 : decode cX4_isSetting 11 = .ok (.ireturn, 1) := by decide +kernel
theorem dX4_cellAt_0 : decode cX4_cellAt 0 = .ok (.iload_n 1, 1) := by decide +kernel
theorem dX4_cellAt_1 : decode cX4_cellAt 1 = .ok (.bipush 16, 2) := by decide +kernel
theorem dX4_cellAt_3 : decode cX4_cellAt 3 = .ok (.imul, 1) := by decide +kernel
theorem dX4_cellAt_4 : decode cX4_cellAt 4 = .ok (.iload_n 2, 1) := by decide +kernel
theorem dX4_cellAt_5 : decode cX4_cellAt 5 = .ok (.iconst 4, 1) := by decide +kernel
theorem dX4_cellAt_6 : decode cX4_cellAt 6 = .ok (.imul, 1) := by decide +kernel
theorem dX4_cellAt_7 : decode cX4_cellAt 7 = .ok (.iadd, 1) := by decide +kernel
theorem dX4_cellAt_8 : decode cX4_cellAt 8 = .ok (.iload_n 0, 1) := by decide +kernel
theorem dX4_cellAt_9 : decode cX4_cellAt 9 = .ok (.iadd, 1) := by decide +kernel
theorem dX4_cellAt_10 : decode cX4_cellAt 10 = .ok (.ireturn, 1) := by decide +kernel
theorem dX4_daysTo_0 : decode cX4_daysTo 0 = .ok (.iload_n 0, 1) := by decide +kernel
theorem dX4_daysTo_1 : decode cX4_daysTo 1 = .ok (.bipush 16, 2) := by decide +kernel
theorem dX4_daysTo_3 : decode cX4_daysTo 3 = .ok (.idiv, 1) := by decide +kernel
theorem dX4_daysTo_4 : decode cX4_daysTo 4 = .ok (.ireturn, 1) := by decide +kernel
theorem dX4_examinerAt_0 : decode cX4_examinerAt 0 = .ok (.iload_n 0, 1) := by decide +kernel
theorem dX4_examinerAt_1 : decode cX4_examinerAt 1 = .ok (.iconst 4, 1) := by decide +kernel
theorem dX4_examinerAt_2 : decode cX4_examinerAt 2 = .ok (.irem, 1) := by decide +kernel
theorem dX4_examinerAt_3 : decode cX4_examinerAt 3 = .ok (.ireturn, 1) := by decide +kernel
theorem dX4_partOfCell_0 : decode cX4_partOfCell 0 = .ok (.iload_n 0, 1) := by decide +kernel
theorem dX4_partOfCell_1 : decode cX4_partOfCell 1 = .ok (.iconst (-1), 1) := by decide +kernel
theorem dX4_partOfCell_2 : decode cX4_partOfCell 2 = .ok (.if_icmp .ne 5, 3) := by decide +kernel
theorem dX4_partOfCell_5 : decode cX4_partOfCell 5 = .ok (.iconst (-1), 1) := by decide +kernel
theorem dX4_partOfCell_6 : decode cX4_partOfCell 6 = .ok (.ireturn, 1) := by decide +kernel
theorem dX4_partOfCell_7 : decode cX4_partOfCell 7 = .ok (.iload_n 1, 1) := by decide +kernel
theorem dX4_partOfCell_8 : decode cX4_partOfCell 8 = .ok (.lookupswitch 39 #[(0, 28), (1, 33)], 28) := by decide +kernel
theorem dX4_partOfCell_36 : decode cX4_partOfCell 36 = .ok (.iload_n 0, 1) := by decide +kernel
theorem dX4_partOfCell_37 : decode cX4_partOfCell 37 = .ok (.invokestatic 253, 3) := by decide +kernel
theorem dX4_partOfCell_40 : decode cX4_partOfCell 40 = .ok (.ireturn, 1) := by decide +kernel
theorem dX4_partOfCell_41 : decode cX4_partOfCell 41 = .ok (.iload_n 0, 1) := by decide +kernel
theorem dX4_partOfCell_42 : decode cX4_partOfCell 42 = .ok (.iconst 4, 1) := by decide +kernel
theorem dX4_partOfCell_43 : decode cX4_partOfCell 43 = .ok (.idiv, 1) := by decide +kernel
theorem dX4_partOfCell_44 : decode cX4_partOfCell 44 = .ok (.iconst 4, 1) := by decide +kernel
theorem dX4_partOfCell_45 : decode cX4_partOfCell 45 = .ok (.irem, 1) := by decide +kernel
theorem dX4_partOfCell_46 : decode cX4_partOfCell 46 = .ok (.ireturn, 1) := by decide +kernel
theorem dX4_partOfCell_47 : decode cX4_partOfCell 47 = .ok (.iload_n 0, 1) := by decide +kernel
theorem dX4_partOfCell_48 : decode cX4_partOfCell 48 = .ok (.invokestatic 256, 3) := by decide +kernel
theorem dX4_partOfCell_51 : decode cX4_partOfCell 51 = .ok (.ireturn, 1) := by decide +kernel
theorem dX4_save_0 : decode cX4_save 0 = .ok (.aload_n 0, 1) := by decide +kernel
theorem dX4_save_1 : decode cX4_save 1 = .ok (.getfield 23, 3) := by decide +kernel
theorem dX4_save_4 : decode cX4_save 4 = .ok (.aload_n 0, 1) := by decide +kernel
theorem dX4_save_5 : decode cX4_save 5 = .ok (.getfield 19, 3) := by decide +kernel
theorem dX4_save_8 : decode cX4_save 8 = .ok (.arraylength, 1) := by decide +kernel
theorem dX4_save_9 : decode cX4_save 9 = .ok (.if_icmp .lt 7, 3) := by decide +kernel
theorem dX4_save_12 : decode cX4_save 12 = .ok (.aload_n 0, 1) := by decide +kernel
theorem dX4_save_13 : decode cX4_save 13 = .ok (.invokevirtual 259, 3) := by decide +kernel
theorem dX4_save_16 : decode cX4_save 16 = .ok (.aload_n 0, 1) := by decide +kernel
theorem dX4_save_17 : decode cX4_save 17 = .ok (.getfield 19, 3) := by decide +kernel
theorem dX4_save_20 : decode cX4_save 20 = .ok (.aload_n 0, 1) := by decide +kernel
theorem dX4_save_21 : decode cX4_save 21 = .ok (.getfield 23, 3) := by decide +kernel
theorem dX4_save_24 : decode cX4_save 24 = .ok (.aaload, 1) := by decide +kernel
theorem dX4_save_25 : decode cX4_save 25 = .ok (.aload_n 0, 1) := by decide +kernel
theorem dX4_save_26 : decode cX4_save 26 = .ok (.getfield 12, 3) := by decide +kernel
theorem dX4_save_29 : decode cX4_save 29 = .ok (.invokevirtual 165, 3) := by decide +kernel
theorem dX4_save_32 : decode cX4_save 32 = .ok (.aload_n 0, 1) := by decide +kernel
theorem dX4_save_33 : decode cX4_save 33 = .ok (.dup, 1) := by decide +kernel
theorem dX4_save_34 : decode cX4_save 34 = .ok (.getfield 23, 3) := by decide +kernel
theorem dX4_save_37 : decode cX4_save 37 = .ok (.iconst 1, 1) := by decide +kernel
theorem dX4_save_38 : decode cX4_save 38 = .ok (.iadd, 1) := by decide +kernel
theorem dX4_save_39 : decode cX4_save 39 = .ok (.putfield 23, 3) := by decide +kernel
theorem dX4_save_42 : decode cX4_save 42 = .ok (.return_, 1) := by decide +kernel
theorem dX4_dropOldestSave_0 : decode cX4_dropOldestSave 0 = .ok (.aload_n 0, 1) := by decide +kernel
theorem dX4_dropOldestSave_1 : decode cX4_dropOldestSave 1 = .ok (.getfield 19, 3) := by decide +kernel
theorem dX4_dropOldestSave_4 : decode cX4_dropOldestSave 4 = .ok (.iconst 0, 1) := by decide +kernel
theorem dX4_dropOldestSave_5 : decode cX4_dropOldestSave 5 = .ok (.aaload, 1) := by decide +kernel
theorem dX4_dropOldestSave_6 : decode cX4_dropOldestSave 6 = .ok (.astore_n 1, 1) := by decide +kernel
theorem dX4_dropOldestSave_7 : decode cX4_dropOldestSave 7 = .ok (.iconst 1, 1) := by decide +kernel
theorem dX4_dropOldestSave_8 : decode cX4_dropOldestSave 8 = .ok (.istore_n 2, 1) := by decide +kernel
theorem dX4_dropOldestSave_9 : decode cX4_dropOldestSave 9 = .ok (.iload_n 2, 1) := by decide +kernel
theorem dX4_dropOldestSave_10 : decode cX4_dropOldestSave 10 = .ok (.aload_n 0, 1) := by decide +kernel
theorem dX4_dropOldestSave_11 : decode cX4_dropOldestSave 11 = .ok (.getfield 19, 3) := by decide +kernel
theorem dX4_dropOldestSave_14 : decode cX4_dropOldestSave 14 = .ok (.arraylength, 1) := by decide +kernel
theorem dX4_dropOldestSave_15 : decode cX4_dropOldestSave 15 = .ok (.if_icmp .ge 23, 3) := by decide +kernel
theorem dX4_dropOldestSave_18 : decode cX4_dropOldestSave 18 = .ok (.aload_n 0, 1) := by decide +kernel
theorem dX4_dropOldestSave_19 : decode cX4_dropOldestSave 19 = .ok (.getfield 19, 3) := by decide +kernel
theorem dX4_dropOldestSave_22 : decode cX4_dropOldestSave 22 = .ok (.iload_n 2, 1) := by decide +kernel
theorem dX4_dropOldestSave_23 : decode cX4_dropOldestSave 23 = .ok (.iconst 1, 1) := by decide +kernel
theorem dX4_dropOldestSave_24 : decode cX4_dropOldestSave 24 = .ok (.isub, 1) := by decide +kernel
theorem dX4_dropOldestSave_25 : decode cX4_dropOldestSave 25 = .ok (.aload_n 0, 1) := by decide +kernel
theorem dX4_dropOldestSave_26 : decode cX4_dropOldestSave 26 = .ok (.getfield 19, 3) := by decide +kernel
theorem dX4_dropOldestSave_29 : decode cX4_dropOldestSave 29 = .ok (.iload_n 2, 1) := by decide +kernel
theorem dX4_dropOldestSave_30 : decode cX4_dropOldestSave 30 = .ok (.aaload, 1) := by decide +kernel
theorem dX4_dropOldestSave_31 : decode cX4_dropOldestSave 31 = .ok (.aastore, 1) := by decide +kernel
theorem dX4_dropOldestSave_32 : decode cX4_dropOldestSave 32 = .ok (.iinc 2 1, 3) := by decide +kernel
theorem dX4_dropOldestSave_35 : decode cX4_dropOldestSave 35 = .ok (.goto (-26), 3) := by decide +kernel
theorem dX4_dropOldestSave_38 : decode cX4_dropOldestSave 38 = .ok (.aload_n 0, 1) := by decide +kernel
theorem dX4_dropOldestSave_39 : decode cX4_dropOldestSave 39 = .ok (.getfield 19, 3) := by decide +kernel
theorem dX4_dropOldestSave_42 : decode cX4_dropOldestSave 42 = .ok (.aload_n 0, 1) := by decide +kernel
theorem dX4_dropOldestSave_43 : decode cX4_dropOldestSave 43 = .ok (.getfield 19, 3) := by decide +kernel
theorem dX4_dropOldestSave_46 : decode cX4_dropOldestSave 46 = .ok (.arraylength, 1) := by decide +kernel
theorem dX4_dropOldestSave_47 : decode cX4_dropOldestSave 47 = .ok (.iconst 1, 1) := by decide +kernel
theorem dX4_dropOldestSave_48 : decode cX4_dropOldestSave 48 = .ok (.isub, 1) := by decide +kernel
theorem dX4_dropOldestSave_49 : decode cX4_dropOldestSave 49 = .ok (.aload_n 1, 1) := by decide +kernel
theorem dX4_dropOldestSave_50 : decode cX4_dropOldestSave 50 = .ok (.aastore, 1) := by decide +kernel
theorem dX4_dropOldestSave_51 : decode cX4_dropOldestSave 51 = .ok (.aload_n 0, 1) := by decide +kernel
theorem dX4_dropOldestSave_52 : decode cX4_dropOldestSave 52 = .ok (.aload_n 0, 1) := by decide +kernel
theorem dX4_dropOldestSave_53 : decode cX4_dropOldestSave 53 = .ok (.getfield 19, 3) := by decide +kernel
theorem dX4_dropOldestSave_56 : decode cX4_dropOldestSave 56 = .ok (.arraylength, 1) := by decide +kernel
theorem dX4_dropOldestSave_57 : decode cX4_dropOldestSave 57 = .ok (.iconst 1, 1) := by decide +kernel
theorem dX4_dropOldestSave_58 : decode cX4_dropOldestSave 58 = .ok (.isub, 1) := by decide +kernel
theorem dX4_dropOldestSave_59 : decode cX4_dropOldestSave 59 = .ok (.putfield 23, 3) := by decide +kernel
theorem dX4_dropOldestSave_62 : decode cX4_dropOldestSave 62 = .ok (.return_, 1) := by decide +kernel
theorem dX4_carryOut_0 : decode cX4_carryOut 0 = .ok (.aload_n 0, 1) := by decide +kernel
theorem dX4_carryOut_1 : decode cX4_carryOut 1 = .ok (.getfield 30, 3) := by decide +kernel
theorem dX4_carryOut_4 : decode cX4_carryOut 4 = .ok (.getfield 262, 3) := by decide +kernel
theorem dX4_carryOut_7 : decode cX4_carryOut 7 = .ok (.iload_n 1, 1) := by decide +kernel
theorem dX4_carryOut_8 : decode cX4_carryOut 8 = .ok (.iaload, 1) := by decide +kernel
theorem dX4_carryOut_9 : decode cX4_carryOut 9 = .ok (.istore_n 2, 1) := by decide +kernel
theorem dX4_carryOut_10 : decode cX4_carryOut 10 = .ok (.aload_n 0, 1) := by decide +kernel
theorem dX4_carryOut_11 : decode cX4_carryOut 11 = .ok (.getfield 30, 3) := by decide +kernel
theorem dX4_carryOut_14 : decode cX4_carryOut 14 = .ok (.getfield 265, 3) := by decide +kernel
theorem dX4_carryOut_17 : decode cX4_carryOut 17 = .ok (.iload_n 1, 1) := by decide +kernel
theorem dX4_carryOut_18 : decode cX4_carryOut 18 = .ok (.iaload, 1) := by decide +kernel
theorem dX4_carryOut_19 : decode cX4_carryOut 19 = .ok (.tableswitch 163 0 4 #[33, 73, 112, 119, 126], 33) := by decide +kernel
theorem dX4_carryOut_52 : decode cX4_carryOut 52 = .ok (.aload_n 0, 1) := by decide +kernel
theorem dX4_carryOut_53 : decode cX4_carryOut 53 = .ok (.getfield 12, 3) := by decide +kernel
theorem dX4_carryOut_56 : decode cX4_carryOut 56 = .ok (.iload_n 2, 1) := by decide +kernel
theorem dX4_carryOut_57 : decode cX4_carryOut 57 = .ok (.invokevirtual 59, 3) := by decide +kernel
theorem dX4_carryOut_60 : decode cX4_carryOut 60 = .ok (.ifCond .eq 30, 3) := by decide +kernel
theorem dX4_carryOut_63 : decode cX4_carryOut 63 = .ok (.aload_n 0, 1) := by decide +kernel
theorem dX4_carryOut_64 : decode cX4_carryOut 64 = .ok (.getfield 12, 3) := by decide +kernel
theorem dX4_carryOut_67 : decode cX4_carryOut 67 = .ok (.iload_n 2, 1) := by decide +kernel
theorem dX4_carryOut_68 : decode cX4_carryOut 68 = .ok (.invokevirtual 68, 3) := by decide +kernel
theorem dX4_carryOut_71 : decode cX4_carryOut 71 = .ok (.ifCond .eq 19, 3) := by decide +kernel
theorem dX4_carryOut_74 : decode cX4_carryOut 74 = .ok (.aload_n 0, 1) := by decide +kernel
theorem dX4_carryOut_75 : decode cX4_carryOut 75 = .ok (.getfield 12, 3) := by decide +kernel
theorem dX4_carryOut_78 : decode cX4_carryOut 78 = .ok (.iload_n 2, 1) := by decide +kernel
theorem dX4_carryOut_79 : decode cX4_carryOut 79 = .ok (.invokevirtual 73, 3) := by decide +kernel
theorem dX4_carryOut_82 : decode cX4_carryOut 82 = .ok (.iconst (-1), 1) := by decide +kernel
theorem dX4_carryOut_83 : decode cX4_carryOut 83 = .ok (.if_icmp .lt 7, 3) := by decide +kernel
theorem dX4_carryOut_86 : decode cX4_carryOut 86 = .ok (.iconst 1, 1) := by decide +kernel
theorem dX4_carryOut_87 : decode cX4_carryOut 87 = .ok (.goto 4, 3) := by decide +kernel
theorem dX4_carryOut_90 : decode cX4_carryOut 90 = .ok (.iconst 0, 1) := by decide +kernel
theorem dX4_carryOut_91 : decode cX4_carryOut 91 = .ok (.ireturn, 1) := by decide +kernel
theorem dX4_carryOut_92 : decode cX4_carryOut 92 = .ok (.aload_n 0, 1) := by decide +kernel
theorem dX4_carryOut_93 : decode cX4_carryOut 93 = .ok (.getfield 12, 3) := by decide +kernel
theorem dX4_carryOut_96 : decode cX4_carryOut 96 = .ok (.iload_n 2, 1) := by decide +kernel
theorem dX4_carryOut_97 : decode cX4_carryOut 97 = .ok (.invokevirtual 59, 3) := by decide +kernel
theorem dX4_carryOut_100 : decode cX4_carryOut 100 = .ok (.ifCond .eq 29, 3) := by decide +kernel
theorem dX4_carryOut_103 : decode cX4_carryOut 103 = .ok (.aload_n 0, 1) := by decide +kernel
theorem dX4_carryOut_104 : decode cX4_carryOut 104 = .ok (.getfield 12, 3) := by decide +kernel
theorem dX4_carryOut_107 : decode cX4_carryOut 107 = .ok (.iload_n 2, 1) := by decide +kernel
theorem dX4_carryOut_108 : decode cX4_carryOut 108 = .ok (.invokevirtual 77, 3) := by decide +kernel
theorem dX4_carryOut_111 : decode cX4_carryOut 111 = .ok (.ifCond .eq 18, 3) := by decide +kernel
theorem dX4_carryOut_114 : decode cX4_carryOut 114 = .ok (.aload_n 0, 1) := by decide +kernel
theorem dX4_carryOut_115 : decode cX4_carryOut 115 = .ok (.getfield 12, 3) := by decide +kernel
theorem dX4_carryOut_118 : decode cX4_carryOut 118 = .ok (.iload_n 2, 1) := by decide +kernel
theorem dX4_carryOut_119 : decode cX4_carryOut 119 = .ok (.invokevirtual 82, 3) := by decide +kernel
theorem dX4_carryOut_122 : decode cX4_carryOut 122 = .ok (.ifCond .lt 7, 3) := by decide +kernel
theorem dX4_carryOut_125 : decode cX4_carryOut 125 = .ok (.iconst 1, 1) := by decide +kernel
theorem dX4_carryOut_126 : decode cX4_carryOut 126 = .ok (.goto 4, 3) := by decide +kernel
theorem dX4_carryOut_129 : decode cX4_carryOut 129 = .ok (.iconst 0, 1) := by decide +kernel
theorem dX4_carryOut_130 : decode cX4_carryOut 130 = .ok (.ireturn, 1) := by decide +kernel
theorem dX4_carryOut_131 : decode cX4_carryOut 131 = .ok (.aload_n 0, 1) := by decide +kernel
theorem dX4_carryOut_132 : decode cX4_carryOut 132 = .ok (.iload_n 2, 1) := by decide +kernel
theorem dX4_carryOut_133 : decode cX4_carryOut 133 = .ok (.iconst 1, 1) := by decide +kernel
theorem dX4_carryOut_134 : decode cX4_carryOut 134 = .ok (.invokevirtual 268, 3) := by decide +kernel
theorem dX4_carryOut_137 : decode cX4_carryOut 137 = .ok (.ireturn, 1) := by decide +kernel
theorem dX4_carryOut_138 : decode cX4_carryOut 138 = .ok (.aload_n 0, 1) := by decide +kernel
theorem dX4_carryOut_139 : decode cX4_carryOut 139 = .ok (.iload_n 2, 1) := by decide +kernel
theorem dX4_carryOut_140 : decode cX4_carryOut 140 = .ok (.iconst 0, 1) := by decide +kernel
theorem dX4_carryOut_141 : decode cX4_carryOut 141 = .ok (.invokevirtual 268, 3) := by decide +kernel
theorem dX4_carryOut_144 : decode cX4_carryOut 144 = .ok (.ireturn, 1) := by decide +kernel
theorem dX4_carryOut_145 : decode cX4_carryOut 145 = .ok (.aload_n 0, 1) := by decide +kernel
theorem dX4_carryOut_146 : decode cX4_carryOut 146 = .ok (.getfield 12, 3) := by decide +kernel
theorem dX4_carryOut_149 : decode cX4_carryOut 149 = .ok (.iload_n 2, 1) := by decide +kernel
theorem dX4_carryOut_150 : decode cX4_carryOut 150 = .ok (.invokevirtual 85, 3) := by decide +kernel
theorem dX4_carryOut_153 : decode cX4_carryOut 153 = .ok (.ifCond .eq 27, 3) := by decide +kernel
theorem dX4_carryOut_156 : decode cX4_carryOut 156 = .ok (.aload_n 0, 1) := by decide +kernel
theorem dX4_carryOut_157 : decode cX4_carryOut 157 = .ok (.getfield 12, 3) := by decide +kernel
theorem dX4_carryOut_160 : decode cX4_carryOut 160 = .ok (.iload_n 2, 1) := by decide +kernel
theorem dX4_carryOut_161 : decode cX4_carryOut 161 = .ok (.aload_n 0, 1) := by decide +kernel
theorem dX4_carryOut_162 : decode cX4_carryOut 162 = .ok (.getfield 30, 3) := by decide +kernel
theorem dX4_carryOut_165 : decode cX4_carryOut 165 = .ok (.getfield 272, 3) := by decide +kernel
theorem dX4_carryOut_168 : decode cX4_carryOut 168 = .ok (.iload_n 1, 1) := by decide +kernel
theorem dX4_carryOut_169 : decode cX4_carryOut 169 = .ok (.iaload, 1) := by decide +kernel
theorem dX4_carryOut_170 : decode cX4_carryOut 170 = .ok (.invokevirtual 99, 3) := by decide +kernel
theorem dX4_carryOut_173 : decode cX4_carryOut 173 = .ok (.ifCond .lt 7, 3) := by decide +kernel
theorem dX4_carryOut_176 : decode cX4_carryOut 176 = .ok (.iconst 1, 1) := by decide +kernel
theorem dX4_carryOut_177 : decode cX4_carryOut 177 = .ok (.goto 4, 3) := by decide +kernel
theorem dX4_carryOut_180 : decode cX4_carryOut 180 = .ok (.iconst 0, 1) := by decide +kernel
theorem dX4_carryOut_181 : decode cX4_carryOut 181 = .ok (.ireturn, 1) := by decide +kernel
theorem dX4_carryOut_182 : decode cX4_carryOut 182 = .ok (.aload_n 0, 1) := by decide +kernel
theorem dX4_carryOut_183 : decode cX4_carryOut 183 = .ok (.getfield 12, 3) := by decide +kernel
theorem dX4_carryOut_186 : decode cX4_carryOut 186 = .ok (.invokevirtual 112, 3) := by decide +kernel
theorem dX4_carryOut_189 : decode cX4_carryOut 189 = .ok (.ifCond .eq 17, 3) := by decide +kernel
theorem dX4_carryOut_192 : decode cX4_carryOut 192 = .ok (.aload_n 0, 1) := by decide +kernel
theorem dX4_carryOut_193 : decode cX4_carryOut 193 = .ok (.getfield 12, 3) := by decide +kernel
theorem dX4_carryOut_196 : decode cX4_carryOut 196 = .ok (.invokevirtual 118, 3) := by decide +kernel
theorem dX4_carryOut_199 : decode cX4_carryOut 199 = .ok (.ifCond .lt 7, 3) := by decide +kernel
theorem dX4_carryOut_202 : decode cX4_carryOut 202 = .ok (.iconst 1, 1) := by decide +kernel
theorem dX4_carryOut_203 : decode cX4_carryOut 203 = .ok (.goto 4, 3) := by decide +kernel
theorem dX4_carryOut_206 : decode cX4_carryOut 206 = .ok (.iconst 0, 1) := by decide +kernel
theorem dX4_carryOut_207 : decode cX4_carryOut 207 = .ok (.ireturn, 1) := by decide +kernel
theorem dX4_carryOutTest_0 : decode cX4_carryOutTest 0 = .ok (.aload_n 0, 1) := by decide +kernel
theorem dX4_carryOutTest_1 : decode cX4_carryOutTest 1 = .ok (.getfield 12, 3) := by decide +kernel
theorem dX4_carryOutTest_4 : decode cX4_carryOutTest 4 = .ok (.iload_n 1, 1) := by decide +kernel
theorem dX4_carryOutTest_5 : decode cX4_carryOutTest 5 = .ok (.invokevirtual 59, 3) := by decide +kernel
theorem dX4_carryOutTest_8 : decode cX4_carryOutTest 8 = .ok (.ifCond .eq 30, 3) := by decide +kernel
theorem dX4_carryOutTest_11 : decode cX4_carryOutTest 11 = .ok (.aload_n 0, 1) := by decide +kernel
theorem dX4_carryOutTest_12 : decode cX4_carryOutTest 12 = .ok (.getfield 12, 3) := by decide +kernel
theorem dX4_carryOutTest_15 : decode cX4_carryOutTest 15 = .ok (.iload_n 1, 1) := by decide +kernel
theorem dX4_carryOutTest_16 : decode cX4_carryOutTest 16 = .ok (.invokevirtual 103, 3) := by decide +kernel
theorem dX4_carryOutTest_19 : decode cX4_carryOutTest 19 = .ok (.ifCond .eq 19, 3) := by decide +kernel
theorem dX4_carryOutTest_22 : decode cX4_carryOutTest 22 = .ok (.aload_n 0, 1) := by decide +kernel
theorem dX4_carryOutTest_23 : decode cX4_carryOutTest 23 = .ok (.getfield 12, 3) := by decide +kernel
theorem dX4_carryOutTest_26 : decode cX4_carryOutTest 26 = .ok (.iload_n 1, 1) := by decide +kernel
theorem dX4_carryOutTest_27 : decode cX4_carryOutTest 27 = .ok (.iload_n 2, 1) := by decide +kernel
theorem dX4_carryOutTest_28 : decode cX4_carryOutTest 28 = .ok (.invokevirtual 108, 3) := by decide +kernel
theorem dX4_carryOutTest_31 : decode cX4_carryOutTest 31 = .ok (.ifCond .lt 7, 3) := by decide +kernel
theorem dX4_carryOutTest_34 : decode cX4_carryOutTest 34 = .ok (.iconst 1, 1) := by decide +kernel
theorem dX4_carryOutTest_35 : decode cX4_carryOutTest 35 = .ok (.goto 4, 3) := by decide +kernel
theorem dX4_carryOutTest_38 : decode cX4_carryOutTest 38 = .ok (.iconst 0, 1) := by decide +kernel
theorem dX4_carryOutTest_39 : decode cX4_carryOutTest 39 = .ok (.ireturn, 1) := by decide +kernel
theorem dX4_hashWith_0 : decode cX4_hashWith 0 = .ok (.ldc2_w 275, 3) := by decide +kernel
theorem dX4_hashWith_3 : decode cX4_hashWith 3 = .ok (.lload_n 0, 1) := by decide +kernel
theorem dX4_hashWith_4 : decode cX4_hashWith 4 = .ok (.lmul, 1) := by decide +kernel
theorem dX4_hashWith_5 : decode cX4_hashWith 5 = .ok (.lload_n 2, 1) := by decide +kernel
theorem dX4_hashWith_6 : decode cX4_hashWith 6 = .ok (.ladd, 1) := by decide +kernel
theorem dX4_hashWith_7 : decode cX4_hashWith 7 = .ok (.lreturn, 1) := by decide +kernel
theorem dX4_hashWithPupil_0 : decode cX4_hashWithPupil 0 = .ok (.lload_n 1, 1) := by decide +kernel
theorem dX4_hashWithPupil_1 : decode cX4_hashWithPupil 1 = .ok (.lstore 4, 2) := by decide +kernel
theorem dX4_hashWithPupil_3 : decode cX4_hashWithPupil 3 = .ok (.iconst 0, 1) := by decide +kernel
theorem dX4_hashWithPupil_4 : decode cX4_hashWithPupil 4 = .ok (.istore 6, 2) := by decide +kernel
theorem dX4_hashWithPupil_6 : decode cX4_hashWithPupil 6 = .ok (.iload 6, 2) := by decide +kernel
theorem dX4_hashWithPupil_8 : decode cX4_hashWithPupil 8 = .ok (.bipush 10, 2) := by decide +kernel
theorem dX4_hashWithPupil_10 : decode cX4_hashWithPupil 10 = .ok (.if_icmp .gt 24, 3) := by decide +kernel
theorem dX4_hashWithPupil_13 : decode cX4_hashWithPupil 13 = .ok (.lload 4, 2) := by decide +kernel
theorem dX4_hashWithPupil_15 : decode cX4_hashWithPupil 15 = .ok (.aload_n 0, 1) := by decide +kernel
theorem dX4_hashWithPupil_16 : decode cX4_hashWithPupil 16 = .ok (.iload_n 3, 1) := by decide +kernel
theorem dX4_hashWithPupil_17 : decode cX4_hashWithPupil 17 = .ok (.iload 6, 2) := by decide +kernel
theorem dX4_hashWithPupil_19 : decode cX4_hashWithPupil 19 = .ok (.invokevirtual 277, 3) := by decide +kernel
theorem dX4_hashWithPupil_22 : decode cX4_hashWithPupil 22 = .ok (.i2l, 1) := by decide +kernel
theorem dX4_hashWithPupil_23 : decode cX4_hashWithPupil 23 = .ok (.invokestatic 225, 3) := by decide +kernel
theorem dX4_hashWithPupil_26 : decode cX4_hashWithPupil 26 = .ok (.lstore 4, 2) := by decide +kernel
theorem dX4_hashWithPupil_28 : decode cX4_hashWithPupil 28 = .ok (.iinc 6 1, 3) := by decide +kernel
theorem dX4_hashWithPupil_31 : decode cX4_hashWithPupil 31 = .ok (.goto (-25), 3) := by decide +kernel
theorem dX4_hashWithPupil_34 : decode cX4_hashWithPupil 34 = .ok (.iconst 0, 1) := by decide +kernel
theorem dX4_hashWithPupil_35 : decode cX4_hashWithPupil 35 = .ok (.istore 6, 2) := by decide +kernel
theorem dX4_hashWithPupil_37 : decode cX4_hashWithPupil 37 = .ok (.iload 6, 2) := by decide +kernel
theorem dX4_hashWithPupil_39 : decode cX4_hashWithPupil 39 = .ok (.iconst 2, 1) := by decide +kernel
theorem dX4_hashWithPupil_40 : decode cX4_hashWithPupil 40 = .ok (.if_icmp .gt 24, 3) := by decide +kernel
theorem dX4_hashWithPupil_43 : decode cX4_hashWithPupil 43 = .ok (.lload 4, 2) := by decide +kernel
theorem dX4_hashWithPupil_45 : decode cX4_hashWithPupil 45 = .ok (.aload_n 0, 1) := by decide +kernel
theorem dX4_hashWithPupil_46 : decode cX4_hashWithPupil 46 = .ok (.iload_n 3, 1) := by decide +kernel
theorem dX4_hashWithPupil_47 : decode cX4_hashWithPupil 47 = .ok (.iload 6, 2) := by decide +kernel
theorem dX4_hashWithPupil_49 : decode cX4_hashWithPupil 49 = .ok (.invokevirtual 280, 3) := by decide +kernel
theorem dX4_hashWithPupil_52 : decode cX4_hashWithPupil 52 = .ok (.i2l, 1) := by decide +kernel
theorem dX4_hashWithPupil_53 : decode cX4_hashWithPupil 53 = .ok (.invokestatic 225, 3) := by decide +kernel
theorem dX4_hashWithPupil_56 : decode cX4_hashWithPupil 56 = .ok (.lstore 4, 2) := by decide +kernel
theorem dX4_hashWithPupil_58 : decode cX4_hashWithPupil 58 = .ok (.iinc 6 1, 3) := by decide +kernel
theorem dX4_hashWithPupil_61 : decode cX4_hashWithPupil 61 = .ok (.goto (-24), 3) := by decide +kernel
theorem dX4_hashWithPupil_64 : decode cX4_hashWithPupil 64 = .ok (.lload 4, 2) := by decide +kernel
theorem dX4_hashWithPupil_66 : decode cX4_hashWithPupil 66 = .ok (.lreturn, 1) := by decide +kernel
theorem dX4_hashWithExaminer_0 : decode cX4_hashWithExaminer 0 = .ok (.lload_n 1, 1) := by decide +kernel
theorem dX4_hashWithExaminer_1 : decode cX4_hashWithExaminer 1 = .ok (.lstore 4, 2) := by decide +kernel
theorem dX4_hashWithExaminer_3 : decode cX4_hashWithExaminer 3 = .ok (.iconst 0, 1) := by decide +kernel
theorem dX4_hashWithExaminer_4 : decode cX4_hashWithExaminer 4 = .ok (.istore 6, 2) := by decide +kernel
theorem dX4_hashWithExaminer_6 : decode cX4_hashWithExaminer 6 = .ok (.iload 6, 2) := by decide +kernel
theorem dX4_hashWithExaminer_8 : decode cX4_hashWithExaminer 8 = .ok (.bipush 8, 2) := by decide +kernel
theorem dX4_hashWithExaminer_10 : decode cX4_hashWithExaminer 10 = .ok (.if_icmp .gt 24, 3) := by decide +kernel
theorem dX4_hashWithExaminer_13 : decode cX4_hashWithExaminer 13 = .ok (.lload 4, 2) := by decide +kernel
theorem dX4_hashWithExaminer_15 : decode cX4_hashWithExaminer 15 = .ok (.aload_n 0, 1) := by decide +kernel
theorem dX4_hashWithExaminer_16 : decode cX4_hashWithExaminer 16 = .ok (.iload_n 3, 1) := by decide +kernel
theorem dX4_hashWithExaminer_17 : decode cX4_hashWithExaminer 17 = .ok (.iload 6, 2) := by decide +kernel
theorem dX4_hashWithExaminer_19 : decode cX4_hashWithExaminer 19 = .ok (.invokevirtual 283, 3) := by decide +kernel
theorem dX4_hashWithExaminer_22 : decode cX4_hashWithExaminer 22 = .ok (.i2l, 1) := by decide +kernel
theorem dX4_hashWithExaminer_23 : decode cX4_hashWithExaminer 23 = .ok (.invokestatic 225, 3) := by decide +kernel
theorem dX4_hashWithExaminer_26 : decode cX4_hashWithExaminer 26 = .ok (.lstore 4, 2) := by decide +kernel
theorem dX4_hashWithExaminer_28 : decode cX4_hashWithExaminer 28 = .ok (.iinc 6 1, 3) := by decide +kernel
theorem dX4_hashWithExaminer_31 : decode cX4_hashWithExaminer 31 = .ok (.goto (-25), 3) := by decide +kernel
theorem dX4_hashWithExaminer_34 : decode cX4_hashWithExaminer 34 = .ok (.iconst 0, 1) := by decide +kernel
theorem dX4_hashWithExaminer_35 : decode cX4_hashWithExaminer 35 = .ok (.istore 6, 2) := by decide +kernel
theorem dX4_hashWithExaminer_37 : decode cX4_hashWithExaminer 37 = .ok (.iload 6, 2) := by decide +kernel
theorem dX4_hashWithExaminer_39 : decode cX4_hashWithExaminer 39 = .ok (.bipush 10, 2) := by decide +kernel
theorem dX4_hashWithExaminer_41 : decode cX4_hashWithExaminer 41 = .ok (.if_icmp .ge 41, 3) := by decide +kernel
theorem dX4_hashWithExaminer_44 : decode cX4_hashWithExaminer 44 = .ok (.iconst 0, 1) := by decide +kernel
theorem dX4_hashWithExaminer_45 : decode cX4_hashWithExaminer 45 = .ok (.istore 7, 2) := by decide +kernel
theorem dX4_hashWithExaminer_47 : decode cX4_hashWithExaminer 47 = .ok (.iload 7, 2) := by decide +kernel
theorem dX4_hashWithExaminer_49 : decode cX4_hashWithExaminer 49 = .ok (.iconst 4, 1) := by decide +kernel
theorem dX4_hashWithExaminer_50 : decode cX4_hashWithExaminer 50 = .ok (.if_icmp .ge 26, 3) := by decide +kernel
theorem dX4_hashWithExaminer_53 : decode cX4_hashWithExaminer 53 = .ok (.lload 4, 2) := by decide +kernel
theorem dX4_hashWithExaminer_55 : decode cX4_hashWithExaminer 55 = .ok (.aload_n 0, 1) := by decide +kernel
theorem dX4_hashWithExaminer_56 : decode cX4_hashWithExaminer 56 = .ok (.iload_n 3, 1) := by decide +kernel
theorem dX4_hashWithExaminer_57 : decode cX4_hashWithExaminer 57 = .ok (.iload 6, 2) := by decide +kernel
theorem dX4_hashWithExaminer_59 : decode cX4_hashWithExaminer 59 = .ok (.iload 7, 2) := by decide +kernel
theorem dX4_hashWithExaminer_61 : decode cX4_hashWithExaminer 61 = .ok (.invokevirtual 286, 3) := by decide +kernel
theorem dX4_hashWithExaminer_64 : decode cX4_hashWithExaminer 64 = .ok (.i2l, 1) := by decide +kernel
theorem dX4_hashWithExaminer_65 : decode cX4_hashWithExaminer 65 = .ok (.invokestatic 225, 3) := by decide +kernel
theorem dX4_hashWithExaminer_68 : decode cX4_hashWithExaminer 68 = .ok (.lstore 4, 2) := by decide +kernel
theorem dX4_hashWithExaminer_70 : decode cX4_hashWithExaminer 70 = .ok (.iinc 7 1, 3) := by decide +kernel
theorem dX4_hashWithExaminer_73 : decode cX4_hashWithExaminer 73 = .ok (.goto (-26), 3) := by decide +kernel
theorem dX4_hashWithExaminer_76 : decode cX4_hashWithExaminer 76 = .ok (.iinc 6 1, 3) := by decide +kernel
theorem dX4_hashWithExaminer_79 : decode cX4_hashWithExaminer 79 = .ok (.goto (-42), 3) := by decide +kernel
theorem dX4_hashWithExaminer_82 : decode cX4_hashWithExaminer 82 = .ok (.iconst 0, 1) := by decide +kernel
theorem dX4_hashWithExaminer_83 : decode cX4_hashWithExaminer 83 = .ok (.istore 6, 2) := by decide +kernel
theorem dX4_hashWithExaminer_85 : decode cX4_hashWithExaminer 85 = .ok (.iload 6, 2) := by decide +kernel
theorem dX4_hashWithExaminer_87 : decode cX4_hashWithExaminer 87 = .ok (.iconst 1, 1) := by decide +kernel
theorem dX4_hashWithExaminer_88 : decode cX4_hashWithExaminer 88 = .ok (.if_icmp .gt 41, 3) := by decide +kernel
theorem dX4_hashWithExaminer_91 : decode cX4_hashWithExaminer 91 = .ok (.iconst 0, 1) := by decide +kernel
theorem dX4_hashWithExaminer_92 : decode cX4_hashWithExaminer 92 = .ok (.istore 7, 2) := by decide +kernel
theorem dX4_hashWithExaminer_94 : decode cX4_hashWithExaminer 94 = .ok (.iload 7, 2) := by decide +kernel
theorem dX4_hashWithExaminer_96 : decode cX4_hashWithExaminer 96 = .ok (.iconst 2, 1) := by decide +kernel
theorem dX4_hashWithExaminer_97 : decode cX4_hashWithExaminer 97 = .ok (.if_icmp .gt 26, 3) := by decide +kernel
theorem dX4_hashWithExaminer_100 : decode cX4_hashWithExaminer 100 = .ok (.lload 4, 2) := by decide +kernel
theorem dX4_hashWithExaminer_102 : decode cX4_hashWithExaminer 102 = .ok (.aload_n 0, 1) := by decide +kernel
theorem dX4_hashWithExaminer_103 : decode cX4_hashWithExaminer 103 = .ok (.iload_n 3, 1) := by decide +kernel
theorem dX4_hashWithExaminer_104 : decode cX4_hashWithExaminer 104 = .ok (.iload 6, 2) := by decide +kernel
theorem dX4_hashWithExaminer_106 : decode cX4_hashWithExaminer 106 = .ok (.iload 7, 2) := by decide +kernel
theorem dX4_hashWithExaminer_108 : decode cX4_hashWithExaminer 108 = .ok (.invokevirtual 289, 3) := by decide +kernel
theorem dX4_hashWithExaminer_111 : decode cX4_hashWithExaminer 111 = .ok (.i2l, 1) := by decide +kernel
theorem dX4_hashWithExaminer_112 : decode cX4_hashWithExaminer 112 = .ok (.invokestatic 225, 3) := by decide +kernel
theorem dX4_hashWithExaminer_115 : decode cX4_hashWithExaminer 115 = .ok (.lstore 4, 2) := by decide +kernel
theorem dX4_hashWithExaminer_117 : decode cX4_hashWithExaminer 117 = .ok (.iinc 7 1, 3) := by decide +kernel
theorem dX4_hashWithExaminer_120 : decode cX4_hashWithExaminer 120 = .ok (.goto (-26), 3) := by decide +kernel
theorem dX4_hashWithExaminer_123 : decode cX4_hashWithExaminer 123 = .ok (.iinc 6 1, 3) := by decide +kernel
theorem dX4_hashWithExaminer_126 : decode cX4_hashWithExaminer 126 = .ok (.goto (-41), 3) := by decide +kernel
theorem dX4_hashWithExaminer_129 : decode cX4_hashWithExaminer 129 = .ok (.aload_n 0, 1) := by decide +kernel
theorem dX4_hashWithExaminer_130 : decode cX4_hashWithExaminer 130 = .ok (.getfield 12, 3) := by decide +kernel
theorem dX4_hashWithExaminer_133 : decode cX4_hashWithExaminer 133 = .ok (.iconst 0, 1) := by decide +kernel
theorem dX4_hashWithExaminer_134 : decode cX4_hashWithExaminer 134 = .ok (.invokevirtual 59, 3) := by decide +kernel
theorem dX4_hashWithExaminer_137 : decode cX4_hashWithExaminer 137 = .ok (.ifCond .eq 18, 3) := by decide +kernel
theorem dX4_hashWithExaminer_140 : decode cX4_hashWithExaminer 140 = .ok (.lload 4, 2) := by decide +kernel
theorem dX4_hashWithExaminer_142 : decode cX4_hashWithExaminer 142 = .ok (.aload_n 0, 1) := by decide +kernel
theorem dX4_hashWithExaminer_143 : decode cX4_hashWithExaminer 143 = .ok (.iconst 0, 1) := by decide +kernel
theorem dX4_hashWithExaminer_144 : decode cX4_hashWithExaminer 144 = .ok (.iload_n 3, 1) := by decide +kernel
theorem dX4_hashWithExaminer_145 : decode cX4_hashWithExaminer 145 = .ok (.invokevirtual 292, 3) := by decide +kernel
theorem dX4_hashWithExaminer_148 : decode cX4_hashWithExaminer 148 = .ok (.i2l, 1) := by decide +kernel
theorem dX4_hashWithExaminer_149 : decode cX4_hashWithExaminer 149 = .ok (.invokestatic 225, 3) := by decide +kernel
theorem dX4_hashWithExaminer_152 : decode cX4_hashWithExaminer 152 = .ok (.goto 5, 3) := by decide +kernel
theorem dX4_hashWithExaminer_155 : decode cX4_hashWithExaminer 155 = .ok (.lload 4, 2) := by decide +kernel
theorem dX4_hashWithExaminer_157 : decode cX4_hashWithExaminer 157 = .ok (.lreturn, 1) := by decide +kernel
theorem dX4_bitsOf_0 : decode cX4_bitsOf 0 = .ok (.dload_n 0, 1) := by decide +kernel
theorem dX4_bitsOf_1 : decode cX4_bitsOf 1 = .ok (.dconst 0, 1) := by decide +kernel
theorem dX4_bitsOf_2 : decode cX4_bitsOf 2 = .ok (.dcmp .g, 1) := by decide +kernel
theorem dX4_bitsOf_3 : decode cX4_bitsOf 3 = .ok (.ifCond .gt 5, 3) := by decide +kernel
theorem dX4_bitsOf_6 : decode cX4_bitsOf 6 = .ok (.lconst 0, 1) := by decide +kernel
theorem dX4_bitsOf_7 : decode cX4_bitsOf 7 = .ok (.lreturn, 1) := by decide +kernel
theorem dX4_bitsOf_8 : decode cX4_bitsOf 8 = .ok (.dload_n 0, 1) := by decide +kernel
theorem dX4_bitsOf_9 : decode cX4_bitsOf 9 = .ok (.dstore_n 2, 1) := by decide +kernel
theorem dX4_bitsOf_10 : decode cX4_bitsOf 10 = .ok (.ldc2_w 295, 3) := by decide +kernel
theorem dX4_bitsOf_13 : decode cX4_bitsOf 13 = .ok (.lstore 4, 2) := by decide +kernel
theorem dX4_bitsOf_15 : decode cX4_bitsOf 15 = .ok (.dload_n 2, 1) := by decide +kernel
theorem dX4_bitsOf_16 : decode cX4_bitsOf 16 = .ok (.dconst 1, 1) := by decide +kernel
theorem dX4_bitsOf_17 : decode cX4_bitsOf 17 = .ok (.dcmp .g, 1) := by decide +kernel
theorem dX4_bitsOf_18 : decode cX4_bitsOf 18 = .ok (.ifCond .ge 25, 3) := by decide +kernel
theorem dX4_bitsOf_21 : decode cX4_bitsOf 21 = .ok (.lload 4, 2) := by decide +kernel
theorem dX4_bitsOf_23 : decode cX4_bitsOf 23 = .ok (.lconst 1, 1) := by decide +kernel
theorem dX4_bitsOf_24 : decode cX4_bitsOf 24 = .ok (.lcmp, 1) := by decide +kernel
theorem dX4_bitsOf_25 : decode cX4_bitsOf 25 = .ok (.ifCond .le 18, 3) := by decide +kernel
theorem dX4_bitsOf_28 : decode cX4_bitsOf 28 = .ok (.dload_n 2, 1) := by decide +kernel
theorem dX4_bitsOf_29 : decode cX4_bitsOf 29 = .ok (.ldc2_w 297, 3) := by decide +kernel
theorem dX4_bitsOf_32 : decode cX4_bitsOf 32 = .ok (.dmul, 1) := by decide +kernel
theorem dX4_bitsOf_33 : decode cX4_bitsOf 33 = .ok (.dstore_n 2, 1) := by decide +kernel
theorem dX4_bitsOf_34 : decode cX4_bitsOf 34 = .ok (.lload 4, 2) := by decide +kernel
theorem dX4_bitsOf_36 : decode cX4_bitsOf 36 = .ok (.lconst 1, 1) := by decide +kernel
theorem dX4_bitsOf_37 : decode cX4_bitsOf 37 = .ok (.lsub, 1) := by decide +kernel
theorem dX4_bitsOf_38 : decode cX4_bitsOf 38 = .ok (.lstore 4, 2) := by decide +kernel
theorem dX4_bitsOf_40 : decode cX4_bitsOf 40 = .ok (.goto (-25), 3) := by decide +kernel
theorem dX4_bitsOf_43 : decode cX4_bitsOf 43 = .ok (.dload_n 2, 1) := by decide +kernel
theorem dX4_bitsOf_44 : decode cX4_bitsOf 44 = .ok (.dconst 1, 1) := by decide +kernel
theorem dX4_bitsOf_45 : decode cX4_bitsOf 45 = .ok (.dsub, 1) := by decide +kernel
theorem dX4_bitsOf_46 : decode cX4_bitsOf 46 = .ok (.ldc2_w 299, 3) := by decide +kernel
theorem dX4_bitsOf_49 : decode cX4_bitsOf 49 = .ok (.dmul, 1) := by decide +kernel
theorem dX4_bitsOf_50 : decode cX4_bitsOf 50 = .ok (.d2l, 1) := by decide +kernel
theorem dX4_bitsOf_51 : decode cX4_bitsOf 51 = .ok (.lstore 6, 2) := by decide +kernel
theorem dX4_bitsOf_53 : decode cX4_bitsOf 53 = .ok (.lload 4, 2) := by decide +kernel
theorem dX4_bitsOf_55 : decode cX4_bitsOf 55 = .ok (.bipush 52, 2) := by decide +kernel
theorem dX4_bitsOf_57 : decode cX4_bitsOf 57 = .ok (.lshl, 1) := by decide +kernel
theorem dX4_bitsOf_58 : decode cX4_bitsOf 58 = .ok (.lload 6, 2) := by decide +kernel
theorem dX4_bitsOf_60 : decode cX4_bitsOf 60 = .ok (.ladd, 1) := by decide +kernel
theorem dX4_bitsOf_61 : decode cX4_bitsOf 61 = .ok (.lreturn, 1) := by decide +kernel
theorem dX5_init_0 : decode cX5_init 0 = .ok (.aload_n 0, 1) := by decide +kernel
theorem dX5_init_1 : decode cX5_init 1 = .ok (.invokespecial 1, 3) := by decide +kernel
theorem dX5_init_4 : decode cX5_init 4 = .ok (.aload_n 0, 1) := by decide +kernel
theorem dX5_init_5 : decode cX5_init 5 = .ok (.sipush 341, 3) := by decide +kernel
theorem dX5_init_8 : decode cX5_init 8 = .ok (.newarray .int, 2) := by decide +kernel
theorem dX5_init_10 : decode cX5_init 10 = .ok (.putfield 7, 3) := by decide +kernel
theorem dX5_init_13 : decode cX5_init 13 = .ok (.aload_n 0, 1) := by decide +kernel
theorem dX5_init_14 : decode cX5_init 14 = .ok (.sipush 341, 3) := by decide +kernel
theorem dX5_init_17 : decode cX5_init 17 = .ok (.newarray .int, 2) := by decide +kernel
theorem dX5_init_19 : decode cX5_init 19 = .ok (.putfield 13, 3) := by decide +kernel
theorem dX5_init_22 : decode cX5_init 22 = .ok (.aload_n 0, 1) := by decide +kernel
theorem dX5_init_23 : decode cX5_init 23 = .ok (.sipush 2046, 3) := by decide +kernel
theorem dX5_init_26 : decode cX5_init 26 = .ok (.newarray .int, 2) := by decide +kernel
theorem dX5_init_28 : decode cX5_init 28 = .ok (.putfield 16, 3) := by decide +kernel
theorem dX5_init_31 : decode cX5_init 31 = .ok (.aload_n 0, 1) := by decide +kernel
theorem dX5_init_32 : decode cX5_init 32 = .ok (.bipush 60, 2) := by decide +kernel
theorem dX5_init_34 : decode cX5_init 34 = .ok (.newarray .int, 2) := by decide +kernel
theorem dX5_init_36 : decode cX5_init 36 = .ok (.putfield 19, 3) := by decide +kernel
theorem dX5_init_39 : decode cX5_init 39 = .ok (.aload_n 0, 1) := by decide +kernel
theorem dX5_init_40 : decode cX5_init 40 = .ok (.bipush 12, 2) := by decide +kernel
theorem dX5_init_42 : decode cX5_init 42 = .ok (.newarray .int, 2) := by decide +kernel
theorem dX5_init_44 : decode cX5_init 44 = .ok (.putfield 22, 3) := by decide +kernel
theorem dX5_init_47 : decode cX5_init 47 = .ok (.aload_n 0, 1) := by decide +kernel
theorem dX5_init_48 : decode cX5_init 48 = .ok (.iconst 3, 1) := by decide +kernel
theorem dX5_init_49 : decode cX5_init 49 = .ok (.newarray .int, 2) := by decide +kernel
theorem dX5_init_51 : decode cX5_init 51 = .ok (.putfield 25, 3) := by decide +kernel
theorem dX5_init_54 : decode cX5_init 54 = .ok (.aload_n 0, 1) := by decide +kernel
theorem dX5_init_55 : decode cX5_init 55 = .ok (.bipush 16, 2) := by decide +kernel
theorem dX5_init_57 : decode cX5_init 57 = .ok (.newarray .int, 2) := by decide +kernel
theorem dX5_init_59 : decode cX5_init 59 = .ok (.putfield 28, 3) := by decide +kernel
theorem dX5_init_62 : decode cX5_init 62 = .ok (.aload_n 0, 1) := by decide +kernel
theorem dX5_init_63 : decode cX5_init 63 = .ok (.bipush 12, 2) := by decide +kernel
theorem dX5_init_65 : decode cX5_init 65 = .ok (.newarray .int, 2) := by decide +kernel
theorem dX5_init_67 : decode cX5_init 67 = .ok (.putfield 31, 3) := by decide +kernel
theorem dX5_init_70 : decode cX5_init 70 = .ok (.aload_n 0, 1) := by decide +kernel
theorem dX5_init_71 : decode cX5_init 71 = .ok (.bipush 16, 2) := by decide +kernel
theorem dX5_init_73 : decode cX5_init 73 = .ok (.newarray .int, 2) := by decide +kernel
theorem dX5_init_75 : decode cX5_init 75 = .ok (.putfield 34, 3) := by decide +kernel
theorem dX5_init_78 : decode cX5_init 78 = .ok (.aload_n 0, 1) := by decide +kernel
theorem dX5_init_79 : decode cX5_init 79 = .ok (.bipush 12, 2) := by decide +kernel
theorem dX5_init_81 : decode cX5_init 81 = .ok (.newarray .boolean, 2) := by decide +kernel
theorem dX5_init_83 : decode cX5_init 83 = .ok (.putfield 37, 3) := by decide +kernel
theorem dX5_init_86 : decode cX5_init 86 = .ok (.aload_n 0, 1) := by decide +kernel
theorem dX5_init_87 : decode cX5_init 87 = .ok (.getfield 7, 3) := by decide +kernel
theorem dX5_init_90 : decode cX5_init 90 = .ok (.iconst 5, 1) := by decide +kernel
theorem dX5_init_91 : decode cX5_init 91 = .ok (.iconst 3, 1) := by decide +kernel
theorem dX5_init_92 : decode cX5_init 92 = .ok (.iastore, 1) := by decide +kernel
theorem dX5_init_93 : decode cX5_init 93 = .ok (.aload_n 0, 1) := by decide +kernel
theorem dX5_init_94 : decode cX5_init 94 = .ok (.getfield 7, 3) := by decide +kernel
theorem dX5_init_97 : decode cX5_init 97 = .ok (.bipush 6, 2) := by decide +kernel
theorem dX5_init_99 : decode cX5_init 99 = .ok (.iconst 1, 1) := by decide +kernel
theorem dX5_init_100 : decode cX5_init 100 = .ok (.iastore, 1) := by decide +kernel
theorem dX5_init_101 : decode cX5_init 101 = .ok (.aload_n 0, 1) := by decide +kernel
theorem dX5_init_102 : decode cX5_init 102 = .ok (.getfield 7, 3) := by decide +kernel
theorem dX5_init_105 : decode cX5_init 105 = .ok (.bipush 7, 2) := by decide +kernel
theorem dX5_init_107 : decode cX5_init 107 = .ok (.iconst 2, 1) := by decide +kernel
theorem dX5_init_108 : decode cX5_init 108 = .ok (.iastore, 1) := by decide +kernel
theorem dX5_init_109 : decode cX5_init 109 = .ok (.aload_n 0, 1) := by decide +kernel
theorem dX5_init_110 : decode cX5_init 110 = .ok (.getfield 7, 3) := by decide +kernel
theorem dX5_init_113 : decode cX5_init 113 = .ok (.bipush 8, 2) := by decide +kernel
theorem dX5_init_115 : decode cX5_init 115 = .ok (.bipush 50, 2) := by decide +kernel
theorem dX5_init_117 : decode cX5_init 117 = .ok (.iastore, 1) := by decide +kernel
theorem dX5_init_118 : decode cX5_init 118 = .ok (.return_, 1) := by decide +kernel
theorem dX5_thrown_0 : decode cX5_thrown 0 = .ok (.aload_n 0, 1) := by decide +kernel
theorem dX5_thrown_1 : decode cX5_thrown 1 = .ok (.getfield 41, 3) := by decide +kernel
theorem dX5_thrown_4 : decode cX5_thrown 4 = .ok (.ireturn, 1) := by decide +kernel
theorem dX5_in_0 : decode cX5_in 0 = .ok (.iload_n 0, 1) := by decide +kernel
theorem dX5_in_1 : decode cX5_in 1 = .ok (.iload_n 1, 1) := by decide +kernel
theorem dX5_in_2 : decode cX5_in 2 = .ok (.if_icmp .lt 12, 3) := by decide +kernel
theorem dX5_in_5 : decode cX5_in 5 = .ok (.iload_n 0, 1) := by decide +kernel
theorem dX5_in_6 : decode cX5_in 6 = .ok (.iload_n 2, 1) := by decide +kernel
theorem dX5_in_7 : decode cX5_in 7 = .ok (.if_icmp .gt 7, 3) := by decide +kernel
theorem dX5_in_10 : decode cX5_in 10 = .ok (.iconst 1, 1) := by decide +kernel
theorem dX5_in_11 : decode cX5_in 11 = .ok (.goto 4, 3) := by decide +kernel
theorem dX5_in_14 : decode cX5_in 14 = .ok (.iconst 0, 1) := by decide +kernel
theorem dX5_in_15 : decode cX5_in 15 = .ok (.ireturn, 1) := by decide +kernel
theorem dX5_holds_0 : decode cX5_holds 0 = .ok (.aload_n 0, 1) := by decide +kernel
theorem dX5_holds_1 : decode cX5_holds 1 = .ok (.iload_n 1, 1) := by decide +kernel
theorem dX5_holds_2 : decode cX5_holds 2 = .ok (.putfield 41, 3) := by decide +kernel
theorem dX5_holds_5 : decode cX5_holds 5 = .ok (.iload_n 1, 1) := by decide +kernel
theorem dX5_holds_6 : decode cX5_holds 6 = .ok (.ifCond .ne 7, 3) := by decide +kernel
theorem dX5_holds_9 : decode cX5_holds 9 = .ok (.iconst 1, 1) := by decide +kernel
theorem dX5_holds_10 : decode cX5_holds 10 = .ok (.goto 4, 3) := by decide +kernel
theorem dX5_holds_13 : decode cX5_holds 13 = .ok (.iconst 0, 1) := by decide +kernel
theorem dX5_holds_14 : decode cX5_holds 14 = .ok (.ireturn, 1) := by decide +kernel
theorem dX5_at_0 : decode cX5_at 0 = .ok (.bipush 9, 2) := by decide +kernel
theorem dX5_at_2 : decode cX5_at 2 = .ok (.bipush 40, 2) := by decide +kernel
theorem dX5_at_4 : decode cX5_at 4 = .ok (.iload_n 0, 1) := by decide +kernel
theorem dX5_at_5 : decode cX5_at 5 = .ok (.imul, 1) := by decide +kernel
theorem dX5_at_6 : decode cX5_at 6 = .ok (.iadd, 1) := by decide +kernel
theorem dX5_at_7 : decode cX5_at 7 = .ok (.iconst 4, 1) := by decide +kernel
theorem dX5_at_8 : decode cX5_at 8 = .ok (.iload_n 1, 1) := by decide +kernel
theorem dX5_at_9 : decode cX5_at 9 = .ok (.imul, 1) := by decide +kernel
theorem dX5_at_10 : decode cX5_at 10 = .ok (.iadd, 1) := by decide +kernel
theorem dX5_at_11 : decode cX5_at 11 = .ok (.iload_n 2, 1) := by decide +kernel
theorem dX5_at_12 : decode cX5_at 12 = .ok (.iadd, 1) := by decide +kernel
theorem dX5_at_13 : decode cX5_at 13 = .ok (.ireturn, 1) := by decide +kernel
theorem dX5_of_0 : decode cX5_of 0 = .ok (.sipush 197, 3) := by decide +kernel
theorem dX5_of_3 : decode cX5_of 3 = .ok (.bipush 12, 2) := by decide +kernel
theorem dX5_of_5 : decode cX5_of 5 = .ok (.iload_n 0, 1) := by decide +kernel
theorem dX5_of_6 : decode cX5_of 6 = .ok (.imul, 1) := by decide +kernel
theorem dX5_of_7 : decode cX5_of 7 = .ok (.iadd, 1) := by decide +kernel
theorem dX5_of_8 : decode cX5_of 8 = .ok (.iload_n 1, 1) := by decide +kernel
theorem dX5_of_9 : decode cX5_of 9 = .ok (.iadd, 1) := by decide +kernel
theorem dX5_of_10 : decode cX5_of 10 = .ok (.ireturn, 1) := by decide +kernel
theorem dX5_ofExaminer_0 : decode cX5_ofExaminer 0 = .ok (.sipush 169, 3) := by decide +kernel
theorem dX5_ofExaminer_3 : decode cX5_ofExaminer 3 = .ok (.bipush 7, 2) := by decide +kernel
theorem dX5_ofExaminer_5 : decode cX5_ofExaminer 5 = .ok (.iload_n 0, 1) := by decide +kernel
theorem dX5_ofExaminer_6 : decode cX5_ofExaminer 6 = .ok (.imul, 1) := by decide +kernel
theorem dX5_ofExaminer_7 : decode cX5_ofExaminer 7 = .ok (.iadd, 1) := by decide +kernel
theorem dX5_ofExaminer_8 : decode cX5_ofExaminer 8 = .ok (.iload_n 1, 1) := by decide +kernel
theorem dX5_ofExaminer_9 : decode cX5_ofExaminer 9 = .ok (.iadd, 1) := by decide +kernel
theorem dX5_ofExaminer_10 : decode cX5_ofExaminer 10 = .ok (.ireturn, 1) := by decide +kernel
theorem dX5_isPupil_0 : decode cX5_isPupil 0 = .ok (.iload_n 1, 1) := by decide +kernel
theorem dX5_isPupil_1 : decode cX5_isPupil 1 = .ok (.iconst 0, 1) := by decide +kernel
theorem dX5_isPupil_2 : decode cX5_isPupil 2 = .ok (.aload_n 0, 1) := by decide +kernel
theorem dX5_isPupil_3 : decode cX5_isPupil 3 = .ok (.getfield 7, 3) := by decide +kernel
theorem dX5_isPupil_6 : decode cX5_isPupil 6 = .ok (.iconst 2, 1) := by decide +kernel
theorem dX5_isPupil_7 : decode cX5_isPupil 7 = .ok (.iaload, 1) := by decide +kernel
theorem dX5_isPupil_8 : decode cX5_isPupil 8 = .ok (.iconst 1, 1) := by decide +kernel
theorem dX5_isPupil_9 : decode cX5_isPupil 9 = .ok (.isub, 1) := by decide +kernel
theorem dX5_isPupil_10 : decode cX5_isPupil 10 = .ok (.invokestatic 45, 3) := by decide +kernel
theorem dX5_isPupil_13 : decode cX5_isPupil 13 = .ok (.ireturn, 1) := by decide +kernel
theorem dX5_isExaminer_0 : decode cX5_isExaminer 0 = .ok (.iload_n 1, 1) := by decide +kernel
theorem dX5_isExaminer_1 : decode cX5_isExaminer 1 = .ok (.iconst 0, 1) := by decide +kernel
theorem dX5_isExaminer_2 : decode cX5_isExaminer 2 = .ok (.aload_n 0, 1) := by decide +kernel
theorem dX5_isExaminer_3 : decode cX5_isExaminer 3 = .ok (.getfield 7, 3) := by decide +kernel
theorem dX5_isExaminer_6 : decode cX5_isExaminer 6 = .ok (.iconst 1, 1) := by decide +kernel
theorem dX5_isExaminer_7 : decode cX5_isExaminer 7 = .ok (.iaload, 1) := by decide +kernel
theorem dX5_isExaminer_8 : decode cX5_isExaminer 8 = .ok (.iconst 1, 1) := by decide +kernel
theorem dX5_isExaminer_9 : decode cX5_isExaminer 9 = .ok (.isub, 1) := by decide +kernel
theorem dX5_isExaminer_10 : decode cX5_isExaminer 10 = .ok (.invokestatic 45, 3) := by decide +kernel
theorem dX5_isExaminer_13 : decode cX5_isExaminer 13 = .ok (.ireturn, 1) := by decide +kernel
theorem dX5_save_0 : decode cX5_save 0 = .ok (.aload_n 0, 1) := by decide +kernel
theorem dX5_save_1 : decode cX5_save 1 = .ok (.getfield 49, 3) := by decide +kernel
theorem dX5_save_4 : decode cX5_save 4 = .ok (.bipush 6, 2) := by decide +kernel
theorem dX5_save_6 : decode cX5_save 6 = .ok (.if_icmp .ne 44, 3) := by decide +kernel
theorem dX5_save_9 : decode cX5_save 9 = .ok (.iconst 0, 1) := by decide +kernel
theorem dX5_save_10 : decode cX5_save 10 = .ok (.istore_n 1, 1) := by decide +kernel
theorem dX5_save_11 : decode cX5_save 11 = .ok (.iload_n 1, 1) := by decide +kernel
theorem dX5_save_12 : decode cX5_save 12 = .ok (.sipush 1705, 3) := by decide +kernel
theorem dX5_save_15 : decode cX5_save 15 = .ok (.if_icmp .ge 25, 3) := by decide +kernel
theorem dX5_save_18 : decode cX5_save 18 = .ok (.aload_n 0, 1) := by decide +kernel
theorem dX5_save_19 : decode cX5_save 19 = .ok (.getfield 16, 3) := by decide +kernel
theorem dX5_save_22 : decode cX5_save 22 = .ok (.iload_n 1, 1) := by decide +kernel
theorem dX5_save_23 : decode cX5_save 23 = .ok (.aload_n 0, 1) := by decide +kernel
theorem dX5_save_24 : decode cX5_save 24 = .ok (.getfield 16, 3) := by decide +kernel
theorem dX5_save_27 : decode cX5_save 27 = .ok (.sipush 341, 3) := by decide +kernel
theorem dX5_save_30 : decode cX5_save 30 = .ok (.iload_n 1, 1) := by decide +kernel
theorem dX5_save_31 : decode cX5_save 31 = .ok (.iadd, 1) := by decide +kernel
theorem dX5_save_32 : decode cX5_save 32 = .ok (.iaload, 1) := by decide +kernel
theorem dX5_save_33 : decode cX5_save 33 = .ok (.iastore, 1) := by decide +kernel
theorem dX5_save_34 : decode cX5_save 34 = .ok (.iinc 1 1, 3) := by decide +kernel
theorem dX5_save_37 : decode cX5_save 37 = .ok (.goto (-26), 3) := by decide +kernel
theorem dX5_save_40 : decode cX5_save 40 = .ok (.aload_n 0, 1) := by decide +kernel
theorem dX5_save_41 : decode cX5_save 41 = .ok (.dup, 1) := by decide +kernel
theorem dX5_save_42 : decode cX5_save 42 = .ok (.getfield 49, 3) := by decide +kernel
theorem dX5_save_45 : decode cX5_save 45 = .ok (.iconst 1, 1) := by decide +kernel
theorem dX5_save_46 : decode cX5_save 46 = .ok (.isub, 1) := by decide +kernel
theorem dX5_save_47 : decode cX5_save 47 = .ok (.putfield 49, 3) := by decide +kernel
theorem dX5_save_50 : decode cX5_save 50 = .ok (.iconst 0, 1) := by decide +kernel
theorem dX5_save_51 : decode cX5_save 51 = .ok (.istore_n 1, 1) := by decide +kernel
theorem dX5_save_52 : decode cX5_save 52 = .ok (.iload_n 1, 1) := by decide +kernel
theorem dX5_save_53 : decode cX5_save 53 = .ok (.sipush 341, 3) := by decide +kernel
theorem dX5_save_56 : decode cX5_save 56 = .ok (.if_icmp .ge 30, 3) := by decide +kernel
theorem dX5_save_59 : decode cX5_save 59 = .ok (.aload_n 0, 1) := by decide +kernel
theorem dX5_save_60 : decode cX5_save 60 = .ok (.getfield 16, 3) := by decide +kernel
theorem dX5_save_63 : decode cX5_save 63 = .ok (.sipush 341, 3) := by decide +kernel
theorem dX5_save_66 : decode cX5_save 66 = .ok (.aload_n 0, 1) := by decide +kernel
theorem dX5_save_67 : decode cX5_save 67 = .ok (.getfield 49, 3) := by decide +kernel
theorem dX5_save_70 : decode cX5_save 70 = .ok (.imul, 1) := by decide +kernel
theorem dX5_save_71 : decode cX5_save 71 = .ok (.iload_n 1, 1) := by decide +kernel
theorem dX5_save_72 : decode cX5_save 72 = .ok (.iadd, 1) := by decide +kernel
theorem dX5_save_73 : decode cX5_save 73 = .ok (.aload_n 0, 1) := by decide +kernel
theorem dX5_save_74 : decode cX5_save 74 = .ok (.getfield 7, 3) := by decide +kernel
theorem dX5_save_77 : decode cX5_save 77 = .ok (.iload_n 1, 1) := by decide +kernel
theorem dX5_save_78 : decode cX5_save 78 = .ok (.iaload, 1) := by decide +kernel
theorem dX5_save_79 : decode cX5_save 79 = .ok (.iastore, 1) := by decide +kernel
theorem dX5_save_80 : decode cX5_save 80 = .ok (.iinc 1 1, 3) := by decide +kernel
theorem dX5_save_83 : decode cX5_save 83 = .ok (.goto (-31), 3) := by decide +kernel
theorem dX5_save_86 : decode cX5_save 86 = .ok (.aload_n 0, 1) := by decide +kernel
theorem dX5_save_87 : decode cX5_save 87 = .ok (.dup, 1) := by decide +kernel
theorem dX5_save_88 : decode cX5_save 88 = .ok (.getfield 49, 3) := by decide +kernel
theorem dX5_save_91 : decode cX5_save 91 = .ok (.iconst 1, 1) := by decide +kernel
theorem dX5_save_92 : decode cX5_save 92 = .ok (.iadd, 1) := by decide +kernel
theorem dX5_save_93 : decode cX5_save 93 = .ok (.putfield 49, 3) := by decide +kernel
theorem dX5_save_96 : decode cX5_save 96 = .ok (.return_, 1) := by decide +kernel
theorem dX5_dayOf_0 : decode cX5_dayOf 0 = .ok (.iload_n 0, 1) := by decide +kernel
theorem dX5_dayOf_1 : decode cX5_dayOf 1 = .ok (.bipush 16, 2) := by decide +kernel
theorem dX5_dayOf_3 : decode cX5_dayOf 3 = .ok (.idiv, 1) := by decide +kernel
theorem dX5_dayOf_4 : decode cX5_dayOf 4 = .ok (.ireturn, 1) := by decide +kernel
theorem dX5_slotOf_0 : decode cX5_slotOf 0 = .ok (.iload_n 0, 1) := by decide +kernel
theorem dX5_slotOf_1 : decode cX5_slotOf 1 = .ok (.iconst 4, 1) := by decide +kernel
theorem dX5_slotOf_2 : decode cX5_slotOf 2 = .ok (.idiv, 1) := by decide +kernel
theorem dX5_slotOf_3 : decode cX5_slotOf 3 = .ok (.iconst 4, 1) := by decide +kernel
theorem dX5_slotOf_4 : decode cX5_slotOf 4 = .ok (.irem, 1) := by decide +kernel
theorem dX5_slotOf_5 : decode cX5_slotOf 5 = .ok (.ireturn, 1) := by decide +kernel
theorem dX5_examinerOf_0 : decode cX5_examinerOf 0 = .ok (.iload_n 0, 1) := by decide +kernel
theorem dX5_examinerOf_1 : decode cX5_examinerOf 1 = .ok (.iconst 4, 1) := by decide +kernel
theorem dX5_examinerOf_2 : decode cX5_examinerOf 2 = .ok (.irem, 1) := by decide +kernel
theorem dX5_examinerOf_3 : decode cX5_examinerOf 3 = .ok (.ireturn, 1) := by decide +kernel
theorem dX5_placeOf_0 : decode cX5_placeOf 0 = .ok (.iload_n 0, 1) := by decide +kernel
theorem dX5_placeOf_1 : decode cX5_placeOf 1 = .ok (.invokestatic 52, 3) := by decide +kernel
theorem dX5_placeOf_4 : decode cX5_placeOf 4 = .ok (.iload_n 0, 1) := by decide +kernel
theorem dX5_placeOf_5 : decode cX5_placeOf 5 = .ok (.invokestatic 56, 3) := by decide +kernel
theorem dX5_placeOf_8 : decode cX5_placeOf 8 = .ok (.iload_n 0, 1) := by decide +kernel
theorem dX5_placeOf_9 : decode cX5_placeOf 9 = .ok (.invokestatic 59, 3) := by decide +kernel
theorem dX5_placeOf_12 : decode cX5_placeOf 12 = .ok (.invokestatic 62, 3) := by decide +kernel
theorem dX5_placeOf_15 : decode cX5_placeOf 15 = .ok (.ireturn, 1) := by decide +kernel
theorem dX5_canHave_0 : decode cX5_canHave 0 = .ok (.iload_n 2, 1) := by decide +kernel
theorem dX5_canHave_1 : decode cX5_canHave 1 = .ok (.invokestatic 52, 3) := by decide +kernel
theorem dX5_canHave_4 : decode cX5_canHave 4 = .ok (.istore_n 3, 1) := by decide +kernel
theorem dX5_canHave_5 : decode cX5_canHave 5 = .ok (.iload_n 3, 1) := by decide +kernel
theorem dX5_canHave_6 : decode cX5_canHave 6 = .ok (.aload_n 0, 1) := by decide +kernel
theorem dX5_canHave_7 : decode cX5_canHave 7 = .ok (.getfield 7, 3) := by decide +kernel
theorem dX5_canHave_10 : decode cX5_canHave 10 = .ok (.iconst 1, 1) := by decide +kernel
theorem dX5_canHave_11 : decode cX5_canHave 11 = .ok (.iaload, 1) := by decide +kernel
theorem dX5_canHave_12 : decode cX5_canHave 12 = .ok (.if_icmp .ge 20, 3) := by decide +kernel
theorem dX5_canHave_15 : decode cX5_canHave 15 = .ok (.aload_n 0, 1) := by decide +kernel
theorem dX5_canHave_16 : decode cX5_canHave 16 = .ok (.getfield 7, 3) := by decide +kernel
theorem dX5_canHave_19 : decode cX5_canHave 19 = .ok (.iload_n 2, 1) := by decide +kernel
theorem dX5_canHave_20 : decode cX5_canHave 20 = .ok (.invokestatic 66, 3) := by decide +kernel
theorem dX5_canHave_23 : decode cX5_canHave 23 = .ok (.iaload, 1) := by decide +kernel
theorem dX5_canHave_24 : decode cX5_canHave 24 = .ok (.iconst (-1), 1) := by decide +kernel
theorem dX5_canHave_25 : decode cX5_canHave 25 = .ok (.if_icmp .ne 7, 3) := by decide +kernel
theorem dX5_canHave_28 : decode cX5_canHave 28 = .ok (.iconst 1, 1) := by decide +kernel
theorem dX5_canHave_29 : decode cX5_canHave 29 = .ok (.goto 4, 3) := by decide +kernel
theorem dX5_canHave_32 : decode cX5_canHave 32 = .ok (.iconst 0, 1) := by decide +kernel
theorem dX5_canHave_33 : decode cX5_canHave 33 = .ok (.istore 4, 2) := by decide +kernel
theorem dX5_canHave_35 : decode cX5_canHave 35 = .ok (.iload 4, 2) := by decide +kernel
theorem dX5_canHave_37 : decode cX5_canHave 37 = .ok (.ifCond .eq 55, 3) := by decide +kernel
theorem dX5_canHave_40 : decode cX5_canHave 40 = .ok (.aload_n 0, 1) := by decide +kernel
theorem dX5_canHave_41 : decode cX5_canHave 41 = .ok (.getfield 7, 3) := by decide +kernel
theorem dX5_canHave_44 : decode cX5_canHave 44 = .ok (.iconst 0, 1) := by decide +kernel
theorem dX5_canHave_45 : decode cX5_canHave 45 = .ok (.iaload, 1) := by decide +kernel
theorem dX5_canHave_46 : decode cX5_canHave 46 = .ok (.iload_n 2, 1) := by decide +kernel
theorem dX5_canHave_47 : decode cX5_canHave 47 = .ok (.invokestatic 56, 3) := by decide +kernel
theorem dX5_canHave_50 : decode cX5_canHave 50 = .ok (.iadd, 1) := by decide +kernel
theorem dX5_canHave_51 : decode cX5_canHave 51 = .ok (.aload_n 0, 1) := by decide +kernel
theorem dX5_canHave_52 : decode cX5_canHave 52 = .ok (.getfield 7, 3) := by decide +kernel
theorem dX5_canHave_55 : decode cX5_canHave 55 = .ok (.iload_n 1, 1) := by decide +kernel
theorem dX5_canHave_56 : decode cX5_canHave 56 = .ok (.iconst 2, 1) := by decide +kernel
theorem dX5_canHave_57 : decode cX5_canHave 57 = .ok (.invokestatic 69, 3) := by decide +kernel
theorem dX5_canHave_60 : decode cX5_canHave 60 = .ok (.iaload, 1) := by decide +kernel
theorem dX5_canHave_61 : decode cX5_canHave 61 = .ok (.if_icmp .lt 31, 3) := by decide +kernel
theorem dX5_canHave_64 : decode cX5_canHave 64 = .ok (.aload_n 0, 1) := by decide +kernel
theorem dX5_canHave_65 : decode cX5_canHave 65 = .ok (.getfield 7, 3) := by decide +kernel
theorem dX5_canHave_68 : decode cX5_canHave 68 = .ok (.bipush 6, 2) := by decide +kernel
theorem dX5_canHave_70 : decode cX5_canHave 70 = .ok (.iaload, 1) := by decide +kernel
theorem dX5_canHave_71 : decode cX5_canHave 71 = .ok (.ifCond .eq 17, 3) := by decide +kernel
theorem dX5_canHave_74 : decode cX5_canHave 74 = .ok (.iload_n 3, 1) := by decide +kernel
theorem dX5_canHave_75 : decode cX5_canHave 75 = .ok (.aload_n 0, 1) := by decide +kernel
theorem dX5_canHave_76 : decode cX5_canHave 76 = .ok (.getfield 7, 3) := by decide +kernel
theorem dX5_canHave_79 : decode cX5_canHave 79 = .ok (.iload_n 1, 1) := by decide +kernel
theorem dX5_canHave_80 : decode cX5_canHave 80 = .ok (.iconst 4, 1) := by decide +kernel
theorem dX5_canHave_81 : decode cX5_canHave 81 = .ok (.invokestatic 69, 3) := by decide +kernel
theorem dX5_canHave_84 : decode cX5_canHave 84 = .ok (.iaload, 1) := by decide +kernel
theorem dX5_canHave_85 : decode cX5_canHave 85 = .ok (.if_icmp .eq 7, 3) := by decide +kernel
theorem dX5_canHave_88 : decode cX5_canHave 88 = .ok (.iconst 1, 1) := by decide +kernel
theorem dX5_canHave_89 : decode cX5_canHave 89 = .ok (.goto 4, 3) := by decide +kernel
theorem dX5_canHave_92 : decode cX5_canHave 92 = .ok (.iconst 0, 1) := by decide +kernel
theorem dX5_canHave_93 : decode cX5_canHave 93 = .ok (.ireturn, 1) := by decide +kernel
theorem dX5_earliestOf_0 : decode cX5_earliestOf 0 = .ok (.iconst 0, 1) := by decide +kernel
theorem dX5_earliestOf_1 : decode cX5_earliestOf 1 = .ok (.istore_n 2, 1) := by decide +kernel
theorem dX5_earliestOf_2 : decode cX5_earliestOf 2 = .ok (.iload_n 2, 1) := by decide +kernel
theorem dX5_earliestOf_3 : decode cX5_earliestOf 3 = .ok (.sipush 160, 3) := by decide +kernel
theorem dX5_earliestOf_6 : decode cX5_earliestOf 6 = .ok (.if_icmp .ge 20, 3) := by decide +kernel
theorem dX5_earliestOf_9 : decode cX5_earliestOf 9 = .ok (.aload_n 0, 1) := by decide +kernel
theorem dX5_earliestOf_10 : decode cX5_earliestOf 10 = .ok (.iload_n 1, 1) := by decide +kernel
theorem dX5_earliestOf_11 : decode cX5_earliestOf 11 = .ok (.iload_n 2, 1) := by decide +kernel
theorem dX5_earliestOf_12 : decode cX5_earliestOf 12 = .ok (.invokevirtual 73, 3) := by decide +kernel
theorem dX5_earliestOf_15 : decode cX5_earliestOf 15 = .ok (.ifCond .eq 5, 3) := by decide +kernel
theorem dX5_earliestOf_18 : decode cX5_earliestOf 18 = .ok (.iload_n 2, 1) := by decide +kernel
theorem dX5_earliestOf_19 : decode cX5_earliestOf 19 = .ok (.ireturn, 1) := by decide +kernel
theorem dX5_earliestOf_20 : decode cX5_earliestOf 20 = .ok (.iinc 2 1, 3) := by decide +kernel
theorem dX5_earliestOf_23 : decode cX5_earliestOf 23 = .ok (.goto (-21), 3) := by decide +kernel
theorem dX5_earliestOf_26 : decode cX5_earliestOf 26 = .ok (.iconst (-1), 1) := by decide +kernel
theorem dX5_earliestOf_27 : decode cX5_earliestOf 27 = .ok (.ireturn, 1) := by decide +kernel
theorem dX5_slotBy_0 : decode cX5_slotBy 0 = .ok (.iconst 0, 1) := by decide +kernel
theorem dX5_slotBy_1 : decode cX5_slotBy 1 = .ok (.istore_n 2, 1) := by decide +kernel
theorem dX5_slotBy_2 : decode cX5_slotBy 2 = .ok (.iload_n 2, 1) := by decide +kernel
theorem dX5_slotBy_3 : decode cX5_slotBy 3 = .ok (.sipush 160, 3) := by decide +kernel
theorem dX5_slotBy_6 : decode cX5_slotBy 6 = .ok (.if_icmp .ge 37, 3) := by decide +kernel
theorem dX5_slotBy_9 : decode cX5_slotBy 9 = .ok (.iload_n 2, 1) := by decide +kernel
theorem dX5_slotBy_10 : decode cX5_slotBy 10 = .ok (.invokestatic 52, 3) := by decide +kernel
theorem dX5_slotBy_13 : decode cX5_slotBy 13 = .ok (.aload_n 0, 1) := by decide +kernel
theorem dX5_slotBy_14 : decode cX5_slotBy 14 = .ok (.getfield 7, 3) := by decide +kernel
theorem dX5_slotBy_17 : decode cX5_slotBy 17 = .ok (.iconst 1, 1) := by decide +kernel
theorem dX5_slotBy_18 : decode cX5_slotBy 18 = .ok (.iaload, 1) := by decide +kernel
theorem dX5_slotBy_19 : decode cX5_slotBy 19 = .ok (.if_icmp .ge 18, 3) := by decide +kernel
theorem dX5_slotBy_22 : decode cX5_slotBy 22 = .ok (.aload_n 0, 1) := by decide +kernel
theorem dX5_slotBy_23 : decode cX5_slotBy 23 = .ok (.getfield 7, 3) := by decide +kernel
theorem dX5_slotBy_26 : decode cX5_slotBy 26 = .ok (.iload_n 2, 1) := by decide +kernel
theorem dX5_slotBy_27 : decode cX5_slotBy 27 = .ok (.invokestatic 66, 3) := by decide +kernel
theorem dX5_slotBy_30 : decode cX5_slotBy 30 = .ok (.iaload, 1) := by decide +kernel
theorem dX5_slotBy_31 : decode cX5_slotBy 31 = .ok (.iload_n 1, 1) := by decide +kernel
theorem dX5_slotBy_32 : decode cX5_slotBy 32 = .ok (.if_icmp .ne 5, 3) := by decide +kernel
theorem dX5_slotBy_35 : decode cX5_slotBy 35 = .ok (.iload_n 2, 1) := by decide +kernel
theorem dX5_slotBy_36 : decode cX5_slotBy 36 = .ok (.ireturn, 1) := by decide +kernel
theorem dX5_slotBy_37 : decode cX5_slotBy 37 = .ok (.iinc 2 1, 3) := by decide +kernel
theorem dX5_slotBy_40 : decode cX5_slotBy 40 = .ok (.goto (-38), 3) := by decide +kernel
theorem dX5_slotBy_43 : decode cX5_slotBy 43 = .ok (.iconst (-1), 1) := by decide +kernel
theorem dX5_slotBy_44 : decode cX5_slotBy 44 = .ok (.ireturn, 1) := by decide +kernel
theorem dX5_isAhead_0 : decode cX5_isAhead 0 = .ok (.aload_n 0, 1) := by decide +kernel
theorem dX5_isAhead_1 : decode cX5_isAhead 1 = .ok (.getfield 7, 3) := by decide +kernel
theorem dX5_isAhead_4 : decode cX5_isAhead 4 = .ok (.iload_n 1, 1) := by decide +kernel
theorem dX5_isAhead_5 : decode cX5_isAhead 5 = .ok (.iconst 5, 1) := by decide +kernel
theorem dX5_isAhead_6 : decode cX5_isAhead 6 = .ok (.invokestatic 69, 3) := by decide +kernel
theorem dX5_isAhead_9 : decode cX5_isAhead 9 = .ok (.iaload, 1) := by decide +kernel
theorem dX5_isAhead_10 : decode cX5_isAhead 10 = .ok (.aload_n 0, 1) := by decide +kernel
theorem dX5_isAhead_11 : decode cX5_isAhead 11 = .ok (.getfield 7, 3) := by decide +kernel
theorem dX5_isAhead_14 : decode cX5_isAhead 14 = .ok (.iload_n 2, 1) := by decide +kernel
theorem dX5_isAhead_15 : decode cX5_isAhead 15 = .ok (.iconst 5, 1) := by decide +kernel
theorem dX5_isAhead_16 : decode cX5_isAhead 16 = .ok (.invokestatic 69, 3) := by decide +kernel
theorem dX5_isAhead_19 : decode cX5_isAhead 19 = .ok (.iaload, 1) := by decide +kernel
theorem dX5_isAhead_20 : decode cX5_isAhead 20 = .ok (.isub, 1) := by decide +kernel
theorem dX5_isAhead_21 : decode cX5_isAhead 21 = .ok (.istore_n 3, 1) := by decide +kernel
theorem dX5_isAhead_22 : decode cX5_isAhead 22 = .ok (.iload_n 3, 1) := by decide +kernel
theorem dX5_isAhead_23 : decode cX5_isAhead 23 = .ok (.ifCond .gt 32, 3) := by decide +kernel
theorem dX5_isAhead_26 : decode cX5_isAhead 26 = .ok (.iload_n 3, 1) := by decide +kernel
theorem dX5_isAhead_27 : decode cX5_isAhead 27 = .ok (.ifCond .ne 32, 3) := by decide +kernel
theorem dX5_isAhead_30 : decode cX5_isAhead 30 = .ok (.aload_n 0, 1) := by decide +kernel
theorem dX5_isAhead_31 : decode cX5_isAhead 31 = .ok (.getfield 7, 3) := by decide +kernel
theorem dX5_isAhead_34 : decode cX5_isAhead 34 = .ok (.iload_n 1, 1) := by decide +kernel
theorem dX5_isAhead_35 : decode cX5_isAhead 35 = .ok (.bipush 6, 2) := by decide +kernel
theorem dX5_isAhead_37 : decode cX5_isAhead 37 = .ok (.invokestatic 69, 3) := by decide +kernel
theorem dX5_isAhead_40 : decode cX5_isAhead 40 = .ok (.iaload, 1) := by decide +kernel
theorem dX5_isAhead_41 : decode cX5_isAhead 41 = .ok (.aload_n 0, 1) := by decide +kernel
theorem dX5_isAhead_42 : decode cX5_isAhead 42 = .ok (.getfield 7, 3) := by decide +kernel
theorem dX5_isAhead_45 : decode cX5_isAhead 45 = .ok (.iload_n 2, 1) := by decide +kernel
theorem dX5_isAhead_46 : decode cX5_isAhead 46 = .ok (.bipush 6, 2) := by decide +kernel
theorem dX5_isAhead_48 : decode cX5_isAhead 48 = .ok (.invokestatic 69, 3) := by decide +kernel
theorem dX5_isAhead_51 : decode cX5_isAhead 51 = .ok (.iaload, 1) := by decide +kernel
theorem dX5_isAhead_52 : decode cX5_isAhead 52 = .ok (.if_icmp .ge 7, 3) := by decide +kernel
theorem dX5_isAhead_55 : decode cX5_isAhead 55 = .ok (.iconst 1, 1) := by decide +kernel
theorem dX5_isAhead_56 : decode cX5_isAhead 56 = .ok (.goto 4, 3) := by decide +kernel
theorem dX5_isAhead_59 : decode cX5_isAhead 59 = .ok (.iconst 0, 1) := by decide +kernel
theorem dX5_isAhead_60 : decode cX5_isAhead 60 = .ok (.ireturn, 1) := by decide +kernel
theorem dX5_placeInOrder_0 : decode cX5_placeInOrder 0 = .ok (.iconst 0, 1) := by decide +kernel
theorem dX5_placeInOrder_1 : decode cX5_placeInOrder 1 = .ok (.istore_n 2, 1) := by decide +kernel
theorem dX5_placeInOrder_2 : decode cX5_placeInOrder 2 = .ok (.iconst 0, 1) := by decide +kernel
theorem dX5_placeInOrder_3 : decode cX5_placeInOrder 3 = .ok (.istore_n 3, 1) := by decide +kernel
theorem dX5_placeInOrder_4 : decode cX5_placeInOrder 4 = .ok (.iload_n 3, 1) := by decide +kernel
theorem dX5_placeInOrder_5 : decode cX5_placeInOrder 5 = .ok (.aload_n 0, 1) := by decide +kernel
theorem dX5_placeInOrder_6 : decode cX5_placeInOrder 6 = .ok (.getfield 7, 3) := by decide +kernel
theorem dX5_placeInOrder_9 : decode cX5_placeInOrder 9 = .ok (.iconst 2, 1) := by decide +kernel
theorem dX5_placeInOrder_10 : decode cX5_placeInOrder 10 = .ok (.iaload, 1) := by decide +kernel
theorem dX5_placeInOrder_11 : decode cX5_placeInOrder 11 = .ok (.if_icmp .ge 40, 3) := by decide +kernel
theorem dX5_placeInOrder_14 : decode cX5_placeInOrder 14 = .ok (.iload_n 2, 1) := by decide +kernel
theorem dX5_placeInOrder_15 : decode cX5_placeInOrder 15 = .ok (.aload_n 0, 1) := by decide +kernel
theorem dX5_placeInOrder_16 : decode cX5_placeInOrder 16 = .ok (.getfield 7, 3) := by decide +kernel
theorem dX5_placeInOrder_19 : decode cX5_placeInOrder 19 = .ok (.iload_n 3, 1) := by decide +kernel
theorem dX5_placeInOrder_20 : decode cX5_placeInOrder 20 = .ok (.iconst 0, 1) := by decide +kernel
theorem dX5_placeInOrder_21 : decode cX5_placeInOrder 21 = .ok (.invokestatic 69, 3) := by decide +kernel
theorem dX5_placeInOrder_24 : decode cX5_placeInOrder 24 = .ok (.iaload, 1) := by decide +kernel
theorem dX5_placeInOrder_25 : decode cX5_placeInOrder 25 = .ok (.iconst 1, 1) := by decide +kernel
theorem dX5_placeInOrder_26 : decode cX5_placeInOrder 26 = .ok (.if_icmp .ne 16, 3) := by decide +kernel
theorem dX5_placeInOrder_29 : decode cX5_placeInOrder 29 = .ok (.aload_n 0, 1) := by decide +kernel
theorem dX5_placeInOrder_30 : decode cX5_placeInOrder 30 = .ok (.iload_n 3, 1) := by decide +kernel
theorem dX5_placeInOrder_31 : decode cX5_placeInOrder 31 = .ok (.iload_n 1, 1) := by decide +kernel
theorem dX5_placeInOrder_32 : decode cX5_placeInOrder 32 = .ok (.invokevirtual 77, 3) := by decide +kernel
theorem dX5_placeInOrder_35 : decode cX5_placeInOrder 35 = .ok (.ifCond .eq 7, 3) := by decide +kernel
theorem dX5_placeInOrder_38 : decode cX5_placeInOrder 38 = .ok (.iconst 1, 1) := by decide +kernel
theorem dX5_placeInOrder_39 : decode cX5_placeInOrder 39 = .ok (.goto 4, 3) := by decide +kernel
theorem dX5_placeInOrder_42 : decode cX5_placeInOrder 42 = .ok (.iconst 0, 1) := by decide +kernel
theorem dX5_placeInOrder_43 : decode cX5_placeInOrder 43 = .ok (.iadd, 1) := by decide +kernel
theorem dX5_placeInOrder_44 : decode cX5_placeInOrder 44 = .ok (.istore_n 2, 1) := by decide +kernel
theorem dX5_placeInOrder_45 : decode cX5_placeInOrder 45 = .ok (.iinc 3 1, 3) := by decide +kernel
theorem dX5_placeInOrder_48 : decode cX5_placeInOrder 48 = .ok (.goto (-44), 3) := by decide +kernel
theorem dX5_placeInOrder_51 : decode cX5_placeInOrder 51 = .ok (.iload_n 2, 1) := by decide +kernel
theorem dX5_placeInOrder_52 : decode cX5_placeInOrder 52 = .ok (.ireturn, 1) := by decide +kernel
theorem dX5_giveOut_0 : decode cX5_giveOut 0 = .ok (.iconst 0, 1) := by decide +kernel
theorem dX5_giveOut_1 : decode cX5_giveOut 1 = .ok (.istore_n 1, 1) := by decide +kernel
theorem dX5_giveOut_2 : decode cX5_giveOut 2 = .ok (.iconst 0, 1) := by decide +kernel
theorem dX5_giveOut_3 : decode cX5_giveOut 3 = .ok (.istore_n 2, 1) := by decide +kernel
theorem dX5_giveOut_4 : decode cX5_giveOut 4 = .ok (.iload_n 2, 1) := by decide +kernel
theorem dX5_giveOut_5 : decode cX5_giveOut 5 = .ok (.aload_n 0, 1) := by decide +kernel
theorem dX5_giveOut_6 : decode cX5_giveOut 6 = .ok (.getfield 7, 3) := by decide +kernel
theorem dX5_giveOut_9 : decode cX5_giveOut 9 = .ok (.iconst 2, 1) := by decide +kernel
theorem dX5_giveOut_10 : decode cX5_giveOut 10 = .ok (.iaload, 1) := by decide +kernel
theorem dX5_giveOut_11 : decode cX5_giveOut 11 = .ok (.if_icmp .ge 37, 3) := by decide +kernel
theorem dX5_giveOut_14 : decode cX5_giveOut 14 = .ok (.aload_n 0, 1) := by decide +kernel
theorem dX5_giveOut_15 : decode cX5_giveOut 15 = .ok (.getfield 7, 3) := by decide +kernel
theorem dX5_giveOut_18 : decode cX5_giveOut 18 = .ok (.iload_n 2, 1) := by decide +kernel
theorem dX5_giveOut_19 : decode cX5_giveOut 19 = .ok (.iconst 0, 1) := by decide +kernel
theorem dX5_giveOut_20 : decode cX5_giveOut 20 = .ok (.invokestatic 69, 3) := by decide +kernel
theorem dX5_giveOut_23 : decode cX5_giveOut 23 = .ok (.iaload, 1) := by decide +kernel
theorem dX5_giveOut_24 : decode cX5_giveOut 24 = .ok (.iconst 1, 1) := by decide +kernel
theorem dX5_giveOut_25 : decode cX5_giveOut 25 = .ok (.if_icmp .ne 17, 3) := by decide +kernel
theorem dX5_giveOut_28 : decode cX5_giveOut 28 = .ok (.aload_n 0, 1) := by decide +kernel
theorem dX5_giveOut_29 : decode cX5_giveOut 29 = .ok (.getfield 22, 3) := by decide +kernel
theorem dX5_giveOut_32 : decode cX5_giveOut 32 = .ok (.aload_n 0, 1) := by decide +kernel
theorem dX5_giveOut_33 : decode cX5_giveOut 33 = .ok (.iload_n 2, 1) := by decide +kernel
theorem dX5_giveOut_34 : decode cX5_giveOut 34 = .ok (.invokevirtual 80, 3) := by decide +kernel
theorem dX5_giveOut_37 : decode cX5_giveOut 37 = .ok (.iload_n 2, 1) := by decide +kernel
theorem dX5_giveOut_38 : decode cX5_giveOut 38 = .ok (.iastore, 1) := by decide +kernel
theorem dX5_giveOut_39 : decode cX5_giveOut 39 = .ok (.iinc 1 1, 3) := by decide +kernel
theorem dX5_giveOut_42 : decode cX5_giveOut 42 = .ok (.iinc 2 1, 3) := by decide +kernel
theorem dX5_giveOut_45 : decode cX5_giveOut 45 = .ok (.goto (-41), 3) := by decide +kernel
theorem dX5_giveOut_48 : decode cX5_giveOut 48 = .ok (.iconst 0, 1) := by decide +kernel
theorem dX5_giveOut_49 : decode cX5_giveOut 49 = .ok (.istore_n 2, 1) := by decide +kernel
theorem dX5_giveOut_50 : decode cX5_giveOut 50 = .ok (.iload_n 2, 1) := by decide +kernel
theorem dX5_giveOut_51 : decode cX5_giveOut 51 = .ok (.iload_n 1, 1) := by decide +kernel
theorem dX5_giveOut_52 : decode cX5_giveOut 52 = .ok (.if_icmp .ge 51, 3) := by decide +kernel
theorem dX5_giveOut_55 : decode cX5_giveOut 55 = .ok (.aload_n 0, 1) := by decide +kernel
theorem dX5_giveOut_56 : decode cX5_giveOut 56 = .ok (.getfield 22, 3) := by decide +kernel
theorem dX5_giveOut_59 : decode cX5_giveOut 59 = .ok (.iload_n 2, 1) := by decide +kernel
theorem dX5_giveOut_60 : decode cX5_giveOut 60 = .ok (.iaload, 1) := by decide +kernel
theorem dX5_giveOut_61 : decode cX5_giveOut 61 = .ok (.istore_n 3, 1) := by decide +kernel
theorem dX5_giveOut_62 : decode cX5_giveOut 62 = .ok (.aload_n 0, 1) := by decide +kernel
theorem dX5_giveOut_63 : decode cX5_giveOut 63 = .ok (.iload_n 3, 1) := by decide +kernel
theorem dX5_giveOut_64 : decode cX5_giveOut 64 = .ok (.invokevirtual 83, 3) := by decide +kernel
theorem dX5_giveOut_67 : decode cX5_giveOut 67 = .ok (.istore 4, 2) := by decide +kernel
theorem dX5_giveOut_69 : decode cX5_giveOut 69 = .ok (.iload 4, 2) := by decide +kernel
theorem dX5_giveOut_71 : decode cX5_giveOut 71 = .ok (.iconst (-1), 1) := by decide +kernel
theorem dX5_giveOut_72 : decode cX5_giveOut 72 = .ok (.if_icmp .eq 25, 3) := by decide +kernel
theorem dX5_giveOut_75 : decode cX5_giveOut 75 = .ok (.aload_n 0, 1) := by decide +kernel
theorem dX5_giveOut_76 : decode cX5_giveOut 76 = .ok (.getfield 7, 3) := by decide +kernel
theorem dX5_giveOut_79 : decode cX5_giveOut 79 = .ok (.iload 4, 2) := by decide +kernel
theorem dX5_giveOut_81 : decode cX5_giveOut 81 = .ok (.invokestatic 66, 3) := by decide +kernel
theorem dX5_giveOut_84 : decode cX5_giveOut 84 = .ok (.iload_n 3, 1) := by decide +kernel
theorem dX5_giveOut_85 : decode cX5_giveOut 85 = .ok (.iastore, 1) := by decide +kernel
theorem dX5_giveOut_86 : decode cX5_giveOut 86 = .ok (.aload_n 0, 1) := by decide +kernel
theorem dX5_giveOut_87 : decode cX5_giveOut 87 = .ok (.getfield 7, 3) := by decide +kernel
theorem dX5_giveOut_90 : decode cX5_giveOut 90 = .ok (.iload_n 3, 1) := by decide +kernel
theorem dX5_giveOut_91 : decode cX5_giveOut 91 = .ok (.iconst 0, 1) := by decide +kernel
theorem dX5_giveOut_92 : decode cX5_giveOut 92 = .ok (.invokestatic 69, 3) := by decide +kernel
theorem dX5_giveOut_95 : decode cX5_giveOut 95 = .ok (.iconst 2, 1) := by decide +kernel
theorem dX5_giveOut_96 : decode cX5_giveOut 96 = .ok (.iastore, 1) := by decide +kernel
theorem dX5_giveOut_97 : decode cX5_giveOut 97 = .ok (.iinc 2 1, 3) := by decide +kernel
theorem dX5_giveOut_100 : decode cX5_giveOut 100 = .ok (.goto (-50), 3) := by decide +kernel
theorem dX5_giveOut_103 : decode cX5_giveOut 103 = .ok (.return_, 1) := by decide +kernel
theorem dX5_wait_0 : decode cX5_wait 0 = .ok (.aload_n 0, 1) := by decide +kernel
theorem dX5_wait_1 : decode cX5_wait 1 = .ok (.getfield 7, 3) := by decide +kernel
theorem dX5_wait_4 : decode cX5_wait 4 = .ok (.iload_n 1, 1) := by decide +kernel
theorem dX5_wait_5 : decode cX5_wait 5 = .ok (.iconst 0, 1) := by decide +kernel
theorem dX5_wait_6 : decode cX5_wait 6 = .ok (.invokestatic 69, 3) := by decide +kernel
theorem dX5_wait_9 : decode cX5_wait 9 = .ok (.iconst 1, 1) := by decide +kernel
theorem dX5_wait_10 : decode cX5_wait 10 = .ok (.iastore, 1) := by decide +kernel
theorem dX5_wait_11 : decode cX5_wait 11 = .ok (.aload_n 0, 1) := by decide +kernel
theorem dX5_wait_12 : decode cX5_wait 12 = .ok (.getfield 7, 3) := by decide +kernel
theorem dX5_wait_15 : decode cX5_wait 15 = .ok (.iload_n 1, 1) := by decide +kernel
theorem dX5_wait_16 : decode cX5_wait 16 = .ok (.bipush 6, 2) := by decide +kernel
theorem dX5_wait_18 : decode cX5_wait 18 = .ok (.invokestatic 69, 3) := by decide +kernel
theorem dX5_wait_21 : decode cX5_wait 21 = .ok (.aload_n 0, 1) := by decide +kernel
theorem dX5_wait_22 : decode cX5_wait 22 = .ok (.getfield 7, 3) := by decide +kernel
theorem dX5_wait_25 : decode cX5_wait 25 = .ok (.iconst 3, 1) := by decide +kernel
theorem dX5_wait_26 : decode cX5_wait 26 = .ok (.iaload, 1) := by decide +kernel
theorem dX5_wait_27 : decode cX5_wait 27 = .ok (.iastore, 1) := by decide +kernel
theorem dX5_wait_28 : decode cX5_wait 28 = .ok (.aload_n 0, 1) := by decide +kernel
theorem dX5_wait_29 : decode cX5_wait 29 = .ok (.getfield 7, 3) := by decide +kernel
theorem dX5_wait_32 : decode cX5_wait 32 = .ok (.iconst 3, 1) := by decide +kernel
theorem dX5_wait_33 : decode cX5_wait 33 = .ok (.dup2, 1) := by decide +kernel
theorem dX5_wait_34 : decode cX5_wait 34 = .ok (.iaload, 1) := by decide +kernel
theorem dX5_wait_35 : decode cX5_wait 35 = .ok (.iconst 1, 1) := by decide +kernel
theorem dX5_wait_36 : decode cX5_wait 36 = .ok (.iadd, 1) := by decide +kernel
theorem dX5_wait_37 : decode cX5_wait 37 = .ok (.iastore, 1) := by decide +kernel
theorem dX5_wait_38 : decode cX5_wait 38 = .ok (.return_, 1) := by decide +kernel
theorem dX5_addExaminer_0 : decode cX5_addExaminer 0 = .ok (.aload_n 0, 1) := by decide +kernel
theorem dX5_addExaminer_1 : decode cX5_addExaminer 1 = .ok (.aload_n 0, 1) := by decide +kernel
theorem dX5_addExaminer_2 : decode cX5_addExaminer 2 = .ok (.getfield 7, 3) := by decide +kernel
theorem dX5_addExaminer_5 : decode cX5_addExaminer 5 = .ok (.iconst 1, 1) := by decide +kernel
theorem dX5_addExaminer_6 : decode cX5_addExaminer 6 = .ok (.iaload, 1) := by decide +kernel
theorem dX5_addExaminer_7 : decode cX5_addExaminer 7 = .ok (.iconst 4, 1) := by decide +kernel
theorem dX5_addExaminer_8 : decode cX5_addExaminer 8 = .ok (.if_icmp .ne 7, 3) := by decide +kernel
theorem dX5_addExaminer_11 : decode cX5_addExaminer 11 = .ok (.iconst 1, 1) := by decide +kernel
theorem dX5_addExaminer_12 : decode cX5_addExaminer 12 = .ok (.goto 4, 3) := by decide +kernel
theorem dX5_addExaminer_15 : decode cX5_addExaminer 15 = .ok (.iconst 0, 1) := by decide +kernel
theorem dX5_addExaminer_16 : decode cX5_addExaminer 16 = .ok (.invokevirtual 86, 3) := by decide +kernel
theorem dX5_addExaminer_19 : decode cX5_addExaminer 19 = .ok (.ifCond .ne 5, 3) := by decide +kernel
theorem dX5_addExaminer_22 : decode cX5_addExaminer 22 = .ok (.iconst 0, 1) := by decide +kernel
theorem dX5_addExaminer_23 : decode cX5_addExaminer 23 = .ok (.ireturn, 1) := by decide +kernel
theorem dX5_addExaminer_24 : decode cX5_addExaminer 24 = .ok (.aload_n 0, 1) := by decide +kernel
theorem dX5_addExaminer_25 : decode cX5_addExaminer 25 = .ok (.invokevirtual 90, 3) := by decide +kernel
theorem dX5_addExaminer_28 : decode cX5_addExaminer 28 = .ok (.aload_n 0, 1) := by decide +kernel
theorem dX5_addExaminer_29 : decode cX5_addExaminer 29 = .ok (.getfield 7, 3) := by decide +kernel
theorem dX5_addExaminer_32 : decode cX5_addExaminer 32 = .ok (.iconst 1, 1) := by decide +kernel
theorem dX5_addExaminer_33 : decode cX5_addExaminer 33 = .ok (.iaload, 1) := by decide +kernel
theorem dX5_addExaminer_34 : decode cX5_addExaminer 34 = .ok (.istore_n 1, 1) := by decide +kernel
theorem dX5_addExaminer_35 : decode cX5_addExaminer 35 = .ok (.iconst 0, 1) := by decide +kernel
theorem dX5_addExaminer_36 : decode cX5_addExaminer 36 = .ok (.istore_n 2, 1) := by decide +kernel
theorem dX5_addExaminer_37 : decode cX5_addExaminer 37 = .ok (.iload_n 2, 1) := by decide +kernel
theorem dX5_addExaminer_38 : decode cX5_addExaminer 38 = .ok (.bipush 40, 2) := by decide +kernel
theorem dX5_addExaminer_40 : decode cX5_addExaminer 40 = .ok (.if_icmp .ge 24, 3) := by decide +kernel
theorem dX5_addExaminer_43 : decode cX5_addExaminer 43 = .ok (.aload_n 0, 1) := by decide +kernel
theorem dX5_addExaminer_44 : decode cX5_addExaminer 44 = .ok (.getfield 7, 3) := by decide +kernel
theorem dX5_addExaminer_47 : decode cX5_addExaminer 47 = .ok (.bipush 9, 2) := by decide +kernel
theorem dX5_addExaminer_49 : decode cX5_addExaminer 49 = .ok (.bipush 40, 2) := by decide +kernel
theorem dX5_addExaminer_51 : decode cX5_addExaminer 51 = .ok (.iload_n 1, 1) := by decide +kernel
theorem dX5_addExaminer_52 : decode cX5_addExaminer 52 = .ok (.imul, 1) := by decide +kernel
theorem dX5_addExaminer_53 : decode cX5_addExaminer 53 = .ok (.iadd, 1) := by decide +kernel
theorem dX5_addExaminer_54 : decode cX5_addExaminer 54 = .ok (.iload_n 2, 1) := by decide +kernel
theorem dX5_addExaminer_55 : decode cX5_addExaminer 55 = .ok (.iadd, 1) := by decide +kernel
theorem dX5_addExaminer_56 : decode cX5_addExaminer 56 = .ok (.iconst (-1), 1) := by decide +kernel
theorem dX5_addExaminer_57 : decode cX5_addExaminer 57 = .ok (.iastore, 1) := by decide +kernel
theorem dX5_addExaminer_58 : decode cX5_addExaminer 58 = .ok (.iinc 2 1, 3) := by decide +kernel
theorem dX5_addExaminer_61 : decode cX5_addExaminer 61 = .ok (.goto (-24), 3) := by decide +kernel
theorem dX5_addExaminer_64 : decode cX5_addExaminer 64 = .ok (.iconst 0, 1) := by decide +kernel
theorem dX5_addExaminer_65 : decode cX5_addExaminer 65 = .ok (.istore_n 2, 1) := by decide +kernel
theorem dX5_addExaminer_66 : decode cX5_addExaminer 66 = .ok (.iload_n 2, 1) := by decide +kernel
theorem dX5_addExaminer_67 : decode cX5_addExaminer 67 = .ok (.bipush 7, 2) := by decide +kernel
theorem dX5_addExaminer_69 : decode cX5_addExaminer 69 = .ok (.if_icmp .ge 20, 3) := by decide +kernel
theorem dX5_addExaminer_72 : decode cX5_addExaminer 72 = .ok (.aload_n 0, 1) := by decide +kernel
theorem dX5_addExaminer_73 : decode cX5_addExaminer 73 = .ok (.getfield 7, 3) := by decide +kernel
theorem dX5_addExaminer_76 : decode cX5_addExaminer 76 = .ok (.iload_n 1, 1) := by decide +kernel
theorem dX5_addExaminer_77 : decode cX5_addExaminer 77 = .ok (.iload_n 2, 1) := by decide +kernel
theorem dX5_addExaminer_78 : decode cX5_addExaminer 78 = .ok (.invokestatic 93, 3) := by decide +kernel
theorem dX5_addExaminer_81 : decode cX5_addExaminer 81 = .ok (.iconst 0, 1) := by decide +kernel
theorem dX5_addExaminer_82 : decode cX5_addExaminer 82 = .ok (.iastore, 1) := by decide +kernel
theorem dX5_addExaminer_83 : decode cX5_addExaminer 83 = .ok (.iinc 2 1, 3) := by decide +kernel
theorem dX5_addExaminer_86 : decode cX5_addExaminer 86 = .ok (.goto (-20), 3) := by decide +kernel
theorem dX5_addExaminer_89 : decode cX5_addExaminer 89 = .ok (.aload_n 0, 1) := by decide +kernel
theorem dX5_addExaminer_90 : decode cX5_addExaminer 90 = .ok (.getfield 7, 3) := by decide +kernel
theorem dX5_addExaminer_93 : decode cX5_addExaminer 93 = .ok (.iconst 1, 1) := by decide +kernel
theorem dX5_addExaminer_94 : decode cX5_addExaminer 94 = .ok (.dup2, 1) := by decide +kernel
theorem dX5_addExaminer_95 : decode cX5_addExaminer 95 = .ok (.iaload, 1) := by decide +kernel
theorem dX5_addExaminer_96 : decode cX5_addExaminer 96 = .ok (.iconst 1, 1) := by decide +kernel
theorem dX5_addExaminer_97 : decode cX5_addExaminer 97 = .ok (.iadd, 1) := by decide +kernel
theorem dX5_addExaminer_98 : decode cX5_addExaminer 98 = .ok (.iastore, 1) := by decide +kernel
theorem dX5_addExaminer_99 : decode cX5_addExaminer 99 = .ok (.aload_n 0, 1) := by decide +kernel
theorem dX5_addExaminer_100 : decode cX5_addExaminer 100 = .ok (.invokevirtual 96, 3) := by decide +kernel
theorem dX5_addExaminer_103 : decode cX5_addExaminer 103 = .ok (.iload_n 1, 1) := by decide +kernel
theorem dX5_addExaminer_104 : decode cX5_addExaminer 104 = .ok (.ireturn, 1) := by decide +kernel
theorem dX5_addPupil_0 : decode cX5_addPupil 0 = .ok (.aload_n 0, 1) := by decide +kernel
theorem dX5_addPupil_1 : decode cX5_addPupil 1 = .ok (.aload_n 0, 1) := by decide +kernel
theorem dX5_addPupil_2 : decode cX5_addPupil 2 = .ok (.getfield 7, 3) := by decide +kernel
theorem dX5_addPupil_5 : decode cX5_addPupil 5 = .ok (.iconst 2, 1) := by decide +kernel
theorem dX5_addPupil_6 : decode cX5_addPupil 6 = .ok (.iaload, 1) := by decide +kernel
theorem dX5_addPupil_7 : decode cX5_addPupil 7 = .ok (.bipush 12, 2) := by decide +kernel
theorem dX5_addPupil_9 : decode cX5_addPupil 9 = .ok (.if_icmp .ne 7, 3) := by decide +kernel
theorem dX5_addPupil_12 : decode cX5_addPupil 12 = .ok (.iconst 1, 1) := by decide +kernel
theorem dX5_addPupil_13 : decode cX5_addPupil 13 = .ok (.goto 4, 3) := by decide +kernel
theorem dX5_addPupil_16 : decode cX5_addPupil 16 = .ok (.iconst 0, 1) := by decide +kernel
theorem dX5_addPupil_17 : decode cX5_addPupil 17 = .ok (.invokevirtual 86, 3) := by decide +kernel
theorem dX5_addPupil_20 : decode cX5_addPupil 20 = .ok (.ifCond .ne 5, 3) := by decide +kernel
theorem dX5_addPupil_23 : decode cX5_addPupil 23 = .ok (.iconst 0, 1) := by decide +kernel
theorem dX5_addPupil_24 : decode cX5_addPupil 24 = .ok (.ireturn, 1) := by decide +kernel
theorem dX5_addPupil_25 : decode cX5_addPupil 25 = .ok (.aload_n 0, 1) := by decide +kernel
theorem dX5_addPupil_26 : decode cX5_addPupil 26 = .ok (.invokevirtual 90, 3) := by decide +kernel
theorem dX5_addPupil_29 : decode cX5_addPupil 29 = .ok (.aload_n 0, 1) := by decide +kernel
theorem dX5_addPupil_30 : decode cX5_addPupil 30 = .ok (.getfield 7, 3) := by decide +kernel
theorem dX5_addPupil_33 : decode cX5_addPupil 33 = .ok (.iconst 2, 1) := by decide +kernel
theorem dX5_addPupil_34 : decode cX5_addPupil 34 = .ok (.iaload, 1) := by decide +kernel
theorem dX5_addPupil_35 : decode cX5_addPupil 35 = .ok (.istore_n 1, 1) := by decide +kernel
theorem dX5_addPupil_36 : decode cX5_addPupil 36 = .ok (.iconst 0, 1) := by decide +kernel
theorem dX5_addPupil_37 : decode cX5_addPupil 37 = .ok (.istore_n 2, 1) := by decide +kernel
theorem dX5_addPupil_38 : decode cX5_addPupil 38 = .ok (.iload_n 2, 1) := by decide +kernel
theorem dX5_addPupil_39 : decode cX5_addPupil 39 = .ok (.bipush 12, 2) := by decide +kernel
theorem dX5_addPupil_41 : decode cX5_addPupil 41 = .ok (.if_icmp .ge 20, 3) := by decide +kernel
theorem dX5_addPupil_44 : decode cX5_addPupil 44 = .ok (.aload_n 0, 1) := by decide +kernel
theorem dX5_addPupil_45 : decode cX5_addPupil 45 = .ok (.getfield 7, 3) := by decide +kernel
theorem dX5_addPupil_48 : decode cX5_addPupil 48 = .ok (.iload_n 1, 1) := by decide +kernel
theorem dX5_addPupil_49 : decode cX5_addPupil 49 = .ok (.iload_n 2, 1) := by decide +kernel
theorem dX5_addPupil_50 : decode cX5_addPupil 50 = .ok (.invokestatic 69, 3) := by decide +kernel
theorem dX5_addPupil_53 : decode cX5_addPupil 53 = .ok (.iconst 0, 1) := by decide +kernel
theorem dX5_addPupil_54 : decode cX5_addPupil 54 = .ok (.iastore, 1) := by decide +kernel
theorem dX5_addPupil_55 : decode cX5_addPupil 55 = .ok (.iinc 2 1, 3) := by decide +kernel
theorem dX5_addPupil_58 : decode cX5_addPupil 58 = .ok (.goto (-20), 3) := by decide +kernel
theorem dX5_addPupil_61 : decode cX5_addPupil 61 = .ok (.aload_n 0, 1) := by decide +kernel
theorem dX5_addPupil_62 : decode cX5_addPupil 62 = .ok (.getfield 7, 3) := by decide +kernel
theorem dX5_addPupil_65 : decode cX5_addPupil 65 = .ok (.iload_n 1, 1) := by decide +kernel
theorem dX5_addPupil_66 : decode cX5_addPupil 66 = .ok (.iconst 2, 1) := by decide +kernel
theorem dX5_addPupil_67 : decode cX5_addPupil 67 = .ok (.invokestatic 69, 3) := by decide +kernel
theorem dX5_addPupil_70 : decode cX5_addPupil 70 = .ok (.aload_n 0, 1) := by decide +kernel
theorem dX5_addPupil_71 : decode cX5_addPupil 71 = .ok (.getfield 7, 3) := by decide +kernel
theorem dX5_addPupil_74 : decode cX5_addPupil 74 = .ok (.iconst 0, 1) := by decide +kernel
theorem dX5_addPupil_75 : decode cX5_addPupil 75 = .ok (.iaload, 1) := by decide +kernel
theorem dX5_addPupil_76 : decode cX5_addPupil 76 = .ok (.iastore, 1) := by decide +kernel
theorem dX5_addPupil_77 : decode cX5_addPupil 77 = .ok (.aload_n 0, 1) := by decide +kernel
theorem dX5_addPupil_78 : decode cX5_addPupil 78 = .ok (.getfield 7, 3) := by decide +kernel
theorem dX5_addPupil_81 : decode cX5_addPupil 81 = .ok (.iload_n 1, 1) := by decide +kernel
theorem dX5_addPupil_82 : decode cX5_addPupil 82 = .ok (.iconst 3, 1) := by decide +kernel
theorem dX5_addPupil_83 : decode cX5_addPupil 83 = .ok (.invokestatic 69, 3) := by decide +kernel
theorem dX5_addPupil_86 : decode cX5_addPupil 86 = .ok (.iconst (-1), 1) := by decide +kernel
theorem dX5_addPupil_87 : decode cX5_addPupil 87 = .ok (.iastore, 1) := by decide +kernel
theorem dX5_addPupil_88 : decode cX5_addPupil 88 = .ok (.aload_n 0, 1) := by decide +kernel
theorem dX5_addPupil_89 : decode cX5_addPupil 89 = .ok (.getfield 7, 3) := by decide +kernel
theorem dX5_addPupil_92 : decode cX5_addPupil 92 = .ok (.iload_n 1, 1) := by decide +kernel
theorem dX5_addPupil_93 : decode cX5_addPupil 93 = .ok (.iconst 4, 1) := by decide +kernel
theorem dX5_addPupil_94 : decode cX5_addPupil 94 = .ok (.invokestatic 69, 3) := by decide +kernel
theorem dX5_addPupil_97 : decode cX5_addPupil 97 = .ok (.iconst (-1), 1) := by decide +kernel
theorem dX5_addPupil_98 : decode cX5_addPupil 98 = .ok (.iastore, 1) := by decide +kernel
theorem dX5_addPupil_99 : decode cX5_addPupil 99 = .ok (.aload_n 0, 1) := by decide +kernel
theorem dX5_addPupil_100 : decode cX5_addPupil 100 = .ok (.getfield 7, 3) := by decide +kernel
theorem dX5_addPupil_103 : decode cX5_addPupil 103 = .ok (.iconst 2, 1) := by decide +kernel
theorem dX5_addPupil_104 : decode cX5_addPupil 104 = .ok (.dup2, 1) := by decide +kernel
theorem dX5_addPupil_105 : decode cX5_addPupil 105 = .ok (.iaload, 1) := by decide +kernel
theorem dX5_addPupil_106 : decode cX5_addPupil 106 = .ok (.iconst 1, 1) := by decide +kernel
theorem dX5_addPupil_107 : decode cX5_addPupil 107 = .ok (.iadd, 1) := by decide +kernel
theorem dX5_addPupil_108 : decode cX5_addPupil 108 = .ok (.iastore, 1) := by decide +kernel
theorem dX5_addPupil_109 : decode cX5_addPupil 109 = .ok (.iload_n 1, 1) := by decide +kernel
theorem dX5_addPupil_110 : decode cX5_addPupil 110 = .ok (.ireturn, 1) := by decide +kernel
theorem dX5_askFault_0 : decode cX5_askFault 0 = .ok (.aload_n 0, 1) := by decide +kernel
theorem dX5_askFault_1 : decode cX5_askFault 1 = .ok (.iload_n 1, 1) := by decide +kernel
theorem dX5_askFault_2 : decode cX5_askFault 2 = .ok (.invokevirtual 99, 3) := by decide +kernel
theorem dX5_askFault_5 : decode cX5_askFault 5 = .ok (.ifCond .ne 7, 3) := by decide +kernel
theorem dX5_askFault_8 : decode cX5_askFault 8 = .ok (.iconst 1, 1) := by decide +kernel
theorem dX5_askFault_9 : decode cX5_askFault 9 = .ok (.goto 21, 3) := by decide +kernel
theorem dX5_askFault_12 : decode cX5_askFault 12 = .ok (.aload_n 0, 1) := by decide +kernel
theorem dX5_askFault_13 : decode cX5_askFault 13 = .ok (.getfield 7, 3) := by decide +kernel
theorem dX5_askFault_16 : decode cX5_askFault 16 = .ok (.iload_n 1, 1) := by decide +kernel
theorem dX5_askFault_17 : decode cX5_askFault 17 = .ok (.iconst 0, 1) := by decide +kernel
theorem dX5_askFault_18 : decode cX5_askFault 18 = .ok (.invokestatic 69, 3) := by decide +kernel
theorem dX5_askFault_21 : decode cX5_askFault 21 = .ok (.iaload, 1) := by decide +kernel
theorem dX5_askFault_22 : decode cX5_askFault 22 = .ok (.ifCond .eq 7, 3) := by decide +kernel
theorem dX5_askFault_25 : decode cX5_askFault 25 = .ok (.iconst 2, 1) := by decide +kernel
theorem dX5_askFault_26 : decode cX5_askFault 26 = .ok (.goto 4, 3) := by decide +kernel
theorem dX5_askFault_29 : decode cX5_askFault 29 = .ok (.iconst 0, 1) := by decide +kernel
theorem dX5_askFault_30 : decode cX5_askFault 30 = .ok (.ireturn, 1) := by decide +kernel
theorem dX5_asks_0 : decode cX5_asks 0 = .ok (.aload_n 0, 1) := by decide +kernel
theorem dX5_asks_1 : decode cX5_asks 1 = .ok (.getfield 7, 3) := by decide +kernel
theorem dX5_asks_4 : decode cX5_asks 4 = .ok (.iload_n 1, 1) := by decide +kernel
theorem dX5_asks_5 : decode cX5_asks 5 = .ok (.bipush 7, 2) := by decide +kernel
theorem dX5_asks_7 : decode cX5_asks 7 = .ok (.invokestatic 69, 3) := by decide +kernel
theorem dX5_asks_10 : decode cX5_asks 10 = .ok (.dup2, 1) := by decide +kernel
theorem dX5_asks_11 : decode cX5_asks 11 = .ok (.iaload, 1) := by decide +kernel
theorem dX5_asks_12 : decode cX5_asks 12 = .ok (.aload_n 0, 1) := by decide +kernel
theorem dX5_asks_13 : decode cX5_asks 13 = .ok (.getfield 7, 3) := by decide +kernel
theorem dX5_asks_16 : decode cX5_asks 16 = .ok (.bipush 8, 2) := by decide +kernel
theorem dX5_asks_18 : decode cX5_asks 18 = .ok (.iaload, 1) := by decide +kernel
theorem dX5_asks_19 : decode cX5_asks 19 = .ok (.iadd, 1) := by decide +kernel
theorem dX5_asks_20 : decode cX5_asks 20 = .ok (.iastore, 1) := by decide +kernel
theorem dX5_asks_21 : decode cX5_asks 21 = .ok (.aload_n 0, 1) := by decide +kernel
theorem dX5_asks_22 : decode cX5_asks 22 = .ok (.getfield 7, 3) := by decide +kernel
theorem dX5_asks_25 : decode cX5_asks 25 = .ok (.iload_n 1, 1) := by decide +kernel
theorem dX5_asks_26 : decode cX5_asks 26 = .ok (.bipush 8, 2) := by decide +kernel
theorem dX5_asks_28 : decode cX5_asks 28 = .ok (.invokestatic 69, 3) := by decide +kernel
theorem dX5_asks_31 : decode cX5_asks 31 = .ok (.aload_n 0, 1) := by decide +kernel
theorem dX5_asks_32 : decode cX5_asks 32 = .ok (.getfield 7, 3) := by decide +kernel
theorem dX5_asks_35 : decode cX5_asks 35 = .ok (.bipush 8, 2) := by decide +kernel
theorem dX5_asks_37 : decode cX5_asks 37 = .ok (.iaload, 1) := by decide +kernel
theorem dX5_asks_38 : decode cX5_asks 38 = .ok (.iastore, 1) := by decide +kernel
theorem dX5_asks_39 : decode cX5_asks 39 = .ok (.aload_n 0, 1) := by decide +kernel
theorem dX5_asks_40 : decode cX5_asks 40 = .ok (.iload_n 1, 1) := by decide +kernel
theorem dX5_asks_41 : decode cX5_asks 41 = .ok (.invokevirtual 102, 3) := by decide +kernel
theorem dX5_asks_44 : decode cX5_asks 44 = .ok (.aload_n 0, 1) := by decide +kernel
theorem dX5_asks_45 : decode cX5_asks 45 = .ok (.invokevirtual 96, 3) := by decide +kernel
theorem dX5_asks_48 : decode cX5_asks 48 = .ok (.aload_n 0, 1) := by decide +kernel
theorem dX5_asks_49 : decode cX5_asks 49 = .ok (.iload_n 1, 1) := by decide +kernel
theorem dX5_asks_50 : decode cX5_asks 50 = .ok (.invokevirtual 106, 3) := by decide +kernel
theorem dX5_asks_53 : decode cX5_asks 53 = .ok (.istore_n 2, 1) := by decide +kernel
theorem dX5_asks_54 : decode cX5_asks 54 = .ok (.iload_n 2, 1) := by decide +kernel
theorem dX5_asks_55 : decode cX5_asks 55 = .ok (.iconst (-1), 1) := by decide +kernel
theorem dX5_asks_56 : decode cX5_asks 56 = .ok (.if_icmp .ne 7, 3) := by decide +kernel
theorem dX5_asks_59 : decode cX5_asks 59 = .ok (.iconst (-1), 1) := by decide +kernel
theorem dX5_asks_60 : decode cX5_asks 60 = .ok (.goto 7, 3) := by decide +kernel
theorem dX5_asks_63 : decode cX5_asks 63 = .ok (.iload_n 2, 1) := by decide +kernel
theorem dX5_asks_64 : decode cX5_asks 64 = .ok (.invokestatic 56, 3) := by decide +kernel
theorem dX5_asks_67 : decode cX5_asks 67 = .ok (.ireturn, 1) := by decide +kernel
theorem dX5_ask_0 : decode cX5_ask 0 = .ok (.aload_n 0, 1) := by decide +kernel
theorem dX5_ask_1 : decode cX5_ask 1 = .ok (.aload_n 0, 1) := by decide +kernel
theorem dX5_ask_2 : decode cX5_ask 2 = .ok (.iload_n 1, 1) := by decide +kernel
theorem dX5_ask_3 : decode cX5_ask 3 = .ok (.invokevirtual 109, 3) := by decide +kernel
theorem dX5_ask_6 : decode cX5_ask 6 = .ok (.invokevirtual 86, 3) := by decide +kernel
theorem dX5_ask_9 : decode cX5_ask 9 = .ok (.ifCond .ne 5, 3) := by decide +kernel
theorem dX5_ask_12 : decode cX5_ask 12 = .ok (.iconst 0, 1) := by decide +kernel
theorem dX5_ask_13 : decode cX5_ask 13 = .ok (.ireturn, 1) := by decide +kernel
theorem dX5_ask_14 : decode cX5_ask 14 = .ok (.aload_n 0, 1) := by decide +kernel
theorem dX5_ask_15 : decode cX5_ask 15 = .ok (.invokevirtual 90, 3) := by decide +kernel
theorem dX5_ask_18 : decode cX5_ask 18 = .ok (.aload_n 0, 1) := by decide +kernel
theorem dX5_ask_19 : decode cX5_ask 19 = .ok (.iload_n 1, 1) := by decide +kernel
theorem dX5_ask_20 : decode cX5_ask 20 = .ok (.invokevirtual 112, 3) := by decide +kernel
theorem dX5_ask_23 : decode cX5_ask 23 = .ok (.ireturn, 1) := by decide +kernel
theorem dX5_quitFault_0 : decode cX5_quitFault 0 = .ok (.aload_n 0, 1) := by decide +kernel
theorem dX5_quitFault_1 : decode cX5_quitFault 1 = .ok (.iload_n 1, 1) := by decide +kernel
theorem dX5_quitFault_2 : decode cX5_quitFault 2 = .ok (.invokevirtual 99, 3) := by decide +kernel
theorem dX5_quitFault_5 : decode cX5_quitFault 5 = .ok (.ifCond .ne 7, 3) := by decide +kernel
theorem dX5_quitFault_8 : decode cX5_quitFault 8 = .ok (.iconst 1, 1) := by decide +kernel
theorem dX5_quitFault_9 : decode cX5_quitFault 9 = .ok (.goto 26, 3) := by decide +kernel
theorem dX5_quitFault_12 : decode cX5_quitFault 12 = .ok (.aload_n 0, 1) := by decide +kernel
theorem dX5_quitFault_13 : decode cX5_quitFault 13 = .ok (.getfield 7, 3) := by decide +kernel
theorem dX5_quitFault_16 : decode cX5_quitFault 16 = .ok (.iload_n 1, 1) := by decide +kernel
theorem dX5_quitFault_17 : decode cX5_quitFault 17 = .ok (.iconst 0, 1) := by decide +kernel
theorem dX5_quitFault_18 : decode cX5_quitFault 18 = .ok (.invokestatic 69, 3) := by decide +kernel
theorem dX5_quitFault_21 : decode cX5_quitFault 21 = .ok (.iaload, 1) := by decide +kernel
theorem dX5_quitFault_22 : decode cX5_quitFault 22 = .ok (.iconst 1, 1) := by decide +kernel
theorem dX5_quitFault_23 : decode cX5_quitFault 23 = .ok (.iconst 2, 1) := by decide +kernel
theorem dX5_quitFault_24 : decode cX5_quitFault 24 = .ok (.invokestatic 45, 3) := by decide +kernel
theorem dX5_quitFault_27 : decode cX5_quitFault 27 = .ok (.ifCond .ne 7, 3) := by decide +kernel
