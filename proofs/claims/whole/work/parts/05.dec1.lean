theorem d_P_beginTransaction_47 : decode prog_1_method_30_code 47 = .ok (.getfield 21, 3) := by decide +kernel
theorem d_P_beginTransaction_50 : decode prog_1_method_30_code 50 = .ok (.getfield 254, 3) := by decide +kernel
theorem d_P_beginTransaction_53 : decode prog_1_method_30_code 53 = .ok (.invokevirtual 72, 3) := by decide +kernel
theorem d_P_beginTransaction_56 : decode prog_1_method_30_code 56 = .ok (.aload_n 0, 1) := by decide +kernel
theorem d_P_beginTransaction_57 : decode prog_1_method_30_code 57 = .ok (.getfield 21, 3) := by decide +kernel
theorem d_P_beginTransaction_60 : decode prog_1_method_30_code 60 = .ok (.getfield 254, 3) := by decide +kernel
theorem d_P_beginTransaction_63 : decode prog_1_method_30_code 63 = .ok (.aload_n 0, 1) := by decide +kernel
theorem d_P_beginTransaction_64 : decode prog_1_method_30_code 64 = .ok (.getfield 14, 3) := by decide +kernel
theorem d_P_beginTransaction_67 : decode prog_1_method_30_code 67 = .ok (.ldc 225, 2) := by decide +kernel
theorem d_P_beginTransaction_69 : decode prog_1_method_30_code 69 = .ok (.invokestatic 239, 3) := by decide +kernel
theorem d_P_beginTransaction_72 : decode prog_1_method_30_code 72 = .ok (.aload_n 0, 1) := by decide +kernel
theorem d_P_beginTransaction_73 : decode prog_1_method_30_code 73 = .ok (.getfield 14, 3) := by decide +kernel
theorem d_P_beginTransaction_76 : decode prog_1_method_30_code 76 = .ok (.getfield 51, 3) := by decide +kernel
theorem d_P_beginTransaction_79 : decode prog_1_method_30_code 79 = .ok (.iconst 1, 1) := by decide +kernel
theorem d_P_beginTransaction_80 : decode prog_1_method_30_code 80 = .ok (.isub, 1) := by decide +kernel
theorem d_P_beginTransaction_81 : decode prog_1_method_30_code 81 = .ok (.invokevirtual 255, 3) := by decide +kernel
theorem d_P_beginTransaction_84 : decode prog_1_method_30_code 84 = .ok (.sipush 250, 3) := by decide +kernel
theorem d_P_beginTransaction_87 : decode prog_1_method_30_code 87 = .ok (.ireturn, 1) := by decide +kernel
theorem d_P_addRecipient_0 : decode prog_1_method_31_code 0 = .ok (.aload_n 0, 1) := by decide +kernel
theorem d_P_addRecipient_1 : decode prog_1_method_31_code 1 = .ok (.getfield 21, 3) := by decide +kernel
theorem d_P_addRecipient_4 : decode prog_1_method_31_code 4 = .ok (.getfield 121, 3) := by decide +kernel
theorem d_P_addRecipient_7 : decode prog_1_method_31_code 7 = .ok (.ifCond .ne 7, 3) := by decide +kernel
theorem d_P_addRecipient_10 : decode prog_1_method_31_code 10 = .ok (.sipush 503, 3) := by decide +kernel
theorem d_P_addRecipient_13 : decode prog_1_method_31_code 13 = .ok (.ireturn, 1) := by decide +kernel
theorem d_P_addRecipient_14 : decode prog_1_method_31_code 14 = .ok (.aload_n 0, 1) := by decide +kernel
theorem d_P_addRecipient_15 : decode prog_1_method_31_code 15 = .ok (.getfield 21, 3) := by decide +kernel
theorem d_P_addRecipient_18 : decode prog_1_method_31_code 18 = .ok (.getfield 259, 3) := by decide +kernel
theorem d_P_addRecipient_21 : decode prog_1_method_31_code 21 = .ok (.iconst 4, 1) := by decide +kernel
theorem d_P_addRecipient_22 : decode prog_1_method_31_code 22 = .ok (.if_icmp .lt 7, 3) := by decide +kernel
theorem d_P_addRecipient_25 : decode prog_1_method_31_code 25 = .ok (.sipush 452, 3) := by decide +kernel
theorem d_P_addRecipient_28 : decode prog_1_method_31_code 28 = .ok (.ireturn, 1) := by decide +kernel
theorem d_P_addRecipient_29 : decode prog_1_method_31_code 29 = .ok (.aload_n 0, 1) := by decide +kernel
theorem d_P_addRecipient_30 : decode prog_1_method_31_code 30 = .ok (.getfield 21, 3) := by decide +kernel
theorem d_P_addRecipient_33 : decode prog_1_method_31_code 33 = .ok (.getfield 262, 3) := by decide +kernel
theorem d_P_addRecipient_36 : decode prog_1_method_31_code 36 = .ok (.aload_n 0, 1) := by decide +kernel
theorem d_P_addRecipient_37 : decode prog_1_method_31_code 37 = .ok (.getfield 21, 3) := by decide +kernel
theorem d_P_addRecipient_40 : decode prog_1_method_31_code 40 = .ok (.getfield 259, 3) := by decide +kernel
theorem d_P_addRecipient_43 : decode prog_1_method_31_code 43 = .ok (.aaload, 1) := by decide +kernel
theorem d_P_addRecipient_44 : decode prog_1_method_31_code 44 = .ok (.astore_n 1, 1) := by decide +kernel
theorem d_P_addRecipient_45 : decode prog_1_method_31_code 45 = .ok (.aload_n 1, 1) := by decide +kernel
theorem d_P_addRecipient_46 : decode prog_1_method_31_code 46 = .ok (.invokevirtual 72, 3) := by decide +kernel
theorem d_P_addRecipient_49 : decode prog_1_method_31_code 49 = .ok (.aload_n 1, 1) := by decide +kernel
theorem d_P_addRecipient_50 : decode prog_1_method_31_code 50 = .ok (.aload_n 0, 1) := by decide +kernel
theorem d_P_addRecipient_51 : decode prog_1_method_31_code 51 = .ok (.getfield 14, 3) := by decide +kernel
theorem d_P_addRecipient_54 : decode prog_1_method_31_code 54 = .ok (.ldc 237, 2) := by decide +kernel
theorem d_P_addRecipient_56 : decode prog_1_method_31_code 56 = .ok (.invokestatic 239, 3) := by decide +kernel
theorem d_P_addRecipient_59 : decode prog_1_method_31_code 59 = .ok (.aload_n 0, 1) := by decide +kernel
theorem d_P_addRecipient_60 : decode prog_1_method_31_code 60 = .ok (.getfield 14, 3) := by decide +kernel
theorem d_P_addRecipient_63 : decode prog_1_method_31_code 63 = .ok (.getfield 51, 3) := by decide +kernel
theorem d_P_addRecipient_66 : decode prog_1_method_31_code 66 = .ok (.iconst 1, 1) := by decide +kernel
theorem d_P_addRecipient_67 : decode prog_1_method_31_code 67 = .ok (.isub, 1) := by decide +kernel
theorem d_P_addRecipient_68 : decode prog_1_method_31_code 68 = .ok (.invokevirtual 255, 3) := by decide +kernel
theorem d_P_addRecipient_71 : decode prog_1_method_31_code 71 = .ok (.aload_n 0, 1) := by decide +kernel
theorem d_P_addRecipient_72 : decode prog_1_method_31_code 72 = .ok (.getfield 21, 3) := by decide +kernel
theorem d_P_addRecipient_75 : decode prog_1_method_31_code 75 = .ok (.dup, 1) := by decide +kernel
theorem d_P_addRecipient_76 : decode prog_1_method_31_code 76 = .ok (.getfield 259, 3) := by decide +kernel
theorem d_P_addRecipient_79 : decode prog_1_method_31_code 79 = .ok (.iconst 1, 1) := by decide +kernel
theorem d_P_addRecipient_80 : decode prog_1_method_31_code 80 = .ok (.iadd, 1) := by decide +kernel
theorem d_P_addRecipient_81 : decode prog_1_method_31_code 81 = .ok (.putfield 259, 3) := by decide +kernel
theorem d_P_addRecipient_84 : decode prog_1_method_31_code 84 = .ok (.sipush 250, 3) := by decide +kernel
theorem d_P_addRecipient_87 : decode prog_1_method_31_code 87 = .ok (.ireturn, 1) := by decide +kernel
theorem d_P_beginText_0 : decode prog_1_method_32_code 0 = .ok (.aload_n 0, 1) := by decide +kernel
theorem d_P_beginText_1 : decode prog_1_method_32_code 1 = .ok (.getfield 21, 3) := by decide +kernel
theorem d_P_beginText_4 : decode prog_1_method_32_code 4 = .ok (.getfield 121, 3) := by decide +kernel
theorem d_P_beginText_7 : decode prog_1_method_32_code 7 = .ok (.ifCond .eq 13, 3) := by decide +kernel
theorem d_P_beginText_10 : decode prog_1_method_32_code 10 = .ok (.aload_n 0, 1) := by decide +kernel
theorem d_P_beginText_11 : decode prog_1_method_32_code 11 = .ok (.getfield 21, 3) := by decide +kernel
theorem d_P_beginText_14 : decode prog_1_method_32_code 14 = .ok (.getfield 259, 3) := by decide +kernel
theorem d_P_beginText_17 : decode prog_1_method_32_code 17 = .ok (.ifCond .ne 7, 3) := by decide +kernel
theorem d_P_beginText_20 : decode prog_1_method_32_code 20 = .ok (.sipush 503, 3) := by decide +kernel
theorem d_P_beginText_23 : decode prog_1_method_32_code 23 = .ok (.ireturn, 1) := by decide +kernel
theorem d_P_beginText_24 : decode prog_1_method_32_code 24 = .ok (.aload_n 0, 1) := by decide +kernel
theorem d_P_beginText_25 : decode prog_1_method_32_code 25 = .ok (.getfield 21, 3) := by decide +kernel
theorem d_P_beginText_28 : decode prog_1_method_32_code 28 = .ok (.iconst 1, 1) := by decide +kernel
theorem d_P_beginText_29 : decode prog_1_method_32_code 29 = .ok (.putfield 62, 3) := by decide +kernel
theorem d_P_beginText_32 : decode prog_1_method_32_code 32 = .ok (.aload_n 0, 1) := by decide +kernel
theorem d_P_beginText_33 : decode prog_1_method_32_code 33 = .ok (.getfield 21, 3) := by decide +kernel
theorem d_P_beginText_36 : decode prog_1_method_32_code 36 = .ok (.iconst 0, 1) := by decide +kernel
theorem d_P_beginText_37 : decode prog_1_method_32_code 37 = .ok (.putfield 266, 3) := by decide +kernel
theorem d_P_beginText_40 : decode prog_1_method_32_code 40 = .ok (.aload_n 0, 1) := by decide +kernel
theorem d_P_beginText_41 : decode prog_1_method_32_code 41 = .ok (.getfield 21, 3) := by decide +kernel
theorem d_P_beginText_44 : decode prog_1_method_32_code 44 = .ok (.getfield 269, 3) := by decide +kernel
theorem d_P_beginText_47 : decode prog_1_method_32_code 47 = .ok (.invokevirtual 72, 3) := by decide +kernel
theorem d_P_beginText_50 : decode prog_1_method_32_code 50 = .ok (.sipush 354, 3) := by decide +kernel
theorem d_P_beginText_53 : decode prog_1_method_32_code 53 = .ok (.ireturn, 1) := by decide +kernel
theorem d_S_forget_0 : decode prog_9_method_2_code 0 = .ok (.aload_n 0, 1) := by decide +kernel
theorem d_S_forget_1 : decode prog_9_method_2_code 1 = .ok (.iconst 0, 1) := by decide +kernel
theorem d_S_forget_2 : decode prog_9_method_2_code 2 = .ok (.putfield 27, 3) := by decide +kernel
theorem d_S_forget_5 : decode prog_9_method_2_code 5 = .ok (.aload_n 0, 1) := by decide +kernel
theorem d_S_forget_6 : decode prog_9_method_2_code 6 = .ok (.invokevirtual 31, 3) := by decide +kernel
theorem d_S_forget_9 : decode prog_9_method_2_code 9 = .ok (.return_, 1) := by decide +kernel
theorem d_P_breakAfter_0 : decode prog_1_method_4_code 0 = .ok (.aload_n 0, 1) := by decide +kernel
theorem d_P_breakAfter_1 : decode prog_1_method_4_code 1 = .ok (.getfield 28, 3) := by decide +kernel
theorem d_P_breakAfter_4 : decode prog_1_method_4_code 4 = .ok (.getfield 47, 3) := by decide +kernel
theorem d_P_breakAfter_7 : decode prog_1_method_4_code 7 = .ok (.ifCond .ne 13, 3) := by decide +kernel
theorem d_P_breakAfter_10 : decode prog_1_method_4_code 10 = .ok (.iload_n 1, 1) := by decide +kernel
theorem d_P_breakAfter_11 : decode prog_1_method_4_code 11 = .ok (.ifCond .lt 9, 3) := by decide +kernel
theorem d_P_breakAfter_14 : decode prog_1_method_4_code 14 = .ok (.iload_n 1, 1) := by decide +kernel
theorem d_P_breakAfter_15 : decode prog_1_method_4_code 15 = .ok (.bipush 20, 2) := by decide +kernel
theorem d_P_breakAfter_17 : decode prog_1_method_4_code 17 = .ok (.if_icmp .le 5, 3) := by decide +kernel
theorem d_P_breakAfter_20 : decode prog_1_method_4_code 20 = .ok (.iconst 0, 1) := by decide +kernel
theorem d_P_breakAfter_21 : decode prog_1_method_4_code 21 = .ok (.ireturn, 1) := by decide +kernel
theorem d_P_breakAfter_22 : decode prog_1_method_4_code 22 = .ok (.aload_n 0, 1) := by decide +kernel
theorem d_P_breakAfter_23 : decode prog_1_method_4_code 23 = .ok (.getfield 28, 3) := by decide +kernel
theorem d_P_breakAfter_26 : decode prog_1_method_4_code 26 = .ok (.iload_n 1, 1) := by decide +kernel
theorem d_P_breakAfter_27 : decode prog_1_method_4_code 27 = .ok (.putfield 75, 3) := by decide +kernel
theorem d_P_breakAfter_30 : decode prog_1_method_4_code 30 = .ok (.iconst 1, 1) := by decide +kernel
theorem d_P_breakAfter_31 : decode prog_1_method_4_code 31 = .ok (.ireturn, 1) := by decide +kernel
theorem d_P_restart_0 : decode prog_1_method_5_code 0 = .ok (.aload_n 0, 1) := by decide +kernel
theorem d_P_restart_1 : decode prog_1_method_5_code 1 = .ok (.getfield 28, 3) := by decide +kernel
theorem d_P_restart_4 : decode prog_1_method_5_code 4 = .ok (.getfield 47, 3) := by decide +kernel
theorem d_P_restart_7 : decode prog_1_method_5_code 7 = .ok (.ifCond .ne 5, 3) := by decide +kernel
theorem d_P_restart_10 : decode prog_1_method_5_code 10 = .ok (.iconst (-1), 1) := by decide +kernel
theorem d_P_restart_11 : decode prog_1_method_5_code 11 = .ok (.ireturn, 1) := by decide +kernel
theorem d_P_restart_12 : decode prog_1_method_5_code 12 = .ok (.aload_n 0, 1) := by decide +kernel
theorem d_P_restart_13 : decode prog_1_method_5_code 13 = .ok (.getfield 28, 3) := by decide +kernel
theorem d_P_restart_16 : decode prog_1_method_5_code 16 = .ok (.invokevirtual 78, 3) := by decide +kernel
theorem d_P_restart_19 : decode prog_1_method_5_code 19 = .ok (.aload_n 0, 1) := by decide +kernel
theorem d_P_restart_20 : decode prog_1_method_5_code 20 = .ok (.getfield 21, 3) := by decide +kernel
theorem d_P_restart_23 : decode prog_1_method_5_code 23 = .ok (.invokevirtual 81, 3) := by decide +kernel
theorem d_P_restart_26 : decode prog_1_method_5_code 26 = .ok (.aload_n 0, 1) := by decide +kernel
theorem d_P_restart_27 : decode prog_1_method_5_code 27 = .ok (.getfield 14, 3) := by decide +kernel
theorem d_P_restart_30 : decode prog_1_method_5_code 30 = .ok (.invokevirtual 72, 3) := by decide +kernel
theorem d_P_restart_33 : decode prog_1_method_5_code 33 = .ok (.aload_n 0, 1) := by decide +kernel
theorem d_P_restart_34 : decode prog_1_method_5_code 34 = .ok (.getfield 28, 3) := by decide +kernel
theorem d_P_restart_37 : decode prog_1_method_5_code 37 = .ok (.invokevirtual 84, 3) := by decide +kernel
theorem d_P_restart_40 : decode prog_1_method_5_code 40 = .ok (.ireturn, 1) := by decide +kernel
theorem d_O_recover_0 : decode prog_10_method_6_code 0 = .ok (.aload_n 0, 1) := by decide +kernel
theorem d_O_recover_1 : decode prog_10_method_6_code 1 = .ok (.getfield 26, 3) := by decide +kernel
theorem d_O_recover_4 : decode prog_10_method_6_code 4 = .ok (.iconst 1, 1) := by decide +kernel
theorem d_O_recover_5 : decode prog_10_method_6_code 5 = .ok (.isub, 1) := by decide +kernel
theorem d_O_recover_6 : decode prog_10_method_6_code 6 = .ok (.istore_n 1, 1) := by decide +kernel
theorem d_O_recover_7 : decode prog_10_method_6_code 7 = .ok (.iload_n 1, 1) := by decide +kernel
theorem d_O_recover_8 : decode prog_10_method_6_code 8 = .ok (.ifCond .lt 31, 3) := by decide +kernel
theorem d_O_recover_11 : decode prog_10_method_6_code 11 = .ok (.aload_n 0, 1) := by decide +kernel
theorem d_O_recover_12 : decode prog_10_method_6_code 12 = .ok (.getfield 11, 3) := by decide +kernel
theorem d_O_recover_15 : decode prog_10_method_6_code 15 = .ok (.iload_n 1, 1) := by decide +kernel
theorem d_O_recover_16 : decode prog_10_method_6_code 16 = .ok (.aaload, 1) := by decide +kernel
theorem d_O_recover_17 : decode prog_10_method_6_code 17 = .ok (.getfield 43, 3) := by decide +kernel
theorem d_O_recover_20 : decode prog_10_method_6_code 20 = .ok (.ifCond .ne 13, 3) := by decide +kernel
theorem d_O_recover_23 : decode prog_10_method_6_code 23 = .ok (.aload_n 0, 1) := by decide +kernel
theorem d_O_recover_24 : decode prog_10_method_6_code 24 = .ok (.aload_n 0, 1) := by decide +kernel
theorem d_O_recover_25 : decode prog_10_method_6_code 25 = .ok (.getfield 11, 3) := by decide +kernel
theorem d_O_recover_28 : decode prog_10_method_6_code 28 = .ok (.iload_n 1, 1) := by decide +kernel
theorem d_O_recover_29 : decode prog_10_method_6_code 29 = .ok (.aaload, 1) := by decide +kernel
theorem d_O_recover_30 : decode prog_10_method_6_code 30 = .ok (.invokevirtual 46, 3) := by decide +kernel
theorem d_O_recover_33 : decode prog_10_method_6_code 33 = .ok (.iinc 1 (-1), 3) := by decide +kernel
theorem d_O_recover_36 : decode prog_10_method_6_code 36 = .ok (.goto (-29), 3) := by decide +kernel
theorem d_O_recover_39 : decode prog_10_method_6_code 39 = .ok (.aload_n 0, 1) := by decide +kernel
theorem d_O_recover_40 : decode prog_10_method_6_code 40 = .ok (.iconst (-1), 1) := by decide +kernel
theorem d_O_recover_41 : decode prog_10_method_6_code 41 = .ok (.putfield 18, 3) := by decide +kernel
theorem d_O_recover_44 : decode prog_10_method_6_code 44 = .ok (.aload_n 0, 1) := by decide +kernel
theorem d_O_recover_45 : decode prog_10_method_6_code 45 = .ok (.iconst 0, 1) := by decide +kernel
theorem d_O_recover_46 : decode prog_10_method_6_code 46 = .ok (.putfield 22, 3) := by decide +kernel
theorem d_O_recover_49 : decode prog_10_method_6_code 49 = .ok (.return_, 1) := by decide +kernel
theorem d_O_drop_0 : decode prog_10_method_7_code 0 = .ok (.iconst 0, 1) := by decide +kernel
theorem d_O_drop_1 : decode prog_10_method_7_code 1 = .ok (.istore_n 2, 1) := by decide +kernel
theorem d_O_drop_2 : decode prog_10_method_7_code 2 = .ok (.iconst 0, 1) := by decide +kernel
theorem d_O_drop_3 : decode prog_10_method_7_code 3 = .ok (.istore_n 3, 1) := by decide +kernel
theorem d_O_drop_4 : decode prog_10_method_7_code 4 = .ok (.iload_n 3, 1) := by decide +kernel
theorem d_O_drop_5 : decode prog_10_method_7_code 5 = .ok (.aload_n 0, 1) := by decide +kernel
theorem d_O_drop_6 : decode prog_10_method_7_code 6 = .ok (.getfield 26, 3) := by decide +kernel
theorem d_O_drop_9 : decode prog_10_method_7_code 9 = .ok (.if_icmp .ge 34, 3) := by decide +kernel
theorem d_O_drop_12 : decode prog_10_method_7_code 12 = .ok (.aload_n 0, 1) := by decide +kernel
theorem d_O_drop_13 : decode prog_10_method_7_code 13 = .ok (.getfield 11, 3) := by decide +kernel
theorem d_O_drop_16 : decode prog_10_method_7_code 16 = .ok (.iload_n 3, 1) := by decide +kernel
theorem d_O_drop_17 : decode prog_10_method_7_code 17 = .ok (.aaload, 1) := by decide +kernel
theorem d_O_drop_18 : decode prog_10_method_7_code 18 = .ok (.astore 4, 2) := by decide +kernel
theorem d_O_drop_20 : decode prog_10_method_7_code 20 = .ok (.aload 4, 2) := by decide +kernel
theorem d_O_drop_22 : decode prog_10_method_7_code 22 = .ok (.aload_n 1, 1) := by decide +kernel
theorem d_O_drop_23 : decode prog_10_method_7_code 23 = .ok (.if_acmp .eq 14, 3) := by decide +kernel
theorem d_O_drop_26 : decode prog_10_method_7_code 26 = .ok (.aload_n 0, 1) := by decide +kernel
theorem d_O_drop_27 : decode prog_10_method_7_code 27 = .ok (.getfield 11, 3) := by decide +kernel
theorem d_O_drop_30 : decode prog_10_method_7_code 30 = .ok (.iload_n 2, 1) := by decide +kernel
theorem d_O_drop_31 : decode prog_10_method_7_code 31 = .ok (.aload 4, 2) := by decide +kernel
theorem d_O_drop_33 : decode prog_10_method_7_code 33 = .ok (.aastore, 1) := by decide +kernel
theorem d_O_drop_34 : decode prog_10_method_7_code 34 = .ok (.iinc 2 1, 3) := by decide +kernel
theorem d_O_drop_37 : decode prog_10_method_7_code 37 = .ok (.iinc 3 1, 3) := by decide +kernel
theorem d_O_drop_40 : decode prog_10_method_7_code 40 = .ok (.goto (-36), 3) := by decide +kernel
theorem d_O_drop_43 : decode prog_10_method_7_code 43 = .ok (.iload_n 2, 1) := by decide +kernel
theorem d_O_drop_44 : decode prog_10_method_7_code 44 = .ok (.aload_n 0, 1) := by decide +kernel
theorem d_O_drop_45 : decode prog_10_method_7_code 45 = .ok (.getfield 26, 3) := by decide +kernel
theorem d_O_drop_48 : decode prog_10_method_7_code 48 = .ok (.if_icmp .ge 15, 3) := by decide +kernel
theorem d_O_drop_51 : decode prog_10_method_7_code 51 = .ok (.aload_n 0, 1) := by decide +kernel
theorem d_O_drop_52 : decode prog_10_method_7_code 52 = .ok (.getfield 11, 3) := by decide +kernel
theorem d_O_drop_55 : decode prog_10_method_7_code 55 = .ok (.iload_n 2, 1) := by decide +kernel
theorem d_O_drop_56 : decode prog_10_method_7_code 56 = .ok (.aload_n 1, 1) := by decide +kernel
theorem d_O_drop_57 : decode prog_10_method_7_code 57 = .ok (.aastore, 1) := by decide +kernel
theorem d_O_drop_58 : decode prog_10_method_7_code 58 = .ok (.aload_n 0, 1) := by decide +kernel
theorem d_O_drop_59 : decode prog_10_method_7_code 59 = .ok (.iload_n 2, 1) := by decide +kernel
theorem d_O_drop_60 : decode prog_10_method_7_code 60 = .ok (.putfield 26, 3) := by decide +kernel
theorem d_O_drop_63 : decode prog_10_method_7_code 63 = .ok (.return_, 1) := by decide +kernel
theorem d_O_sealedCount_0 : decode prog_10_method_8_code 0 = .ok (.iconst 0, 1) := by decide +kernel
theorem d_O_sealedCount_1 : decode prog_10_method_8_code 1 = .ok (.istore_n 1, 1) := by decide +kernel
theorem d_O_sealedCount_2 : decode prog_10_method_8_code 2 = .ok (.iconst 0, 1) := by decide +kernel
theorem d_O_sealedCount_3 : decode prog_10_method_8_code 3 = .ok (.istore_n 2, 1) := by decide +kernel
theorem d_O_sealedCount_4 : decode prog_10_method_8_code 4 = .ok (.iload_n 2, 1) := by decide +kernel
theorem d_O_sealedCount_5 : decode prog_10_method_8_code 5 = .ok (.aload_n 0, 1) := by decide +kernel
theorem d_O_sealedCount_6 : decode prog_10_method_8_code 6 = .ok (.getfield 26, 3) := by decide +kernel
theorem d_O_sealedCount_9 : decode prog_10_method_8_code 9 = .ok (.if_icmp .ge 24, 3) := by decide +kernel
theorem d_O_sealedCount_12 : decode prog_10_method_8_code 12 = .ok (.aload_n 0, 1) := by decide +kernel
theorem d_O_sealedCount_13 : decode prog_10_method_8_code 13 = .ok (.getfield 11, 3) := by decide +kernel
theorem d_O_sealedCount_16 : decode prog_10_method_8_code 16 = .ok (.iload_n 2, 1) := by decide +kernel
theorem d_O_sealedCount_17 : decode prog_10_method_8_code 17 = .ok (.aaload, 1) := by decide +kernel
theorem d_O_sealedCount_18 : decode prog_10_method_8_code 18 = .ok (.getfield 43, 3) := by decide +kernel
theorem d_O_sealedCount_21 : decode prog_10_method_8_code 21 = .ok (.ifCond .eq 6, 3) := by decide +kernel
theorem d_O_sealedCount_24 : decode prog_10_method_8_code 24 = .ok (.iinc 1 1, 3) := by decide +kernel
theorem d_O_sealedCount_27 : decode prog_10_method_8_code 27 = .ok (.iinc 2 1, 3) := by decide +kernel
theorem d_O_sealedCount_30 : decode prog_10_method_8_code 30 = .ok (.goto (-26), 3) := by decide +kernel
theorem d_O_sealedCount_33 : decode prog_10_method_8_code 33 = .ok (.iload_n 1, 1) := by decide +kernel
theorem d_O_sealedCount_34 : decode prog_10_method_8_code 34 = .ok (.ireturn, 1) := by decide +kernel
theorem d_P_pass_0 : decode prog_1_method_6_code 0 = .ok (.iload_n 1, 1) := by decide +kernel
theorem d_P_pass_1 : decode prog_1_method_6_code 1 = .ok (.ifCond .lt 10, 3) := by decide +kernel
theorem d_P_pass_4 : decode prog_1_method_6_code 4 = .ok (.iload_n 1, 1) := by decide +kernel
theorem d_P_pass_5 : decode prog_1_method_6_code 5 = .ok (.sipush 1000, 3) := by decide +kernel
theorem d_P_pass_8 : decode prog_1_method_6_code 8 = .ok (.if_icmp .le 5, 3) := by decide +kernel
theorem d_P_pass_11 : decode prog_1_method_6_code 11 = .ok (.iconst (-1), 1) := by decide +kernel
theorem d_P_pass_12 : decode prog_1_method_6_code 12 = .ok (.ireturn, 1) := by decide +kernel
theorem d_P_pass_13 : decode prog_1_method_6_code 13 = .ok (.aload_n 0, 1) := by decide +kernel
theorem d_P_pass_14 : decode prog_1_method_6_code 14 = .ok (.dup, 1) := by decide +kernel
theorem d_P_pass_15 : decode prog_1_method_6_code 15 = .ok (.getfield 39, 3) := by decide +kernel
theorem d_P_pass_18 : decode prog_1_method_6_code 18 = .ok (.iload_n 1, 1) := by decide +kernel
theorem d_P_pass_19 : decode prog_1_method_6_code 19 = .ok (.iadd, 1) := by decide +kernel
theorem d_P_pass_20 : decode prog_1_method_6_code 20 = .ok (.putfield 39, 3) := by decide +kernel
theorem d_P_pass_23 : decode prog_1_method_6_code 23 = .ok (.aload_n 0, 1) := by decide +kernel
theorem d_P_pass_24 : decode prog_1_method_6_code 24 = .ok (.getfield 39, 3) := by decide +kernel
theorem d_P_pass_27 : decode prog_1_method_6_code 27 = .ok (.ireturn, 1) := by decide +kernel
theorem d_P_next_0 : decode prog_1_method_7_code 0 = .ok (.aload_n 0, 1) := by decide +kernel
theorem d_P_next_1 : decode prog_1_method_7_code 1 = .ok (.getfield 28, 3) := by decide +kernel
theorem d_P_next_4 : decode prog_1_method_7_code 4 = .ok (.getfield 47, 3) := by decide +kernel
theorem d_P_next_7 : decode prog_1_method_7_code 7 = .ok (.ifCond .eq 7, 3) := by decide +kernel
theorem d_P_next_10 : decode prog_1_method_7_code 10 = .ok (.aconst_null, 1) := by decide +kernel
theorem d_P_next_11 : decode prog_1_method_7_code 11 = .ok (.goto 14, 3) := by decide +kernel
theorem d_P_next_14 : decode prog_1_method_7_code 14 = .ok (.aload_n 0, 1) := by decide +kernel
theorem d_P_next_15 : decode prog_1_method_7_code 15 = .ok (.getfield 28, 3) := by decide +kernel
theorem d_P_next_18 : decode prog_1_method_7_code 18 = .ok (.aload_n 0, 1) := by decide +kernel
theorem d_P_next_19 : decode prog_1_method_7_code 19 = .ok (.getfield 39, 3) := by decide +kernel
theorem d_P_next_22 : decode prog_1_method_7_code 22 = .ok (.invokevirtual 87, 3) := by decide +kernel
theorem d_P_next_25 : decode prog_1_method_7_code 25 = .ok (.astore_n 1, 1) := by decide +kernel
theorem d_P_next_26 : decode prog_1_method_7_code 26 = .ok (.aload_n 1, 1) := by decide +kernel
theorem d_P_next_27 : decode prog_1_method_7_code 27 = .ok (.ifnonnull 7, 3) := by decide +kernel
theorem d_P_next_30 : decode prog_1_method_7_code 30 = .ok (.iconst (-1), 1) := by decide +kernel
theorem d_P_next_31 : decode prog_1_method_7_code 31 = .ok (.goto 7, 3) := by decide +kernel
theorem d_P_next_34 : decode prog_1_method_7_code 34 = .ok (.aload_n 1, 1) := by decide +kernel
theorem d_P_next_35 : decode prog_1_method_7_code 35 = .ok (.getfield 91, 3) := by decide +kernel
theorem d_P_next_38 : decode prog_1_method_7_code 38 = .ok (.ireturn, 1) := by decide +kernel
theorem d_O_holderOfNext_0 : decode prog_10_method_11_code 0 = .ok (.aconst_null, 1) := by decide +kernel
theorem d_O_holderOfNext_1 : decode prog_10_method_11_code 1 = .ok (.astore_n 2, 1) := by decide +kernel
theorem d_O_holderOfNext_2 : decode prog_10_method_11_code 2 = .ok (.aconst_null, 1) := by decide +kernel
theorem d_O_holderOfNext_3 : decode prog_10_method_11_code 3 = .ok (.astore_n 3, 1) := by decide +kernel
theorem d_O_holderOfNext_4 : decode prog_10_method_11_code 4 = .ok (.iconst 0, 1) := by decide +kernel
theorem d_O_holderOfNext_5 : decode prog_10_method_11_code 5 = .ok (.istore 4, 2) := by decide +kernel
theorem d_O_holderOfNext_7 : decode prog_10_method_11_code 7 = .ok (.iload 4, 2) := by decide +kernel
theorem d_O_holderOfNext_9 : decode prog_10_method_11_code 9 = .ok (.aload_n 0, 1) := by decide +kernel
theorem d_O_holderOfNext_10 : decode prog_10_method_11_code 10 = .ok (.getfield 26, 3) := by decide +kernel
theorem d_O_holderOfNext_13 : decode prog_10_method_11_code 13 = .ok (.if_icmp .ge 71, 3) := by decide +kernel
theorem d_O_holderOfNext_16 : decode prog_10_method_11_code 16 = .ok (.aload_n 0, 1) := by decide +kernel
theorem d_O_holderOfNext_17 : decode prog_10_method_11_code 17 = .ok (.getfield 11, 3) := by decide +kernel
theorem d_O_holderOfNext_20 : decode prog_10_method_11_code 20 = .ok (.iload 4, 2) := by decide +kernel
theorem d_O_holderOfNext_22 : decode prog_10_method_11_code 22 = .ok (.aaload, 1) := by decide +kernel
theorem d_O_holderOfNext_23 : decode prog_10_method_11_code 23 = .ok (.getfield 43, 3) := by decide +kernel
theorem d_O_holderOfNext_26 : decode prog_10_method_11_code 26 = .ok (.ifCond .eq 17, 3) := by decide +kernel
theorem d_O_holderOfNext_29 : decode prog_10_method_11_code 29 = .ok (.aload_n 0, 1) := by decide +kernel
theorem d_O_holderOfNext_30 : decode prog_10_method_11_code 30 = .ok (.getfield 11, 3) := by decide +kernel
theorem d_O_holderOfNext_33 : decode prog_10_method_11_code 33 = .ok (.iload 4, 2) := by decide +kernel
theorem d_O_holderOfNext_35 : decode prog_10_method_11_code 35 = .ok (.aaload, 1) := by decide +kernel
theorem d_O_holderOfNext_36 : decode prog_10_method_11_code 36 = .ok (.iload_n 1, 1) := by decide +kernel
theorem d_O_holderOfNext_37 : decode prog_10_method_11_code 37 = .ok (.invokevirtual 53, 3) := by decide +kernel
theorem d_O_holderOfNext_40 : decode prog_10_method_11_code 40 = .ok (.goto 4, 3) := by decide +kernel
theorem d_O_holderOfNext_43 : decode prog_10_method_11_code 43 = .ok (.aconst_null, 1) := by decide +kernel
theorem d_O_holderOfNext_44 : decode prog_10_method_11_code 44 = .ok (.astore 5, 2) := by decide +kernel
theorem d_O_holderOfNext_46 : decode prog_10_method_11_code 46 = .ok (.aload 5, 2) := by decide +kernel
theorem d_O_holderOfNext_48 : decode prog_10_method_11_code 48 = .ok (.ifnull 30, 3) := by decide +kernel
theorem d_O_holderOfNext_51 : decode prog_10_method_11_code 51 = .ok (.aload_n 3, 1) := by decide +kernel
theorem d_O_holderOfNext_52 : decode prog_10_method_11_code 52 = .ok (.ifnull 15, 3) := by decide +kernel
theorem d_O_holderOfNext_55 : decode prog_10_method_11_code 55 = .ok (.aload 5, 2) := by decide +kernel
theorem d_O_holderOfNext_57 : decode prog_10_method_11_code 57 = .ok (.getfield 57, 3) := by decide +kernel
theorem d_O_holderOfNext_60 : decode prog_10_method_11_code 60 = .ok (.aload_n 3, 1) := by decide +kernel
theorem d_O_holderOfNext_61 : decode prog_10_method_11_code 61 = .ok (.getfield 57, 3) := by decide +kernel
theorem d_O_holderOfNext_64 : decode prog_10_method_11_code 64 = .ok (.if_icmp .ge 14, 3) := by decide +kernel
theorem d_O_holderOfNext_67 : decode prog_10_method_11_code 67 = .ok (.aload_n 0, 1) := by decide +kernel
theorem d_O_holderOfNext_68 : decode prog_10_method_11_code 68 = .ok (.getfield 11, 3) := by decide +kernel
theorem d_O_holderOfNext_71 : decode prog_10_method_11_code 71 = .ok (.iload 4, 2) := by decide +kernel
theorem d_O_holderOfNext_73 : decode prog_10_method_11_code 73 = .ok (.aaload, 1) := by decide +kernel
theorem d_O_holderOfNext_74 : decode prog_10_method_11_code 74 = .ok (.astore_n 2, 1) := by decide +kernel
theorem d_O_holderOfNext_75 : decode prog_10_method_11_code 75 = .ok (.aload 5, 2) := by decide +kernel
theorem d_O_holderOfNext_77 : decode prog_10_method_11_code 77 = .ok (.astore_n 3, 1) := by decide +kernel
theorem d_O_holderOfNext_78 : decode prog_10_method_11_code 78 = .ok (.iinc 4 1, 3) := by decide +kernel
theorem d_O_holderOfNext_81 : decode prog_10_method_11_code 81 = .ok (.goto (-74), 3) := by decide +kernel
theorem d_O_holderOfNext_84 : decode prog_10_method_11_code 84 = .ok (.aload_n 2, 1) := by decide +kernel
theorem d_O_holderOfNext_85 : decode prog_10_method_11_code 85 = .ok (.areturn, 1) := by decide +kernel
theorem d_L_firstDue_0 : decode prog_5_method_6_code 0 = .ok (.aconst_null, 1) := by decide +kernel
theorem d_L_firstDue_1 : decode prog_5_method_6_code 1 = .ok (.astore_n 2, 1) := by decide +kernel
theorem d_L_firstDue_2 : decode prog_5_method_6_code 2 = .ok (.iconst 0, 1) := by decide +kernel
theorem d_L_firstDue_3 : decode prog_5_method_6_code 3 = .ok (.istore_n 3, 1) := by decide +kernel
theorem d_L_firstDue_4 : decode prog_5_method_6_code 4 = .ok (.iload_n 3, 1) := by decide +kernel
theorem d_L_firstDue_5 : decode prog_5_method_6_code 5 = .ok (.aload_n 0, 1) := by decide +kernel
theorem d_L_firstDue_6 : decode prog_5_method_6_code 6 = .ok (.getfield 38, 3) := by decide +kernel
theorem d_L_firstDue_9 : decode prog_5_method_6_code 9 = .ok (.if_icmp .ge 65, 3) := by decide +kernel
theorem d_L_firstDue_12 : decode prog_5_method_6_code 12 = .ok (.aload_n 0, 1) := by decide +kernel
theorem d_L_firstDue_13 : decode prog_5_method_6_code 13 = .ok (.getfield 22, 3) := by decide +kernel
theorem d_L_firstDue_16 : decode prog_5_method_6_code 16 = .ok (.iload_n 3, 1) := by decide +kernel
theorem d_L_firstDue_17 : decode prog_5_method_6_code 17 = .ok (.aaload, 1) := by decide +kernel
theorem d_L_firstDue_18 : decode prog_5_method_6_code 18 = .ok (.astore 4, 2) := by decide +kernel
theorem d_L_firstDue_20 : decode prog_5_method_6_code 20 = .ok (.aload 4, 2) := by decide +kernel
theorem d_L_firstDue_22 : decode prog_5_method_6_code 22 = .ok (.getfield 51, 3) := by decide +kernel
theorem d_L_firstDue_25 : decode prog_5_method_6_code 25 = .ok (.ifCond .ne 16, 3) := by decide +kernel
theorem d_L_firstDue_28 : decode prog_5_method_6_code 28 = .ok (.aload 4, 2) := by decide +kernel
theorem d_L_firstDue_30 : decode prog_5_method_6_code 30 = .ok (.getfield 57, 3) := by decide +kernel
theorem d_L_firstDue_33 : decode prog_5_method_6_code 33 = .ok (.iload_n 1, 1) := by decide +kernel
theorem d_L_firstDue_34 : decode prog_5_method_6_code 34 = .ok (.if_icmp .gt 7, 3) := by decide +kernel
theorem d_L_firstDue_37 : decode prog_5_method_6_code 37 = .ok (.iconst 1, 1) := by decide +kernel
theorem d_L_firstDue_38 : decode prog_5_method_6_code 38 = .ok (.goto 4, 3) := by decide +kernel
theorem d_L_firstDue_41 : decode prog_5_method_6_code 41 = .ok (.iconst 0, 1) := by decide +kernel
theorem d_L_firstDue_42 : decode prog_5_method_6_code 42 = .ok (.istore 5, 2) := by decide +kernel
theorem d_L_firstDue_44 : decode prog_5_method_6_code 44 = .ok (.iload 5, 2) := by decide +kernel
theorem d_L_firstDue_46 : decode prog_5_method_6_code 46 = .ok (.ifCond .eq 22, 3) := by decide +kernel
theorem d_L_firstDue_49 : decode prog_5_method_6_code 49 = .ok (.aload_n 2, 1) := by decide +kernel
theorem d_L_firstDue_50 : decode prog_5_method_6_code 50 = .ok (.ifnull 15, 3) := by decide +kernel
theorem d_L_firstDue_53 : decode prog_5_method_6_code 53 = .ok (.aload 4, 2) := by decide +kernel
theorem d_L_firstDue_55 : decode prog_5_method_6_code 55 = .ok (.getfield 57, 3) := by decide +kernel
theorem d_L_firstDue_58 : decode prog_5_method_6_code 58 = .ok (.aload_n 2, 1) := by decide +kernel
theorem d_L_firstDue_59 : decode prog_5_method_6_code 59 = .ok (.getfield 57, 3) := by decide +kernel
theorem d_L_firstDue_62 : decode prog_5_method_6_code 62 = .ok (.if_icmp .ge 6, 3) := by decide +kernel
theorem d_L_firstDue_65 : decode prog_5_method_6_code 65 = .ok (.aload 4, 2) := by decide +kernel
theorem d_L_firstDue_67 : decode prog_5_method_6_code 67 = .ok (.astore_n 2, 1) := by decide +kernel
theorem d_L_firstDue_68 : decode prog_5_method_6_code 68 = .ok (.iinc 3 1, 3) := by decide +kernel
theorem d_L_firstDue_71 : decode prog_5_method_6_code 71 = .ok (.goto (-67), 3) := by decide +kernel
theorem d_L_firstDue_74 : decode prog_5_method_6_code 74 = .ok (.aload_n 2, 1) := by decide +kernel
theorem d_L_firstDue_75 : decode prog_5_method_6_code 75 = .ok (.areturn, 1) := by decide +kernel
theorem d_P_reply_0 : decode prog_1_method_8_code 0 = .ok (.aload_n 0, 1) := by decide +kernel
theorem d_P_reply_1 : decode prog_1_method_8_code 1 = .ok (.getfield 28, 3) := by decide +kernel
theorem d_P_reply_4 : decode prog_1_method_8_code 4 = .ok (.getfield 47, 3) := by decide +kernel
theorem d_P_reply_7 : decode prog_1_method_8_code 7 = .ok (.ifCond .eq 7, 3) := by decide +kernel
theorem d_P_reply_10 : decode prog_1_method_8_code 10 = .ok (.aconst_null, 1) := by decide +kernel
theorem d_P_reply_11 : decode prog_1_method_8_code 11 = .ok (.goto 14, 3) := by decide +kernel
theorem d_P_reply_14 : decode prog_1_method_8_code 14 = .ok (.aload_n 0, 1) := by decide +kernel
theorem d_P_reply_15 : decode prog_1_method_8_code 15 = .ok (.getfield 28, 3) := by decide +kernel
theorem d_P_reply_18 : decode prog_1_method_8_code 18 = .ok (.aload_n 0, 1) := by decide +kernel
theorem d_P_reply_19 : decode prog_1_method_8_code 19 = .ok (.getfield 39, 3) := by decide +kernel
theorem d_P_reply_22 : decode prog_1_method_8_code 22 = .ok (.invokevirtual 87, 3) := by decide +kernel
theorem d_P_reply_25 : decode prog_1_method_8_code 25 = .ok (.astore_n 2, 1) := by decide +kernel
theorem d_P_reply_26 : decode prog_1_method_8_code 26 = .ok (.aload_n 2, 1) := by decide +kernel
theorem d_P_reply_27 : decode prog_1_method_8_code 27 = .ok (.ifnull 10, 3) := by decide +kernel
theorem d_P_reply_30 : decode prog_1_method_8_code 30 = .ok (.iload_n 1, 1) := by decide +kernel
theorem d_P_reply_31 : decode prog_1_method_8_code 31 = .ok (.invokestatic 96, 3) := by decide +kernel
theorem d_P_reply_34 : decode prog_1_method_8_code 34 = .ok (.ifCond .ne 5, 3) := by decide +kernel
theorem d_P_reply_37 : decode prog_1_method_8_code 37 = .ok (.iconst (-1), 1) := by decide +kernel
theorem d_P_reply_38 : decode prog_1_method_8_code 38 = .ok (.ireturn, 1) := by decide +kernel
theorem d_P_reply_39 : decode prog_1_method_8_code 39 = .ok (.aload_n 2, 1) := by decide +kernel
theorem d_P_reply_40 : decode prog_1_method_8_code 40 = .ok (.aload_n 0, 1) := by decide +kernel
theorem d_P_reply_41 : decode prog_1_method_8_code 41 = .ok (.getfield 39, 3) := by decide +kernel
theorem d_P_reply_44 : decode prog_1_method_8_code 44 = .ok (.invokevirtual 100, 3) := by decide +kernel
theorem d_P_reply_47 : decode prog_1_method_8_code 47 = .ok (.astore_n 3, 1) := by decide +kernel
theorem d_P_reply_48 : decode prog_1_method_8_code 48 = .ok (.aload_n 3, 1) := by decide +kernel
theorem d_P_reply_49 : decode prog_1_method_8_code 49 = .ok (.ifnonnull 5, 3) := by decide +kernel
theorem d_P_reply_52 : decode prog_1_method_8_code 52 = .ok (.iconst (-1), 1) := by decide +kernel
theorem d_P_reply_53 : decode prog_1_method_8_code 53 = .ok (.ireturn, 1) := by decide +kernel
theorem d_P_reply_54 : decode prog_1_method_8_code 54 = .ok (.iload_n 1, 1) := by decide +kernel
theorem d_P_reply_55 : decode prog_1_method_8_code 55 = .ok (.sipush 300, 3) := by decide +kernel
theorem d_P_reply_58 : decode prog_1_method_8_code 58 = .ok (.if_icmp .ge 11, 3) := by decide +kernel
theorem d_P_reply_61 : decode prog_1_method_8_code 61 = .ok (.aload_n 0, 1) := by decide +kernel
theorem d_P_reply_62 : decode prog_1_method_8_code 62 = .ok (.aload_n 2, 1) := by decide +kernel
theorem d_P_reply_63 : decode prog_1_method_8_code 63 = .ok (.aload_n 3, 1) := by decide +kernel
theorem d_P_reply_64 : decode prog_1_method_8_code 64 = .ok (.iconst 1, 1) := by decide +kernel
theorem d_P_reply_65 : decode prog_1_method_8_code 65 = .ok (.invokevirtual 104, 3) := by decide +kernel
theorem d_P_reply_68 : decode prog_1_method_8_code 68 = .ok (.ireturn, 1) := by decide +kernel
theorem d_P_reply_69 : decode prog_1_method_8_code 69 = .ok (.iload_n 1, 1) := by decide +kernel
theorem d_P_reply_70 : decode prog_1_method_8_code 70 = .ok (.sipush 500, 3) := by decide +kernel
theorem d_P_reply_73 : decode prog_1_method_8_code 73 = .ok (.if_icmp .ge 17, 3) := by decide +kernel
theorem d_P_reply_76 : decode prog_1_method_8_code 76 = .ok (.aload_n 3, 1) := by decide +kernel
theorem d_P_reply_77 : decode prog_1_method_8_code 77 = .ok (.getfield 108, 3) := by decide +kernel
theorem d_P_reply_80 : decode prog_1_method_8_code 80 = .ok (.iconst 3, 1) := by decide +kernel
theorem d_P_reply_81 : decode prog_1_method_8_code 81 = .ok (.if_icmp .ge 9, 3) := by decide +kernel
theorem d_P_reply_84 : decode prog_1_method_8_code 84 = .ok (.aload_n 0, 1) := by decide +kernel
theorem d_P_reply_85 : decode prog_1_method_8_code 85 = .ok (.aload_n 3, 1) := by decide +kernel
theorem d_P_reply_86 : decode prog_1_method_8_code 86 = .ok (.invokevirtual 113, 3) := by decide +kernel
theorem d_P_reply_89 : decode prog_1_method_8_code 89 = .ok (.ireturn, 1) := by decide +kernel
theorem d_P_reply_90 : decode prog_1_method_8_code 90 = .ok (.aload_n 0, 1) := by decide +kernel
theorem d_P_reply_91 : decode prog_1_method_8_code 91 = .ok (.aload_n 2, 1) := by decide +kernel
theorem d_P_reply_92 : decode prog_1_method_8_code 92 = .ok (.aload_n 3, 1) := by decide +kernel
theorem d_P_reply_93 : decode prog_1_method_8_code 93 = .ok (.invokevirtual 117, 3) := by decide +kernel
theorem d_P_reply_96 : decode prog_1_method_8_code 96 = .ok (.ireturn, 1) := by decide +kernel
theorem d_P_isReplyCode_0 : decode prog_1_method_20_code 0 = .ok (.iload_n 0, 1) := by decide +kernel
theorem d_P_isReplyCode_1 : decode prog_1_method_20_code 1 = .ok (.sipush 200, 3) := by decide +kernel
theorem d_P_isReplyCode_4 : decode prog_1_method_20_code 4 = .ok (.if_icmp .lt 10, 3) := by decide +kernel
theorem d_P_isReplyCode_7 : decode prog_1_method_20_code 7 = .ok (.iload_n 0, 1) := by decide +kernel
theorem d_P_isReplyCode_8 : decode prog_1_method_20_code 8 = .ok (.sipush 299, 3) := by decide +kernel
theorem d_P_isReplyCode_11 : decode prog_1_method_20_code 11 = .ok (.if_icmp .le 17, 3) := by decide +kernel
theorem d_P_isReplyCode_14 : decode prog_1_method_20_code 14 = .ok (.iload_n 0, 1) := by decide +kernel
theorem d_P_isReplyCode_15 : decode prog_1_method_20_code 15 = .ok (.sipush 400, 3) := by decide +kernel
theorem d_P_isReplyCode_18 : decode prog_1_method_20_code 18 = .ok (.if_icmp .lt 14, 3) := by decide +kernel
theorem d_P_isReplyCode_21 : decode prog_1_method_20_code 21 = .ok (.iload_n 0, 1) := by decide +kernel
theorem d_P_isReplyCode_22 : decode prog_1_method_20_code 22 = .ok (.sipush 599, 3) := by decide +kernel
theorem d_P_isReplyCode_25 : decode prog_1_method_20_code 25 = .ok (.if_icmp .gt 7, 3) := by decide +kernel
theorem d_P_isReplyCode_28 : decode prog_1_method_20_code 28 = .ok (.iconst 1, 1) := by decide +kernel
theorem d_P_isReplyCode_29 : decode prog_1_method_20_code 29 = .ok (.goto 4, 3) := by decide +kernel
theorem d_P_isReplyCode_32 : decode prog_1_method_20_code 32 = .ok (.iconst 0, 1) := by decide +kernel
theorem d_P_isReplyCode_33 : decode prog_1_method_20_code 33 = .ok (.ireturn, 1) := by decide +kernel
theorem d_P_settle_0 : decode prog_1_method_36_code 0 = .ok (.aload_n 0, 1) := by decide +kernel
theorem d_P_settle_1 : decode prog_1_method_36_code 1 = .ok (.getfield 28, 3) := by decide +kernel
theorem d_P_settle_4 : decode prog_1_method_36_code 4 = .ok (.invokevirtual 295, 3) := by decide +kernel
theorem d_P_settle_7 : decode prog_1_method_36_code 7 = .ok (.ifCond .ne 5, 3) := by decide +kernel
theorem d_P_settle_10 : decode prog_1_method_36_code 10 = .ok (.iconst 0, 1) := by decide +kernel
theorem d_P_settle_11 : decode prog_1_method_36_code 11 = .ok (.ireturn, 1) := by decide +kernel
theorem d_P_settle_12 : decode prog_1_method_36_code 12 = .ok (.aload_n 2, 1) := by decide +kernel
theorem d_P_settle_13 : decode prog_1_method_36_code 13 = .ok (.iload_n 3, 1) := by decide +kernel
theorem d_P_settle_14 : decode prog_1_method_36_code 14 = .ok (.putfield 154, 3) := by decide +kernel
theorem d_P_settle_17 : decode prog_1_method_36_code 17 = .ok (.aload_n 1, 1) := by decide +kernel
theorem d_P_settle_18 : decode prog_1_method_36_code 18 = .ok (.invokevirtual 298, 3) := by decide +kernel
theorem d_P_settle_21 : decode prog_1_method_36_code 21 = .ok (.ifCond .ne 11, 3) := by decide +kernel
theorem d_P_settle_24 : decode prog_1_method_36_code 24 = .ok (.aload_n 0, 1) := by decide +kernel
theorem d_P_settle_25 : decode prog_1_method_36_code 25 = .ok (.getfield 28, 3) := by decide +kernel
theorem d_P_settle_28 : decode prog_1_method_36_code 28 = .ok (.aload_n 1, 1) := by decide +kernel
theorem d_P_settle_29 : decode prog_1_method_36_code 29 = .ok (.invokevirtual 301, 3) := by decide +kernel
theorem d_P_settle_32 : decode prog_1_method_36_code 32 = .ok (.iload_n 3, 1) := by decide +kernel
theorem d_P_settle_33 : decode prog_1_method_36_code 33 = .ok (.ireturn, 1) := by decide +kernel
theorem d_L_isAwaited_0 : decode prog_5_method_5_code 0 = .ok (.iconst 0, 1) := by decide +kernel
theorem d_L_isAwaited_1 : decode prog_5_method_5_code 1 = .ok (.istore_n 1, 1) := by decide +kernel
theorem d_L_isAwaited_2 : decode prog_5_method_5_code 2 = .ok (.iload_n 1, 1) := by decide +kernel
theorem d_L_isAwaited_3 : decode prog_5_method_5_code 3 = .ok (.aload_n 0, 1) := by decide +kernel
theorem d_L_isAwaited_4 : decode prog_5_method_5_code 4 = .ok (.getfield 38, 3) := by decide +kernel
theorem d_L_isAwaited_7 : decode prog_5_method_5_code 7 = .ok (.if_icmp .ge 23, 3) := by decide +kernel
theorem d_L_isAwaited_10 : decode prog_5_method_5_code 10 = .ok (.aload_n 0, 1) := by decide +kernel
theorem d_L_isAwaited_11 : decode prog_5_method_5_code 11 = .ok (.getfield 22, 3) := by decide +kernel
theorem d_L_isAwaited_14 : decode prog_5_method_5_code 14 = .ok (.iload_n 1, 1) := by decide +kernel
theorem d_L_isAwaited_15 : decode prog_5_method_5_code 15 = .ok (.aaload, 1) := by decide +kernel
theorem d_L_isAwaited_16 : decode prog_5_method_5_code 16 = .ok (.getfield 51, 3) := by decide +kernel
theorem d_L_isAwaited_19 : decode prog_5_method_5_code 19 = .ok (.ifCond .ne 5, 3) := by decide +kernel
theorem d_L_isAwaited_22 : decode prog_5_method_5_code 22 = .ok (.iconst 1, 1) := by decide +kernel
theorem d_L_isAwaited_23 : decode prog_5_method_5_code 23 = .ok (.ireturn, 1) := by decide +kernel
theorem d_L_isAwaited_24 : decode prog_5_method_5_code 24 = .ok (.iinc 1 1, 3) := by decide +kernel
theorem d_L_isAwaited_27 : decode prog_5_method_5_code 27 = .ok (.goto (-25), 3) := by decide +kernel
theorem d_L_isAwaited_30 : decode prog_5_method_5_code 30 = .ok (.iconst 0, 1) := by decide +kernel
theorem d_L_isAwaited_31 : decode prog_5_method_5_code 31 = .ok (.ireturn, 1) := by decide +kernel
theorem d_P_postpone_0 : decode prog_1_method_37_code 0 = .ok (.aload_n 0, 1) := by decide +kernel
theorem d_P_postpone_1 : decode prog_1_method_37_code 1 = .ok (.getfield 28, 3) := by decide +kernel
theorem d_P_postpone_4 : decode prog_1_method_37_code 4 = .ok (.invokevirtual 295, 3) := by decide +kernel
theorem d_P_postpone_7 : decode prog_1_method_37_code 7 = .ok (.ifCond .eq 30, 3) := by decide +kernel
theorem d_P_postpone_10 : decode prog_1_method_37_code 10 = .ok (.aload_n 1, 1) := by decide +kernel
theorem d_P_postpone_11 : decode prog_1_method_37_code 11 = .ok (.dup, 1) := by decide +kernel
theorem d_P_postpone_12 : decode prog_1_method_37_code 12 = .ok (.getfield 108, 3) := by decide +kernel
theorem d_P_postpone_15 : decode prog_1_method_37_code 15 = .ok (.iconst 1, 1) := by decide +kernel
theorem d_P_postpone_16 : decode prog_1_method_37_code 16 = .ok (.iadd, 1) := by decide +kernel
theorem d_P_postpone_17 : decode prog_1_method_37_code 17 = .ok (.putfield 108, 3) := by decide +kernel
theorem d_P_postpone_20 : decode prog_1_method_37_code 20 = .ok (.aload_n 1, 1) := by decide +kernel
theorem d_P_postpone_21 : decode prog_1_method_37_code 21 = .ok (.aload_n 0, 1) := by decide +kernel
theorem d_P_postpone_22 : decode prog_1_method_37_code 22 = .ok (.getfield 39, 3) := by decide +kernel
theorem d_P_postpone_25 : decode prog_1_method_37_code 25 = .ok (.iconst 1, 1) := by decide +kernel
theorem d_P_postpone_26 : decode prog_1_method_37_code 26 = .ok (.iconst 2, 1) := by decide +kernel
theorem d_P_postpone_27 : decode prog_1_method_37_code 27 = .ok (.aload_n 1, 1) := by decide +kernel
theorem d_P_postpone_28 : decode prog_1_method_37_code 28 = .ok (.getfield 108, 3) := by decide +kernel
theorem d_P_postpone_31 : decode prog_1_method_37_code 31 = .ok (.imul, 1) := by decide +kernel
theorem d_P_postpone_32 : decode prog_1_method_37_code 32 = .ok (.ishl, 1) := by decide +kernel
theorem d_P_postpone_33 : decode prog_1_method_37_code 33 = .ok (.iadd, 1) := by decide +kernel
theorem d_P_postpone_34 : decode prog_1_method_37_code 34 = .ok (.putfield 157, 3) := by decide +kernel
theorem d_P_postpone_37 : decode prog_1_method_37_code 37 = .ok (.iconst 0, 1) := by decide +kernel
theorem d_P_postpone_38 : decode prog_1_method_37_code 38 = .ok (.ireturn, 1) := by decide +kernel
theorem d_P_giveBack_0 : decode prog_1_method_38_code 0 = .ok (.aload_n 1, 1) := by decide +kernel
theorem d_P_giveBack_1 : decode prog_1_method_38_code 1 = .ok (.getfield 141, 3) := by decide +kernel
theorem d_P_giveBack_4 : decode prog_1_method_38_code 4 = .ok (.getfield 51, 3) := by decide +kernel
theorem d_P_giveBack_7 : decode prog_1_method_38_code 7 = .ok (.ifCond .le 17, 3) := by decide +kernel
theorem d_P_giveBack_10 : decode prog_1_method_38_code 10 = .ok (.aload_n 0, 1) := by decide +kernel
theorem d_P_giveBack_11 : decode prog_1_method_38_code 11 = .ok (.getfield 28, 3) := by decide +kernel
theorem d_P_giveBack_14 : decode prog_1_method_38_code 14 = .ok (.invokevirtual 250, 3) := by decide +kernel
theorem d_P_giveBack_17 : decode prog_1_method_38_code 17 = .ok (.ifCond .ne 7, 3) := by decide +kernel
theorem d_P_giveBack_20 : decode prog_1_method_38_code 20 = .ok (.iconst 1, 1) := by decide +kernel
theorem d_P_giveBack_21 : decode prog_1_method_38_code 21 = .ok (.goto 4, 3) := by decide +kernel
theorem d_P_giveBack_24 : decode prog_1_method_38_code 24 = .ok (.iconst 0, 1) := by decide +kernel
theorem d_P_giveBack_25 : decode prog_1_method_38_code 25 = .ok (.istore_n 3, 1) := by decide +kernel
theorem d_P_giveBack_26 : decode prog_1_method_38_code 26 = .ok (.iload_n 3, 1) := by decide +kernel
theorem d_P_giveBack_27 : decode prog_1_method_38_code 27 = .ok (.ifCond .eq 14, 3) := by decide +kernel
theorem d_P_giveBack_30 : decode prog_1_method_38_code 30 = .ok (.aload_n 0, 1) := by decide +kernel
theorem d_P_giveBack_31 : decode prog_1_method_38_code 31 = .ok (.aload_n 1, 1) := by decide +kernel
theorem d_P_giveBack_32 : decode prog_1_method_38_code 32 = .ok (.aload_n 2, 1) := by decide +kernel
theorem d_P_giveBack_33 : decode prog_1_method_38_code 33 = .ok (.invokevirtual 304, 3) := by decide +kernel
theorem d_P_giveBack_36 : decode prog_1_method_38_code 36 = .ok (.ifCond .ne 5, 3) := by decide +kernel
theorem d_P_giveBack_39 : decode prog_1_method_38_code 39 = .ok (.iconst 0, 1) := by decide +kernel
theorem d_P_giveBack_40 : decode prog_1_method_38_code 40 = .ok (.ireturn, 1) := by decide +kernel
theorem d_P_giveBack_41 : decode prog_1_method_38_code 41 = .ok (.aload_n 0, 1) := by decide +kernel
theorem d_P_giveBack_42 : decode prog_1_method_38_code 42 = .ok (.aload_n 1, 1) := by decide +kernel
theorem d_P_giveBack_43 : decode prog_1_method_38_code 43 = .ok (.aload_n 2, 1) := by decide +kernel
theorem d_P_giveBack_44 : decode prog_1_method_38_code 44 = .ok (.iconst 2, 1) := by decide +kernel
theorem d_P_giveBack_45 : decode prog_1_method_38_code 45 = .ok (.invokevirtual 104, 3) := by decide +kernel
theorem d_P_giveBack_48 : decode prog_1_method_38_code 48 = .ok (.ireturn, 1) := by decide +kernel
theorem d_P_spoolReturn_0 : decode prog_1_method_39_code 0 = .ok (.aload_n 0, 1) := by decide +kernel
theorem d_P_spoolReturn_1 : decode prog_1_method_39_code 1 = .ok (.getfield 28, 3) := by decide +kernel
theorem d_P_spoolReturn_4 : decode prog_1_method_39_code 4 = .ok (.invokevirtual 280, 3) := by decide +kernel
theorem d_P_spoolReturn_7 : decode prog_1_method_39_code 7 = .ok (.astore_n 3, 1) := by decide +kernel
theorem d_P_spoolReturn_8 : decode prog_1_method_39_code 8 = .ok (.aload_n 3, 1) := by decide +kernel
theorem d_P_spoolReturn_9 : decode prog_1_method_39_code 9 = .ok (.ifnonnull 5, 3) := by decide +kernel
theorem d_P_spoolReturn_12 : decode prog_1_method_39_code 12 = .ok (.iconst 0, 1) := by decide +kernel
theorem d_P_spoolReturn_13 : decode prog_1_method_39_code 13 = .ok (.ireturn, 1) := by decide +kernel
theorem d_P_spoolReturn_14 : decode prog_1_method_39_code 14 = .ok (.aload_n 3, 1) := by decide +kernel
theorem d_P_spoolReturn_15 : decode prog_1_method_39_code 15 = .ok (.aload_n 1, 1) := by decide +kernel
theorem d_P_spoolReturn_16 : decode prog_1_method_39_code 16 = .ok (.getfield 141, 3) := by decide +kernel
theorem d_P_spoolReturn_19 : decode prog_1_method_39_code 19 = .ok (.aload_n 0, 1) := by decide +kernel
theorem d_P_spoolReturn_20 : decode prog_1_method_39_code 20 = .ok (.getfield 39, 3) := by decide +kernel
theorem d_P_spoolReturn_23 : decode prog_1_method_39_code 23 = .ok (.invokevirtual 288, 3) := by decide +kernel
theorem d_P_spoolReturn_26 : decode prog_1_method_39_code 26 = .ok (.aload_n 3, 1) := by decide +kernel
theorem d_P_spoolReturn_27 : decode prog_1_method_39_code 27 = .ok (.getfield 134, 3) := by decide +kernel
theorem d_P_spoolReturn_30 : decode prog_1_method_39_code 30 = .ok (.bipush 10, 2) := by decide +kernel
theorem d_P_spoolReturn_32 : decode prog_1_method_39_code 32 = .ok (.invokevirtual 58, 3) := by decide +kernel
theorem d_P_spoolReturn_35 : decode prog_1_method_39_code 35 = .ok (.aload_n 3, 1) := by decide +kernel
theorem d_P_spoolReturn_36 : decode prog_1_method_39_code 36 = .ok (.getfield 134, 3) := by decide +kernel
theorem d_P_spoolReturn_39 : decode prog_1_method_39_code 39 = .ok (.ldc_w 308, 3) := by decide +kernel
theorem d_P_spoolReturn_42 : decode prog_1_method_39_code 42 = .ok (.invokevirtual 310, 3) := by decide +kernel
theorem d_P_spoolReturn_45 : decode prog_1_method_39_code 45 = .ok (.aload_n 3, 1) := by decide +kernel
theorem d_P_spoolReturn_46 : decode prog_1_method_39_code 46 = .ok (.getfield 134, 3) := by decide +kernel
theorem d_P_spoolReturn_49 : decode prog_1_method_39_code 49 = .ok (.aload_n 2, 1) := by decide +kernel
theorem d_P_spoolReturn_50 : decode prog_1_method_39_code 50 = .ok (.getfield 147, 3) := by decide +kernel
theorem d_P_spoolReturn_53 : decode prog_1_method_39_code 53 = .ok (.invokevirtual 284, 3) := by decide +kernel
theorem d_P_spoolReturn_56 : decode prog_1_method_39_code 56 = .ok (.aload_n 3, 1) := by decide +kernel
theorem d_P_spoolReturn_57 : decode prog_1_method_39_code 57 = .ok (.getfield 134, 3) := by decide +kernel
theorem d_P_spoolReturn_60 : decode prog_1_method_39_code 60 = .ok (.bipush 10, 2) := by decide +kernel
theorem d_P_spoolReturn_62 : decode prog_1_method_39_code 62 = .ok (.invokevirtual 58, 3) := by decide +kernel
theorem d_P_spoolReturn_65 : decode prog_1_method_39_code 65 = .ok (.aload_n 0, 1) := by decide +kernel
theorem d_P_spoolReturn_66 : decode prog_1_method_39_code 66 = .ok (.getfield 28, 3) := by decide +kernel
theorem d_P_spoolReturn_69 : decode prog_1_method_39_code 69 = .ok (.aload_n 3, 1) := by decide +kernel
theorem d_P_spoolReturn_70 : decode prog_1_method_39_code 70 = .ok (.invokevirtual 291, 3) := by decide +kernel
theorem d_P_spoolReturn_73 : decode prog_1_method_39_code 73 = .ok (.ireturn, 1) := by decide +kernel
theorem d_R_addWords_0 : decode prog_8_method_7_code 0 = .ok (.iconst 0, 1) := by decide +kernel
theorem d_R_addWords_1 : decode prog_8_method_7_code 1 = .ok (.istore_n 2, 1) := by decide +kernel
theorem d_R_addWords_2 : decode prog_8_method_7_code 2 = .ok (.iload_n 2, 1) := by decide +kernel
theorem d_R_addWords_3 : decode prog_8_method_7_code 3 = .ok (.aload_n 1, 1) := by decide +kernel
theorem d_R_addWords_4 : decode prog_8_method_7_code 4 = .ok (.invokevirtual 37, 3) := by decide +kernel
theorem d_R_addWords_7 : decode prog_8_method_7_code 7 = .ok (.if_icmp .ge 18, 3) := by decide +kernel
theorem d_R_addWords_10 : decode prog_8_method_7_code 10 = .ok (.aload_n 0, 1) := by decide +kernel
theorem d_R_addWords_11 : decode prog_8_method_7_code 11 = .ok (.aload_n 1, 1) := by decide +kernel
theorem d_R_addWords_12 : decode prog_8_method_7_code 12 = .ok (.iload_n 2, 1) := by decide +kernel
theorem d_R_addWords_13 : decode prog_8_method_7_code 13 = .ok (.invokevirtual 42, 3) := by decide +kernel
theorem d_R_addWords_16 : decode prog_8_method_7_code 16 = .ok (.invokevirtual 21, 3) := by decide +kernel
theorem d_R_addWords_19 : decode prog_8_method_7_code 19 = .ok (.iinc 2 1, 3) := by decide +kernel
theorem d_R_addWords_22 : decode prog_8_method_7_code 22 = .ok (.goto (-20), 3) := by decide +kernel
theorem d_R_addWords_25 : decode prog_8_method_7_code 25 = .ok (.return_, 1) := by decide +kernel
theorem d_P_state_0 : decode prog_1_method_9_code 0 = .ok (.aload_n 0, 1) := by decide +kernel
theorem d_P_state_1 : decode prog_1_method_9_code 1 = .ok (.getfield 28, 3) := by decide +kernel
theorem d_P_state_4 : decode prog_1_method_9_code 4 = .ok (.getfield 47, 3) := by decide +kernel
theorem d_P_state_7 : decode prog_1_method_9_code 7 = .ok (.ifCond .eq 5, 3) := by decide +kernel
theorem d_P_state_10 : decode prog_1_method_9_code 10 = .ok (.iconst 0, 1) := by decide +kernel
theorem d_P_state_11 : decode prog_1_method_9_code 11 = .ok (.ireturn, 1) := by decide +kernel
theorem d_P_state_12 : decode prog_1_method_9_code 12 = .ok (.aload_n 0, 1) := by decide +kernel
theorem d_P_state_13 : decode prog_1_method_9_code 13 = .ok (.getfield 21, 3) := by decide +kernel
theorem d_P_state_16 : decode prog_1_method_9_code 16 = .ok (.getfield 62, 3) := by decide +kernel
theorem d_P_state_19 : decode prog_1_method_9_code 19 = .ok (.ifCond .eq 5, 3) := by decide +kernel
theorem d_P_state_22 : decode prog_1_method_9_code 22 = .ok (.iconst 4, 1) := by decide +kernel
theorem d_P_state_23 : decode prog_1_method_9_code 23 = .ok (.ireturn, 1) := by decide +kernel
theorem d_P_state_24 : decode prog_1_method_9_code 24 = .ok (.aload_n 0, 1) := by decide +kernel
theorem d_P_state_25 : decode prog_1_method_9_code 25 = .ok (.getfield 21, 3) := by decide +kernel
theorem d_P_state_28 : decode prog_1_method_9_code 28 = .ok (.getfield 121, 3) := by decide +kernel
theorem d_P_state_31 : decode prog_1_method_9_code 31 = .ok (.ifCond .eq 5, 3) := by decide +kernel
theorem d_P_state_34 : decode prog_1_method_9_code 34 = .ok (.iconst 3, 1) := by decide +kernel
theorem d_P_state_35 : decode prog_1_method_9_code 35 = .ok (.ireturn, 1) := by decide +kernel
theorem d_P_state_36 : decode prog_1_method_9_code 36 = .ok (.aload_n 0, 1) := by decide +kernel
theorem d_P_state_37 : decode prog_1_method_9_code 37 = .ok (.getfield 21, 3) := by decide +kernel
theorem d_P_state_40 : decode prog_1_method_9_code 40 = .ok (.getfield 124, 3) := by decide +kernel
theorem d_P_state_43 : decode prog_1_method_9_code 43 = .ok (.ifCond .eq 7, 3) := by decide +kernel
theorem d_P_state_46 : decode prog_1_method_9_code 46 = .ok (.iconst 2, 1) := by decide +kernel
theorem d_P_state_47 : decode prog_1_method_9_code 47 = .ok (.goto 4, 3) := by decide +kernel
theorem d_P_state_50 : decode prog_1_method_9_code 50 = .ok (.iconst 1, 1) := by decide +kernel
theorem d_P_state_51 : decode prog_1_method_9_code 51 = .ok (.ireturn, 1) := by decide +kernel
theorem d_P_letters_0 : decode prog_1_method_10_code 0 = .ok (.aload_n 0, 1) := by decide +kernel
theorem d_P_letters_1 : decode prog_1_method_10_code 1 = .ok (.getfield 28, 3) := by decide +kernel
theorem d_P_letters_4 : decode prog_1_method_10_code 4 = .ok (.invokevirtual 84, 3) := by decide +kernel
theorem d_P_letters_7 : decode prog_1_method_10_code 7 = .ok (.ireturn, 1) := by decide +kernel
theorem d_P_letter_0 : decode prog_1_method_11_code 0 = .ok (.aload_n 0, 1) := by decide +kernel
theorem d_P_letter_1 : decode prog_1_method_11_code 1 = .ok (.getfield 28, 3) := by decide +kernel
theorem d_P_letter_4 : decode prog_1_method_11_code 4 = .ok (.iload_n 1, 1) := by decide +kernel
theorem d_P_letter_5 : decode prog_1_method_11_code 5 = .ok (.invokevirtual 127, 3) := by decide +kernel
theorem d_P_letter_8 : decode prog_1_method_11_code 8 = .ok (.ireturn, 1) := by decide +kernel
theorem d_O_sealedNumber_0 : decode prog_10_method_9_code 0 = .ok (.iconst 0, 1) := by decide +kernel
theorem d_O_sealedNumber_1 : decode prog_10_method_9_code 1 = .ok (.istore_n 2, 1) := by decide +kernel
theorem d_O_sealedNumber_2 : decode prog_10_method_9_code 2 = .ok (.iconst 0, 1) := by decide +kernel
theorem d_O_sealedNumber_3 : decode prog_10_method_9_code 3 = .ok (.istore_n 3, 1) := by decide +kernel
theorem d_O_sealedNumber_4 : decode prog_10_method_9_code 4 = .ok (.iload_n 3, 1) := by decide +kernel
theorem d_O_sealedNumber_5 : decode prog_10_method_9_code 5 = .ok (.aload_n 0, 1) := by decide +kernel
theorem d_O_sealedNumber_6 : decode prog_10_method_9_code 6 = .ok (.getfield 26, 3) := by decide +kernel
theorem d_O_sealedNumber_9 : decode prog_10_method_9_code 9 = .ok (.if_icmp .ge 39, 3) := by decide +kernel
theorem d_O_sealedNumber_12 : decode prog_10_method_9_code 12 = .ok (.aload_n 0, 1) := by decide +kernel
theorem d_O_sealedNumber_13 : decode prog_10_method_9_code 13 = .ok (.getfield 11, 3) := by decide +kernel
theorem d_O_sealedNumber_16 : decode prog_10_method_9_code 16 = .ok (.iload_n 3, 1) := by decide +kernel
theorem d_O_sealedNumber_17 : decode prog_10_method_9_code 17 = .ok (.aaload, 1) := by decide +kernel
theorem d_O_sealedNumber_18 : decode prog_10_method_9_code 18 = .ok (.getfield 43, 3) := by decide +kernel
theorem d_O_sealedNumber_21 : decode prog_10_method_9_code 21 = .ok (.ifCond .eq 21, 3) := by decide +kernel
theorem d_O_sealedNumber_24 : decode prog_10_method_9_code 24 = .ok (.iload_n 2, 1) := by decide +kernel
theorem d_O_sealedNumber_25 : decode prog_10_method_9_code 25 = .ok (.iload_n 1, 1) := by decide +kernel
theorem d_O_sealedNumber_26 : decode prog_10_method_9_code 26 = .ok (.if_icmp .ne 13, 3) := by decide +kernel
theorem d_O_sealedNumber_29 : decode prog_10_method_9_code 29 = .ok (.aload_n 0, 1) := by decide +kernel
theorem d_O_sealedNumber_30 : decode prog_10_method_9_code 30 = .ok (.getfield 11, 3) := by decide +kernel
theorem d_O_sealedNumber_33 : decode prog_10_method_9_code 33 = .ok (.iload_n 3, 1) := by decide +kernel
theorem d_O_sealedNumber_34 : decode prog_10_method_9_code 34 = .ok (.aaload, 1) := by decide +kernel
theorem d_O_sealedNumber_35 : decode prog_10_method_9_code 35 = .ok (.getfield 50, 3) := by decide +kernel
theorem d_O_sealedNumber_38 : decode prog_10_method_9_code 38 = .ok (.ireturn, 1) := by decide +kernel
theorem d_O_sealedNumber_39 : decode prog_10_method_9_code 39 = .ok (.iinc 2 1, 3) := by decide +kernel
theorem d_O_sealedNumber_42 : decode prog_10_method_9_code 42 = .ok (.iinc 3 1, 3) := by decide +kernel
theorem d_O_sealedNumber_45 : decode prog_10_method_9_code 45 = .ok (.goto (-41), 3) := by decide +kernel
theorem d_O_sealedNumber_48 : decode prog_10_method_9_code 48 = .ok (.iconst (-1), 1) := by decide +kernel
theorem d_O_sealedNumber_49 : decode prog_10_method_9_code 49 = .ok (.ireturn, 1) := by decide +kernel
theorem d_P_text_0 : decode prog_1_method_12_code 0 = .ok (.aload_n 0, 1) := by decide +kernel
theorem d_P_text_1 : decode prog_1_method_12_code 1 = .ok (.getfield 28, 3) := by decide +kernel
theorem d_P_text_4 : decode prog_1_method_12_code 4 = .ok (.iload_n 1, 1) := by decide +kernel
theorem d_P_text_5 : decode prog_1_method_12_code 5 = .ok (.invokevirtual 131, 3) := by decide +kernel
theorem d_P_text_8 : decode prog_1_method_12_code 8 = .ok (.astore_n 3, 1) := by decide +kernel
theorem d_P_text_9 : decode prog_1_method_12_code 9 = .ok (.aload_n 3, 1) := by decide +kernel
theorem d_P_text_10 : decode prog_1_method_12_code 10 = .ok (.ifnonnull 7, 3) := by decide +kernel
theorem d_P_text_13 : decode prog_1_method_12_code 13 = .ok (.iconst 0, 1) := by decide +kernel
theorem d_P_text_14 : decode prog_1_method_12_code 14 = .ok (.goto 11, 3) := by decide +kernel
theorem d_P_text_17 : decode prog_1_method_12_code 17 = .ok (.aload_n 3, 1) := by decide +kernel
theorem d_P_text_18 : decode prog_1_method_12_code 18 = .ok (.getfield 134, 3) := by decide +kernel
theorem d_P_text_21 : decode prog_1_method_12_code 21 = .ok (.iload_n 2, 1) := by decide +kernel
theorem d_P_text_22 : decode prog_1_method_12_code 22 = .ok (.invokevirtual 137, 3) := by decide +kernel
theorem d_P_text_25 : decode prog_1_method_12_code 25 = .ok (.ireturn, 1) := by decide +kernel
theorem d_O_find_0 : decode prog_10_method_10_code 0 = .ok (.iconst 0, 1) := by decide +kernel
theorem d_O_find_1 : decode prog_10_method_10_code 1 = .ok (.istore_n 2, 1) := by decide +kernel
theorem d_O_find_2 : decode prog_10_method_10_code 2 = .ok (.iload_n 2, 1) := by decide +kernel
theorem d_O_find_3 : decode prog_10_method_10_code 3 = .ok (.aload_n 0, 1) := by decide +kernel
theorem d_O_find_4 : decode prog_10_method_10_code 4 = .ok (.getfield 26, 3) := by decide +kernel
theorem d_O_find_7 : decode prog_10_method_10_code 7 = .ok (.if_icmp .ge 41, 3) := by decide +kernel
theorem d_O_find_10 : decode prog_10_method_10_code 10 = .ok (.aload_n 0, 1) := by decide +kernel
theorem d_O_find_11 : decode prog_10_method_10_code 11 = .ok (.getfield 11, 3) := by decide +kernel
theorem d_O_find_14 : decode prog_10_method_10_code 14 = .ok (.iload_n 2, 1) := by decide +kernel
theorem d_O_find_15 : decode prog_10_method_10_code 15 = .ok (.aaload, 1) := by decide +kernel
theorem d_O_find_16 : decode prog_10_method_10_code 16 = .ok (.getfield 43, 3) := by decide +kernel
theorem d_O_find_19 : decode prog_10_method_10_code 19 = .ok (.ifCond .eq 23, 3) := by decide +kernel
theorem d_O_find_22 : decode prog_10_method_10_code 22 = .ok (.aload_n 0, 1) := by decide +kernel
theorem d_O_find_23 : decode prog_10_method_10_code 23 = .ok (.getfield 11, 3) := by decide +kernel
theorem d_O_find_26 : decode prog_10_method_10_code 26 = .ok (.iload_n 2, 1) := by decide +kernel
theorem d_O_find_27 : decode prog_10_method_10_code 27 = .ok (.aaload, 1) := by decide +kernel
theorem d_O_find_28 : decode prog_10_method_10_code 28 = .ok (.getfield 50, 3) := by decide +kernel
theorem d_O_find_31 : decode prog_10_method_10_code 31 = .ok (.iload_n 1, 1) := by decide +kernel
theorem d_O_find_32 : decode prog_10_method_10_code 32 = .ok (.if_icmp .ne 10, 3) := by decide +kernel
theorem d_O_find_35 : decode prog_10_method_10_code 35 = .ok (.aload_n 0, 1) := by decide +kernel
theorem d_O_find_36 : decode prog_10_method_10_code 36 = .ok (.getfield 11, 3) := by decide +kernel
theorem d_O_find_39 : decode prog_10_method_10_code 39 = .ok (.iload_n 2, 1) := by decide +kernel
theorem d_O_find_40 : decode prog_10_method_10_code 40 = .ok (.aaload, 1) := by decide +kernel
theorem d_O_find_41 : decode prog_10_method_10_code 41 = .ok (.areturn, 1) := by decide +kernel
theorem d_O_find_42 : decode prog_10_method_10_code 42 = .ok (.iinc 2 1, 3) := by decide +kernel
theorem d_O_find_45 : decode prog_10_method_10_code 45 = .ok (.goto (-43), 3) := by decide +kernel
theorem d_O_find_48 : decode prog_10_method_10_code 48 = .ok (.aconst_null, 1) := by decide +kernel
theorem d_O_find_49 : decode prog_10_method_10_code 49 = .ok (.areturn, 1) := by decide +kernel
theorem d_P_path_0 : decode prog_1_method_13_code 0 = .ok (.aload_n 0, 1) := by decide +kernel
theorem d_P_path_1 : decode prog_1_method_13_code 1 = .ok (.getfield 28, 3) := by decide +kernel
theorem d_P_path_4 : decode prog_1_method_13_code 4 = .ok (.iload_n 1, 1) := by decide +kernel
theorem d_P_path_5 : decode prog_1_method_13_code 5 = .ok (.invokevirtual 131, 3) := by decide +kernel
theorem d_P_path_8 : decode prog_1_method_13_code 8 = .ok (.astore 4, 2) := by decide +kernel
theorem d_P_path_10 : decode prog_1_method_13_code 10 = .ok (.aload 4, 2) := by decide +kernel
theorem d_P_path_12 : decode prog_1_method_13_code 12 = .ok (.ifnonnull 5, 3) := by decide +kernel
theorem d_P_path_15 : decode prog_1_method_13_code 15 = .ok (.iconst 0, 1) := by decide +kernel
theorem d_P_path_16 : decode prog_1_method_13_code 16 = .ok (.ireturn, 1) := by decide +kernel
theorem d_P_path_17 : decode prog_1_method_13_code 17 = .ok (.iload_n 2, 1) := by decide +kernel
theorem d_P_path_18 : decode prog_1_method_13_code 18 = .ok (.iconst (-1), 1) := by decide +kernel
theorem d_P_path_19 : decode prog_1_method_13_code 19 = .ok (.if_icmp .ne 13, 3) := by decide +kernel
theorem d_P_path_22 : decode prog_1_method_13_code 22 = .ok (.aload 4, 2) := by decide +kernel
theorem d_P_path_24 : decode prog_1_method_13_code 24 = .ok (.getfield 141, 3) := by decide +kernel
theorem d_P_path_27 : decode prog_1_method_13_code 27 = .ok (.iload_n 3, 1) := by decide +kernel
theorem d_P_path_28 : decode prog_1_method_13_code 28 = .ok (.invokevirtual 137, 3) := by decide +kernel
theorem d_P_path_31 : decode prog_1_method_13_code 31 = .ok (.ireturn, 1) := by decide +kernel
theorem d_P_path_32 : decode prog_1_method_13_code 32 = .ok (.aload 4, 2) := by decide +kernel
theorem d_P_path_34 : decode prog_1_method_13_code 34 = .ok (.iload_n 2, 1) := by decide +kernel
theorem d_P_path_35 : decode prog_1_method_13_code 35 = .ok (.invokevirtual 144, 3) := by decide +kernel
theorem d_P_path_38 : decode prog_1_method_13_code 38 = .ok (.astore 5, 2) := by decide +kernel
theorem d_P_path_40 : decode prog_1_method_13_code 40 = .ok (.aload 5, 2) := by decide +kernel
theorem d_P_path_42 : decode prog_1_method_13_code 42 = .ok (.ifnonnull 7, 3) := by decide +kernel
theorem d_P_path_45 : decode prog_1_method_13_code 45 = .ok (.iconst 0, 1) := by decide +kernel
theorem d_P_path_46 : decode prog_1_method_13_code 46 = .ok (.goto 12, 3) := by decide +kernel
theorem d_P_path_49 : decode prog_1_method_13_code 49 = .ok (.aload 5, 2) := by decide +kernel
theorem d_P_path_51 : decode prog_1_method_13_code 51 = .ok (.getfield 147, 3) := by decide +kernel
theorem d_P_path_54 : decode prog_1_method_13_code 54 = .ok (.iload_n 3, 1) := by decide +kernel
theorem d_P_path_55 : decode prog_1_method_13_code 55 = .ok (.invokevirtual 137, 3) := by decide +kernel
theorem d_P_path_58 : decode prog_1_method_13_code 58 = .ok (.ireturn, 1) := by decide +kernel
theorem d_L_recipientAt_0 : decode prog_5_method_4_code 0 = .ok (.iload_n 1, 1) := by decide +kernel
theorem d_L_recipientAt_1 : decode prog_5_method_4_code 1 = .ok (.ifCond .lt 20, 3) := by decide +kernel
theorem d_L_recipientAt_4 : decode prog_5_method_4_code 4 = .ok (.iload_n 1, 1) := by decide +kernel
theorem d_L_recipientAt_5 : decode prog_5_method_4_code 5 = .ok (.aload_n 0, 1) := by decide +kernel
theorem d_L_recipientAt_6 : decode prog_5_method_4_code 6 = .ok (.getfield 38, 3) := by decide +kernel
theorem d_L_recipientAt_9 : decode prog_5_method_4_code 9 = .ok (.if_icmp .ge 12, 3) := by decide +kernel
theorem d_L_recipientAt_12 : decode prog_5_method_4_code 12 = .ok (.aload_n 0, 1) := by decide +kernel
theorem d_L_recipientAt_13 : decode prog_5_method_4_code 13 = .ok (.getfield 22, 3) := by decide +kernel
theorem d_L_recipientAt_16 : decode prog_5_method_4_code 16 = .ok (.iload_n 1, 1) := by decide +kernel
theorem d_L_recipientAt_17 : decode prog_5_method_4_code 17 = .ok (.aaload, 1) := by decide +kernel
theorem d_L_recipientAt_18 : decode prog_5_method_4_code 18 = .ok (.goto 4, 3) := by decide +kernel
theorem d_L_recipientAt_21 : decode prog_5_method_4_code 21 = .ok (.aconst_null, 1) := by decide +kernel
theorem d_L_recipientAt_22 : decode prog_5_method_4_code 22 = .ok (.areturn, 1) := by decide +kernel
theorem d_P_recipient_0 : decode prog_1_method_14_code 0 = .ok (.aload_n 0, 1) := by decide +kernel
theorem d_P_recipient_1 : decode prog_1_method_14_code 1 = .ok (.iload_n 1, 1) := by decide +kernel
theorem d_P_recipient_2 : decode prog_1_method_14_code 2 = .ok (.iload_n 2, 1) := by decide +kernel
theorem d_P_recipient_3 : decode prog_1_method_14_code 3 = .ok (.invokevirtual 150, 3) := by decide +kernel
theorem d_P_recipient_6 : decode prog_1_method_14_code 6 = .ok (.astore_n 3, 1) := by decide +kernel
theorem d_P_recipient_7 : decode prog_1_method_14_code 7 = .ok (.aload_n 3, 1) := by decide +kernel
theorem d_P_recipient_8 : decode prog_1_method_14_code 8 = .ok (.ifnonnull 5, 3) := by decide +kernel
theorem d_P_recipient_11 : decode prog_1_method_14_code 11 = .ok (.iconst (-1), 1) := by decide +kernel
theorem d_P_recipient_12 : decode prog_1_method_14_code 12 = .ok (.ireturn, 1) := by decide +kernel
theorem d_P_recipient_13 : decode prog_1_method_14_code 13 = .ok (.aload_n 3, 1) := by decide +kernel
theorem d_P_recipient_14 : decode prog_1_method_14_code 14 = .ok (.getfield 154, 3) := by decide +kernel
theorem d_P_recipient_17 : decode prog_1_method_14_code 17 = .ok (.ifCond .ne 10, 3) := by decide +kernel
theorem d_P_recipient_20 : decode prog_1_method_14_code 20 = .ok (.aload_n 3, 1) := by decide +kernel
theorem d_P_recipient_21 : decode prog_1_method_14_code 21 = .ok (.getfield 108, 3) := by decide +kernel
theorem d_P_recipient_24 : decode prog_1_method_14_code 24 = .ok (.goto 10, 3) := by decide +kernel
theorem d_P_recipient_27 : decode prog_1_method_14_code 27 = .ok (.bipush 10, 2) := by decide +kernel
theorem d_P_recipient_29 : decode prog_1_method_14_code 29 = .ok (.aload_n 3, 1) := by decide +kernel
theorem d_P_recipient_30 : decode prog_1_method_14_code 30 = .ok (.getfield 154, 3) := by decide +kernel
theorem d_P_recipient_33 : decode prog_1_method_14_code 33 = .ok (.imul, 1) := by decide +kernel
theorem d_P_recipient_34 : decode prog_1_method_14_code 34 = .ok (.ireturn, 1) := by decide +kernel
theorem d_P_findRecipient_0 : decode prog_1_method_21_code 0 = .ok (.aload_n 0, 1) := by decide +kernel
theorem d_P_findRecipient_1 : decode prog_1_method_21_code 1 = .ok (.getfield 28, 3) := by decide +kernel
theorem d_P_findRecipient_4 : decode prog_1_method_21_code 4 = .ok (.iload_n 1, 1) := by decide +kernel
theorem d_P_findRecipient_5 : decode prog_1_method_21_code 5 = .ok (.invokevirtual 131, 3) := by decide +kernel
theorem d_P_findRecipient_8 : decode prog_1_method_21_code 8 = .ok (.astore_n 3, 1) := by decide +kernel
theorem d_P_findRecipient_9 : decode prog_1_method_21_code 9 = .ok (.aload_n 3, 1) := by decide +kernel
theorem d_P_findRecipient_10 : decode prog_1_method_21_code 10 = .ok (.ifnonnull 7, 3) := by decide +kernel
theorem d_P_findRecipient_13 : decode prog_1_method_21_code 13 = .ok (.aconst_null, 1) := by decide +kernel
theorem d_P_findRecipient_14 : decode prog_1_method_21_code 14 = .ok (.goto 8, 3) := by decide +kernel
theorem d_P_findRecipient_17 : decode prog_1_method_21_code 17 = .ok (.aload_n 3, 1) := by decide +kernel
theorem d_P_findRecipient_18 : decode prog_1_method_21_code 18 = .ok (.iload_n 2, 1) := by decide +kernel
theorem d_P_findRecipient_19 : decode prog_1_method_21_code 19 = .ok (.invokevirtual 144, 3) := by decide +kernel
theorem d_P_findRecipient_22 : decode prog_1_method_21_code 22 = .ok (.areturn, 1) := by decide +kernel
theorem d_P_due_0 : decode prog_1_method_15_code 0 = .ok (.aload_n 0, 1) := by decide +kernel
theorem d_P_due_1 : decode prog_1_method_15_code 1 = .ok (.iload_n 1, 1) := by decide +kernel
theorem d_P_due_2 : decode prog_1_method_15_code 2 = .ok (.iload_n 2, 1) := by decide +kernel
theorem d_P_due_3 : decode prog_1_method_15_code 3 = .ok (.invokevirtual 150, 3) := by decide +kernel
theorem d_P_due_6 : decode prog_1_method_15_code 6 = .ok (.astore_n 3, 1) := by decide +kernel
theorem d_P_due_7 : decode prog_1_method_15_code 7 = .ok (.aload_n 3, 1) := by decide +kernel
theorem d_P_due_8 : decode prog_1_method_15_code 8 = .ok (.ifnull 10, 3) := by decide +kernel
theorem d_P_due_11 : decode prog_1_method_15_code 11 = .ok (.aload_n 3, 1) := by decide +kernel
theorem d_P_due_12 : decode prog_1_method_15_code 12 = .ok (.getfield 154, 3) := by decide +kernel
theorem d_P_due_15 : decode prog_1_method_15_code 15 = .ok (.ifCond .eq 7, 3) := by decide +kernel
theorem d_P_due_18 : decode prog_1_method_15_code 18 = .ok (.iconst (-1), 1) := by decide +kernel
theorem d_P_due_19 : decode prog_1_method_15_code 19 = .ok (.goto 7, 3) := by decide +kernel
theorem d_P_due_22 : decode prog_1_method_15_code 22 = .ok (.aload_n 3, 1) := by decide +kernel
theorem d_P_due_23 : decode prog_1_method_15_code 23 = .ok (.getfield 157, 3) := by decide +kernel
theorem d_P_due_26 : decode prog_1_method_15_code 26 = .ok (.ireturn, 1) := by decide +kernel
theorem d_P_parts_0 : decode prog_1_method_16_code 0 = .ok (.aload_n 0, 1) := by decide +kernel
theorem d_P_parts_1 : decode prog_1_method_16_code 1 = .ok (.getfield 28, 3) := by decide +kernel
theorem d_P_parts_4 : decode prog_1_method_16_code 4 = .ok (.iload_n 1, 1) := by decide +kernel
theorem d_P_parts_5 : decode prog_1_method_16_code 5 = .ok (.invokevirtual 131, 3) := by decide +kernel
theorem d_P_parts_8 : decode prog_1_method_16_code 8 = .ok (.astore_n 2, 1) := by decide +kernel
theorem d_P_parts_9 : decode prog_1_method_16_code 9 = .ok (.aload_n 2, 1) := by decide +kernel
theorem d_P_parts_10 : decode prog_1_method_16_code 10 = .ok (.ifnonnull 5, 3) := by decide +kernel
theorem d_P_parts_13 : decode prog_1_method_16_code 13 = .ok (.iconst (-1), 1) := by decide +kernel
theorem d_P_parts_14 : decode prog_1_method_16_code 14 = .ok (.ireturn, 1) := by decide +kernel
theorem d_P_parts_15 : decode prog_1_method_16_code 15 = .ok (.aload_n 0, 1) := by decide +kernel
theorem d_P_parts_16 : decode prog_1_method_16_code 16 = .ok (.getfield 35, 3) := by decide +kernel
theorem d_P_parts_19 : decode prog_1_method_16_code 19 = .ok (.aload_n 2, 1) := by decide +kernel
theorem d_P_parts_20 : decode prog_1_method_16_code 20 = .ok (.invokevirtual 160, 3) := by decide +kernel
theorem d_P_parts_23 : decode prog_1_method_16_code 23 = .ok (.aload_n 0, 1) := by decide +kernel
theorem d_P_parts_24 : decode prog_1_method_16_code 24 = .ok (.getfield 35, 3) := by decide +kernel
theorem d_P_parts_27 : decode prog_1_method_16_code 27 = .ok (.getfield 164, 3) := by decide +kernel
theorem d_P_parts_30 : decode prog_1_method_16_code 30 = .ok (.ireturn, 1) := by decide +kernel
theorem d_D_read_0 : decode prog_6_method_2_code 0 = .ok (.aload_n 1, 1) := by decide +kernel
theorem d_D_read_1 : decode prog_6_method_2_code 1 = .ok (.getfield 22, 3) := by decide +kernel
theorem d_D_read_4 : decode prog_6_method_2_code 4 = .ok (.aload_n 0, 1) := by decide +kernel
theorem d_D_read_5 : decode prog_6_method_2_code 5 = .ok (.getfield 18, 3) := by decide +kernel
theorem d_D_read_8 : decode prog_6_method_2_code 8 = .ok (.if_icmp .ne 4, 3) := by decide +kernel
theorem d_D_read_11 : decode prog_6_method_2_code 11 = .ok (.return_, 1) := by decide +kernel
theorem d_D_read_12 : decode prog_6_method_2_code 12 = .ok (.aload_n 0, 1) := by decide +kernel
theorem d_D_read_13 : decode prog_6_method_2_code 13 = .ok (.aload_n 1, 1) := by decide +kernel
theorem d_D_read_14 : decode prog_6_method_2_code 14 = .ok (.getfield 22, 3) := by decide +kernel
theorem d_D_read_17 : decode prog_6_method_2_code 17 = .ok (.putfield 18, 3) := by decide +kernel
theorem d_D_read_20 : decode prog_6_method_2_code 20 = .ok (.aload_n 0, 1) := by decide +kernel
theorem d_D_read_21 : decode prog_6_method_2_code 21 = .ok (.aload_n 1, 1) := by decide +kernel
theorem d_D_read_22 : decode prog_6_method_2_code 22 = .ok (.getfield 27, 3) := by decide +kernel
theorem d_D_read_25 : decode prog_6_method_2_code 25 = .ok (.putfield 31, 3) := by decide +kernel
theorem d_D_read_28 : decode prog_6_method_2_code 28 = .ok (.aload_n 0, 1) := by decide +kernel
theorem d_D_read_29 : decode prog_6_method_2_code 29 = .ok (.invokevirtual 32, 3) := by decide +kernel
theorem d_D_read_32 : decode prog_6_method_2_code 32 = .ok (.aload_n 0, 1) := by decide +kernel
theorem d_D_read_33 : decode prog_6_method_2_code 33 = .ok (.iconst 0, 1) := by decide +kernel
theorem d_D_read_34 : decode prog_6_method_2_code 34 = .ok (.putfield 35, 3) := by decide +kernel
theorem d_D_read_37 : decode prog_6_method_2_code 37 = .ok (.aload_n 0, 1) := by decide +kernel
theorem d_D_read_38 : decode prog_6_method_2_code 38 = .ok (.iconst 0, 1) := by decide +kernel
theorem d_D_read_39 : decode prog_6_method_2_code 39 = .ok (.aload_n 0, 1) := by decide +kernel
theorem d_D_read_40 : decode prog_6_method_2_code 40 = .ok (.getfield 38, 3) := by decide +kernel
theorem d_D_read_43 : decode prog_6_method_2_code 43 = .ok (.iconst 0, 1) := by decide +kernel
theorem d_D_read_44 : decode prog_6_method_2_code 44 = .ok (.invokevirtual 41, 3) := by decide +kernel
theorem d_D_read_47 : decode prog_6_method_2_code 47 = .ok (.ifCond .ne 8, 3) := by decide +kernel
theorem d_D_read_50 : decode prog_6_method_2_code 50 = .ok (.aload_n 0, 1) := by decide +kernel
theorem d_D_read_51 : decode prog_6_method_2_code 51 = .ok (.iconst 0, 1) := by decide +kernel
theorem d_D_read_52 : decode prog_6_method_2_code 52 = .ok (.putfield 35, 3) := by decide +kernel
theorem d_D_read_55 : decode prog_6_method_2_code 55 = .ok (.return_, 1) := by decide +kernel
theorem d_D_splitLines_0 : decode prog_6_method_4_code 0 = .ok (.aload_n 0, 1) := by decide +kernel
theorem d_D_splitLines_1 : decode prog_6_method_4_code 1 = .ok (.iconst 0, 1) := by decide +kernel
theorem d_D_splitLines_2 : decode prog_6_method_4_code 2 = .ok (.putfield 38, 3) := by decide +kernel
theorem d_D_splitLines_5 : decode prog_6_method_4_code 5 = .ok (.aload_n 0, 1) := by decide +kernel
theorem d_D_splitLines_6 : decode prog_6_method_4_code 6 = .ok (.getfield 9, 3) := by decide +kernel
theorem d_D_splitLines_9 : decode prog_6_method_4_code 9 = .ok (.iconst 0, 1) := by decide +kernel
theorem d_D_splitLines_10 : decode prog_6_method_4_code 10 = .ok (.iconst 0, 1) := by decide +kernel
theorem d_D_splitLines_11 : decode prog_6_method_4_code 11 = .ok (.iastore, 1) := by decide +kernel
theorem d_D_splitLines_12 : decode prog_6_method_4_code 12 = .ok (.iconst 0, 1) := by decide +kernel
theorem d_D_splitLines_13 : decode prog_6_method_4_code 13 = .ok (.istore_n 1, 1) := by decide +kernel
theorem d_D_splitLines_14 : decode prog_6_method_4_code 14 = .ok (.iload_n 1, 1) := by decide +kernel
theorem d_D_splitLines_15 : decode prog_6_method_4_code 15 = .ok (.aload_n 0, 1) := by decide +kernel
theorem d_D_splitLines_16 : decode prog_6_method_4_code 16 = .ok (.getfield 31, 3) := by decide +kernel
theorem d_D_splitLines_19 : decode prog_6_method_4_code 19 = .ok (.getfield 45, 3) := by decide +kernel
theorem d_D_splitLines_22 : decode prog_6_method_4_code 22 = .ok (.if_icmp .ge 44, 3) := by decide +kernel
theorem d_D_splitLines_25 : decode prog_6_method_4_code 25 = .ok (.aload_n 0, 1) := by decide +kernel
theorem d_D_splitLines_26 : decode prog_6_method_4_code 26 = .ok (.getfield 31, 3) := by decide +kernel
theorem d_D_splitLines_29 : decode prog_6_method_4_code 29 = .ok (.iload_n 1, 1) := by decide +kernel
theorem d_D_splitLines_30 : decode prog_6_method_4_code 30 = .ok (.invokevirtual 50, 3) := by decide +kernel
theorem d_D_splitLines_33 : decode prog_6_method_4_code 33 = .ok (.bipush 10, 2) := by decide +kernel
theorem d_D_splitLines_35 : decode prog_6_method_4_code 35 = .ok (.if_icmp .ne 25, 3) := by decide +kernel
theorem d_D_splitLines_38 : decode prog_6_method_4_code 38 = .ok (.aload_n 0, 1) := by decide +kernel
theorem d_D_splitLines_39 : decode prog_6_method_4_code 39 = .ok (.dup, 1) := by decide +kernel
theorem d_D_splitLines_40 : decode prog_6_method_4_code 40 = .ok (.getfield 38, 3) := by decide +kernel
theorem d_D_splitLines_43 : decode prog_6_method_4_code 43 = .ok (.iconst 1, 1) := by decide +kernel
theorem d_D_splitLines_44 : decode prog_6_method_4_code 44 = .ok (.iadd, 1) := by decide +kernel
theorem d_D_splitLines_45 : decode prog_6_method_4_code 45 = .ok (.putfield 38, 3) := by decide +kernel
theorem d_D_splitLines_48 : decode prog_6_method_4_code 48 = .ok (.aload_n 0, 1) := by decide +kernel
theorem d_D_splitLines_49 : decode prog_6_method_4_code 49 = .ok (.getfield 9, 3) := by decide +kernel
theorem d_D_splitLines_52 : decode prog_6_method_4_code 52 = .ok (.aload_n 0, 1) := by decide +kernel
theorem d_D_splitLines_53 : decode prog_6_method_4_code 53 = .ok (.getfield 38, 3) := by decide +kernel
theorem d_D_splitLines_56 : decode prog_6_method_4_code 56 = .ok (.iload_n 1, 1) := by decide +kernel
theorem d_D_splitLines_57 : decode prog_6_method_4_code 57 = .ok (.iconst 1, 1) := by decide +kernel
theorem d_D_splitLines_58 : decode prog_6_method_4_code 58 = .ok (.iadd, 1) := by decide +kernel
theorem d_D_splitLines_59 : decode prog_6_method_4_code 59 = .ok (.iastore, 1) := by decide +kernel
theorem d_D_splitLines_60 : decode prog_6_method_4_code 60 = .ok (.iinc 1 1, 3) := by decide +kernel
theorem d_D_splitLines_63 : decode prog_6_method_4_code 63 = .ok (.goto (-49), 3) := by decide +kernel
theorem d_D_splitLines_66 : decode prog_6_method_4_code 66 = .ok (.return_, 1) := by decide +kernel
theorem d_D_takePart_0 : decode prog_6_method_6_code 0 = .ok (.iload_n 3, 1) := by decide +kernel
theorem d_D_takePart_1 : decode prog_6_method_6_code 1 = .ok (.iconst 4, 1) := by decide +kernel
theorem d_D_takePart_2 : decode prog_6_method_6_code 2 = .ok (.if_icmp .gt 12, 3) := by decide +kernel
theorem d_D_takePart_5 : decode prog_6_method_6_code 5 = .ok (.aload_n 0, 1) := by decide +kernel
theorem d_D_takePart_6 : decode prog_6_method_6_code 6 = .ok (.getfield 35, 3) := by decide +kernel
theorem d_D_takePart_9 : decode prog_6_method_6_code 9 = .ok (.bipush 16, 2) := by decide +kernel
theorem d_D_takePart_11 : decode prog_6_method_6_code 11 = .ok (.if_icmp .lt 5, 3) := by decide +kernel
theorem d_D_takePart_14 : decode prog_6_method_6_code 14 = .ok (.iconst 0, 1) := by decide +kernel
theorem d_D_takePart_15 : decode prog_6_method_6_code 15 = .ok (.ireturn, 1) := by decide +kernel
theorem d_D_takePart_16 : decode prog_6_method_6_code 16 = .ok (.aload_n 0, 1) := by decide +kernel
theorem d_D_takePart_17 : decode prog_6_method_6_code 17 = .ok (.getfield 35, 3) := by decide +kernel
theorem d_D_takePart_20 : decode prog_6_method_6_code 20 = .ok (.iconst 4, 1) := by decide +kernel
theorem d_D_takePart_21 : decode prog_6_method_6_code 21 = .ok (.imul, 1) := by decide +kernel
theorem d_D_takePart_22 : decode prog_6_method_6_code 22 = .ok (.istore 4, 2) := by decide +kernel
theorem d_D_takePart_24 : decode prog_6_method_6_code 24 = .ok (.aload_n 0, 1) := by decide +kernel
theorem d_D_takePart_25 : decode prog_6_method_6_code 25 = .ok (.dup, 1) := by decide +kernel
theorem d_D_takePart_26 : decode prog_6_method_6_code 26 = .ok (.getfield 35, 3) := by decide +kernel
theorem d_D_takePart_29 : decode prog_6_method_6_code 29 = .ok (.iconst 1, 1) := by decide +kernel
theorem d_D_takePart_30 : decode prog_6_method_6_code 30 = .ok (.iadd, 1) := by decide +kernel
theorem d_D_takePart_31 : decode prog_6_method_6_code 31 = .ok (.putfield 35, 3) := by decide +kernel
theorem d_D_takePart_34 : decode prog_6_method_6_code 34 = .ok (.aload_n 0, 1) := by decide +kernel
theorem d_D_takePart_35 : decode prog_6_method_6_code 35 = .ok (.iload_n 1, 1) := by decide +kernel
theorem d_D_takePart_36 : decode prog_6_method_6_code 36 = .ok (.iload_n 2, 1) := by decide +kernel
theorem d_D_takePart_37 : decode prog_6_method_6_code 37 = .ok (.invokevirtual 54, 3) := by decide +kernel
theorem d_D_takePart_40 : decode prog_6_method_6_code 40 = .ok (.istore 5, 2) := by decide +kernel
theorem d_D_takePart_42 : decode prog_6_method_6_code 42 = .ok (.aload_n 0, 1) := by decide +kernel
theorem d_D_takePart_43 : decode prog_6_method_6_code 43 = .ok (.iload_n 1, 1) := by decide +kernel
theorem d_D_takePart_44 : decode prog_6_method_6_code 44 = .ok (.iload 5, 2) := by decide +kernel
theorem d_D_takePart_46 : decode prog_6_method_6_code 46 = .ok (.invokevirtual 58, 3) := by decide +kernel
theorem d_D_takePart_49 : decode prog_6_method_6_code 49 = .ok (.ifCond .ne 5, 3) := by decide +kernel
theorem d_D_takePart_52 : decode prog_6_method_6_code 52 = .ok (.iconst 0, 1) := by decide +kernel
theorem d_D_takePart_53 : decode prog_6_method_6_code 53 = .ok (.ireturn, 1) := by decide +kernel
theorem d_D_takePart_54 : decode prog_6_method_6_code 54 = .ok (.aload_n 0, 1) := by decide +kernel
theorem d_D_takePart_55 : decode prog_6_method_6_code 55 = .ok (.iload_n 1, 1) := by decide +kernel
theorem d_D_takePart_56 : decode prog_6_method_6_code 56 = .ok (.iload 5, 2) := by decide +kernel
theorem d_D_takePart_58 : decode prog_6_method_6_code 58 = .ok (.invokevirtual 62, 3) := by decide +kernel
theorem d_D_takePart_61 : decode prog_6_method_6_code 61 = .ok (.istore 6, 2) := by decide +kernel
theorem d_D_takePart_63 : decode prog_6_method_6_code 63 = .ok (.aload_n 0, 1) := by decide +kernel
theorem d_D_takePart_64 : decode prog_6_method_6_code 64 = .ok (.getfield 15, 3) := by decide +kernel
theorem d_D_takePart_67 : decode prog_6_method_6_code 67 = .ok (.iload 4, 2) := by decide +kernel
theorem d_D_takePart_69 : decode prog_6_method_6_code 69 = .ok (.iconst 0, 1) := by decide +kernel
theorem d_D_takePart_70 : decode prog_6_method_6_code 70 = .ok (.iadd, 1) := by decide +kernel
theorem d_D_takePart_71 : decode prog_6_method_6_code 71 = .ok (.iload_n 3, 1) := by decide +kernel
theorem d_D_takePart_72 : decode prog_6_method_6_code 72 = .ok (.iastore, 1) := by decide +kernel
theorem d_D_takePart_73 : decode prog_6_method_6_code 73 = .ok (.aload_n 0, 1) := by decide +kernel
theorem d_D_takePart_74 : decode prog_6_method_6_code 74 = .ok (.getfield 15, 3) := by decide +kernel
theorem d_D_takePart_77 : decode prog_6_method_6_code 77 = .ok (.iload 4, 2) := by decide +kernel
theorem d_D_takePart_79 : decode prog_6_method_6_code 79 = .ok (.iconst 1, 1) := by decide +kernel
theorem d_D_takePart_80 : decode prog_6_method_6_code 80 = .ok (.iadd, 1) := by decide +kernel
theorem d_D_takePart_81 : decode prog_6_method_6_code 81 = .ok (.iload 6, 2) := by decide +kernel
theorem d_D_takePart_83 : decode prog_6_method_6_code 83 = .ok (.iconst (-1), 1) := by decide +kernel
theorem d_D_takePart_84 : decode prog_6_method_6_code 84 = .ok (.if_icmp .ne 7, 3) := by decide +kernel
theorem d_D_takePart_87 : decode prog_6_method_6_code 87 = .ok (.iconst 0, 1) := by decide +kernel
theorem d_D_takePart_88 : decode prog_6_method_6_code 88 = .ok (.goto 4, 3) := by decide +kernel
theorem d_D_takePart_91 : decode prog_6_method_6_code 91 = .ok (.iconst 1, 1) := by decide +kernel
theorem d_D_takePart_92 : decode prog_6_method_6_code 92 = .ok (.iastore, 1) := by decide +kernel
theorem d_D_takePart_93 : decode prog_6_method_6_code 93 = .ok (.aload_n 0, 1) := by decide +kernel
theorem d_D_takePart_94 : decode prog_6_method_6_code 94 = .ok (.getfield 15, 3) := by decide +kernel
theorem d_D_takePart_97 : decode prog_6_method_6_code 97 = .ok (.iload 4, 2) := by decide +kernel
theorem d_D_takePart_99 : decode prog_6_method_6_code 99 = .ok (.iconst 2, 1) := by decide +kernel
theorem d_D_takePart_100 : decode prog_6_method_6_code 100 = .ok (.iadd, 1) := by decide +kernel
theorem d_D_takePart_101 : decode prog_6_method_6_code 101 = .ok (.iload_n 1, 1) := by decide +kernel
theorem d_D_takePart_102 : decode prog_6_method_6_code 102 = .ok (.iastore, 1) := by decide +kernel
theorem d_D_takePart_103 : decode prog_6_method_6_code 103 = .ok (.aload_n 0, 1) := by decide +kernel
theorem d_D_takePart_104 : decode prog_6_method_6_code 104 = .ok (.getfield 15, 3) := by decide +kernel
theorem d_D_takePart_107 : decode prog_6_method_6_code 107 = .ok (.iload 4, 2) := by decide +kernel
theorem d_D_takePart_109 : decode prog_6_method_6_code 109 = .ok (.iconst 3, 1) := by decide +kernel
theorem d_D_takePart_110 : decode prog_6_method_6_code 110 = .ok (.iadd, 1) := by decide +kernel
theorem d_D_takePart_111 : decode prog_6_method_6_code 111 = .ok (.iload_n 2, 1) := by decide +kernel
theorem d_D_takePart_112 : decode prog_6_method_6_code 112 = .ok (.iload_n 1, 1) := by decide +kernel
theorem d_D_takePart_113 : decode prog_6_method_6_code 113 = .ok (.isub, 1) := by decide +kernel
theorem d_D_takePart_114 : decode prog_6_method_6_code 114 = .ok (.iastore, 1) := by decide +kernel
theorem d_D_takePart_115 : decode prog_6_method_6_code 115 = .ok (.iload 6, 2) := by decide +kernel
theorem d_D_takePart_117 : decode prog_6_method_6_code 117 = .ok (.iconst (-1), 1) := by decide +kernel
theorem d_D_takePart_118 : decode prog_6_method_6_code 118 = .ok (.if_icmp .eq 18, 3) := by decide +kernel
theorem d_D_takePart_121 : decode prog_6_method_6_code 121 = .ok (.aload_n 0, 1) := by decide +kernel
theorem d_D_takePart_122 : decode prog_6_method_6_code 122 = .ok (.iload 5, 2) := by decide +kernel
theorem d_D_takePart_124 : decode prog_6_method_6_code 124 = .ok (.iconst 1, 1) := by decide +kernel
theorem d_D_takePart_125 : decode prog_6_method_6_code 125 = .ok (.iadd, 1) := by decide +kernel
theorem d_D_takePart_126 : decode prog_6_method_6_code 126 = .ok (.iload_n 2, 1) := by decide +kernel
theorem d_D_takePart_127 : decode prog_6_method_6_code 127 = .ok (.iload 6, 2) := by decide +kernel
theorem d_D_takePart_129 : decode prog_6_method_6_code 129 = .ok (.iload_n 3, 1) := by decide +kernel
theorem d_D_takePart_130 : decode prog_6_method_6_code 130 = .ok (.invokevirtual 65, 3) := by decide +kernel
theorem d_D_takePart_133 : decode prog_6_method_6_code 133 = .ok (.ifCond .eq 7, 3) := by decide +kernel
