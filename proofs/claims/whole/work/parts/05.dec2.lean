theorem d_D_takePart_136 : decode prog_6_method_6_code 136 = .ok (.iconst 1, 1) := by decide +kernel
theorem d_D_takePart_137 : decode prog_6_method_6_code 137 = .ok (.goto 4, 3) := by decide +kernel
theorem d_D_takePart_140 : decode prog_6_method_6_code 140 = .ok (.iconst 0, 1) := by decide +kernel
theorem d_D_takePart_141 : decode prog_6_method_6_code 141 = .ok (.ireturn, 1) := by decide +kernel
theorem d_D_findHeadEnd_0 : decode prog_6_method_8_code 0 = .ok (.iload_n 1, 1) := by decide +kernel
theorem d_D_findHeadEnd_1 : decode prog_6_method_8_code 1 = .ok (.istore_n 3, 1) := by decide +kernel
theorem d_D_findHeadEnd_2 : decode prog_6_method_8_code 2 = .ok (.iload_n 3, 1) := by decide +kernel
theorem d_D_findHeadEnd_3 : decode prog_6_method_8_code 3 = .ok (.iload_n 2, 1) := by decide +kernel
theorem d_D_findHeadEnd_4 : decode prog_6_method_8_code 4 = .ok (.if_icmp .ge 25, 3) := by decide +kernel
theorem d_D_findHeadEnd_7 : decode prog_6_method_8_code 7 = .ok (.aload_n 0, 1) := by decide +kernel
theorem d_D_findHeadEnd_8 : decode prog_6_method_8_code 8 = .ok (.getfield 9, 3) := by decide +kernel
theorem d_D_findHeadEnd_11 : decode prog_6_method_8_code 11 = .ok (.iload_n 3, 1) := by decide +kernel
theorem d_D_findHeadEnd_12 : decode prog_6_method_8_code 12 = .ok (.iaload, 1) := by decide +kernel
theorem d_D_findHeadEnd_13 : decode prog_6_method_8_code 13 = .ok (.aload_n 0, 1) := by decide +kernel
theorem d_D_findHeadEnd_14 : decode prog_6_method_8_code 14 = .ok (.iload_n 3, 1) := by decide +kernel
theorem d_D_findHeadEnd_15 : decode prog_6_method_8_code 15 = .ok (.invokevirtual 77, 3) := by decide +kernel
theorem d_D_findHeadEnd_18 : decode prog_6_method_8_code 18 = .ok (.if_icmp .ne 5, 3) := by decide +kernel
theorem d_D_findHeadEnd_21 : decode prog_6_method_8_code 21 = .ok (.iload_n 3, 1) := by decide +kernel
theorem d_D_findHeadEnd_22 : decode prog_6_method_8_code 22 = .ok (.ireturn, 1) := by decide +kernel
theorem d_D_findHeadEnd_23 : decode prog_6_method_8_code 23 = .ok (.iinc 3 1, 3) := by decide +kernel
theorem d_D_findHeadEnd_26 : decode prog_6_method_8_code 26 = .ok (.goto (-24), 3) := by decide +kernel
theorem d_D_findHeadEnd_29 : decode prog_6_method_8_code 29 = .ok (.iload_n 2, 1) := by decide +kernel
theorem d_D_findHeadEnd_30 : decode prog_6_method_8_code 30 = .ok (.ireturn, 1) := by decide +kernel
theorem d_D_lineEnd_0 : decode prog_6_method_5_code 0 = .ok (.aload_n 0, 1) := by decide +kernel
theorem d_D_lineEnd_1 : decode prog_6_method_5_code 1 = .ok (.getfield 9, 3) := by decide +kernel
theorem d_D_lineEnd_4 : decode prog_6_method_5_code 4 = .ok (.iload_n 1, 1) := by decide +kernel
theorem d_D_lineEnd_5 : decode prog_6_method_5_code 5 = .ok (.iconst 1, 1) := by decide +kernel
theorem d_D_lineEnd_6 : decode prog_6_method_5_code 6 = .ok (.iadd, 1) := by decide +kernel
theorem d_D_lineEnd_7 : decode prog_6_method_5_code 7 = .ok (.iaload, 1) := by decide +kernel
theorem d_D_lineEnd_8 : decode prog_6_method_5_code 8 = .ok (.iconst 1, 1) := by decide +kernel
theorem d_D_lineEnd_9 : decode prog_6_method_5_code 9 = .ok (.isub, 1) := by decide +kernel
theorem d_D_lineEnd_10 : decode prog_6_method_5_code 10 = .ok (.ireturn, 1) := by decide +kernel
theorem d_D_isHeadRight_0 : decode prog_6_method_9_code 0 = .ok (.iload_n 1, 1) := by decide +kernel
theorem d_D_isHeadRight_1 : decode prog_6_method_9_code 1 = .ok (.istore_n 3, 1) := by decide +kernel
theorem d_D_isHeadRight_2 : decode prog_6_method_9_code 2 = .ok (.iload_n 3, 1) := by decide +kernel
theorem d_D_isHeadRight_3 : decode prog_6_method_9_code 3 = .ok (.iload_n 2, 1) := by decide +kernel
theorem d_D_isHeadRight_4 : decode prog_6_method_9_code 4 = .ok (.if_icmp .ge 54, 3) := by decide +kernel
theorem d_D_isHeadRight_7 : decode prog_6_method_9_code 7 = .ok (.iload_n 3, 1) := by decide +kernel
theorem d_D_isHeadRight_8 : decode prog_6_method_9_code 8 = .ok (.iload_n 1, 1) := by decide +kernel
theorem d_D_isHeadRight_9 : decode prog_6_method_9_code 9 = .ok (.if_icmp .le 25, 3) := by decide +kernel
theorem d_D_isHeadRight_12 : decode prog_6_method_9_code 12 = .ok (.aload_n 0, 1) := by decide +kernel
theorem d_D_isHeadRight_13 : decode prog_6_method_9_code 13 = .ok (.getfield 31, 3) := by decide +kernel
theorem d_D_isHeadRight_16 : decode prog_6_method_9_code 16 = .ok (.aload_n 0, 1) := by decide +kernel
theorem d_D_isHeadRight_17 : decode prog_6_method_9_code 17 = .ok (.getfield 9, 3) := by decide +kernel
theorem d_D_isHeadRight_20 : decode prog_6_method_9_code 20 = .ok (.iload_n 3, 1) := by decide +kernel
theorem d_D_isHeadRight_21 : decode prog_6_method_9_code 21 = .ok (.iaload, 1) := by decide +kernel
theorem d_D_isHeadRight_22 : decode prog_6_method_9_code 22 = .ok (.invokevirtual 50, 3) := by decide +kernel
theorem d_D_isHeadRight_25 : decode prog_6_method_9_code 25 = .ok (.bipush 32, 2) := by decide +kernel
theorem d_D_isHeadRight_27 : decode prog_6_method_9_code 27 = .ok (.if_icmp .ne 7, 3) := by decide +kernel
theorem d_D_isHeadRight_30 : decode prog_6_method_9_code 30 = .ok (.iconst 1, 1) := by decide +kernel
theorem d_D_isHeadRight_31 : decode prog_6_method_9_code 31 = .ok (.goto 4, 3) := by decide +kernel
theorem d_D_isHeadRight_34 : decode prog_6_method_9_code 34 = .ok (.iconst 0, 1) := by decide +kernel
theorem d_D_isHeadRight_35 : decode prog_6_method_9_code 35 = .ok (.istore 4, 2) := by decide +kernel
theorem d_D_isHeadRight_37 : decode prog_6_method_9_code 37 = .ok (.iload 4, 2) := by decide +kernel
theorem d_D_isHeadRight_39 : decode prog_6_method_9_code 39 = .ok (.ifCond .ne 13, 3) := by decide +kernel
theorem d_D_isHeadRight_42 : decode prog_6_method_9_code 42 = .ok (.aload_n 0, 1) := by decide +kernel
theorem d_D_isHeadRight_43 : decode prog_6_method_9_code 43 = .ok (.iload_n 3, 1) := by decide +kernel
theorem d_D_isHeadRight_44 : decode prog_6_method_9_code 44 = .ok (.invokevirtual 80, 3) := by decide +kernel
theorem d_D_isHeadRight_47 : decode prog_6_method_9_code 47 = .ok (.ifCond .ne 5, 3) := by decide +kernel
theorem d_D_isHeadRight_50 : decode prog_6_method_9_code 50 = .ok (.iconst 0, 1) := by decide +kernel
theorem d_D_isHeadRight_51 : decode prog_6_method_9_code 51 = .ok (.ireturn, 1) := by decide +kernel
theorem d_D_isHeadRight_52 : decode prog_6_method_9_code 52 = .ok (.iinc 3 1, 3) := by decide +kernel
theorem d_D_isHeadRight_55 : decode prog_6_method_9_code 55 = .ok (.goto (-53), 3) := by decide +kernel
theorem d_D_isHeadRight_58 : decode prog_6_method_9_code 58 = .ok (.iconst 1, 1) := by decide +kernel
theorem d_D_isHeadRight_59 : decode prog_6_method_9_code 59 = .ok (.ireturn, 1) := by decide +kernel
theorem d_D_isField_0 : decode prog_6_method_10_code 0 = .ok (.aload_n 0, 1) := by decide +kernel
theorem d_D_isField_1 : decode prog_6_method_10_code 1 = .ok (.getfield 9, 3) := by decide +kernel
theorem d_D_isField_4 : decode prog_6_method_10_code 4 = .ok (.iload_n 1, 1) := by decide +kernel
theorem d_D_isField_5 : decode prog_6_method_10_code 5 = .ok (.iaload, 1) := by decide +kernel
theorem d_D_isField_6 : decode prog_6_method_10_code 6 = .ok (.istore_n 2, 1) := by decide +kernel
theorem d_D_isField_7 : decode prog_6_method_10_code 7 = .ok (.aload_n 0, 1) := by decide +kernel
theorem d_D_isField_8 : decode prog_6_method_10_code 8 = .ok (.iload_n 1, 1) := by decide +kernel
theorem d_D_isField_9 : decode prog_6_method_10_code 9 = .ok (.invokevirtual 77, 3) := by decide +kernel
theorem d_D_isField_12 : decode prog_6_method_10_code 12 = .ok (.istore_n 3, 1) := by decide +kernel
theorem d_D_isField_13 : decode prog_6_method_10_code 13 = .ok (.iload_n 2, 1) := by decide +kernel
theorem d_D_isField_14 : decode prog_6_method_10_code 14 = .ok (.istore 4, 2) := by decide +kernel
theorem d_D_isField_16 : decode prog_6_method_10_code 16 = .ok (.iload 4, 2) := by decide +kernel
theorem d_D_isField_18 : decode prog_6_method_10_code 18 = .ok (.iload_n 3, 1) := by decide +kernel
theorem d_D_isField_19 : decode prog_6_method_10_code 19 = .ok (.if_icmp .ge 56, 3) := by decide +kernel
theorem d_D_isField_22 : decode prog_6_method_10_code 22 = .ok (.aload_n 0, 1) := by decide +kernel
theorem d_D_isField_23 : decode prog_6_method_10_code 23 = .ok (.getfield 31, 3) := by decide +kernel
theorem d_D_isField_26 : decode prog_6_method_10_code 26 = .ok (.iload 4, 2) := by decide +kernel
theorem d_D_isField_28 : decode prog_6_method_10_code 28 = .ok (.invokevirtual 50, 3) := by decide +kernel
theorem d_D_isField_31 : decode prog_6_method_10_code 31 = .ok (.istore 5, 2) := by decide +kernel
theorem d_D_isField_33 : decode prog_6_method_10_code 33 = .ok (.iload 5, 2) := by decide +kernel
theorem d_D_isField_35 : decode prog_6_method_10_code 35 = .ok (.bipush 58, 2) := by decide +kernel
theorem d_D_isField_37 : decode prog_6_method_10_code 37 = .ok (.if_icmp .ne 15, 3) := by decide +kernel
theorem d_D_isField_40 : decode prog_6_method_10_code 40 = .ok (.iload 4, 2) := by decide +kernel
theorem d_D_isField_42 : decode prog_6_method_10_code 42 = .ok (.iload_n 2, 1) := by decide +kernel
theorem d_D_isField_43 : decode prog_6_method_10_code 43 = .ok (.if_icmp .le 7, 3) := by decide +kernel
theorem d_D_isField_46 : decode prog_6_method_10_code 46 = .ok (.iconst 1, 1) := by decide +kernel
theorem d_D_isField_47 : decode prog_6_method_10_code 47 = .ok (.goto 4, 3) := by decide +kernel
theorem d_D_isField_50 : decode prog_6_method_10_code 50 = .ok (.iconst 0, 1) := by decide +kernel
theorem d_D_isField_51 : decode prog_6_method_10_code 51 = .ok (.ireturn, 1) := by decide +kernel
theorem d_D_isField_52 : decode prog_6_method_10_code 52 = .ok (.iload 5, 2) := by decide +kernel
theorem d_D_isField_54 : decode prog_6_method_10_code 54 = .ok (.invokestatic 84, 3) := by decide +kernel
theorem d_D_isField_57 : decode prog_6_method_10_code 57 = .ok (.ifCond .ne 12, 3) := by decide +kernel
theorem d_D_isField_60 : decode prog_6_method_10_code 60 = .ok (.iload 5, 2) := by decide +kernel
theorem d_D_isField_62 : decode prog_6_method_10_code 62 = .ok (.bipush 45, 2) := by decide +kernel
theorem d_D_isField_64 : decode prog_6_method_10_code 64 = .ok (.if_icmp .eq 5, 3) := by decide +kernel
theorem d_D_isField_67 : decode prog_6_method_10_code 67 = .ok (.iconst 0, 1) := by decide +kernel
theorem d_D_isField_68 : decode prog_6_method_10_code 68 = .ok (.ireturn, 1) := by decide +kernel
theorem d_D_isField_69 : decode prog_6_method_10_code 69 = .ok (.iinc 4 1, 3) := by decide +kernel
theorem d_D_isField_72 : decode prog_6_method_10_code 72 = .ok (.goto (-56), 3) := by decide +kernel
theorem d_D_isField_75 : decode prog_6_method_10_code 75 = .ok (.iconst 0, 1) := by decide +kernel
theorem d_D_isField_76 : decode prog_6_method_10_code 76 = .ok (.ireturn, 1) := by decide +kernel
theorem d_D_findBoundary_0 : decode prog_6_method_11_code 0 = .ok (.iload_n 1, 1) := by decide +kernel
theorem d_D_findBoundary_1 : decode prog_6_method_11_code 1 = .ok (.istore_n 3, 1) := by decide +kernel
theorem d_D_findBoundary_2 : decode prog_6_method_11_code 2 = .ok (.iload_n 3, 1) := by decide +kernel
theorem d_D_findBoundary_3 : decode prog_6_method_11_code 3 = .ok (.iload_n 2, 1) := by decide +kernel
theorem d_D_findBoundary_4 : decode prog_6_method_11_code 4 = .ok (.if_icmp .ge 49, 3) := by decide +kernel
theorem d_D_findBoundary_7 : decode prog_6_method_11_code 7 = .ok (.aload_n 0, 1) := by decide +kernel
theorem d_D_findBoundary_8 : decode prog_6_method_11_code 8 = .ok (.getfield 31, 3) := by decide +kernel
theorem d_D_findBoundary_11 : decode prog_6_method_11_code 11 = .ok (.aload_n 0, 1) := by decide +kernel
theorem d_D_findBoundary_12 : decode prog_6_method_11_code 12 = .ok (.getfield 9, 3) := by decide +kernel
theorem d_D_findBoundary_15 : decode prog_6_method_11_code 15 = .ok (.iload_n 3, 1) := by decide +kernel
theorem d_D_findBoundary_16 : decode prog_6_method_11_code 16 = .ok (.iaload, 1) := by decide +kernel
theorem d_D_findBoundary_17 : decode prog_6_method_11_code 17 = .ok (.ldc 90, 2) := by decide +kernel
theorem d_D_findBoundary_19 : decode prog_6_method_11_code 19 = .ok (.invokevirtual 92, 3) := by decide +kernel
theorem d_D_findBoundary_22 : decode prog_6_method_11_code 22 = .ok (.ifCond .eq 25, 3) := by decide +kernel
theorem d_D_findBoundary_25 : decode prog_6_method_11_code 25 = .ok (.aload_n 0, 1) := by decide +kernel
theorem d_D_findBoundary_26 : decode prog_6_method_11_code 26 = .ok (.aload_n 0, 1) := by decide +kernel
theorem d_D_findBoundary_27 : decode prog_6_method_11_code 27 = .ok (.getfield 9, 3) := by decide +kernel
theorem d_D_findBoundary_30 : decode prog_6_method_11_code 30 = .ok (.iload_n 3, 1) := by decide +kernel
theorem d_D_findBoundary_31 : decode prog_6_method_11_code 31 = .ok (.iaload, 1) := by decide +kernel
theorem d_D_findBoundary_32 : decode prog_6_method_11_code 32 = .ok (.ldc 90, 2) := by decide +kernel
theorem d_D_findBoundary_34 : decode prog_6_method_11_code 34 = .ok (.invokevirtual 96, 3) := by decide +kernel
theorem d_D_findBoundary_37 : decode prog_6_method_11_code 37 = .ok (.iadd, 1) := by decide +kernel
theorem d_D_findBoundary_38 : decode prog_6_method_11_code 38 = .ok (.aload_n 0, 1) := by decide +kernel
theorem d_D_findBoundary_39 : decode prog_6_method_11_code 39 = .ok (.iload_n 3, 1) := by decide +kernel
theorem d_D_findBoundary_40 : decode prog_6_method_11_code 40 = .ok (.invokevirtual 77, 3) := by decide +kernel
theorem d_D_findBoundary_43 : decode prog_6_method_11_code 43 = .ok (.invokevirtual 101, 3) := by decide +kernel
theorem d_D_findBoundary_46 : decode prog_6_method_11_code 46 = .ok (.ireturn, 1) := by decide +kernel
theorem d_D_findBoundary_47 : decode prog_6_method_11_code 47 = .ok (.iinc 3 1, 3) := by decide +kernel
theorem d_D_findBoundary_50 : decode prog_6_method_11_code 50 = .ok (.goto (-48), 3) := by decide +kernel
theorem d_D_findBoundary_53 : decode prog_6_method_11_code 53 = .ok (.iconst (-1), 1) := by decide +kernel
theorem d_D_findBoundary_54 : decode prog_6_method_11_code 54 = .ok (.ireturn, 1) := by decide +kernel
theorem d_D_findBoundaryBetween_0 : decode prog_6_method_12_code 0 = .ok (.iload_n 1, 1) := by decide +kernel
theorem d_D_findBoundaryBetween_1 : decode prog_6_method_12_code 1 = .ok (.istore_n 3, 1) := by decide +kernel
theorem d_D_findBoundaryBetween_2 : decode prog_6_method_12_code 2 = .ok (.iload_n 3, 1) := by decide +kernel
theorem d_D_findBoundaryBetween_3 : decode prog_6_method_12_code 3 = .ok (.iload_n 2, 1) := by decide +kernel
theorem d_D_findBoundaryBetween_4 : decode prog_6_method_12_code 4 = .ok (.if_icmp .ge 22, 3) := by decide +kernel
theorem d_D_findBoundaryBetween_7 : decode prog_6_method_12_code 7 = .ok (.aload_n 0, 1) := by decide +kernel
theorem d_D_findBoundaryBetween_8 : decode prog_6_method_12_code 8 = .ok (.getfield 31, 3) := by decide +kernel
theorem d_D_findBoundaryBetween_11 : decode prog_6_method_12_code 11 = .ok (.iload_n 3, 1) := by decide +kernel
theorem d_D_findBoundaryBetween_12 : decode prog_6_method_12_code 12 = .ok (.invokevirtual 50, 3) := by decide +kernel
theorem d_D_findBoundaryBetween_15 : decode prog_6_method_12_code 15 = .ok (.bipush 32, 2) := by decide +kernel
theorem d_D_findBoundaryBetween_17 : decode prog_6_method_12_code 17 = .ok (.if_icmp .ne 9, 3) := by decide +kernel
theorem d_D_findBoundaryBetween_20 : decode prog_6_method_12_code 20 = .ok (.iinc 3 1, 3) := by decide +kernel
theorem d_D_findBoundaryBetween_23 : decode prog_6_method_12_code 23 = .ok (.goto (-21), 3) := by decide +kernel
theorem d_D_findBoundaryBetween_26 : decode prog_6_method_12_code 26 = .ok (.aload_n 0, 1) := by decide +kernel
theorem d_D_findBoundaryBetween_27 : decode prog_6_method_12_code 27 = .ok (.getfield 31, 3) := by decide +kernel
theorem d_D_findBoundaryBetween_30 : decode prog_6_method_12_code 30 = .ok (.iload_n 3, 1) := by decide +kernel
theorem d_D_findBoundaryBetween_31 : decode prog_6_method_12_code 31 = .ok (.ldc 104, 2) := by decide +kernel
theorem d_D_findBoundaryBetween_33 : decode prog_6_method_12_code 33 = .ok (.invokevirtual 92, 3) := by decide +kernel
theorem d_D_findBoundaryBetween_36 : decode prog_6_method_12_code 36 = .ok (.ifCond .ne 5, 3) := by decide +kernel
theorem d_D_findBoundaryBetween_39 : decode prog_6_method_12_code 39 = .ok (.iconst (-1), 1) := by decide +kernel
theorem d_D_findBoundaryBetween_40 : decode prog_6_method_12_code 40 = .ok (.ireturn, 1) := by decide +kernel
theorem d_D_findBoundaryBetween_41 : decode prog_6_method_12_code 41 = .ok (.iload_n 3, 1) := by decide +kernel
theorem d_D_findBoundaryBetween_42 : decode prog_6_method_12_code 42 = .ok (.ldc 104, 2) := by decide +kernel
theorem d_D_findBoundaryBetween_44 : decode prog_6_method_12_code 44 = .ok (.invokevirtual 96, 3) := by decide +kernel
theorem d_D_findBoundaryBetween_47 : decode prog_6_method_12_code 47 = .ok (.iadd, 1) := by decide +kernel
theorem d_D_findBoundaryBetween_48 : decode prog_6_method_12_code 48 = .ok (.istore 4, 2) := by decide +kernel
theorem d_D_findBoundaryBetween_50 : decode prog_6_method_12_code 50 = .ok (.iload 4, 2) := by decide +kernel
theorem d_D_findBoundaryBetween_52 : decode prog_6_method_12_code 52 = .ok (.iload_n 2, 1) := by decide +kernel
theorem d_D_findBoundaryBetween_53 : decode prog_6_method_12_code 53 = .ok (.if_icmp .ge 61, 3) := by decide +kernel
theorem d_D_findBoundaryBetween_56 : decode prog_6_method_12_code 56 = .ok (.aload_n 0, 1) := by decide +kernel
theorem d_D_findBoundaryBetween_57 : decode prog_6_method_12_code 57 = .ok (.getfield 31, 3) := by decide +kernel
theorem d_D_findBoundaryBetween_60 : decode prog_6_method_12_code 60 = .ok (.iload 4, 2) := by decide +kernel
theorem d_D_findBoundaryBetween_62 : decode prog_6_method_12_code 62 = .ok (.ldc 106, 2) := by decide +kernel
theorem d_D_findBoundaryBetween_64 : decode prog_6_method_12_code 64 = .ok (.invokevirtual 92, 3) := by decide +kernel
theorem d_D_findBoundaryBetween_67 : decode prog_6_method_12_code 67 = .ok (.ifCond .eq 41, 3) := by decide +kernel
theorem d_D_findBoundaryBetween_70 : decode prog_6_method_12_code 70 = .ok (.iload 4, 2) := by decide +kernel
theorem d_D_findBoundaryBetween_72 : decode prog_6_method_12_code 72 = .ok (.ldc 106, 2) := by decide +kernel
theorem d_D_findBoundaryBetween_74 : decode prog_6_method_12_code 74 = .ok (.invokevirtual 96, 3) := by decide +kernel
theorem d_D_findBoundaryBetween_77 : decode prog_6_method_12_code 77 = .ok (.iadd, 1) := by decide +kernel
theorem d_D_findBoundaryBetween_78 : decode prog_6_method_12_code 78 = .ok (.istore 5, 2) := by decide +kernel
theorem d_D_findBoundaryBetween_80 : decode prog_6_method_12_code 80 = .ok (.aload_n 0, 1) := by decide +kernel
theorem d_D_findBoundaryBetween_81 : decode prog_6_method_12_code 81 = .ok (.iload 5, 2) := by decide +kernel
theorem d_D_findBoundaryBetween_83 : decode prog_6_method_12_code 83 = .ok (.invokevirtual 69, 3) := by decide +kernel
theorem d_D_findBoundaryBetween_86 : decode prog_6_method_12_code 86 = .ok (.istore 6, 2) := by decide +kernel
theorem d_D_findBoundaryBetween_88 : decode prog_6_method_12_code 88 = .ok (.iload 6, 2) := by decide +kernel
theorem d_D_findBoundaryBetween_90 : decode prog_6_method_12_code 90 = .ok (.iconst 1, 1) := by decide +kernel
theorem d_D_findBoundaryBetween_91 : decode prog_6_method_12_code 91 = .ok (.if_icmp .lt 15, 3) := by decide +kernel
theorem d_D_findBoundaryBetween_94 : decode prog_6_method_12_code 94 = .ok (.iload 6, 2) := by decide +kernel
theorem d_D_findBoundaryBetween_96 : decode prog_6_method_12_code 96 = .ok (.bipush 20, 2) := by decide +kernel
theorem d_D_findBoundaryBetween_98 : decode prog_6_method_12_code 98 = .ok (.if_icmp .gt 8, 3) := by decide +kernel
theorem d_D_findBoundaryBetween_101 : decode prog_6_method_12_code 101 = .ok (.iload 5, 2) := by decide +kernel
theorem d_D_findBoundaryBetween_103 : decode prog_6_method_12_code 103 = .ok (.goto 4, 3) := by decide +kernel
theorem d_D_findBoundaryBetween_106 : decode prog_6_method_12_code 106 = .ok (.iconst (-1), 1) := by decide +kernel
theorem d_D_findBoundaryBetween_107 : decode prog_6_method_12_code 107 = .ok (.ireturn, 1) := by decide +kernel
theorem d_D_findBoundaryBetween_108 : decode prog_6_method_12_code 108 = .ok (.iinc 4 1, 3) := by decide +kernel
theorem d_D_findBoundaryBetween_111 : decode prog_6_method_12_code 111 = .ok (.goto (-61), 3) := by decide +kernel
theorem d_D_findBoundaryBetween_114 : decode prog_6_method_12_code 114 = .ok (.iconst (-1), 1) := by decide +kernel
theorem d_D_findBoundaryBetween_115 : decode prog_6_method_12_code 115 = .ok (.ireturn, 1) := by decide +kernel
theorem d_D_boundaryLength_0 : decode prog_6_method_13_code 0 = .ok (.iload_n 1, 1) := by decide +kernel
theorem d_D_boundaryLength_1 : decode prog_6_method_13_code 1 = .ok (.istore_n 2, 1) := by decide +kernel
theorem d_D_boundaryLength_2 : decode prog_6_method_13_code 2 = .ok (.iload_n 2, 1) := by decide +kernel
theorem d_D_boundaryLength_3 : decode prog_6_method_13_code 3 = .ok (.aload_n 0, 1) := by decide +kernel
theorem d_D_boundaryLength_4 : decode prog_6_method_13_code 4 = .ok (.getfield 31, 3) := by decide +kernel
theorem d_D_boundaryLength_7 : decode prog_6_method_13_code 7 = .ok (.getfield 45, 3) := by decide +kernel
theorem d_D_boundaryLength_10 : decode prog_6_method_13_code 10 = .ok (.if_icmp .ge 23, 3) := by decide +kernel
theorem d_D_boundaryLength_13 : decode prog_6_method_13_code 13 = .ok (.aload_n 0, 1) := by decide +kernel
theorem d_D_boundaryLength_14 : decode prog_6_method_13_code 14 = .ok (.getfield 31, 3) := by decide +kernel
theorem d_D_boundaryLength_17 : decode prog_6_method_13_code 17 = .ok (.iload_n 2, 1) := by decide +kernel
theorem d_D_boundaryLength_18 : decode prog_6_method_13_code 18 = .ok (.invokevirtual 50, 3) := by decide +kernel
theorem d_D_boundaryLength_21 : decode prog_6_method_13_code 21 = .ok (.invokestatic 84, 3) := by decide +kernel
theorem d_D_boundaryLength_24 : decode prog_6_method_13_code 24 = .ok (.ifCond .eq 9, 3) := by decide +kernel
theorem d_D_boundaryLength_27 : decode prog_6_method_13_code 27 = .ok (.iinc 2 1, 3) := by decide +kernel
theorem d_D_boundaryLength_30 : decode prog_6_method_13_code 30 = .ok (.goto (-28), 3) := by decide +kernel
theorem d_D_boundaryLength_33 : decode prog_6_method_13_code 33 = .ok (.iload_n 2, 1) := by decide +kernel
theorem d_D_boundaryLength_34 : decode prog_6_method_13_code 34 = .ok (.iload_n 1, 1) := by decide +kernel
theorem d_D_boundaryLength_35 : decode prog_6_method_13_code 35 = .ok (.isub, 1) := by decide +kernel
theorem d_D_boundaryLength_36 : decode prog_6_method_13_code 36 = .ok (.ireturn, 1) := by decide +kernel
theorem d_D_takeBody_0 : decode prog_6_method_7_code 0 = .ok (.aload_n 0, 1) := by decide +kernel
theorem d_D_takeBody_1 : decode prog_6_method_7_code 1 = .ok (.iload_n 3, 1) := by decide +kernel
theorem d_D_takeBody_2 : decode prog_6_method_7_code 2 = .ok (.invokevirtual 69, 3) := by decide +kernel
theorem d_D_takeBody_5 : decode prog_6_method_7_code 5 = .ok (.istore 5, 2) := by decide +kernel
theorem d_D_takeBody_7 : decode prog_6_method_7_code 7 = .ok (.iconst (-1), 1) := by decide +kernel
theorem d_D_takeBody_8 : decode prog_6_method_7_code 8 = .ok (.istore 6, 2) := by decide +kernel
theorem d_D_takeBody_10 : decode prog_6_method_7_code 10 = .ok (.iload_n 1, 1) := by decide +kernel
theorem d_D_takeBody_11 : decode prog_6_method_7_code 11 = .ok (.istore 7, 2) := by decide +kernel
theorem d_D_takeBody_13 : decode prog_6_method_7_code 13 = .ok (.iload 7, 2) := by decide +kernel
theorem d_D_takeBody_15 : decode prog_6_method_7_code 15 = .ok (.iload_n 2, 1) := by decide +kernel
theorem d_D_takeBody_16 : decode prog_6_method_7_code 16 = .ok (.if_icmp .ge 75, 3) := by decide +kernel
theorem d_D_takeBody_19 : decode prog_6_method_7_code 19 = .ok (.aload_n 0, 1) := by decide +kernel
theorem d_D_takeBody_20 : decode prog_6_method_7_code 20 = .ok (.iload 7, 2) := by decide +kernel
theorem d_D_takeBody_22 : decode prog_6_method_7_code 22 = .ok (.iload_n 3, 1) := by decide +kernel
theorem d_D_takeBody_23 : decode prog_6_method_7_code 23 = .ok (.iload 5, 2) := by decide +kernel
theorem d_D_takeBody_25 : decode prog_6_method_7_code 25 = .ok (.invokevirtual 73, 3) := by decide +kernel
theorem d_D_takeBody_28 : decode prog_6_method_7_code 28 = .ok (.istore 8, 2) := by decide +kernel
theorem d_D_takeBody_30 : decode prog_6_method_7_code 30 = .ok (.iload 8, 2) := by decide +kernel
theorem d_D_takeBody_32 : decode prog_6_method_7_code 32 = .ok (.ifCond .ne 6, 3) := by decide +kernel
theorem d_D_takeBody_35 : decode prog_6_method_7_code 35 = .ok (.goto 50, 3) := by decide +kernel
theorem d_D_takeBody_38 : decode prog_6_method_7_code 38 = .ok (.iload 6, 2) := by decide +kernel
theorem d_D_takeBody_40 : decode prog_6_method_7_code 40 = .ok (.iconst (-1), 1) := by decide +kernel
theorem d_D_takeBody_41 : decode prog_6_method_7_code 41 = .ok (.if_icmp .eq 20, 3) := by decide +kernel
theorem d_D_takeBody_44 : decode prog_6_method_7_code 44 = .ok (.aload_n 0, 1) := by decide +kernel
theorem d_D_takeBody_45 : decode prog_6_method_7_code 45 = .ok (.iload 6, 2) := by decide +kernel
theorem d_D_takeBody_47 : decode prog_6_method_7_code 47 = .ok (.iload 7, 2) := by decide +kernel
theorem d_D_takeBody_49 : decode prog_6_method_7_code 49 = .ok (.iload 4, 2) := by decide +kernel
theorem d_D_takeBody_51 : decode prog_6_method_7_code 51 = .ok (.iconst 1, 1) := by decide +kernel
theorem d_D_takeBody_52 : decode prog_6_method_7_code 52 = .ok (.iadd, 1) := by decide +kernel
theorem d_D_takeBody_53 : decode prog_6_method_7_code 53 = .ok (.invokevirtual 41, 3) := by decide +kernel
theorem d_D_takeBody_56 : decode prog_6_method_7_code 56 = .ok (.ifCond .ne 5, 3) := by decide +kernel
theorem d_D_takeBody_59 : decode prog_6_method_7_code 59 = .ok (.iconst 0, 1) := by decide +kernel
theorem d_D_takeBody_60 : decode prog_6_method_7_code 60 = .ok (.ireturn, 1) := by decide +kernel
theorem d_D_takeBody_61 : decode prog_6_method_7_code 61 = .ok (.iload 8, 2) := by decide +kernel
theorem d_D_takeBody_63 : decode prog_6_method_7_code 63 = .ok (.iconst 2, 1) := by decide +kernel
theorem d_D_takeBody_64 : decode prog_6_method_7_code 64 = .ok (.if_icmp .ne 15, 3) := by decide +kernel
theorem d_D_takeBody_67 : decode prog_6_method_7_code 67 = .ok (.iload 6, 2) := by decide +kernel
theorem d_D_takeBody_69 : decode prog_6_method_7_code 69 = .ok (.iconst (-1), 1) := by decide +kernel
theorem d_D_takeBody_70 : decode prog_6_method_7_code 70 = .ok (.if_icmp .eq 7, 3) := by decide +kernel
theorem d_D_takeBody_73 : decode prog_6_method_7_code 73 = .ok (.iconst 1, 1) := by decide +kernel
theorem d_D_takeBody_74 : decode prog_6_method_7_code 74 = .ok (.goto 4, 3) := by decide +kernel
theorem d_D_takeBody_77 : decode prog_6_method_7_code 77 = .ok (.iconst 0, 1) := by decide +kernel
theorem d_D_takeBody_78 : decode prog_6_method_7_code 78 = .ok (.ireturn, 1) := by decide +kernel
theorem d_D_takeBody_79 : decode prog_6_method_7_code 79 = .ok (.iload 7, 2) := by decide +kernel
theorem d_D_takeBody_81 : decode prog_6_method_7_code 81 = .ok (.iconst 1, 1) := by decide +kernel
theorem d_D_takeBody_82 : decode prog_6_method_7_code 82 = .ok (.iadd, 1) := by decide +kernel
theorem d_D_takeBody_83 : decode prog_6_method_7_code 83 = .ok (.istore 6, 2) := by decide +kernel
theorem d_D_takeBody_85 : decode prog_6_method_7_code 85 = .ok (.iinc 7 1, 3) := by decide +kernel
theorem d_D_takeBody_88 : decode prog_6_method_7_code 88 = .ok (.goto (-75), 3) := by decide +kernel
theorem d_D_takeBody_91 : decode prog_6_method_7_code 91 = .ok (.iconst 0, 1) := by decide +kernel
theorem d_D_takeBody_92 : decode prog_6_method_7_code 92 = .ok (.ireturn, 1) := by decide +kernel
theorem d_D_borderKind_0 : decode prog_6_method_14_code 0 = .ok (.aload_n 0, 1) := by decide +kernel
theorem d_D_borderKind_1 : decode prog_6_method_14_code 1 = .ok (.getfield 9, 3) := by decide +kernel
theorem d_D_borderKind_4 : decode prog_6_method_14_code 4 = .ok (.iload_n 1, 1) := by decide +kernel
theorem d_D_borderKind_5 : decode prog_6_method_14_code 5 = .ok (.iaload, 1) := by decide +kernel
theorem d_D_borderKind_6 : decode prog_6_method_14_code 6 = .ok (.istore 4, 2) := by decide +kernel
theorem d_D_borderKind_8 : decode prog_6_method_14_code 8 = .ok (.iload 4, 2) := by decide +kernel
theorem d_D_borderKind_10 : decode prog_6_method_14_code 10 = .ok (.iconst 2, 1) := by decide +kernel
theorem d_D_borderKind_11 : decode prog_6_method_14_code 11 = .ok (.iadd, 1) := by decide +kernel
theorem d_D_borderKind_12 : decode prog_6_method_14_code 12 = .ok (.iload_n 3, 1) := by decide +kernel
theorem d_D_borderKind_13 : decode prog_6_method_14_code 13 = .ok (.iadd, 1) := by decide +kernel
theorem d_D_borderKind_14 : decode prog_6_method_14_code 14 = .ok (.istore 5, 2) := by decide +kernel
theorem d_D_borderKind_16 : decode prog_6_method_14_code 16 = .ok (.aload_n 0, 1) := by decide +kernel
theorem d_D_borderKind_17 : decode prog_6_method_14_code 17 = .ok (.iload 4, 2) := by decide +kernel
theorem d_D_borderKind_19 : decode prog_6_method_14_code 19 = .ok (.invokevirtual 108, 3) := by decide +kernel
theorem d_D_borderKind_22 : decode prog_6_method_14_code 22 = .ok (.ifCond .eq 16, 3) := by decide +kernel
theorem d_D_borderKind_25 : decode prog_6_method_14_code 25 = .ok (.aload_n 0, 1) := by decide +kernel
theorem d_D_borderKind_26 : decode prog_6_method_14_code 26 = .ok (.iload 4, 2) := by decide +kernel
theorem d_D_borderKind_28 : decode prog_6_method_14_code 28 = .ok (.iconst 2, 1) := by decide +kernel
theorem d_D_borderKind_29 : decode prog_6_method_14_code 29 = .ok (.iadd, 1) := by decide +kernel
theorem d_D_borderKind_30 : decode prog_6_method_14_code 30 = .ok (.iload_n 2, 1) := by decide +kernel
theorem d_D_borderKind_31 : decode prog_6_method_14_code 31 = .ok (.iload_n 3, 1) := by decide +kernel
theorem d_D_borderKind_32 : decode prog_6_method_14_code 32 = .ok (.invokevirtual 111, 3) := by decide +kernel
theorem d_D_borderKind_35 : decode prog_6_method_14_code 35 = .ok (.ifCond .ne 5, 3) := by decide +kernel
theorem d_D_borderKind_38 : decode prog_6_method_14_code 38 = .ok (.iconst 0, 1) := by decide +kernel
theorem d_D_borderKind_39 : decode prog_6_method_14_code 39 = .ok (.ireturn, 1) := by decide +kernel
theorem d_D_borderKind_40 : decode prog_6_method_14_code 40 = .ok (.iload 5, 2) := by decide +kernel
theorem d_D_borderKind_42 : decode prog_6_method_14_code 42 = .ok (.aload_n 0, 1) := by decide +kernel
theorem d_D_borderKind_43 : decode prog_6_method_14_code 43 = .ok (.iload_n 1, 1) := by decide +kernel
theorem d_D_borderKind_44 : decode prog_6_method_14_code 44 = .ok (.invokevirtual 77, 3) := by decide +kernel
theorem d_D_borderKind_47 : decode prog_6_method_14_code 47 = .ok (.if_icmp .ne 5, 3) := by decide +kernel
theorem d_D_borderKind_50 : decode prog_6_method_14_code 50 = .ok (.iconst 1, 1) := by decide +kernel
theorem d_D_borderKind_51 : decode prog_6_method_14_code 51 = .ok (.ireturn, 1) := by decide +kernel
theorem d_D_borderKind_52 : decode prog_6_method_14_code 52 = .ok (.iload 5, 2) := by decide +kernel
theorem d_D_borderKind_54 : decode prog_6_method_14_code 54 = .ok (.iconst 2, 1) := by decide +kernel
theorem d_D_borderKind_55 : decode prog_6_method_14_code 55 = .ok (.iadd, 1) := by decide +kernel
theorem d_D_borderKind_56 : decode prog_6_method_14_code 56 = .ok (.aload_n 0, 1) := by decide +kernel
theorem d_D_borderKind_57 : decode prog_6_method_14_code 57 = .ok (.iload_n 1, 1) := by decide +kernel
theorem d_D_borderKind_58 : decode prog_6_method_14_code 58 = .ok (.invokevirtual 77, 3) := by decide +kernel
theorem d_D_borderKind_61 : decode prog_6_method_14_code 61 = .ok (.if_icmp .ne 16, 3) := by decide +kernel
theorem d_D_borderKind_64 : decode prog_6_method_14_code 64 = .ok (.aload_n 0, 1) := by decide +kernel
theorem d_D_borderKind_65 : decode prog_6_method_14_code 65 = .ok (.iload 5, 2) := by decide +kernel
theorem d_D_borderKind_67 : decode prog_6_method_14_code 67 = .ok (.invokevirtual 108, 3) := by decide +kernel
theorem d_D_borderKind_70 : decode prog_6_method_14_code 70 = .ok (.ifCond .eq 7, 3) := by decide +kernel
theorem d_D_borderKind_73 : decode prog_6_method_14_code 73 = .ok (.iconst 2, 1) := by decide +kernel
theorem d_D_borderKind_74 : decode prog_6_method_14_code 74 = .ok (.goto 4, 3) := by decide +kernel
theorem d_D_borderKind_77 : decode prog_6_method_14_code 77 = .ok (.iconst 0, 1) := by decide +kernel
theorem d_D_borderKind_78 : decode prog_6_method_14_code 78 = .ok (.ireturn, 1) := by decide +kernel
theorem d_D_isDashed_0 : decode prog_6_method_15_code 0 = .ok (.aload_n 0, 1) := by decide +kernel
theorem d_D_isDashed_1 : decode prog_6_method_15_code 1 = .ok (.getfield 31, 3) := by decide +kernel
theorem d_D_isDashed_4 : decode prog_6_method_15_code 4 = .ok (.iload_n 1, 1) := by decide +kernel
theorem d_D_isDashed_5 : decode prog_6_method_15_code 5 = .ok (.invokevirtual 50, 3) := by decide +kernel
theorem d_D_isDashed_8 : decode prog_6_method_15_code 8 = .ok (.bipush 45, 2) := by decide +kernel
theorem d_D_isDashed_10 : decode prog_6_method_15_code 10 = .ok (.if_icmp .ne 22, 3) := by decide +kernel
theorem d_D_isDashed_13 : decode prog_6_method_15_code 13 = .ok (.aload_n 0, 1) := by decide +kernel
theorem d_D_isDashed_14 : decode prog_6_method_15_code 14 = .ok (.getfield 31, 3) := by decide +kernel
theorem d_D_isDashed_17 : decode prog_6_method_15_code 17 = .ok (.iload_n 1, 1) := by decide +kernel
theorem d_D_isDashed_18 : decode prog_6_method_15_code 18 = .ok (.iconst 1, 1) := by decide +kernel
theorem d_D_isDashed_19 : decode prog_6_method_15_code 19 = .ok (.iadd, 1) := by decide +kernel
theorem d_D_isDashed_20 : decode prog_6_method_15_code 20 = .ok (.invokevirtual 50, 3) := by decide +kernel
theorem d_D_isDashed_23 : decode prog_6_method_15_code 23 = .ok (.bipush 45, 2) := by decide +kernel
theorem d_D_isDashed_25 : decode prog_6_method_15_code 25 = .ok (.if_icmp .ne 7, 3) := by decide +kernel
theorem d_D_isDashed_28 : decode prog_6_method_15_code 28 = .ok (.iconst 1, 1) := by decide +kernel
theorem d_D_isDashed_29 : decode prog_6_method_15_code 29 = .ok (.goto 4, 3) := by decide +kernel
theorem d_D_isDashed_32 : decode prog_6_method_15_code 32 = .ok (.iconst 0, 1) := by decide +kernel
theorem d_D_isDashed_33 : decode prog_6_method_15_code 33 = .ok (.ireturn, 1) := by decide +kernel
theorem d_D_repeats_0 : decode prog_6_method_16_code 0 = .ok (.iconst 0, 1) := by decide +kernel
theorem d_D_repeats_1 : decode prog_6_method_16_code 1 = .ok (.istore 4, 2) := by decide +kernel
theorem d_D_repeats_3 : decode prog_6_method_16_code 3 = .ok (.iload 4, 2) := by decide +kernel
theorem d_D_repeats_5 : decode prog_6_method_16_code 5 = .ok (.iload_n 3, 1) := by decide +kernel
theorem d_D_repeats_6 : decode prog_6_method_16_code 6 = .ok (.if_icmp .ge 36, 3) := by decide +kernel
theorem d_D_repeats_9 : decode prog_6_method_16_code 9 = .ok (.aload_n 0, 1) := by decide +kernel
theorem d_D_repeats_10 : decode prog_6_method_16_code 10 = .ok (.getfield 31, 3) := by decide +kernel
theorem d_D_repeats_13 : decode prog_6_method_16_code 13 = .ok (.iload_n 1, 1) := by decide +kernel
theorem d_D_repeats_14 : decode prog_6_method_16_code 14 = .ok (.iload 4, 2) := by decide +kernel
theorem d_D_repeats_16 : decode prog_6_method_16_code 16 = .ok (.iadd, 1) := by decide +kernel
theorem d_D_repeats_17 : decode prog_6_method_16_code 17 = .ok (.invokevirtual 50, 3) := by decide +kernel
theorem d_D_repeats_20 : decode prog_6_method_16_code 20 = .ok (.aload_n 0, 1) := by decide +kernel
theorem d_D_repeats_21 : decode prog_6_method_16_code 21 = .ok (.getfield 31, 3) := by decide +kernel
theorem d_D_repeats_24 : decode prog_6_method_16_code 24 = .ok (.iload_n 2, 1) := by decide +kernel
theorem d_D_repeats_25 : decode prog_6_method_16_code 25 = .ok (.iload 4, 2) := by decide +kernel
theorem d_D_repeats_27 : decode prog_6_method_16_code 27 = .ok (.iadd, 1) := by decide +kernel
theorem d_D_repeats_28 : decode prog_6_method_16_code 28 = .ok (.invokevirtual 50, 3) := by decide +kernel
theorem d_D_repeats_31 : decode prog_6_method_16_code 31 = .ok (.if_icmp .eq 5, 3) := by decide +kernel
theorem d_D_repeats_34 : decode prog_6_method_16_code 34 = .ok (.iconst 0, 1) := by decide +kernel
theorem d_D_repeats_35 : decode prog_6_method_16_code 35 = .ok (.ireturn, 1) := by decide +kernel
theorem d_D_repeats_36 : decode prog_6_method_16_code 36 = .ok (.iinc 4 1, 3) := by decide +kernel
theorem d_D_repeats_39 : decode prog_6_method_16_code 39 = .ok (.goto (-36), 3) := by decide +kernel
theorem d_D_repeats_42 : decode prog_6_method_16_code 42 = .ok (.iconst 1, 1) := by decide +kernel
theorem d_D_repeats_43 : decode prog_6_method_16_code 43 = .ok (.ireturn, 1) := by decide +kernel
theorem d_P_part_0 : decode prog_1_method_17_code 0 = .ok (.aload_n 0, 1) := by decide +kernel
theorem d_P_part_1 : decode prog_1_method_17_code 1 = .ok (.getfield 28, 3) := by decide +kernel
theorem d_P_part_4 : decode prog_1_method_17_code 4 = .ok (.iload_n 1, 1) := by decide +kernel
theorem d_P_part_5 : decode prog_1_method_17_code 5 = .ok (.invokevirtual 131, 3) := by decide +kernel
theorem d_P_part_8 : decode prog_1_method_17_code 8 = .ok (.astore 4, 2) := by decide +kernel
theorem d_P_part_10 : decode prog_1_method_17_code 10 = .ok (.aload 4, 2) := by decide +kernel
theorem d_P_part_12 : decode prog_1_method_17_code 12 = .ok (.ifnonnull 5, 3) := by decide +kernel
theorem d_P_part_15 : decode prog_1_method_17_code 15 = .ok (.iconst (-1), 1) := by decide +kernel
theorem d_P_part_16 : decode prog_1_method_17_code 16 = .ok (.ireturn, 1) := by decide +kernel
theorem d_P_part_17 : decode prog_1_method_17_code 17 = .ok (.aload_n 0, 1) := by decide +kernel
theorem d_P_part_18 : decode prog_1_method_17_code 18 = .ok (.getfield 35, 3) := by decide +kernel
theorem d_P_part_21 : decode prog_1_method_17_code 21 = .ok (.aload 4, 2) := by decide +kernel
theorem d_P_part_23 : decode prog_1_method_17_code 23 = .ok (.invokevirtual 160, 3) := by decide +kernel
theorem d_P_part_26 : decode prog_1_method_17_code 26 = .ok (.aload_n 0, 1) := by decide +kernel
theorem d_P_part_27 : decode prog_1_method_17_code 27 = .ok (.getfield 35, 3) := by decide +kernel
theorem d_P_part_30 : decode prog_1_method_17_code 30 = .ok (.iload_n 2, 1) := by decide +kernel
theorem d_P_part_31 : decode prog_1_method_17_code 31 = .ok (.iload_n 3, 1) := by decide +kernel
theorem d_P_part_32 : decode prog_1_method_17_code 32 = .ok (.invokevirtual 167, 3) := by decide +kernel
theorem d_P_part_35 : decode prog_1_method_17_code 35 = .ok (.ireturn, 1) := by decide +kernel
theorem d_D_fact_0 : decode prog_6_method_3_code 0 = .ok (.iload_n 1, 1) := by decide +kernel
theorem d_D_fact_1 : decode prog_6_method_3_code 1 = .ok (.ifCond .lt 20, 3) := by decide +kernel
theorem d_D_fact_4 : decode prog_6_method_3_code 4 = .ok (.iload_n 1, 1) := by decide +kernel
theorem d_D_fact_5 : decode prog_6_method_3_code 5 = .ok (.aload_n 0, 1) := by decide +kernel
theorem d_D_fact_6 : decode prog_6_method_3_code 6 = .ok (.getfield 35, 3) := by decide +kernel
theorem d_D_fact_9 : decode prog_6_method_3_code 9 = .ok (.if_icmp .ge 12, 3) := by decide +kernel
theorem d_D_fact_12 : decode prog_6_method_3_code 12 = .ok (.iload_n 2, 1) := by decide +kernel
theorem d_D_fact_13 : decode prog_6_method_3_code 13 = .ok (.ifCond .lt 8, 3) := by decide +kernel
theorem d_D_fact_16 : decode prog_6_method_3_code 16 = .ok (.iload_n 2, 1) := by decide +kernel
theorem d_D_fact_17 : decode prog_6_method_3_code 17 = .ok (.iconst 4, 1) := by decide +kernel
theorem d_D_fact_18 : decode prog_6_method_3_code 18 = .ok (.if_icmp .lt 5, 3) := by decide +kernel
theorem d_D_fact_21 : decode prog_6_method_3_code 21 = .ok (.iconst (-1), 1) := by decide +kernel
theorem d_D_fact_22 : decode prog_6_method_3_code 22 = .ok (.ireturn, 1) := by decide +kernel
theorem d_D_fact_23 : decode prog_6_method_3_code 23 = .ok (.aload_n 0, 1) := by decide +kernel
theorem d_D_fact_24 : decode prog_6_method_3_code 24 = .ok (.getfield 15, 3) := by decide +kernel
theorem d_D_fact_27 : decode prog_6_method_3_code 27 = .ok (.iload_n 1, 1) := by decide +kernel
theorem d_D_fact_28 : decode prog_6_method_3_code 28 = .ok (.iconst 4, 1) := by decide +kernel
theorem d_D_fact_29 : decode prog_6_method_3_code 29 = .ok (.imul, 1) := by decide +kernel
theorem d_D_fact_30 : decode prog_6_method_3_code 30 = .ok (.iload_n 2, 1) := by decide +kernel
theorem d_D_fact_31 : decode prog_6_method_3_code 31 = .ok (.iadd, 1) := by decide +kernel
theorem d_D_fact_32 : decode prog_6_method_3_code 32 = .ok (.iaload, 1) := by decide +kernel
theorem d_D_fact_33 : decode prog_6_method_3_code 33 = .ok (.ireturn, 1) := by decide +kernel
theorem d_M_type_0 : decode prog_12_method_5_code 0 = .ok (.iconst 0, 1) := by decide +kernel
theorem d_M_type_1 : decode prog_12_method_5_code 1 = .ok (.istore_n 3, 1) := by decide +kernel
theorem d_M_type_2 : decode prog_12_method_5_code 2 = .ok (.iload_n 3, 1) := by decide +kernel
theorem d_M_type_3 : decode prog_12_method_5_code 3 = .ok (.bipush 8, 2) := by decide +kernel
theorem d_M_type_5 : decode prog_12_method_5_code 5 = .ok (.if_icmp .ge 54, 3) := by decide +kernel
theorem d_M_type_8 : decode prog_12_method_5_code 8 = .ok (.lload_n 1, 1) := by decide +kernel
theorem d_M_type_9 : decode prog_12_method_5_code 9 = .ok (.bipush 8, 2) := by decide +kernel
theorem d_M_type_11 : decode prog_12_method_5_code 11 = .ok (.iload_n 3, 1) := by decide +kernel
theorem d_M_type_12 : decode prog_12_method_5_code 12 = .ok (.imul, 1) := by decide +kernel
theorem d_M_type_13 : decode prog_12_method_5_code 13 = .ok (.lshr, 1) := by decide +kernel
theorem d_M_type_14 : decode prog_12_method_5_code 14 = .ok (.ldc2_w 77, 3) := by decide +kernel
theorem d_M_type_17 : decode prog_12_method_5_code 17 = .ok (.land, 1) := by decide +kernel
theorem d_M_type_18 : decode prog_12_method_5_code 18 = .ok (.lconst 0, 1) := by decide +kernel
theorem d_M_type_19 : decode prog_12_method_5_code 19 = .ok (.lcmp, 1) := by decide +kernel
theorem d_M_type_20 : decode prog_12_method_5_code 20 = .ok (.ifCond .eq 39, 3) := by decide +kernel
theorem d_M_type_23 : decode prog_12_method_5_code 23 = .ok (.lload_n 1, 1) := by decide +kernel
theorem d_M_type_24 : decode prog_12_method_5_code 24 = .ok (.bipush 8, 2) := by decide +kernel
theorem d_M_type_26 : decode prog_12_method_5_code 26 = .ok (.iload_n 3, 1) := by decide +kernel
theorem d_M_type_27 : decode prog_12_method_5_code 27 = .ok (.imul, 1) := by decide +kernel
theorem d_M_type_28 : decode prog_12_method_5_code 28 = .ok (.lshr, 1) := by decide +kernel
theorem d_M_type_29 : decode prog_12_method_5_code 29 = .ok (.ldc2_w 77, 3) := by decide +kernel
theorem d_M_type_32 : decode prog_12_method_5_code 32 = .ok (.land, 1) := by decide +kernel
theorem d_M_type_33 : decode prog_12_method_5_code 33 = .ok (.l2i, 1) := by decide +kernel
theorem d_M_type_34 : decode prog_12_method_5_code 34 = .ok (.istore 4, 2) := by decide +kernel
theorem d_M_type_36 : decode prog_12_method_5_code 36 = .ok (.iload 4, 2) := by decide +kernel
theorem d_M_type_38 : decode prog_12_method_5_code 38 = .ok (.bipush 32, 2) := by decide +kernel
theorem d_M_type_40 : decode prog_12_method_5_code 40 = .ok (.if_icmp .lt 10, 3) := by decide +kernel
theorem d_M_type_43 : decode prog_12_method_5_code 43 = .ok (.iload 4, 2) := by decide +kernel
theorem d_M_type_45 : decode prog_12_method_5_code 45 = .ok (.bipush 126, 2) := by decide +kernel
theorem d_M_type_47 : decode prog_12_method_5_code 47 = .ok (.if_icmp .le 5, 3) := by decide +kernel
theorem d_M_type_50 : decode prog_12_method_5_code 50 = .ok (.iconst 0, 1) := by decide +kernel
theorem d_M_type_51 : decode prog_12_method_5_code 51 = .ok (.ireturn, 1) := by decide +kernel
theorem d_M_type_52 : decode prog_12_method_5_code 52 = .ok (.iload_n 3, 1) := by decide +kernel
theorem d_M_type_53 : decode prog_12_method_5_code 53 = .ok (.iconst 1, 1) := by decide +kernel
theorem d_M_type_54 : decode prog_12_method_5_code 54 = .ok (.iadd, 1) := by decide +kernel
theorem d_M_type_55 : decode prog_12_method_5_code 55 = .ok (.istore_n 3, 1) := by decide +kernel
theorem d_M_type_56 : decode prog_12_method_5_code 56 = .ok (.goto (-54), 3) := by decide +kernel
theorem d_M_type_59 : decode prog_12_method_5_code 59 = .ok (.aload_n 0, 1) := by decide +kernel
theorem d_M_type_60 : decode prog_12_method_5_code 60 = .ok (.getfield 7, 3) := by decide +kernel
theorem d_M_type_63 : decode prog_12_method_5_code 63 = .ok (.ifCond .eq 14, 3) := by decide +kernel
theorem d_M_type_66 : decode prog_12_method_5_code 66 = .ok (.aload_n 0, 1) := by decide +kernel
theorem d_M_type_67 : decode prog_12_method_5_code 67 = .ok (.getfield 79, 3) := by decide +kernel
theorem d_M_type_70 : decode prog_12_method_5_code 70 = .ok (.iload_n 3, 1) := by decide +kernel
theorem d_M_type_71 : decode prog_12_method_5_code 71 = .ok (.iadd, 1) := by decide +kernel
theorem d_M_type_72 : decode prog_12_method_5_code 72 = .ok (.bipush 72, 2) := by decide +kernel
theorem d_M_type_74 : decode prog_12_method_5_code 74 = .ok (.if_icmp .le 5, 3) := by decide +kernel
theorem d_M_type_77 : decode prog_12_method_5_code 77 = .ok (.iconst 0, 1) := by decide +kernel
theorem d_M_type_78 : decode prog_12_method_5_code 78 = .ok (.ireturn, 1) := by decide +kernel
theorem d_M_type_79 : decode prog_12_method_5_code 79 = .ok (.iconst 0, 1) := by decide +kernel
theorem d_M_type_80 : decode prog_12_method_5_code 80 = .ok (.istore 4, 2) := by decide +kernel
theorem d_M_type_82 : decode prog_12_method_5_code 82 = .ok (.iload 4, 2) := by decide +kernel
theorem d_M_type_84 : decode prog_12_method_5_code 84 = .ok (.iload_n 3, 1) := by decide +kernel
theorem d_M_type_85 : decode prog_12_method_5_code 85 = .ok (.if_icmp .ge 40, 3) := by decide +kernel
theorem d_M_type_88 : decode prog_12_method_5_code 88 = .ok (.aload_n 0, 1) := by decide +kernel
theorem d_M_type_89 : decode prog_12_method_5_code 89 = .ok (.getfield 17, 3) := by decide +kernel
theorem d_M_type_92 : decode prog_12_method_5_code 92 = .ok (.aload_n 0, 1) := by decide +kernel
theorem d_M_type_93 : decode prog_12_method_5_code 93 = .ok (.getfield 79, 3) := by decide +kernel
theorem d_M_type_96 : decode prog_12_method_5_code 96 = .ok (.lload_n 1, 1) := by decide +kernel
theorem d_M_type_97 : decode prog_12_method_5_code 97 = .ok (.bipush 8, 2) := by decide +kernel
theorem d_M_type_99 : decode prog_12_method_5_code 99 = .ok (.iload 4, 2) := by decide +kernel
theorem d_M_type_101 : decode prog_12_method_5_code 101 = .ok (.imul, 1) := by decide +kernel
theorem d_M_type_102 : decode prog_12_method_5_code 102 = .ok (.lshr, 1) := by decide +kernel
theorem d_M_type_103 : decode prog_12_method_5_code 103 = .ok (.ldc2_w 77, 3) := by decide +kernel
theorem d_M_type_106 : decode prog_12_method_5_code 106 = .ok (.land, 1) := by decide +kernel
theorem d_M_type_107 : decode prog_12_method_5_code 107 = .ok (.l2i, 1) := by decide +kernel
theorem d_M_type_108 : decode prog_12_method_5_code 108 = .ok (.iastore, 1) := by decide +kernel
theorem d_M_type_109 : decode prog_12_method_5_code 109 = .ok (.aload_n 0, 1) := by decide +kernel
theorem d_M_type_110 : decode prog_12_method_5_code 110 = .ok (.aload_n 0, 1) := by decide +kernel
theorem d_M_type_111 : decode prog_12_method_5_code 111 = .ok (.getfield 79, 3) := by decide +kernel
theorem d_M_type_114 : decode prog_12_method_5_code 114 = .ok (.iconst 1, 1) := by decide +kernel
theorem d_M_type_115 : decode prog_12_method_5_code 115 = .ok (.iadd, 1) := by decide +kernel
theorem d_M_type_116 : decode prog_12_method_5_code 116 = .ok (.putfield 79, 3) := by decide +kernel
theorem d_M_type_119 : decode prog_12_method_5_code 119 = .ok (.iinc 4 1, 3) := by decide +kernel
theorem d_M_type_122 : decode prog_12_method_5_code 122 = .ok (.goto (-40), 3) := by decide +kernel
theorem d_M_type_125 : decode prog_12_method_5_code 125 = .ok (.iconst 1, 1) := by decide +kernel
theorem d_M_type_126 : decode prog_12_method_5_code 126 = .ok (.ireturn, 1) := by decide +kernel
theorem d_M_enter_0 : decode prog_12_method_24_code 0 = .ok (.aload_n 0, 1) := by decide +kernel
theorem d_M_enter_1 : decode prog_12_method_24_code 1 = .ok (.getfield 7, 3) := by decide +kernel
theorem d_M_enter_4 : decode prog_12_method_24_code 4 = .ok (.ifCond .ne 5, 3) := by decide +kernel
theorem d_M_enter_7 : decode prog_12_method_24_code 7 = .ok (.iconst (-1), 1) := by decide +kernel
theorem d_M_enter_8 : decode prog_12_method_24_code 8 = .ok (.ireturn, 1) := by decide +kernel
theorem d_M_enter_9 : decode prog_12_method_24_code 9 = .ok (.aload_n 0, 1) := by decide +kernel
theorem d_M_enter_10 : decode prog_12_method_24_code 10 = .ok (.getfield 88, 3) := by decide +kernel
theorem d_M_enter_13 : decode prog_12_method_24_code 13 = .ok (.ifCond .eq 10, 3) := by decide +kernel
theorem d_M_enter_16 : decode prog_12_method_24_code 16 = .ok (.aload_n 0, 1) := by decide +kernel
theorem d_M_enter_17 : decode prog_12_method_24_code 17 = .ok (.invokevirtual 165, 3) := by decide +kernel
theorem d_M_enter_20 : decode prog_12_method_24_code 20 = .ok (.goto 7, 3) := by decide +kernel
theorem d_M_enter_23 : decode prog_12_method_24_code 23 = .ok (.aload_n 0, 1) := by decide +kernel
theorem d_M_enter_24 : decode prog_12_method_24_code 24 = .ok (.invokevirtual 168, 3) := by decide +kernel
theorem d_M_enter_27 : decode prog_12_method_24_code 27 = .ok (.istore_n 1, 1) := by decide +kernel
theorem d_M_enter_28 : decode prog_12_method_24_code 28 = .ok (.aload_n 0, 1) := by decide +kernel
theorem d_M_enter_29 : decode prog_12_method_24_code 29 = .ok (.iconst 0, 1) := by decide +kernel
theorem d_M_enter_30 : decode prog_12_method_24_code 30 = .ok (.putfield 79, 3) := by decide +kernel
theorem d_M_enter_33 : decode prog_12_method_24_code 33 = .ok (.iload_n 1, 1) := by decide +kernel
theorem d_M_enter_34 : decode prog_12_method_24_code 34 = .ok (.ireturn, 1) := by decide +kernel
theorem d_M_textLine_0 : decode prog_12_method_23_code 0 = .ok (.aload_n 0, 1) := by decide +kernel
theorem d_M_textLine_1 : decode prog_12_method_23_code 1 = .ok (.getfield 79, 3) := by decide +kernel
theorem d_M_textLine_4 : decode prog_12_method_23_code 4 = .ok (.iconst 1, 1) := by decide +kernel
theorem d_M_textLine_5 : decode prog_12_method_23_code 5 = .ok (.if_icmp .ne 14, 3) := by decide +kernel
theorem d_M_textLine_8 : decode prog_12_method_23_code 8 = .ok (.aload_n 0, 1) := by decide +kernel
theorem d_M_textLine_9 : decode prog_12_method_23_code 9 = .ok (.getfield 17, 3) := by decide +kernel
theorem d_M_textLine_12 : decode prog_12_method_23_code 12 = .ok (.iconst 0, 1) := by decide +kernel
theorem d_M_textLine_13 : decode prog_12_method_23_code 13 = .ok (.iaload, 1) := by decide +kernel
theorem d_M_textLine_14 : decode prog_12_method_23_code 14 = .ok (.bipush 46, 2) := by decide +kernel
theorem d_M_textLine_16 : decode prog_12_method_23_code 16 = .ok (.if_icmp .eq 63, 3) := by decide +kernel
theorem d_M_textLine_19 : decode prog_12_method_23_code 19 = .ok (.aload_n 0, 1) := by decide +kernel
theorem d_M_textLine_20 : decode prog_12_method_23_code 20 = .ok (.getfield 79, 3) := by decide +kernel
theorem d_M_textLine_23 : decode prog_12_method_23_code 23 = .ok (.ifCond .le 18, 3) := by decide +kernel
theorem d_M_textLine_26 : decode prog_12_method_23_code 26 = .ok (.aload_n 0, 1) := by decide +kernel
theorem d_M_textLine_27 : decode prog_12_method_23_code 27 = .ok (.getfield 17, 3) := by decide +kernel
theorem d_M_textLine_30 : decode prog_12_method_23_code 30 = .ok (.iconst 0, 1) := by decide +kernel
theorem d_M_textLine_31 : decode prog_12_method_23_code 31 = .ok (.iaload, 1) := by decide +kernel
theorem d_M_textLine_32 : decode prog_12_method_23_code 32 = .ok (.bipush 46, 2) := by decide +kernel
theorem d_M_textLine_34 : decode prog_12_method_23_code 34 = .ok (.if_icmp .ne 7, 3) := by decide +kernel
theorem d_M_textLine_37 : decode prog_12_method_23_code 37 = .ok (.iconst 1, 1) := by decide +kernel
theorem d_M_textLine_38 : decode prog_12_method_23_code 38 = .ok (.goto 4, 3) := by decide +kernel
theorem d_M_textLine_41 : decode prog_12_method_23_code 41 = .ok (.iconst 0, 1) := by decide +kernel
theorem d_M_textLine_42 : decode prog_12_method_23_code 42 = .ok (.istore_n 1, 1) := by decide +kernel
theorem d_M_textLine_43 : decode prog_12_method_23_code 43 = .ok (.iload_n 1, 1) := by decide +kernel
theorem d_M_textLine_44 : decode prog_12_method_23_code 44 = .ok (.aload_n 0, 1) := by decide +kernel
theorem d_M_textLine_45 : decode prog_12_method_23_code 45 = .ok (.getfield 79, 3) := by decide +kernel
theorem d_M_textLine_48 : decode prog_12_method_23_code 48 = .ok (.if_icmp .ge 21, 3) := by decide +kernel
theorem d_M_textLine_51 : decode prog_12_method_23_code 51 = .ok (.aload_n 0, 1) := by decide +kernel
theorem d_M_textLine_52 : decode prog_12_method_23_code 52 = .ok (.bipush 6, 2) := by decide +kernel
theorem d_M_textLine_54 : decode prog_12_method_23_code 54 = .ok (.aload_n 0, 1) := by decide +kernel
theorem d_M_textLine_55 : decode prog_12_method_23_code 55 = .ok (.getfield 17, 3) := by decide +kernel
theorem d_M_textLine_58 : decode prog_12_method_23_code 58 = .ok (.iload_n 1, 1) := by decide +kernel
theorem d_M_textLine_59 : decode prog_12_method_23_code 59 = .ok (.iaload, 1) := by decide +kernel
theorem d_M_textLine_60 : decode prog_12_method_23_code 60 = .ok (.invokevirtual 159, 3) := by decide +kernel
theorem d_M_textLine_63 : decode prog_12_method_23_code 63 = .ok (.iinc 1 1, 3) := by decide +kernel
theorem d_M_textLine_66 : decode prog_12_method_23_code 66 = .ok (.goto (-23), 3) := by decide +kernel
theorem d_M_textLine_69 : decode prog_12_method_23_code 69 = .ok (.aload_n 0, 1) := by decide +kernel
theorem d_M_textLine_70 : decode prog_12_method_23_code 70 = .ok (.bipush 6, 2) := by decide +kernel
theorem d_M_textLine_72 : decode prog_12_method_23_code 72 = .ok (.bipush 10, 2) := by decide +kernel
theorem d_M_textLine_74 : decode prog_12_method_23_code 74 = .ok (.invokevirtual 159, 3) := by decide +kernel
theorem d_M_textLine_77 : decode prog_12_method_23_code 77 = .ok (.iconst 0, 1) := by decide +kernel
theorem d_M_textLine_78 : decode prog_12_method_23_code 78 = .ok (.ireturn, 1) := by decide +kernel
theorem d_M_textLine_79 : decode prog_12_method_23_code 79 = .ok (.aload_n 0, 1) := by decide +kernel
theorem d_M_textLine_80 : decode prog_12_method_23_code 80 = .ok (.iconst 0, 1) := by decide +kernel
theorem d_M_textLine_81 : decode prog_12_method_23_code 81 = .ok (.putfield 88, 3) := by decide +kernel
theorem d_M_textLine_84 : decode prog_12_method_23_code 84 = .ok (.aload_n 0, 1) := by decide +kernel
theorem d_M_textLine_85 : decode prog_12_method_23_code 85 = .ok (.iconst 0, 1) := by decide +kernel
theorem d_M_textLine_86 : decode prog_12_method_23_code 86 = .ok (.putfield 85, 3) := by decide +kernel
theorem d_M_textLine_89 : decode prog_12_method_23_code 89 = .ok (.aload_n 0, 1) := by decide +kernel
theorem d_M_textLine_90 : decode prog_12_method_23_code 90 = .ok (.getfield 31, 3) := by decide +kernel
theorem d_M_textLine_93 : decode prog_12_method_23_code 93 = .ok (.bipush 6, 2) := by decide +kernel
theorem d_M_textLine_95 : decode prog_12_method_23_code 95 = .ok (.iaload, 1) := by decide +kernel
theorem d_M_textLine_96 : decode prog_12_method_23_code 96 = .ok (.sipush 600, 3) := by decide +kernel
theorem d_M_textLine_99 : decode prog_12_method_23_code 99 = .ok (.if_icmp .le 7, 3) := by decide +kernel
theorem d_M_textLine_102 : decode prog_12_method_23_code 102 = .ok (.sipush 552, 3) := by decide +kernel
theorem d_M_textLine_105 : decode prog_12_method_23_code 105 = .ok (.ireturn, 1) := by decide +kernel
theorem d_M_textLine_106 : decode prog_12_method_23_code 106 = .ok (.aload_n 0, 1) := by decide +kernel
theorem d_M_textLine_107 : decode prog_12_method_23_code 107 = .ok (.invokevirtual 153, 3) := by decide +kernel
theorem d_M_textLine_110 : decode prog_12_method_23_code 110 = .ok (.bipush 6, 2) := by decide +kernel
theorem d_M_textLine_112 : decode prog_12_method_23_code 112 = .ok (.if_icmp .ne 7, 3) := by decide +kernel
theorem d_M_textLine_115 : decode prog_12_method_23_code 115 = .ok (.sipush 452, 3) := by decide +kernel
theorem d_M_textLine_118 : decode prog_12_method_23_code 118 = .ok (.ireturn, 1) := by decide +kernel
theorem d_M_textLine_119 : decode prog_12_method_23_code 119 = .ok (.aload_n 0, 1) := by decide +kernel
theorem d_M_textLine_120 : decode prog_12_method_23_code 120 = .ok (.bipush 6, 2) := by decide +kernel
theorem d_M_textLine_122 : decode prog_12_method_23_code 122 = .ok (.invokevirtual 162, 3) := by decide +kernel
theorem d_M_textLine_125 : decode prog_12_method_23_code 125 = .ok (.ifCond .eq 9, 3) := by decide +kernel
theorem d_M_textLine_128 : decode prog_12_method_23_code 128 = .ok (.sipush 250, 3) := by decide +kernel
theorem d_M_textLine_131 : decode prog_12_method_23_code 131 = .ok (.goto 4, 3) := by decide +kernel
theorem d_M_textLine_134 : decode prog_12_method_23_code 134 = .ok (.iconst 0, 1) := by decide +kernel
theorem d_M_textLine_135 : decode prog_12_method_23_code 135 = .ok (.ireturn, 1) := by decide +kernel
theorem d_M_put_0 : decode prog_12_method_22_code 0 = .ok (.aload_n 0, 1) := by decide +kernel
theorem d_M_put_1 : decode prog_12_method_22_code 1 = .ok (.getfield 31, 3) := by decide +kernel
theorem d_M_put_4 : decode prog_12_method_22_code 4 = .ok (.iload_n 1, 1) := by decide +kernel
theorem d_M_put_5 : decode prog_12_method_22_code 5 = .ok (.iaload, 1) := by decide +kernel
theorem d_M_put_6 : decode prog_12_method_22_code 6 = .ok (.sipush 602, 3) := by decide +kernel
theorem d_M_put_9 : decode prog_12_method_22_code 9 = .ok (.if_icmp .ge 35, 3) := by decide +kernel
theorem d_M_put_12 : decode prog_12_method_22_code 12 = .ok (.aload_n 0, 1) := by decide +kernel
theorem d_M_put_13 : decode prog_12_method_22_code 13 = .ok (.getfield 28, 3) := by decide +kernel
theorem d_M_put_16 : decode prog_12_method_22_code 16 = .ok (.sipush 602, 3) := by decide +kernel
theorem d_M_put_19 : decode prog_12_method_22_code 19 = .ok (.iload_n 1, 1) := by decide +kernel
theorem d_M_put_20 : decode prog_12_method_22_code 20 = .ok (.imul, 1) := by decide +kernel
theorem d_M_put_21 : decode prog_12_method_22_code 21 = .ok (.aload_n 0, 1) := by decide +kernel
theorem d_M_put_22 : decode prog_12_method_22_code 22 = .ok (.getfield 31, 3) := by decide +kernel
theorem d_M_put_25 : decode prog_12_method_22_code 25 = .ok (.iload_n 1, 1) := by decide +kernel
theorem d_M_put_26 : decode prog_12_method_22_code 26 = .ok (.iaload, 1) := by decide +kernel
theorem d_M_put_27 : decode prog_12_method_22_code 27 = .ok (.iadd, 1) := by decide +kernel
theorem d_M_put_28 : decode prog_12_method_22_code 28 = .ok (.iload_n 2, 1) := by decide +kernel
theorem d_M_put_29 : decode prog_12_method_22_code 29 = .ok (.iastore, 1) := by decide +kernel
theorem d_M_put_30 : decode prog_12_method_22_code 30 = .ok (.aload_n 0, 1) := by decide +kernel
theorem d_M_put_31 : decode prog_12_method_22_code 31 = .ok (.getfield 31, 3) := by decide +kernel
theorem d_M_put_34 : decode prog_12_method_22_code 34 = .ok (.iload_n 1, 1) := by decide +kernel
theorem d_M_put_35 : decode prog_12_method_22_code 35 = .ok (.aload_n 0, 1) := by decide +kernel
theorem d_M_put_36 : decode prog_12_method_22_code 36 = .ok (.getfield 31, 3) := by decide +kernel
theorem d_M_put_39 : decode prog_12_method_22_code 39 = .ok (.iload_n 1, 1) := by decide +kernel
theorem d_M_put_40 : decode prog_12_method_22_code 40 = .ok (.iaload, 1) := by decide +kernel
theorem d_M_put_41 : decode prog_12_method_22_code 41 = .ok (.iconst 1, 1) := by decide +kernel
theorem d_M_put_42 : decode prog_12_method_22_code 42 = .ok (.iadd, 1) := by decide +kernel
theorem d_M_put_43 : decode prog_12_method_22_code 43 = .ok (.iastore, 1) := by decide +kernel
theorem d_M_put_44 : decode prog_12_method_22_code 44 = .ok (.return_, 1) := by decide +kernel
theorem d_M_spooled_0 : decode prog_12_method_6_code 0 = .ok (.iconst 0, 1) := by decide +kernel
theorem d_M_spooled_1 : decode prog_12_method_6_code 1 = .ok (.istore_n 1, 1) := by decide +kernel
theorem d_M_spooled_2 : decode prog_12_method_6_code 2 = .ok (.iconst 0, 1) := by decide +kernel
theorem d_M_spooled_3 : decode prog_12_method_6_code 3 = .ok (.istore_n 2, 1) := by decide +kernel
theorem d_M_spooled_4 : decode prog_12_method_6_code 4 = .ok (.iload_n 2, 1) := by decide +kernel
theorem d_M_spooled_5 : decode prog_12_method_6_code 5 = .ok (.bipush 6, 2) := by decide +kernel
theorem d_M_spooled_7 : decode prog_12_method_6_code 7 = .ok (.if_icmp .ge 26, 3) := by decide +kernel
theorem d_M_spooled_10 : decode prog_12_method_6_code 10 = .ok (.aload_n 0, 1) := by decide +kernel
theorem d_M_spooled_11 : decode prog_12_method_6_code 11 = .ok (.getfield 21, 3) := by decide +kernel
theorem d_M_spooled_14 : decode prog_12_method_6_code 14 = .ok (.iload_n 2, 1) := by decide +kernel
theorem d_M_spooled_15 : decode prog_12_method_6_code 15 = .ok (.iaload, 1) := by decide +kernel
theorem d_M_spooled_16 : decode prog_12_method_6_code 16 = .ok (.ifCond .lt 9, 3) := by decide +kernel
theorem d_M_spooled_19 : decode prog_12_method_6_code 19 = .ok (.iload_n 1, 1) := by decide +kernel
theorem d_M_spooled_20 : decode prog_12_method_6_code 20 = .ok (.iconst 1, 1) := by decide +kernel
theorem d_M_spooled_21 : decode prog_12_method_6_code 21 = .ok (.iadd, 1) := by decide +kernel
theorem d_M_spooled_22 : decode prog_12_method_6_code 22 = .ok (.goto 4, 3) := by decide +kernel
theorem d_M_spooled_25 : decode prog_12_method_6_code 25 = .ok (.iload_n 1, 1) := by decide +kernel
theorem d_M_spooled_26 : decode prog_12_method_6_code 26 = .ok (.istore_n 1, 1) := by decide +kernel
theorem d_M_spooled_27 : decode prog_12_method_6_code 27 = .ok (.iinc 2 1, 3) := by decide +kernel
theorem d_M_spooled_30 : decode prog_12_method_6_code 30 = .ok (.goto (-26), 3) := by decide +kernel
theorem d_M_spooled_33 : decode prog_12_method_6_code 33 = .ok (.iload_n 1, 1) := by decide +kernel
theorem d_M_spooled_34 : decode prog_12_method_6_code 34 = .ok (.ireturn, 1) := by decide +kernel
theorem d_M_spool_0 : decode prog_12_method_10_code 0 = .ok (.aload_n 0, 1) := by decide +kernel
theorem d_M_spool_1 : decode prog_12_method_10_code 1 = .ok (.getfield 94, 3) := by decide +kernel
theorem d_M_spool_4 : decode prog_12_method_10_code 4 = .ok (.istore_n 2, 1) := by decide +kernel
theorem d_M_spool_5 : decode prog_12_method_10_code 5 = .ok (.aload_n 0, 1) := by decide +kernel
theorem d_M_spool_6 : decode prog_12_method_10_code 6 = .ok (.aload_n 0, 1) := by decide +kernel
theorem d_M_spool_7 : decode prog_12_method_10_code 7 = .ok (.getfield 94, 3) := by decide +kernel
theorem d_M_spool_10 : decode prog_12_method_10_code 10 = .ok (.iconst 1, 1) := by decide +kernel
theorem d_M_spool_11 : decode prog_12_method_10_code 11 = .ok (.iadd, 1) := by decide +kernel
theorem d_M_spool_12 : decode prog_12_method_10_code 12 = .ok (.putfield 94, 3) := by decide +kernel
theorem d_M_spool_15 : decode prog_12_method_10_code 15 = .ok (.aload_n 0, 1) := by decide +kernel
theorem d_M_spool_16 : decode prog_12_method_10_code 16 = .ok (.invokevirtual 97, 3) := by decide +kernel
theorem d_M_spool_19 : decode prog_12_method_10_code 19 = .ok (.ifCond .ne 5, 3) := by decide +kernel
theorem d_M_spool_22 : decode prog_12_method_10_code 22 = .ok (.iconst 0, 1) := by decide +kernel
theorem d_M_spool_23 : decode prog_12_method_10_code 23 = .ok (.ireturn, 1) := by decide +kernel
theorem d_M_spool_24 : decode prog_12_method_10_code 24 = .ok (.iconst 0, 1) := by decide +kernel
theorem d_M_spool_25 : decode prog_12_method_10_code 25 = .ok (.istore_n 3, 1) := by decide +kernel
theorem d_M_spool_26 : decode prog_12_method_10_code 26 = .ok (.aload_n 0, 1) := by decide +kernel
theorem d_M_spool_27 : decode prog_12_method_10_code 27 = .ok (.getfield 21, 3) := by decide +kernel
theorem d_M_spool_30 : decode prog_12_method_10_code 30 = .ok (.iload_n 3, 1) := by decide +kernel
theorem d_M_spool_31 : decode prog_12_method_10_code 31 = .ok (.iaload, 1) := by decide +kernel
theorem d_M_spool_32 : decode prog_12_method_10_code 32 = .ok (.ifCond .lt 10, 3) := by decide +kernel
theorem d_M_spool_35 : decode prog_12_method_10_code 35 = .ok (.iload_n 3, 1) := by decide +kernel
theorem d_M_spool_36 : decode prog_12_method_10_code 36 = .ok (.iconst 1, 1) := by decide +kernel
theorem d_M_spool_37 : decode prog_12_method_10_code 37 = .ok (.iadd, 1) := by decide +kernel
theorem d_M_spool_38 : decode prog_12_method_10_code 38 = .ok (.istore_n 3, 1) := by decide +kernel
theorem d_M_spool_39 : decode prog_12_method_10_code 39 = .ok (.goto (-13), 3) := by decide +kernel
theorem d_M_spool_42 : decode prog_12_method_10_code 42 = .ok (.aload_n 0, 1) := by decide +kernel
theorem d_M_spool_43 : decode prog_12_method_10_code 43 = .ok (.getfield 21, 3) := by decide +kernel
theorem d_M_spool_46 : decode prog_12_method_10_code 46 = .ok (.iload_n 3, 1) := by decide +kernel
theorem d_M_spool_47 : decode prog_12_method_10_code 47 = .ok (.iload_n 2, 1) := by decide +kernel
theorem d_M_spool_48 : decode prog_12_method_10_code 48 = .ok (.iastore, 1) := by decide +kernel
theorem d_M_spool_49 : decode prog_12_method_10_code 49 = .ok (.aload_n 0, 1) := by decide +kernel
theorem d_M_spool_50 : decode prog_12_method_10_code 50 = .ok (.getfield 24, 3) := by decide +kernel
theorem d_M_spool_53 : decode prog_12_method_10_code 53 = .ok (.iload_n 3, 1) := by decide +kernel
theorem d_M_spool_54 : decode prog_12_method_10_code 54 = .ok (.iconst 0, 1) := by decide +kernel
theorem d_M_spool_55 : decode prog_12_method_10_code 55 = .ok (.bastore, 1) := by decide +kernel
theorem d_M_spool_56 : decode prog_12_method_10_code 56 = .ok (.aload_n 0, 1) := by decide +kernel
theorem d_M_spool_57 : decode prog_12_method_10_code 57 = .ok (.getfield 31, 3) := by decide +kernel
theorem d_M_spool_60 : decode prog_12_method_10_code 60 = .ok (.iload_n 3, 1) := by decide +kernel
theorem d_M_spool_61 : decode prog_12_method_10_code 61 = .ok (.aload_n 0, 1) := by decide +kernel
theorem d_M_spool_62 : decode prog_12_method_10_code 62 = .ok (.getfield 31, 3) := by decide +kernel
theorem d_M_spool_65 : decode prog_12_method_10_code 65 = .ok (.iload_n 1, 1) := by decide +kernel
theorem d_M_spool_66 : decode prog_12_method_10_code 66 = .ok (.iaload, 1) := by decide +kernel
theorem d_M_spool_67 : decode prog_12_method_10_code 67 = .ok (.iastore, 1) := by decide +kernel
theorem d_M_spool_68 : decode prog_12_method_10_code 68 = .ok (.iconst 0, 1) := by decide +kernel
theorem d_M_spool_69 : decode prog_12_method_10_code 69 = .ok (.istore 4, 2) := by decide +kernel
theorem d_M_spool_71 : decode prog_12_method_10_code 71 = .ok (.iload 4, 2) := by decide +kernel
theorem d_M_spool_73 : decode prog_12_method_10_code 73 = .ok (.sipush 600, 3) := by decide +kernel
theorem d_M_spool_76 : decode prog_12_method_10_code 76 = .ok (.if_icmp .ge 35, 3) := by decide +kernel
theorem d_M_spool_79 : decode prog_12_method_10_code 79 = .ok (.aload_n 0, 1) := by decide +kernel
theorem d_M_spool_80 : decode prog_12_method_10_code 80 = .ok (.getfield 28, 3) := by decide +kernel
theorem d_M_spool_83 : decode prog_12_method_10_code 83 = .ok (.sipush 602, 3) := by decide +kernel
theorem d_M_spool_86 : decode prog_12_method_10_code 86 = .ok (.iload_n 3, 1) := by decide +kernel
theorem d_M_spool_87 : decode prog_12_method_10_code 87 = .ok (.imul, 1) := by decide +kernel
theorem d_M_spool_88 : decode prog_12_method_10_code 88 = .ok (.iload 4, 2) := by decide +kernel
theorem d_M_spool_90 : decode prog_12_method_10_code 90 = .ok (.iadd, 1) := by decide +kernel
theorem d_M_spool_91 : decode prog_12_method_10_code 91 = .ok (.aload_n 0, 1) := by decide +kernel
theorem d_M_spool_92 : decode prog_12_method_10_code 92 = .ok (.getfield 28, 3) := by decide +kernel
theorem d_M_spool_95 : decode prog_12_method_10_code 95 = .ok (.sipush 602, 3) := by decide +kernel
theorem d_M_spool_98 : decode prog_12_method_10_code 98 = .ok (.iload_n 1, 1) := by decide +kernel
theorem d_M_spool_99 : decode prog_12_method_10_code 99 = .ok (.imul, 1) := by decide +kernel
theorem d_M_spool_100 : decode prog_12_method_10_code 100 = .ok (.iload 4, 2) := by decide +kernel
theorem d_M_spool_102 : decode prog_12_method_10_code 102 = .ok (.iadd, 1) := by decide +kernel
theorem d_M_spool_103 : decode prog_12_method_10_code 103 = .ok (.iaload, 1) := by decide +kernel
theorem d_M_spool_104 : decode prog_12_method_10_code 104 = .ok (.iastore, 1) := by decide +kernel
theorem d_M_spool_105 : decode prog_12_method_10_code 105 = .ok (.iinc 4 1, 3) := by decide +kernel
theorem d_M_spool_108 : decode prog_12_method_10_code 108 = .ok (.goto (-37), 3) := by decide +kernel
theorem d_M_spool_111 : decode prog_12_method_10_code 111 = .ok (.aload_n 0, 1) := by decide +kernel
theorem d_M_spool_112 : decode prog_12_method_10_code 112 = .ok (.getfield 40, 3) := by decide +kernel
theorem d_M_spool_115 : decode prog_12_method_10_code 115 = .ok (.iload_n 3, 1) := by decide +kernel
theorem d_M_spool_116 : decode prog_12_method_10_code 116 = .ok (.aload_n 0, 1) := by decide +kernel
theorem d_M_spool_117 : decode prog_12_method_10_code 117 = .ok (.getfield 40, 3) := by decide +kernel
theorem d_M_spool_120 : decode prog_12_method_10_code 120 = .ok (.iload_n 1, 1) := by decide +kernel
theorem d_M_spool_121 : decode prog_12_method_10_code 121 = .ok (.iaload, 1) := by decide +kernel
theorem d_M_spool_122 : decode prog_12_method_10_code 122 = .ok (.iastore, 1) := by decide +kernel
theorem d_M_spool_123 : decode prog_12_method_10_code 123 = .ok (.iconst 0, 1) := by decide +kernel
theorem d_M_spool_124 : decode prog_12_method_10_code 124 = .ok (.istore 4, 2) := by decide +kernel
theorem d_M_spool_126 : decode prog_12_method_10_code 126 = .ok (.iload 4, 2) := by decide +kernel
theorem d_M_spool_128 : decode prog_12_method_10_code 128 = .ok (.iconst 5, 1) := by decide +kernel
theorem d_M_spool_129 : decode prog_12_method_10_code 129 = .ok (.if_icmp .ge 25, 3) := by decide +kernel
theorem d_M_spool_132 : decode prog_12_method_10_code 132 = .ok (.aload_n 0, 1) := by decide +kernel
theorem d_M_spool_133 : decode prog_12_method_10_code 133 = .ok (.iconst 5, 1) := by decide +kernel
theorem d_M_spool_134 : decode prog_12_method_10_code 134 = .ok (.iload_n 1, 1) := by decide +kernel
theorem d_M_spool_135 : decode prog_12_method_10_code 135 = .ok (.imul, 1) := by decide +kernel
theorem d_M_spool_136 : decode prog_12_method_10_code 136 = .ok (.iload 4, 2) := by decide +kernel
theorem d_M_spool_138 : decode prog_12_method_10_code 138 = .ok (.iadd, 1) := by decide +kernel
theorem d_M_spool_139 : decode prog_12_method_10_code 139 = .ok (.iconst 5, 1) := by decide +kernel
theorem d_M_spool_140 : decode prog_12_method_10_code 140 = .ok (.iload_n 3, 1) := by decide +kernel
theorem d_M_spool_141 : decode prog_12_method_10_code 141 = .ok (.imul, 1) := by decide +kernel
theorem d_M_spool_142 : decode prog_12_method_10_code 142 = .ok (.iload 4, 2) := by decide +kernel
theorem d_M_spool_144 : decode prog_12_method_10_code 144 = .ok (.iadd, 1) := by decide +kernel
theorem d_M_spool_145 : decode prog_12_method_10_code 145 = .ok (.invokevirtual 101, 3) := by decide +kernel
theorem d_M_spool_148 : decode prog_12_method_10_code 148 = .ok (.iinc 4 1, 3) := by decide +kernel
theorem d_M_spool_151 : decode prog_12_method_10_code 151 = .ok (.goto (-25), 3) := by decide +kernel
theorem d_M_spool_154 : decode prog_12_method_10_code 154 = .ok (.iconst 0, 1) := by decide +kernel
theorem d_M_spool_155 : decode prog_12_method_10_code 155 = .ok (.istore 4, 2) := by decide +kernel
theorem d_M_spool_157 : decode prog_12_method_10_code 157 = .ok (.iload 4, 2) := by decide +kernel
theorem d_M_spool_159 : decode prog_12_method_10_code 159 = .ok (.iconst 4, 1) := by decide +kernel
theorem d_M_spool_160 : decode prog_12_method_10_code 160 = .ok (.if_icmp .ge 36, 3) := by decide +kernel
theorem d_M_spool_163 : decode prog_12_method_10_code 163 = .ok (.aload_n 0, 1) := by decide +kernel
theorem d_M_spool_164 : decode prog_12_method_10_code 164 = .ok (.getfield 43, 3) := by decide +kernel
theorem d_M_spool_167 : decode prog_12_method_10_code 167 = .ok (.iconst 4, 1) := by decide +kernel
theorem d_M_spool_168 : decode prog_12_method_10_code 168 = .ok (.iload_n 3, 1) := by decide +kernel
theorem d_M_spool_169 : decode prog_12_method_10_code 169 = .ok (.imul, 1) := by decide +kernel
theorem d_M_spool_170 : decode prog_12_method_10_code 170 = .ok (.iload 4, 2) := by decide +kernel
theorem d_M_spool_172 : decode prog_12_method_10_code 172 = .ok (.iadd, 1) := by decide +kernel
theorem d_M_spool_173 : decode prog_12_method_10_code 173 = .ok (.iconst 0, 1) := by decide +kernel
theorem d_M_spool_174 : decode prog_12_method_10_code 174 = .ok (.iastore, 1) := by decide +kernel
theorem d_M_spool_175 : decode prog_12_method_10_code 175 = .ok (.aload_n 0, 1) := by decide +kernel
theorem d_M_spool_176 : decode prog_12_method_10_code 176 = .ok (.getfield 46, 3) := by decide +kernel
theorem d_M_spool_179 : decode prog_12_method_10_code 179 = .ok (.iconst 4, 1) := by decide +kernel
theorem d_M_spool_180 : decode prog_12_method_10_code 180 = .ok (.iload_n 3, 1) := by decide +kernel
theorem d_M_spool_181 : decode prog_12_method_10_code 181 = .ok (.imul, 1) := by decide +kernel
theorem d_M_spool_182 : decode prog_12_method_10_code 182 = .ok (.iload 4, 2) := by decide +kernel
theorem d_M_spool_184 : decode prog_12_method_10_code 184 = .ok (.iadd, 1) := by decide +kernel
theorem d_M_spool_185 : decode prog_12_method_10_code 185 = .ok (.aload_n 0, 1) := by decide +kernel
theorem d_M_spool_186 : decode prog_12_method_10_code 186 = .ok (.getfield 105, 3) := by decide +kernel
theorem d_M_spool_189 : decode prog_12_method_10_code 189 = .ok (.iastore, 1) := by decide +kernel
theorem d_M_spool_190 : decode prog_12_method_10_code 190 = .ok (.iinc 4 1, 3) := by decide +kernel
theorem d_M_spool_193 : decode prog_12_method_10_code 193 = .ok (.goto (-36), 3) := by decide +kernel
theorem d_M_spool_196 : decode prog_12_method_10_code 196 = .ok (.aload_n 0, 1) := by decide +kernel
theorem d_M_spool_197 : decode prog_12_method_10_code 197 = .ok (.getfield 24, 3) := by decide +kernel
theorem d_M_spool_200 : decode prog_12_method_10_code 200 = .ok (.iload_n 3, 1) := by decide +kernel
theorem d_M_spool_201 : decode prog_12_method_10_code 201 = .ok (.aload_n 0, 1) := by decide +kernel
theorem d_M_spool_202 : decode prog_12_method_10_code 202 = .ok (.invokevirtual 97, 3) := by decide +kernel
theorem d_M_spool_205 : decode prog_12_method_10_code 205 = .ok (.bastore, 1) := by decide +kernel
theorem d_M_spool_206 : decode prog_12_method_10_code 206 = .ok (.aload_n 0, 1) := by decide +kernel
theorem d_M_spool_207 : decode prog_12_method_10_code 207 = .ok (.getfield 24, 3) := by decide +kernel
theorem d_M_spool_210 : decode prog_12_method_10_code 210 = .ok (.iload_n 3, 1) := by decide +kernel
theorem d_M_spool_211 : decode prog_12_method_10_code 211 = .ok (.baload, 1) := by decide +kernel
theorem d_M_spool_212 : decode prog_12_method_10_code 212 = .ok (.ireturn, 1) := by decide +kernel
theorem d_M_write_0 : decode prog_12_method_8_code 0 = .ok (.aload_n 0, 1) := by decide +kernel
theorem d_M_write_1 : decode prog_12_method_8_code 1 = .ok (.getfield 13, 3) := by decide +kernel
theorem d_M_write_4 : decode prog_12_method_8_code 4 = .ok (.ifCond .ne 9, 3) := by decide +kernel
theorem d_M_write_7 : decode prog_12_method_8_code 7 = .ok (.aload_n 0, 1) := by decide +kernel
theorem d_M_write_8 : decode prog_12_method_8_code 8 = .ok (.invokevirtual 91, 3) := by decide +kernel
theorem d_M_write_11 : decode prog_12_method_8_code 11 = .ok (.iconst 0, 1) := by decide +kernel
theorem d_M_write_12 : decode prog_12_method_8_code 12 = .ok (.ireturn, 1) := by decide +kernel
theorem d_M_write_13 : decode prog_12_method_8_code 13 = .ok (.aload_n 0, 1) := by decide +kernel
theorem d_M_write_14 : decode prog_12_method_8_code 14 = .ok (.aload_n 0, 1) := by decide +kernel
theorem d_M_write_15 : decode prog_12_method_8_code 15 = .ok (.getfield 13, 3) := by decide +kernel
theorem d_M_write_18 : decode prog_12_method_8_code 18 = .ok (.ifCond .le 12, 3) := by decide +kernel
theorem d_M_write_21 : decode prog_12_method_8_code 21 = .ok (.aload_n 0, 1) := by decide +kernel
theorem d_M_write_22 : decode prog_12_method_8_code 22 = .ok (.getfield 13, 3) := by decide +kernel
theorem d_M_write_25 : decode prog_12_method_8_code 25 = .ok (.iconst 1, 1) := by decide +kernel
theorem d_M_write_26 : decode prog_12_method_8_code 26 = .ok (.isub, 1) := by decide +kernel
theorem d_M_write_27 : decode prog_12_method_8_code 27 = .ok (.goto 7, 3) := by decide +kernel
theorem d_M_write_30 : decode prog_12_method_8_code 30 = .ok (.aload_n 0, 1) := by decide +kernel
theorem d_M_write_31 : decode prog_12_method_8_code 31 = .ok (.getfield 13, 3) := by decide +kernel
theorem d_M_write_34 : decode prog_12_method_8_code 34 = .ok (.putfield 13, 3) := by decide +kernel
theorem d_M_write_37 : decode prog_12_method_8_code 37 = .ok (.iconst 1, 1) := by decide +kernel
theorem d_M_write_38 : decode prog_12_method_8_code 38 = .ok (.ireturn, 1) := by decide +kernel
theorem d_M_breakDown_0 : decode prog_12_method_7_code 0 = .ok (.aload_n 0, 1) := by decide +kernel
theorem d_M_breakDown_1 : decode prog_12_method_7_code 1 = .ok (.iconst 0, 1) := by decide +kernel
theorem d_M_breakDown_2 : decode prog_12_method_7_code 2 = .ok (.putfield 7, 3) := by decide +kernel
theorem d_M_breakDown_5 : decode prog_12_method_7_code 5 = .ok (.aload_n 0, 1) := by decide +kernel
theorem d_M_breakDown_6 : decode prog_12_method_7_code 6 = .ok (.iconst 0, 1) := by decide +kernel
theorem d_M_breakDown_7 : decode prog_12_method_7_code 7 = .ok (.putfield 82, 3) := by decide +kernel
theorem d_M_breakDown_10 : decode prog_12_method_7_code 10 = .ok (.aload_n 0, 1) := by decide +kernel
theorem d_M_breakDown_11 : decode prog_12_method_7_code 11 = .ok (.iconst 0, 1) := by decide +kernel
theorem d_M_breakDown_12 : decode prog_12_method_7_code 12 = .ok (.putfield 85, 3) := by decide +kernel
theorem d_M_breakDown_15 : decode prog_12_method_7_code 15 = .ok (.aload_n 0, 1) := by decide +kernel
theorem d_M_breakDown_16 : decode prog_12_method_7_code 16 = .ok (.iconst 0, 1) := by decide +kernel
theorem d_M_breakDown_17 : decode prog_12_method_7_code 17 = .ok (.putfield 88, 3) := by decide +kernel
theorem d_M_breakDown_20 : decode prog_12_method_7_code 20 = .ok (.aload_n 0, 1) := by decide +kernel
theorem d_M_breakDown_21 : decode prog_12_method_7_code 21 = .ok (.iconst (-1), 1) := by decide +kernel
theorem d_M_breakDown_22 : decode prog_12_method_7_code 22 = .ok (.putfield 13, 3) := by decide +kernel
theorem d_M_breakDown_25 : decode prog_12_method_7_code 25 = .ok (.return_, 1) := by decide +kernel
theorem d_M_copyPath_0 : decode prog_12_method_9_code 0 = .ok (.aload_n 0, 1) := by decide +kernel
theorem d_M_copyPath_1 : decode prog_12_method_9_code 1 = .ok (.getfield 37, 3) := by decide +kernel
theorem d_M_copyPath_4 : decode prog_12_method_9_code 4 = .ok (.iload_n 2, 1) := by decide +kernel
theorem d_M_copyPath_5 : decode prog_12_method_9_code 5 = .ok (.aload_n 0, 1) := by decide +kernel
theorem d_M_copyPath_6 : decode prog_12_method_9_code 6 = .ok (.getfield 37, 3) := by decide +kernel
theorem d_M_copyPath_9 : decode prog_12_method_9_code 9 = .ok (.iload_n 1, 1) := by decide +kernel
theorem d_M_copyPath_10 : decode prog_12_method_9_code 10 = .ok (.iaload, 1) := by decide +kernel
theorem d_M_copyPath_11 : decode prog_12_method_9_code 11 = .ok (.iastore, 1) := by decide +kernel
theorem d_M_copyPath_12 : decode prog_12_method_9_code 12 = .ok (.iconst 0, 1) := by decide +kernel
theorem d_M_copyPath_13 : decode prog_12_method_9_code 13 = .ok (.istore_n 3, 1) := by decide +kernel
theorem d_M_copyPath_14 : decode prog_12_method_9_code 14 = .ok (.iload_n 3, 1) := by decide +kernel
theorem d_M_copyPath_15 : decode prog_12_method_9_code 15 = .ok (.bipush 40, 2) := by decide +kernel
theorem d_M_copyPath_17 : decode prog_12_method_9_code 17 = .ok (.if_icmp .ge 31, 3) := by decide +kernel
theorem d_M_copyPath_20 : decode prog_12_method_9_code 20 = .ok (.aload_n 0, 1) := by decide +kernel
theorem d_M_copyPath_21 : decode prog_12_method_9_code 21 = .ok (.getfield 34, 3) := by decide +kernel
theorem d_M_copyPath_24 : decode prog_12_method_9_code 24 = .ok (.bipush 40, 2) := by decide +kernel
theorem d_M_copyPath_26 : decode prog_12_method_9_code 26 = .ok (.iload_n 2, 1) := by decide +kernel
theorem d_M_copyPath_27 : decode prog_12_method_9_code 27 = .ok (.imul, 1) := by decide +kernel
theorem d_M_copyPath_28 : decode prog_12_method_9_code 28 = .ok (.iload_n 3, 1) := by decide +kernel
theorem d_M_copyPath_29 : decode prog_12_method_9_code 29 = .ok (.iadd, 1) := by decide +kernel
theorem d_M_copyPath_30 : decode prog_12_method_9_code 30 = .ok (.aload_n 0, 1) := by decide +kernel
theorem d_M_copyPath_31 : decode prog_12_method_9_code 31 = .ok (.getfield 34, 3) := by decide +kernel
theorem d_M_copyPath_34 : decode prog_12_method_9_code 34 = .ok (.bipush 40, 2) := by decide +kernel
theorem d_M_copyPath_36 : decode prog_12_method_9_code 36 = .ok (.iload_n 1, 1) := by decide +kernel
theorem d_M_copyPath_37 : decode prog_12_method_9_code 37 = .ok (.imul, 1) := by decide +kernel
theorem d_M_copyPath_38 : decode prog_12_method_9_code 38 = .ok (.iload_n 3, 1) := by decide +kernel
theorem d_M_copyPath_39 : decode prog_12_method_9_code 39 = .ok (.iadd, 1) := by decide +kernel
theorem d_M_copyPath_40 : decode prog_12_method_9_code 40 = .ok (.iaload, 1) := by decide +kernel
theorem d_M_copyPath_41 : decode prog_12_method_9_code 41 = .ok (.iastore, 1) := by decide +kernel
theorem d_M_copyPath_42 : decode prog_12_method_9_code 42 = .ok (.iinc 3 1, 3) := by decide +kernel
theorem d_M_copyPath_45 : decode prog_12_method_9_code 45 = .ok (.goto (-31), 3) := by decide +kernel
theorem d_M_copyPath_48 : decode prog_12_method_9_code 48 = .ok (.return_, 1) := by decide +kernel
theorem d_M_command_0 : decode prog_12_method_19_code 0 = .ok (.aload_n 0, 1) := by decide +kernel
theorem d_M_command_1 : decode prog_12_method_19_code 1 = .ok (.invokevirtual 136, 3) := by decide +kernel
theorem d_M_command_4 : decode prog_12_method_19_code 4 = .ok (.istore_n 1, 1) := by decide +kernel
theorem d_M_command_5 : decode prog_12_method_19_code 5 = .ok (.iload_n 1, 1) := by decide +kernel
theorem d_M_command_6 : decode prog_12_method_19_code 6 = .ok (.ldc 125, 2) := by decide +kernel
theorem d_M_command_8 : decode prog_12_method_19_code 8 = .ok (.if_icmp .eq 45, 3) := by decide +kernel
theorem d_M_command_11 : decode prog_12_method_19_code 11 = .ok (.iload_n 1, 1) := by decide +kernel
theorem d_M_command_12 : decode prog_12_method_19_code 12 = .ok (.ldc 126, 2) := by decide +kernel
theorem d_M_command_14 : decode prog_12_method_19_code 14 = .ok (.if_icmp .eq 39, 3) := by decide +kernel
theorem d_M_command_17 : decode prog_12_method_19_code 17 = .ok (.iload_n 1, 1) := by decide +kernel
theorem d_M_command_18 : decode prog_12_method_19_code 18 = .ok (.ldc 127, 2) := by decide +kernel
theorem d_M_command_20 : decode prog_12_method_19_code 20 = .ok (.if_icmp .eq 33, 3) := by decide +kernel
theorem d_M_command_23 : decode prog_12_method_19_code 23 = .ok (.iload_n 1, 1) := by decide +kernel
theorem d_M_command_24 : decode prog_12_method_19_code 24 = .ok (.ldc 135, 2) := by decide +kernel
theorem d_M_command_26 : decode prog_12_method_19_code 26 = .ok (.if_icmp .eq 27, 3) := by decide +kernel
theorem d_M_command_29 : decode prog_12_method_19_code 29 = .ok (.iload_n 1, 1) := by decide +kernel
theorem d_M_command_30 : decode prog_12_method_19_code 30 = .ok (.ldc 140, 2) := by decide +kernel
theorem d_M_command_32 : decode prog_12_method_19_code 32 = .ok (.if_icmp .eq 21, 3) := by decide +kernel
theorem d_M_command_35 : decode prog_12_method_19_code 35 = .ok (.iload_n 1, 1) := by decide +kernel
theorem d_M_command_36 : decode prog_12_method_19_code 36 = .ok (.ldc 141, 2) := by decide +kernel
theorem d_M_command_38 : decode prog_12_method_19_code 38 = .ok (.if_icmp .eq 15, 3) := by decide +kernel
theorem d_M_command_41 : decode prog_12_method_19_code 41 = .ok (.iload_n 1, 1) := by decide +kernel
theorem d_M_command_42 : decode prog_12_method_19_code 42 = .ok (.ldc 142, 2) := by decide +kernel
theorem d_M_command_44 : decode prog_12_method_19_code 44 = .ok (.if_icmp .eq 9, 3) := by decide +kernel
theorem d_M_command_47 : decode prog_12_method_19_code 47 = .ok (.iload_n 1, 1) := by decide +kernel
theorem d_M_command_48 : decode prog_12_method_19_code 48 = .ok (.ldc 143, 2) := by decide +kernel
theorem d_M_command_50 : decode prog_12_method_19_code 50 = .ok (.if_icmp .ne 7, 3) := by decide +kernel
theorem d_M_command_53 : decode prog_12_method_19_code 53 = .ok (.iconst 1, 1) := by decide +kernel
theorem d_M_command_54 : decode prog_12_method_19_code 54 = .ok (.goto 4, 3) := by decide +kernel
theorem d_M_command_57 : decode prog_12_method_19_code 57 = .ok (.iconst 0, 1) := by decide +kernel
theorem d_M_command_58 : decode prog_12_method_19_code 58 = .ok (.istore_n 2, 1) := by decide +kernel
theorem d_M_command_59 : decode prog_12_method_19_code 59 = .ok (.iload_n 2, 1) := by decide +kernel
theorem d_M_command_60 : decode prog_12_method_19_code 60 = .ok (.ifCond .eq 11, 3) := by decide +kernel
theorem d_M_command_63 : decode prog_12_method_19_code 63 = .ok (.aload_n 0, 1) := by decide +kernel
theorem d_M_command_64 : decode prog_12_method_19_code 64 = .ok (.iload_n 1, 1) := by decide +kernel
theorem d_M_command_65 : decode prog_12_method_19_code 65 = .ok (.invokevirtual 144, 3) := by decide +kernel
theorem d_M_command_68 : decode prog_12_method_19_code 68 = .ok (.ifCond .ne 17, 3) := by decide +kernel
theorem d_M_command_71 : decode prog_12_method_19_code 71 = .ok (.iload_n 2, 1) := by decide +kernel
theorem d_M_command_72 : decode prog_12_method_19_code 72 = .ok (.ifCond .eq 9, 3) := by decide +kernel
theorem d_M_command_75 : decode prog_12_method_19_code 75 = .ok (.sipush 501, 3) := by decide +kernel
theorem d_M_command_78 : decode prog_12_method_19_code 78 = .ok (.goto 6, 3) := by decide +kernel
theorem d_M_command_81 : decode prog_12_method_19_code 81 = .ok (.sipush 500, 3) := by decide +kernel
theorem d_M_command_84 : decode prog_12_method_19_code 84 = .ok (.ireturn, 1) := by decide +kernel
theorem d_M_command_85 : decode prog_12_method_19_code 85 = .ok (.iload_n 1, 1) := by decide +kernel
theorem d_M_command_86 : decode prog_12_method_19_code 86 = .ok (.ldc 125, 2) := by decide +kernel
theorem d_M_command_88 : decode prog_12_method_19_code 88 = .ok (.if_icmp .eq 9, 3) := by decide +kernel
theorem d_M_command_91 : decode prog_12_method_19_code 91 = .ok (.iload_n 1, 1) := by decide +kernel
theorem d_M_command_92 : decode prog_12_method_19_code 92 = .ok (.ldc 126, 2) := by decide +kernel
theorem d_M_command_94 : decode prog_12_method_19_code 94 = .ok (.if_icmp .ne 17, 3) := by decide +kernel
theorem d_M_command_97 : decode prog_12_method_19_code 97 = .ok (.aload_n 0, 1) := by decide +kernel
theorem d_M_command_98 : decode prog_12_method_19_code 98 = .ok (.iconst 1, 1) := by decide +kernel
theorem d_M_command_99 : decode prog_12_method_19_code 99 = .ok (.putfield 82, 3) := by decide +kernel
theorem d_M_command_102 : decode prog_12_method_19_code 102 = .ok (.aload_n 0, 1) := by decide +kernel
theorem d_M_command_103 : decode prog_12_method_19_code 103 = .ok (.iconst 0, 1) := by decide +kernel
theorem d_M_command_104 : decode prog_12_method_19_code 104 = .ok (.putfield 85, 3) := by decide +kernel
theorem d_M_command_107 : decode prog_12_method_19_code 107 = .ok (.sipush 250, 3) := by decide +kernel
theorem d_M_command_110 : decode prog_12_method_19_code 110 = .ok (.ireturn, 1) := by decide +kernel
theorem d_M_command_111 : decode prog_12_method_19_code 111 = .ok (.iload_n 1, 1) := by decide +kernel
theorem d_M_command_112 : decode prog_12_method_19_code 112 = .ok (.ldc 127, 2) := by decide +kernel
theorem d_M_command_114 : decode prog_12_method_19_code 114 = .ok (.if_icmp .ne 8, 3) := by decide +kernel
theorem d_M_command_117 : decode prog_12_method_19_code 117 = .ok (.aload_n 0, 1) := by decide +kernel
theorem d_M_command_118 : decode prog_12_method_19_code 118 = .ok (.invokevirtual 147, 3) := by decide +kernel
theorem d_M_command_121 : decode prog_12_method_19_code 121 = .ok (.ireturn, 1) := by decide +kernel
theorem d_M_command_122 : decode prog_12_method_19_code 122 = .ok (.iload_n 1, 1) := by decide +kernel
theorem d_M_command_123 : decode prog_12_method_19_code 123 = .ok (.ldc 135, 2) := by decide +kernel
theorem d_M_command_125 : decode prog_12_method_19_code 125 = .ok (.if_icmp .ne 8, 3) := by decide +kernel
theorem d_M_command_128 : decode prog_12_method_19_code 128 = .ok (.aload_n 0, 1) := by decide +kernel
theorem d_M_command_129 : decode prog_12_method_19_code 129 = .ok (.invokevirtual 150, 3) := by decide +kernel
theorem d_M_command_132 : decode prog_12_method_19_code 132 = .ok (.ireturn, 1) := by decide +kernel
theorem d_M_command_133 : decode prog_12_method_19_code 133 = .ok (.iload_n 1, 1) := by decide +kernel
theorem d_M_command_134 : decode prog_12_method_19_code 134 = .ok (.ldc 140, 2) := by decide +kernel
theorem d_M_command_136 : decode prog_12_method_19_code 136 = .ok (.if_icmp .ne 41, 3) := by decide +kernel
theorem d_M_command_139 : decode prog_12_method_19_code 139 = .ok (.aload_n 0, 1) := by decide +kernel
theorem d_M_command_140 : decode prog_12_method_19_code 140 = .ok (.getfield 85, 3) := by decide +kernel
theorem d_M_command_143 : decode prog_12_method_19_code 143 = .ok (.ifCond .eq 13, 3) := by decide +kernel
theorem d_M_command_146 : decode prog_12_method_19_code 146 = .ok (.aload_n 0, 1) := by decide +kernel
theorem d_M_command_147 : decode prog_12_method_19_code 147 = .ok (.getfield 40, 3) := by decide +kernel
theorem d_M_command_150 : decode prog_12_method_19_code 150 = .ok (.bipush 6, 2) := by decide +kernel
theorem d_M_command_152 : decode prog_12_method_19_code 152 = .ok (.iaload, 1) := by decide +kernel
theorem d_M_command_153 : decode prog_12_method_19_code 153 = .ok (.ifCond .ne 7, 3) := by decide +kernel
theorem d_M_command_156 : decode prog_12_method_19_code 156 = .ok (.sipush 503, 3) := by decide +kernel
theorem d_M_command_159 : decode prog_12_method_19_code 159 = .ok (.ireturn, 1) := by decide +kernel
theorem d_M_command_160 : decode prog_12_method_19_code 160 = .ok (.aload_n 0, 1) := by decide +kernel
theorem d_M_command_161 : decode prog_12_method_19_code 161 = .ok (.iconst 1, 1) := by decide +kernel
theorem d_M_command_162 : decode prog_12_method_19_code 162 = .ok (.putfield 88, 3) := by decide +kernel
theorem d_M_command_165 : decode prog_12_method_19_code 165 = .ok (.aload_n 0, 1) := by decide +kernel
theorem d_M_command_166 : decode prog_12_method_19_code 166 = .ok (.getfield 31, 3) := by decide +kernel
theorem d_M_command_169 : decode prog_12_method_19_code 169 = .ok (.bipush 6, 2) := by decide +kernel
theorem d_M_command_171 : decode prog_12_method_19_code 171 = .ok (.iconst 0, 1) := by decide +kernel
