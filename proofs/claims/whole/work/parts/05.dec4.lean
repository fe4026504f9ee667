theorem d_M_tell_46 : decode prog_12_method_33_code 46 = .ok (.iconst 0, 1) := by decide +kernel
theorem d_M_tell_47 : decode prog_12_method_33_code 47 = .ok (.istore_n 3, 1) := by decide +kernel
theorem d_M_tell_48 : decode prog_12_method_33_code 48 = .ok (.iload_n 3, 1) := by decide +kernel
theorem d_M_tell_49 : decode prog_12_method_33_code 49 = .ok (.aload_n 0, 1) := by decide +kernel
theorem d_M_tell_50 : decode prog_12_method_33_code 50 = .ok (.getfield 37, 3) := by decide +kernel
theorem d_M_tell_53 : decode prog_12_method_33_code 53 = .ok (.iconst 5, 1) := by decide +kernel
theorem d_M_tell_54 : decode prog_12_method_33_code 54 = .ok (.iload_n 1, 1) := by decide +kernel
theorem d_M_tell_55 : decode prog_12_method_33_code 55 = .ok (.imul, 1) := by decide +kernel
theorem d_M_tell_56 : decode prog_12_method_33_code 56 = .ok (.iload_n 2, 1) := by decide +kernel
theorem d_M_tell_57 : decode prog_12_method_33_code 57 = .ok (.iadd, 1) := by decide +kernel
theorem d_M_tell_58 : decode prog_12_method_33_code 58 = .ok (.iaload, 1) := by decide +kernel
theorem d_M_tell_59 : decode prog_12_method_33_code 59 = .ok (.if_icmp .ge 30, 3) := by decide +kernel
theorem d_M_tell_62 : decode prog_12_method_33_code 62 = .ok (.aload_n 0, 1) := by decide +kernel
theorem d_M_tell_63 : decode prog_12_method_33_code 63 = .ok (.bipush 7, 2) := by decide +kernel
theorem d_M_tell_65 : decode prog_12_method_33_code 65 = .ok (.aload_n 0, 1) := by decide +kernel
theorem d_M_tell_66 : decode prog_12_method_33_code 66 = .ok (.getfield 34, 3) := by decide +kernel
theorem d_M_tell_69 : decode prog_12_method_33_code 69 = .ok (.bipush 40, 2) := by decide +kernel
theorem d_M_tell_71 : decode prog_12_method_33_code 71 = .ok (.iconst 5, 1) := by decide +kernel
theorem d_M_tell_72 : decode prog_12_method_33_code 72 = .ok (.iload_n 1, 1) := by decide +kernel
theorem d_M_tell_73 : decode prog_12_method_33_code 73 = .ok (.imul, 1) := by decide +kernel
theorem d_M_tell_74 : decode prog_12_method_33_code 74 = .ok (.iload_n 2, 1) := by decide +kernel
theorem d_M_tell_75 : decode prog_12_method_33_code 75 = .ok (.iadd, 1) := by decide +kernel
theorem d_M_tell_76 : decode prog_12_method_33_code 76 = .ok (.imul, 1) := by decide +kernel
theorem d_M_tell_77 : decode prog_12_method_33_code 77 = .ok (.iload_n 3, 1) := by decide +kernel
theorem d_M_tell_78 : decode prog_12_method_33_code 78 = .ok (.iadd, 1) := by decide +kernel
theorem d_M_tell_79 : decode prog_12_method_33_code 79 = .ok (.iaload, 1) := by decide +kernel
theorem d_M_tell_80 : decode prog_12_method_33_code 80 = .ok (.invokevirtual 159, 3) := by decide +kernel
theorem d_M_tell_83 : decode prog_12_method_33_code 83 = .ok (.iinc 3 1, 3) := by decide +kernel
theorem d_M_tell_86 : decode prog_12_method_33_code 86 = .ok (.goto (-38), 3) := by decide +kernel
theorem d_M_tell_89 : decode prog_12_method_33_code 89 = .ok (.aload_n 0, 1) := by decide +kernel
theorem d_M_tell_90 : decode prog_12_method_33_code 90 = .ok (.bipush 7, 2) := by decide +kernel
theorem d_M_tell_92 : decode prog_12_method_33_code 92 = .ok (.bipush 10, 2) := by decide +kernel
theorem d_M_tell_94 : decode prog_12_method_33_code 94 = .ok (.invokevirtual 159, 3) := by decide +kernel
theorem d_M_tell_97 : decode prog_12_method_33_code 97 = .ok (.aload_n 0, 1) := by decide +kernel
theorem d_M_tell_98 : decode prog_12_method_33_code 98 = .ok (.getfield 40, 3) := by decide +kernel
theorem d_M_tell_101 : decode prog_12_method_33_code 101 = .ok (.bipush 7, 2) := by decide +kernel
theorem d_M_tell_103 : decode prog_12_method_33_code 103 = .ok (.iconst 1, 1) := by decide +kernel
theorem d_M_tell_104 : decode prog_12_method_33_code 104 = .ok (.iastore, 1) := by decide +kernel
theorem d_M_tell_105 : decode prog_12_method_33_code 105 = .ok (.aload_n 0, 1) := by decide +kernel
theorem d_M_tell_106 : decode prog_12_method_33_code 106 = .ok (.getfield 37, 3) := by decide +kernel
theorem d_M_tell_109 : decode prog_12_method_33_code 109 = .ok (.bipush 39, 2) := by decide +kernel
theorem d_M_tell_111 : decode prog_12_method_33_code 111 = .ok (.iconst 0, 1) := by decide +kernel
theorem d_M_tell_112 : decode prog_12_method_33_code 112 = .ok (.iastore, 1) := by decide +kernel
theorem d_M_tell_113 : decode prog_12_method_33_code 113 = .ok (.aload_n 0, 1) := by decide +kernel
theorem d_M_tell_114 : decode prog_12_method_33_code 114 = .ok (.iconst 5, 1) := by decide +kernel
theorem d_M_tell_115 : decode prog_12_method_33_code 115 = .ok (.iload_n 1, 1) := by decide +kernel
theorem d_M_tell_116 : decode prog_12_method_33_code 116 = .ok (.imul, 1) := by decide +kernel
theorem d_M_tell_117 : decode prog_12_method_33_code 117 = .ok (.iconst 4, 1) := by decide +kernel
theorem d_M_tell_118 : decode prog_12_method_33_code 118 = .ok (.iadd, 1) := by decide +kernel
theorem d_M_tell_119 : decode prog_12_method_33_code 119 = .ok (.bipush 35, 2) := by decide +kernel
theorem d_M_tell_121 : decode prog_12_method_33_code 121 = .ok (.invokevirtual 101, 3) := by decide +kernel
theorem d_M_tell_124 : decode prog_12_method_33_code 124 = .ok (.aload_n 0, 1) := by decide +kernel
theorem d_M_tell_125 : decode prog_12_method_33_code 125 = .ok (.bipush 7, 2) := by decide +kernel
theorem d_M_tell_127 : decode prog_12_method_33_code 127 = .ok (.invokevirtual 162, 3) := by decide +kernel
theorem d_M_tell_130 : decode prog_12_method_33_code 130 = .ok (.ireturn, 1) := by decide +kernel
theorem d_M_at_0 : decode prog_12_method_32_code 0 = .ok (.iload 4, 2) := by decide +kernel
theorem d_M_at_2 : decode prog_12_method_32_code 2 = .ok (.bipush 8, 2) := by decide +kernel
theorem d_M_at_4 : decode prog_12_method_32_code 4 = .ok (.if_icmp .ge 13, 3) := by decide +kernel
theorem d_M_at_7 : decode prog_12_method_32_code 7 = .ok (.lload_n 0, 1) := by decide +kernel
theorem d_M_at_8 : decode prog_12_method_32_code 8 = .ok (.bipush 8, 2) := by decide +kernel
theorem d_M_at_10 : decode prog_12_method_32_code 10 = .ok (.iload 4, 2) := by decide +kernel
theorem d_M_at_12 : decode prog_12_method_32_code 12 = .ok (.imul, 1) := by decide +kernel
theorem d_M_at_13 : decode prog_12_method_32_code 13 = .ok (.lshr, 1) := by decide +kernel
theorem d_M_at_14 : decode prog_12_method_32_code 14 = .ok (.goto 13, 3) := by decide +kernel
theorem d_M_at_17 : decode prog_12_method_32_code 17 = .ok (.lload_n 2, 1) := by decide +kernel
theorem d_M_at_18 : decode prog_12_method_32_code 18 = .ok (.bipush 8, 2) := by decide +kernel
theorem d_M_at_20 : decode prog_12_method_32_code 20 = .ok (.iload 4, 2) := by decide +kernel
theorem d_M_at_22 : decode prog_12_method_32_code 22 = .ok (.bipush 8, 2) := by decide +kernel
theorem d_M_at_24 : decode prog_12_method_32_code 24 = .ok (.isub, 1) := by decide +kernel
theorem d_M_at_25 : decode prog_12_method_32_code 25 = .ok (.imul, 1) := by decide +kernel
theorem d_M_at_26 : decode prog_12_method_32_code 26 = .ok (.lshr, 1) := by decide +kernel
theorem d_M_at_27 : decode prog_12_method_32_code 27 = .ok (.ldc2_w 77, 3) := by decide +kernel
theorem d_M_at_30 : decode prog_12_method_32_code 30 = .ok (.land, 1) := by decide +kernel
theorem d_M_at_31 : decode prog_12_method_32_code 31 = .ok (.l2i, 1) := by decide +kernel
theorem d_M_at_32 : decode prog_12_method_32_code 32 = .ok (.ireturn, 1) := by decide +kernel
theorem d_M_tidy_0 : decode prog_12_method_31_code 0 = .ok (.iconst 0, 1) := by decide +kernel
theorem d_M_tidy_1 : decode prog_12_method_31_code 1 = .ok (.istore_n 2, 1) := by decide +kernel
theorem d_M_tidy_2 : decode prog_12_method_31_code 2 = .ok (.iconst 0, 1) := by decide +kernel
theorem d_M_tidy_3 : decode prog_12_method_31_code 3 = .ok (.istore_n 3, 1) := by decide +kernel
theorem d_M_tidy_4 : decode prog_12_method_31_code 4 = .ok (.iload_n 3, 1) := by decide +kernel
theorem d_M_tidy_5 : decode prog_12_method_31_code 5 = .ok (.aload_n 0, 1) := by decide +kernel
theorem d_M_tidy_6 : decode prog_12_method_31_code 6 = .ok (.getfield 40, 3) := by decide +kernel
theorem d_M_tidy_9 : decode prog_12_method_31_code 9 = .ok (.iload_n 1, 1) := by decide +kernel
theorem d_M_tidy_10 : decode prog_12_method_31_code 10 = .ok (.iaload, 1) := by decide +kernel
theorem d_M_tidy_11 : decode prog_12_method_31_code 11 = .ok (.if_icmp .ge 33, 3) := by decide +kernel
theorem d_M_tidy_14 : decode prog_12_method_31_code 14 = .ok (.iload_n 2, 1) := by decide +kernel
theorem d_M_tidy_15 : decode prog_12_method_31_code 15 = .ok (.ifCond .ne 17, 3) := by decide +kernel
theorem d_M_tidy_18 : decode prog_12_method_31_code 18 = .ok (.aload_n 0, 1) := by decide +kernel
theorem d_M_tidy_19 : decode prog_12_method_31_code 19 = .ok (.getfield 43, 3) := by decide +kernel
theorem d_M_tidy_22 : decode prog_12_method_31_code 22 = .ok (.iconst 4, 1) := by decide +kernel
theorem d_M_tidy_23 : decode prog_12_method_31_code 23 = .ok (.iload_n 1, 1) := by decide +kernel
theorem d_M_tidy_24 : decode prog_12_method_31_code 24 = .ok (.imul, 1) := by decide +kernel
theorem d_M_tidy_25 : decode prog_12_method_31_code 25 = .ok (.iload_n 3, 1) := by decide +kernel
theorem d_M_tidy_26 : decode prog_12_method_31_code 26 = .ok (.iadd, 1) := by decide +kernel
theorem d_M_tidy_27 : decode prog_12_method_31_code 27 = .ok (.iaload, 1) := by decide +kernel
theorem d_M_tidy_28 : decode prog_12_method_31_code 28 = .ok (.iconst 4, 1) := by decide +kernel
theorem d_M_tidy_29 : decode prog_12_method_31_code 29 = .ok (.if_icmp .ge 7, 3) := by decide +kernel
theorem d_M_tidy_32 : decode prog_12_method_31_code 32 = .ok (.iconst 1, 1) := by decide +kernel
theorem d_M_tidy_33 : decode prog_12_method_31_code 33 = .ok (.goto 4, 3) := by decide +kernel
theorem d_M_tidy_36 : decode prog_12_method_31_code 36 = .ok (.iconst 0, 1) := by decide +kernel
theorem d_M_tidy_37 : decode prog_12_method_31_code 37 = .ok (.istore_n 2, 1) := by decide +kernel
theorem d_M_tidy_38 : decode prog_12_method_31_code 38 = .ok (.iinc 3 1, 3) := by decide +kernel
theorem d_M_tidy_41 : decode prog_12_method_31_code 41 = .ok (.goto (-37), 3) := by decide +kernel
theorem d_M_tidy_44 : decode prog_12_method_31_code 44 = .ok (.aload_n 0, 1) := by decide +kernel
theorem d_M_tidy_45 : decode prog_12_method_31_code 45 = .ok (.getfield 21, 3) := by decide +kernel
theorem d_M_tidy_48 : decode prog_12_method_31_code 48 = .ok (.iload_n 1, 1) := by decide +kernel
theorem d_M_tidy_49 : decode prog_12_method_31_code 49 = .ok (.iload_n 2, 1) := by decide +kernel
theorem d_M_tidy_50 : decode prog_12_method_31_code 50 = .ok (.ifCond .eq 12, 3) := by decide +kernel
theorem d_M_tidy_53 : decode prog_12_method_31_code 53 = .ok (.aload_n 0, 1) := by decide +kernel
theorem d_M_tidy_54 : decode prog_12_method_31_code 54 = .ok (.getfield 21, 3) := by decide +kernel
theorem d_M_tidy_57 : decode prog_12_method_31_code 57 = .ok (.iload_n 1, 1) := by decide +kernel
theorem d_M_tidy_58 : decode prog_12_method_31_code 58 = .ok (.iaload, 1) := by decide +kernel
theorem d_M_tidy_59 : decode prog_12_method_31_code 59 = .ok (.goto 4, 3) := by decide +kernel
theorem d_M_tidy_62 : decode prog_12_method_31_code 62 = .ok (.iconst (-1), 1) := by decide +kernel
theorem d_M_tidy_63 : decode prog_12_method_31_code 63 = .ok (.iastore, 1) := by decide +kernel
theorem d_M_tidy_64 : decode prog_12_method_31_code 64 = .ok (.return_, 1) := by decide +kernel
theorem d_M_parts_0 : decode prog_12_method_48_code 0 = .ok (.aload_n 0, 1) := by decide +kernel
theorem d_M_parts_1 : decode prog_12_method_48_code 1 = .ok (.iload_n 1, 1) := by decide +kernel
theorem d_M_parts_2 : decode prog_12_method_48_code 2 = .ok (.invokevirtual 258, 3) := by decide +kernel
theorem d_M_parts_5 : decode prog_12_method_48_code 5 = .ok (.istore_n 2, 1) := by decide +kernel
theorem d_M_parts_6 : decode prog_12_method_48_code 6 = .ok (.iload_n 2, 1) := by decide +kernel
theorem d_M_parts_7 : decode prog_12_method_48_code 7 = .ok (.ifCond .ge 7, 3) := by decide +kernel
theorem d_M_parts_10 : decode prog_12_method_48_code 10 = .ok (.iconst (-1), 1) := by decide +kernel
theorem d_M_parts_11 : decode prog_12_method_48_code 11 = .ok (.goto 19, 3) := by decide +kernel
theorem d_M_parts_14 : decode prog_12_method_48_code 14 = .ok (.aload_n 0, 1) := by decide +kernel
theorem d_M_parts_15 : decode prog_12_method_48_code 15 = .ok (.iload_n 2, 1) := by decide +kernel
theorem d_M_parts_16 : decode prog_12_method_48_code 16 = .ok (.invokevirtual 261, 3) := by decide +kernel
theorem d_M_parts_19 : decode prog_12_method_48_code 19 = .ok (.ifCond .eq 10, 3) := by decide +kernel
theorem d_M_parts_22 : decode prog_12_method_48_code 22 = .ok (.aload_n 0, 1) := by decide +kernel
theorem d_M_parts_23 : decode prog_12_method_48_code 23 = .ok (.getfield 241, 3) := by decide +kernel
theorem d_M_parts_26 : decode prog_12_method_48_code 26 = .ok (.goto 4, 3) := by decide +kernel
theorem d_M_parts_29 : decode prog_12_method_48_code 29 = .ok (.iconst 0, 1) := by decide +kernel
theorem d_M_parts_30 : decode prog_12_method_48_code 30 = .ok (.ireturn, 1) := by decide +kernel
theorem d_M_placeOf_0 : decode prog_12_method_35_code 0 = .ok (.iconst (-1), 1) := by decide +kernel
theorem d_M_placeOf_1 : decode prog_12_method_35_code 1 = .ok (.istore_n 2, 1) := by decide +kernel
theorem d_M_placeOf_2 : decode prog_12_method_35_code 2 = .ok (.iconst 0, 1) := by decide +kernel
theorem d_M_placeOf_3 : decode prog_12_method_35_code 3 = .ok (.istore_n 3, 1) := by decide +kernel
theorem d_M_placeOf_4 : decode prog_12_method_35_code 4 = .ok (.iload_n 3, 1) := by decide +kernel
theorem d_M_placeOf_5 : decode prog_12_method_35_code 5 = .ok (.bipush 6, 2) := by decide +kernel
theorem d_M_placeOf_7 : decode prog_12_method_35_code 7 = .ok (.if_icmp .ge 38, 3) := by decide +kernel
theorem d_M_placeOf_10 : decode prog_12_method_35_code 10 = .ok (.iload_n 1, 1) := by decide +kernel
theorem d_M_placeOf_11 : decode prog_12_method_35_code 11 = .ok (.ifCond .lt 26, 3) := by decide +kernel
theorem d_M_placeOf_14 : decode prog_12_method_35_code 14 = .ok (.aload_n 0, 1) := by decide +kernel
theorem d_M_placeOf_15 : decode prog_12_method_35_code 15 = .ok (.getfield 21, 3) := by decide +kernel
theorem d_M_placeOf_18 : decode prog_12_method_35_code 18 = .ok (.iload_n 3, 1) := by decide +kernel
theorem d_M_placeOf_19 : decode prog_12_method_35_code 19 = .ok (.iaload, 1) := by decide +kernel
theorem d_M_placeOf_20 : decode prog_12_method_35_code 20 = .ok (.iload_n 1, 1) := by decide +kernel
theorem d_M_placeOf_21 : decode prog_12_method_35_code 21 = .ok (.if_icmp .ne 16, 3) := by decide +kernel
theorem d_M_placeOf_24 : decode prog_12_method_35_code 24 = .ok (.aload_n 0, 1) := by decide +kernel
theorem d_M_placeOf_25 : decode prog_12_method_35_code 25 = .ok (.getfield 24, 3) := by decide +kernel
theorem d_M_placeOf_28 : decode prog_12_method_35_code 28 = .ok (.iload_n 3, 1) := by decide +kernel
theorem d_M_placeOf_29 : decode prog_12_method_35_code 29 = .ok (.baload, 1) := by decide +kernel
theorem d_M_placeOf_30 : decode prog_12_method_35_code 30 = .ok (.ifCond .eq 7, 3) := by decide +kernel
theorem d_M_placeOf_33 : decode prog_12_method_35_code 33 = .ok (.iload_n 3, 1) := by decide +kernel
theorem d_M_placeOf_34 : decode prog_12_method_35_code 34 = .ok (.goto 4, 3) := by decide +kernel
theorem d_M_placeOf_37 : decode prog_12_method_35_code 37 = .ok (.iload_n 2, 1) := by decide +kernel
theorem d_M_placeOf_38 : decode prog_12_method_35_code 38 = .ok (.istore_n 2, 1) := by decide +kernel
theorem d_M_placeOf_39 : decode prog_12_method_35_code 39 = .ok (.iinc 3 1, 3) := by decide +kernel
theorem d_M_placeOf_42 : decode prog_12_method_35_code 42 = .ok (.goto (-38), 3) := by decide +kernel
theorem d_M_placeOf_45 : decode prog_12_method_35_code 45 = .ok (.iload_n 2, 1) := by decide +kernel
theorem d_M_placeOf_46 : decode prog_12_method_35_code 46 = .ok (.ireturn, 1) := by decide +kernel
theorem d_M_divided_0 : decode prog_12_method_47_code 0 = .ok (.aload_n 0, 1) := by decide +kernel
theorem d_M_divided_1 : decode prog_12_method_47_code 1 = .ok (.iload_n 1, 1) := by decide +kernel
theorem d_M_divided_2 : decode prog_12_method_47_code 2 = .ok (.invokevirtual 238, 3) := by decide +kernel
theorem d_M_divided_5 : decode prog_12_method_47_code 5 = .ok (.aload_n 0, 1) := by decide +kernel
theorem d_M_divided_6 : decode prog_12_method_47_code 6 = .ok (.iconst 0, 1) := by decide +kernel
theorem d_M_divided_7 : decode prog_12_method_47_code 7 = .ok (.putfield 241, 3) := by decide +kernel
theorem d_M_divided_10 : decode prog_12_method_47_code 10 = .ok (.aload_n 0, 1) := by decide +kernel
theorem d_M_divided_11 : decode prog_12_method_47_code 11 = .ok (.iconst 1, 1) := by decide +kernel
theorem d_M_divided_12 : decode prog_12_method_47_code 12 = .ok (.putfield 235, 3) := by decide +kernel
theorem d_M_divided_15 : decode prog_12_method_47_code 15 = .ok (.aload_n 0, 1) := by decide +kernel
theorem d_M_divided_16 : decode prog_12_method_47_code 16 = .ok (.getfield 64, 3) := by decide +kernel
theorem d_M_divided_19 : decode prog_12_method_47_code 19 = .ok (.iconst 0, 1) := by decide +kernel
theorem d_M_divided_20 : decode prog_12_method_47_code 20 = .ok (.iconst 0, 1) := by decide +kernel
theorem d_M_divided_21 : decode prog_12_method_47_code 21 = .ok (.iastore, 1) := by decide +kernel
theorem d_M_divided_22 : decode prog_12_method_47_code 22 = .ok (.aload_n 0, 1) := by decide +kernel
theorem d_M_divided_23 : decode prog_12_method_47_code 23 = .ok (.getfield 67, 3) := by decide +kernel
theorem d_M_divided_26 : decode prog_12_method_47_code 26 = .ok (.iconst 0, 1) := by decide +kernel
theorem d_M_divided_27 : decode prog_12_method_47_code 27 = .ok (.aload_n 0, 1) := by decide +kernel
theorem d_M_divided_28 : decode prog_12_method_47_code 28 = .ok (.getfield 195, 3) := by decide +kernel
theorem d_M_divided_31 : decode prog_12_method_47_code 31 = .ok (.iastore, 1) := by decide +kernel
theorem d_M_divided_32 : decode prog_12_method_47_code 32 = .ok (.aload_n 0, 1) := by decide +kernel
theorem d_M_divided_33 : decode prog_12_method_47_code 33 = .ok (.getfield 70, 3) := by decide +kernel
theorem d_M_divided_36 : decode prog_12_method_47_code 36 = .ok (.iconst 0, 1) := by decide +kernel
theorem d_M_divided_37 : decode prog_12_method_47_code 37 = .ok (.iconst 0, 1) := by decide +kernel
theorem d_M_divided_38 : decode prog_12_method_47_code 38 = .ok (.iastore, 1) := by decide +kernel
theorem d_M_divided_39 : decode prog_12_method_47_code 39 = .ok (.aload_n 0, 1) := by decide +kernel
theorem d_M_divided_40 : decode prog_12_method_47_code 40 = .ok (.getfield 235, 3) := by decide +kernel
theorem d_M_divided_43 : decode prog_12_method_47_code 43 = .ok (.ifCond .le 170, 3) := by decide +kernel
theorem d_M_divided_46 : decode prog_12_method_47_code 46 = .ok (.aload_n 0, 1) := by decide +kernel
theorem d_M_divided_47 : decode prog_12_method_47_code 47 = .ok (.aload_n 0, 1) := by decide +kernel
theorem d_M_divided_48 : decode prog_12_method_47_code 48 = .ok (.getfield 235, 3) := by decide +kernel
theorem d_M_divided_51 : decode prog_12_method_47_code 51 = .ok (.iconst 1, 1) := by decide +kernel
theorem d_M_divided_52 : decode prog_12_method_47_code 52 = .ok (.isub, 1) := by decide +kernel
theorem d_M_divided_53 : decode prog_12_method_47_code 53 = .ok (.putfield 235, 3) := by decide +kernel
theorem d_M_divided_56 : decode prog_12_method_47_code 56 = .ok (.aload_n 0, 1) := by decide +kernel
theorem d_M_divided_57 : decode prog_12_method_47_code 57 = .ok (.getfield 64, 3) := by decide +kernel
theorem d_M_divided_60 : decode prog_12_method_47_code 60 = .ok (.aload_n 0, 1) := by decide +kernel
theorem d_M_divided_61 : decode prog_12_method_47_code 61 = .ok (.getfield 235, 3) := by decide +kernel
theorem d_M_divided_64 : decode prog_12_method_47_code 64 = .ok (.iaload, 1) := by decide +kernel
theorem d_M_divided_65 : decode prog_12_method_47_code 65 = .ok (.istore_n 2, 1) := by decide +kernel
theorem d_M_divided_66 : decode prog_12_method_47_code 66 = .ok (.aload_n 0, 1) := by decide +kernel
theorem d_M_divided_67 : decode prog_12_method_47_code 67 = .ok (.getfield 67, 3) := by decide +kernel
theorem d_M_divided_70 : decode prog_12_method_47_code 70 = .ok (.aload_n 0, 1) := by decide +kernel
theorem d_M_divided_71 : decode prog_12_method_47_code 71 = .ok (.getfield 235, 3) := by decide +kernel
theorem d_M_divided_74 : decode prog_12_method_47_code 74 = .ok (.iaload, 1) := by decide +kernel
theorem d_M_divided_75 : decode prog_12_method_47_code 75 = .ok (.istore_n 3, 1) := by decide +kernel
theorem d_M_divided_76 : decode prog_12_method_47_code 76 = .ok (.aload_n 0, 1) := by decide +kernel
theorem d_M_divided_77 : decode prog_12_method_47_code 77 = .ok (.getfield 70, 3) := by decide +kernel
theorem d_M_divided_80 : decode prog_12_method_47_code 80 = .ok (.aload_n 0, 1) := by decide +kernel
theorem d_M_divided_81 : decode prog_12_method_47_code 81 = .ok (.getfield 235, 3) := by decide +kernel
theorem d_M_divided_84 : decode prog_12_method_47_code 84 = .ok (.iaload, 1) := by decide +kernel
theorem d_M_divided_85 : decode prog_12_method_47_code 85 = .ok (.istore 4, 2) := by decide +kernel
theorem d_M_divided_87 : decode prog_12_method_47_code 87 = .ok (.aload_n 0, 1) := by decide +kernel
theorem d_M_divided_88 : decode prog_12_method_47_code 88 = .ok (.iload_n 2, 1) := by decide +kernel
theorem d_M_divided_89 : decode prog_12_method_47_code 89 = .ok (.iload_n 3, 1) := by decide +kernel
theorem d_M_divided_90 : decode prog_12_method_47_code 90 = .ok (.invokevirtual 244, 3) := by decide +kernel
theorem d_M_divided_93 : decode prog_12_method_47_code 93 = .ok (.istore 5, 2) := by decide +kernel
theorem d_M_divided_95 : decode prog_12_method_47_code 95 = .ok (.aload_n 0, 1) := by decide +kernel
theorem d_M_divided_96 : decode prog_12_method_47_code 96 = .ok (.getfield 241, 3) := by decide +kernel
theorem d_M_divided_99 : decode prog_12_method_47_code 99 = .ok (.bipush 16, 2) := by decide +kernel
theorem d_M_divided_101 : decode prog_12_method_47_code 101 = .ok (.if_icmp .eq 13, 3) := by decide +kernel
theorem d_M_divided_104 : decode prog_12_method_47_code 104 = .ok (.aload_n 0, 1) := by decide +kernel
theorem d_M_divided_105 : decode prog_12_method_47_code 105 = .ok (.iload_n 2, 1) := by decide +kernel
theorem d_M_divided_106 : decode prog_12_method_47_code 106 = .ok (.iload 5, 2) := by decide +kernel
theorem d_M_divided_108 : decode prog_12_method_47_code 108 = .ok (.invokevirtual 248, 3) := by decide +kernel
theorem d_M_divided_111 : decode prog_12_method_47_code 111 = .ok (.ifCond .ne 5, 3) := by decide +kernel
theorem d_M_divided_114 : decode prog_12_method_47_code 114 = .ok (.iconst 0, 1) := by decide +kernel
theorem d_M_divided_115 : decode prog_12_method_47_code 115 = .ok (.ireturn, 1) := by decide +kernel
theorem d_M_divided_116 : decode prog_12_method_47_code 116 = .ok (.aload_n 0, 1) := by decide +kernel
theorem d_M_divided_117 : decode prog_12_method_47_code 117 = .ok (.iload_n 2, 1) := by decide +kernel
theorem d_M_divided_118 : decode prog_12_method_47_code 118 = .ok (.iload 5, 2) := by decide +kernel
theorem d_M_divided_120 : decode prog_12_method_47_code 120 = .ok (.invokevirtual 251, 3) := by decide +kernel
theorem d_M_divided_123 : decode prog_12_method_47_code 123 = .ok (.istore 6, 2) := by decide +kernel
theorem d_M_divided_125 : decode prog_12_method_47_code 125 = .ok (.aload_n 0, 1) := by decide +kernel
theorem d_M_divided_126 : decode prog_12_method_47_code 126 = .ok (.getfield 55, 3) := by decide +kernel
theorem d_M_divided_129 : decode prog_12_method_47_code 129 = .ok (.aload_n 0, 1) := by decide +kernel
theorem d_M_divided_130 : decode prog_12_method_47_code 130 = .ok (.getfield 241, 3) := by decide +kernel
theorem d_M_divided_133 : decode prog_12_method_47_code 133 = .ok (.iload_n 2, 1) := by decide +kernel
theorem d_M_divided_134 : decode prog_12_method_47_code 134 = .ok (.iastore, 1) := by decide +kernel
theorem d_M_divided_135 : decode prog_12_method_47_code 135 = .ok (.aload_n 0, 1) := by decide +kernel
theorem d_M_divided_136 : decode prog_12_method_47_code 136 = .ok (.getfield 58, 3) := by decide +kernel
theorem d_M_divided_139 : decode prog_12_method_47_code 139 = .ok (.aload_n 0, 1) := by decide +kernel
theorem d_M_divided_140 : decode prog_12_method_47_code 140 = .ok (.getfield 241, 3) := by decide +kernel
theorem d_M_divided_143 : decode prog_12_method_47_code 143 = .ok (.iload_n 3, 1) := by decide +kernel
theorem d_M_divided_144 : decode prog_12_method_47_code 144 = .ok (.iastore, 1) := by decide +kernel
theorem d_M_divided_145 : decode prog_12_method_47_code 145 = .ok (.aload_n 0, 1) := by decide +kernel
theorem d_M_divided_146 : decode prog_12_method_47_code 146 = .ok (.getfield 52, 3) := by decide +kernel
theorem d_M_divided_149 : decode prog_12_method_47_code 149 = .ok (.aload_n 0, 1) := by decide +kernel
theorem d_M_divided_150 : decode prog_12_method_47_code 150 = .ok (.getfield 241, 3) := by decide +kernel
theorem d_M_divided_153 : decode prog_12_method_47_code 153 = .ok (.iload 4, 2) := by decide +kernel
theorem d_M_divided_155 : decode prog_12_method_47_code 155 = .ok (.iastore, 1) := by decide +kernel
theorem d_M_divided_156 : decode prog_12_method_47_code 156 = .ok (.aload_n 0, 1) := by decide +kernel
theorem d_M_divided_157 : decode prog_12_method_47_code 157 = .ok (.getfield 61, 3) := by decide +kernel
theorem d_M_divided_160 : decode prog_12_method_47_code 160 = .ok (.aload_n 0, 1) := by decide +kernel
theorem d_M_divided_161 : decode prog_12_method_47_code 161 = .ok (.getfield 241, 3) := by decide +kernel
theorem d_M_divided_164 : decode prog_12_method_47_code 164 = .ok (.iload 6, 2) := by decide +kernel
theorem d_M_divided_166 : decode prog_12_method_47_code 166 = .ok (.bastore, 1) := by decide +kernel
theorem d_M_divided_167 : decode prog_12_method_47_code 167 = .ok (.aload_n 0, 1) := by decide +kernel
theorem d_M_divided_168 : decode prog_12_method_47_code 168 = .ok (.aload_n 0, 1) := by decide +kernel
theorem d_M_divided_169 : decode prog_12_method_47_code 169 = .ok (.getfield 241, 3) := by decide +kernel
theorem d_M_divided_172 : decode prog_12_method_47_code 172 = .ok (.iconst 1, 1) := by decide +kernel
theorem d_M_divided_173 : decode prog_12_method_47_code 173 = .ok (.iadd, 1) := by decide +kernel
theorem d_M_divided_174 : decode prog_12_method_47_code 174 = .ok (.putfield 241, 3) := by decide +kernel
theorem d_M_divided_177 : decode prog_12_method_47_code 177 = .ok (.iload 6, 2) := by decide +kernel
theorem d_M_divided_179 : decode prog_12_method_47_code 179 = .ok (.ifCond .eq 31, 3) := by decide +kernel
theorem d_M_divided_182 : decode prog_12_method_47_code 182 = .ok (.aload_n 0, 1) := by decide +kernel
theorem d_M_divided_183 : decode prog_12_method_47_code 183 = .ok (.iload 5, 2) := by decide +kernel
theorem d_M_divided_185 : decode prog_12_method_47_code 185 = .ok (.iload_n 3, 1) := by decide +kernel
theorem d_M_divided_186 : decode prog_12_method_47_code 186 = .ok (.if_icmp .ge 10, 3) := by decide +kernel
theorem d_M_divided_189 : decode prog_12_method_47_code 189 = .ok (.iload 5, 2) := by decide +kernel
theorem d_M_divided_191 : decode prog_12_method_47_code 191 = .ok (.iconst 1, 1) := by decide +kernel
theorem d_M_divided_192 : decode prog_12_method_47_code 192 = .ok (.iadd, 1) := by decide +kernel
theorem d_M_divided_193 : decode prog_12_method_47_code 193 = .ok (.goto 4, 3) := by decide +kernel
theorem d_M_divided_196 : decode prog_12_method_47_code 196 = .ok (.iload_n 3, 1) := by decide +kernel
theorem d_M_divided_197 : decode prog_12_method_47_code 197 = .ok (.iload_n 3, 1) := by decide +kernel
theorem d_M_divided_198 : decode prog_12_method_47_code 198 = .ok (.iload 4, 2) := by decide +kernel
theorem d_M_divided_200 : decode prog_12_method_47_code 200 = .ok (.iconst 1, 1) := by decide +kernel
theorem d_M_divided_201 : decode prog_12_method_47_code 201 = .ok (.iadd, 1) := by decide +kernel
theorem d_M_divided_202 : decode prog_12_method_47_code 202 = .ok (.invokevirtual 254, 3) := by decide +kernel
theorem d_M_divided_205 : decode prog_12_method_47_code 205 = .ok (.ifCond .ne 5, 3) := by decide +kernel
theorem d_M_divided_208 : decode prog_12_method_47_code 208 = .ok (.iconst 0, 1) := by decide +kernel
theorem d_M_divided_209 : decode prog_12_method_47_code 209 = .ok (.ireturn, 1) := by decide +kernel
theorem d_M_divided_210 : decode prog_12_method_47_code 210 = .ok (.goto (-171), 3) := by decide +kernel
theorem d_M_divided_213 : decode prog_12_method_47_code 213 = .ok (.iconst 1, 1) := by decide +kernel
theorem d_M_divided_214 : decode prog_12_method_47_code 214 = .ok (.ireturn, 1) := by decide +kernel
theorem d_M_findLines_0 : decode prog_12_method_36_code 0 = .ok (.aload_n 0, 1) := by decide +kernel
theorem d_M_findLines_1 : decode prog_12_method_36_code 1 = .ok (.iconst 0, 1) := by decide +kernel
theorem d_M_findLines_2 : decode prog_12_method_36_code 2 = .ok (.putfield 195, 3) := by decide +kernel
theorem d_M_findLines_5 : decode prog_12_method_36_code 5 = .ok (.aload_n 0, 1) := by decide +kernel
theorem d_M_findLines_6 : decode prog_12_method_36_code 6 = .ok (.getfield 49, 3) := by decide +kernel
theorem d_M_findLines_9 : decode prog_12_method_36_code 9 = .ok (.iconst 0, 1) := by decide +kernel
theorem d_M_findLines_10 : decode prog_12_method_36_code 10 = .ok (.sipush 602, 3) := by decide +kernel
theorem d_M_findLines_13 : decode prog_12_method_36_code 13 = .ok (.iload_n 1, 1) := by decide +kernel
theorem d_M_findLines_14 : decode prog_12_method_36_code 14 = .ok (.imul, 1) := by decide +kernel
theorem d_M_findLines_15 : decode prog_12_method_36_code 15 = .ok (.iastore, 1) := by decide +kernel
theorem d_M_findLines_16 : decode prog_12_method_36_code 16 = .ok (.iconst 0, 1) := by decide +kernel
theorem d_M_findLines_17 : decode prog_12_method_36_code 17 = .ok (.istore_n 2, 1) := by decide +kernel
theorem d_M_findLines_18 : decode prog_12_method_36_code 18 = .ok (.iload_n 2, 1) := by decide +kernel
theorem d_M_findLines_19 : decode prog_12_method_36_code 19 = .ok (.aload_n 0, 1) := by decide +kernel
theorem d_M_findLines_20 : decode prog_12_method_36_code 20 = .ok (.getfield 31, 3) := by decide +kernel
theorem d_M_findLines_23 : decode prog_12_method_36_code 23 = .ok (.iload_n 1, 1) := by decide +kernel
theorem d_M_findLines_24 : decode prog_12_method_36_code 24 = .ok (.iaload, 1) := by decide +kernel
theorem d_M_findLines_25 : decode prog_12_method_36_code 25 = .ok (.if_icmp .ge 54, 3) := by decide +kernel
theorem d_M_findLines_28 : decode prog_12_method_36_code 28 = .ok (.aload_n 0, 1) := by decide +kernel
theorem d_M_findLines_29 : decode prog_12_method_36_code 29 = .ok (.getfield 28, 3) := by decide +kernel
theorem d_M_findLines_32 : decode prog_12_method_36_code 32 = .ok (.sipush 602, 3) := by decide +kernel
theorem d_M_findLines_35 : decode prog_12_method_36_code 35 = .ok (.iload_n 1, 1) := by decide +kernel
theorem d_M_findLines_36 : decode prog_12_method_36_code 36 = .ok (.imul, 1) := by decide +kernel
theorem d_M_findLines_37 : decode prog_12_method_36_code 37 = .ok (.iload_n 2, 1) := by decide +kernel
theorem d_M_findLines_38 : decode prog_12_method_36_code 38 = .ok (.iadd, 1) := by decide +kernel
theorem d_M_findLines_39 : decode prog_12_method_36_code 39 = .ok (.iaload, 1) := by decide +kernel
theorem d_M_findLines_40 : decode prog_12_method_36_code 40 = .ok (.bipush 10, 2) := by decide +kernel
theorem d_M_findLines_42 : decode prog_12_method_36_code 42 = .ok (.if_icmp .ne 31, 3) := by decide +kernel
theorem d_M_findLines_45 : decode prog_12_method_36_code 45 = .ok (.aload_n 0, 1) := by decide +kernel
theorem d_M_findLines_46 : decode prog_12_method_36_code 46 = .ok (.aload_n 0, 1) := by decide +kernel
theorem d_M_findLines_47 : decode prog_12_method_36_code 47 = .ok (.getfield 195, 3) := by decide +kernel
theorem d_M_findLines_50 : decode prog_12_method_36_code 50 = .ok (.iconst 1, 1) := by decide +kernel
theorem d_M_findLines_51 : decode prog_12_method_36_code 51 = .ok (.iadd, 1) := by decide +kernel
theorem d_M_findLines_52 : decode prog_12_method_36_code 52 = .ok (.putfield 195, 3) := by decide +kernel
theorem d_M_findLines_55 : decode prog_12_method_36_code 55 = .ok (.aload_n 0, 1) := by decide +kernel
theorem d_M_findLines_56 : decode prog_12_method_36_code 56 = .ok (.getfield 49, 3) := by decide +kernel
theorem d_M_findLines_59 : decode prog_12_method_36_code 59 = .ok (.aload_n 0, 1) := by decide +kernel
theorem d_M_findLines_60 : decode prog_12_method_36_code 60 = .ok (.getfield 195, 3) := by decide +kernel
theorem d_M_findLines_63 : decode prog_12_method_36_code 63 = .ok (.sipush 602, 3) := by decide +kernel
theorem d_M_findLines_66 : decode prog_12_method_36_code 66 = .ok (.iload_n 1, 1) := by decide +kernel
theorem d_M_findLines_67 : decode prog_12_method_36_code 67 = .ok (.imul, 1) := by decide +kernel
theorem d_M_findLines_68 : decode prog_12_method_36_code 68 = .ok (.iload_n 2, 1) := by decide +kernel
theorem d_M_findLines_69 : decode prog_12_method_36_code 69 = .ok (.iadd, 1) := by decide +kernel
theorem d_M_findLines_70 : decode prog_12_method_36_code 70 = .ok (.iconst 1, 1) := by decide +kernel
theorem d_M_findLines_71 : decode prog_12_method_36_code 71 = .ok (.iadd, 1) := by decide +kernel
theorem d_M_findLines_72 : decode prog_12_method_36_code 72 = .ok (.iastore, 1) := by decide +kernel
theorem d_M_findLines_73 : decode prog_12_method_36_code 73 = .ok (.iinc 2 1, 3) := by decide +kernel
theorem d_M_findLines_76 : decode prog_12_method_36_code 76 = .ok (.goto (-58), 3) := by decide +kernel
theorem d_M_findLines_79 : decode prog_12_method_36_code 79 = .ok (.return_, 1) := by decide +kernel
theorem d_M_headEnd_0 : decode prog_12_method_41_code 0 = .ok (.iload_n 1, 1) := by decide +kernel
theorem d_M_headEnd_1 : decode prog_12_method_41_code 1 = .ok (.istore_n 3, 1) := by decide +kernel
theorem d_M_headEnd_2 : decode prog_12_method_41_code 2 = .ok (.iload_n 3, 1) := by decide +kernel
theorem d_M_headEnd_3 : decode prog_12_method_41_code 3 = .ok (.iload_n 2, 1) := by decide +kernel
theorem d_M_headEnd_4 : decode prog_12_method_41_code 4 = .ok (.if_icmp .ge 18, 3) := by decide +kernel
theorem d_M_headEnd_7 : decode prog_12_method_41_code 7 = .ok (.aload_n 0, 1) := by decide +kernel
theorem d_M_headEnd_8 : decode prog_12_method_41_code 8 = .ok (.iload_n 3, 1) := by decide +kernel
theorem d_M_headEnd_9 : decode prog_12_method_41_code 9 = .ok (.invokevirtual 201, 3) := by decide +kernel
theorem d_M_headEnd_12 : decode prog_12_method_41_code 12 = .ok (.ifCond .ne 10, 3) := by decide +kernel
theorem d_M_headEnd_15 : decode prog_12_method_41_code 15 = .ok (.iload_n 3, 1) := by decide +kernel
theorem d_M_headEnd_16 : decode prog_12_method_41_code 16 = .ok (.iconst 1, 1) := by decide +kernel
theorem d_M_headEnd_17 : decode prog_12_method_41_code 17 = .ok (.iadd, 1) := by decide +kernel
theorem d_M_headEnd_18 : decode prog_12_method_41_code 18 = .ok (.istore_n 3, 1) := by decide +kernel
theorem d_M_headEnd_19 : decode prog_12_method_41_code 19 = .ok (.goto (-17), 3) := by decide +kernel
theorem d_M_headEnd_22 : decode prog_12_method_41_code 22 = .ok (.iload_n 3, 1) := by decide +kernel
theorem d_M_headEnd_23 : decode prog_12_method_41_code 23 = .ok (.ireturn, 1) := by decide +kernel
theorem d_M_isEmpty_0 : decode prog_12_method_38_code 0 = .ok (.aload_n 0, 1) := by decide +kernel
theorem d_M_isEmpty_1 : decode prog_12_method_38_code 1 = .ok (.iload_n 1, 1) := by decide +kernel
theorem d_M_isEmpty_2 : decode prog_12_method_38_code 2 = .ok (.invokevirtual 198, 3) := by decide +kernel
theorem d_M_isEmpty_5 : decode prog_12_method_38_code 5 = .ok (.aload_n 0, 1) := by decide +kernel
theorem d_M_isEmpty_6 : decode prog_12_method_38_code 6 = .ok (.getfield 49, 3) := by decide +kernel
theorem d_M_isEmpty_9 : decode prog_12_method_38_code 9 = .ok (.iload_n 1, 1) := by decide +kernel
theorem d_M_isEmpty_10 : decode prog_12_method_38_code 10 = .ok (.iaload, 1) := by decide +kernel
theorem d_M_isEmpty_11 : decode prog_12_method_38_code 11 = .ok (.if_icmp .ne 7, 3) := by decide +kernel
theorem d_M_isEmpty_14 : decode prog_12_method_38_code 14 = .ok (.iconst 1, 1) := by decide +kernel
theorem d_M_isEmpty_15 : decode prog_12_method_38_code 15 = .ok (.goto 4, 3) := by decide +kernel
theorem d_M_isEmpty_18 : decode prog_12_method_38_code 18 = .ok (.iconst 0, 1) := by decide +kernel
theorem d_M_isEmpty_19 : decode prog_12_method_38_code 19 = .ok (.ireturn, 1) := by decide +kernel
theorem d_M_endOf_0 : decode prog_12_method_37_code 0 = .ok (.aload_n 0, 1) := by decide +kernel
theorem d_M_endOf_1 : decode prog_12_method_37_code 1 = .ok (.getfield 49, 3) := by decide +kernel
theorem d_M_endOf_4 : decode prog_12_method_37_code 4 = .ok (.iload_n 1, 1) := by decide +kernel
theorem d_M_endOf_5 : decode prog_12_method_37_code 5 = .ok (.iconst 1, 1) := by decide +kernel
theorem d_M_endOf_6 : decode prog_12_method_37_code 6 = .ok (.iadd, 1) := by decide +kernel
theorem d_M_endOf_7 : decode prog_12_method_37_code 7 = .ok (.iaload, 1) := by decide +kernel
theorem d_M_endOf_8 : decode prog_12_method_37_code 8 = .ok (.iconst 1, 1) := by decide +kernel
theorem d_M_endOf_9 : decode prog_12_method_37_code 9 = .ok (.isub, 1) := by decide +kernel
theorem d_M_endOf_10 : decode prog_12_method_37_code 10 = .ok (.ireturn, 1) := by decide +kernel
theorem d_M_rightHead_0 : decode prog_12_method_42_code 0 = .ok (.iconst 1, 1) := by decide +kernel
theorem d_M_rightHead_1 : decode prog_12_method_42_code 1 = .ok (.istore_n 3, 1) := by decide +kernel
theorem d_M_rightHead_2 : decode prog_12_method_42_code 2 = .ok (.iload_n 1, 1) := by decide +kernel
theorem d_M_rightHead_3 : decode prog_12_method_42_code 3 = .ok (.istore 4, 2) := by decide +kernel
theorem d_M_rightHead_5 : decode prog_12_method_42_code 5 = .ok (.iload 4, 2) := by decide +kernel
theorem d_M_rightHead_7 : decode prog_12_method_42_code 7 = .ok (.iload_n 2, 1) := by decide +kernel
theorem d_M_rightHead_8 : decode prog_12_method_42_code 8 = .ok (.if_icmp .ge 51, 3) := by decide +kernel
theorem d_M_rightHead_11 : decode prog_12_method_42_code 11 = .ok (.iload_n 3, 1) := by decide +kernel
theorem d_M_rightHead_12 : decode prog_12_method_42_code 12 = .ok (.ifCond .eq 39, 3) := by decide +kernel
theorem d_M_rightHead_15 : decode prog_12_method_42_code 15 = .ok (.aload_n 0, 1) := by decide +kernel
theorem d_M_rightHead_16 : decode prog_12_method_42_code 16 = .ok (.iload 4, 2) := by decide +kernel
theorem d_M_rightHead_18 : decode prog_12_method_42_code 18 = .ok (.invokevirtual 204, 3) := by decide +kernel
theorem d_M_rightHead_21 : decode prog_12_method_42_code 21 = .ok (.ifCond .ge 26, 3) := by decide +kernel
theorem d_M_rightHead_24 : decode prog_12_method_42_code 24 = .ok (.aload_n 0, 1) := by decide +kernel
theorem d_M_rightHead_25 : decode prog_12_method_42_code 25 = .ok (.getfield 28, 3) := by decide +kernel
theorem d_M_rightHead_28 : decode prog_12_method_42_code 28 = .ok (.aload_n 0, 1) := by decide +kernel
theorem d_M_rightHead_29 : decode prog_12_method_42_code 29 = .ok (.getfield 49, 3) := by decide +kernel
theorem d_M_rightHead_32 : decode prog_12_method_42_code 32 = .ok (.iload 4, 2) := by decide +kernel
theorem d_M_rightHead_34 : decode prog_12_method_42_code 34 = .ok (.iaload, 1) := by decide +kernel
theorem d_M_rightHead_35 : decode prog_12_method_42_code 35 = .ok (.iaload, 1) := by decide +kernel
theorem d_M_rightHead_36 : decode prog_12_method_42_code 36 = .ok (.bipush 32, 2) := by decide +kernel
theorem d_M_rightHead_38 : decode prog_12_method_42_code 38 = .ok (.if_icmp .ne 13, 3) := by decide +kernel
theorem d_M_rightHead_41 : decode prog_12_method_42_code 41 = .ok (.iload 4, 2) := by decide +kernel
theorem d_M_rightHead_43 : decode prog_12_method_42_code 43 = .ok (.iload_n 1, 1) := by decide +kernel
theorem d_M_rightHead_44 : decode prog_12_method_42_code 44 = .ok (.if_icmp .le 7, 3) := by decide +kernel
theorem d_M_rightHead_47 : decode prog_12_method_42_code 47 = .ok (.iconst 1, 1) := by decide +kernel
theorem d_M_rightHead_48 : decode prog_12_method_42_code 48 = .ok (.goto 4, 3) := by decide +kernel
theorem d_M_rightHead_51 : decode prog_12_method_42_code 51 = .ok (.iconst 0, 1) := by decide +kernel
theorem d_M_rightHead_52 : decode prog_12_method_42_code 52 = .ok (.istore_n 3, 1) := by decide +kernel
theorem d_M_rightHead_53 : decode prog_12_method_42_code 53 = .ok (.iinc 4 1, 3) := by decide +kernel
theorem d_M_rightHead_56 : decode prog_12_method_42_code 56 = .ok (.goto (-51), 3) := by decide +kernel
theorem d_M_rightHead_59 : decode prog_12_method_42_code 59 = .ok (.iload_n 3, 1) := by decide +kernel
theorem d_M_rightHead_60 : decode prog_12_method_42_code 60 = .ok (.ireturn, 1) := by decide +kernel
theorem d_M_colon_0 : decode prog_12_method_40_code 0 = .ok (.aload_n 0, 1) := by decide +kernel
theorem d_M_colon_1 : decode prog_12_method_40_code 1 = .ok (.getfield 49, 3) := by decide +kernel
theorem d_M_colon_4 : decode prog_12_method_40_code 4 = .ok (.iload_n 1, 1) := by decide +kernel
theorem d_M_colon_5 : decode prog_12_method_40_code 5 = .ok (.iaload, 1) := by decide +kernel
theorem d_M_colon_6 : decode prog_12_method_40_code 6 = .ok (.istore_n 2, 1) := by decide +kernel
theorem d_M_colon_7 : decode prog_12_method_40_code 7 = .ok (.iload_n 2, 1) := by decide +kernel
theorem d_M_colon_8 : decode prog_12_method_40_code 8 = .ok (.aload_n 0, 1) := by decide +kernel
theorem d_M_colon_9 : decode prog_12_method_40_code 9 = .ok (.iload_n 1, 1) := by decide +kernel
theorem d_M_colon_10 : decode prog_12_method_40_code 10 = .ok (.invokevirtual 198, 3) := by decide +kernel
theorem d_M_colon_13 : decode prog_12_method_40_code 13 = .ok (.if_icmp .ge 33, 3) := by decide +kernel
theorem d_M_colon_16 : decode prog_12_method_40_code 16 = .ok (.aload_n 0, 1) := by decide +kernel
theorem d_M_colon_17 : decode prog_12_method_40_code 17 = .ok (.getfield 28, 3) := by decide +kernel
theorem d_M_colon_20 : decode prog_12_method_40_code 20 = .ok (.iload_n 2, 1) := by decide +kernel
theorem d_M_colon_21 : decode prog_12_method_40_code 21 = .ok (.iaload, 1) := by decide +kernel
theorem d_M_colon_22 : decode prog_12_method_40_code 22 = .ok (.invokestatic 108, 3) := by decide +kernel
theorem d_M_colon_25 : decode prog_12_method_40_code 25 = .ok (.ifCond .ne 14, 3) := by decide +kernel
theorem d_M_colon_28 : decode prog_12_method_40_code 28 = .ok (.aload_n 0, 1) := by decide +kernel
theorem d_M_colon_29 : decode prog_12_method_40_code 29 = .ok (.getfield 28, 3) := by decide +kernel
theorem d_M_colon_32 : decode prog_12_method_40_code 32 = .ok (.iload_n 2, 1) := by decide +kernel
theorem d_M_colon_33 : decode prog_12_method_40_code 33 = .ok (.iaload, 1) := by decide +kernel
theorem d_M_colon_34 : decode prog_12_method_40_code 34 = .ok (.bipush 45, 2) := by decide +kernel
theorem d_M_colon_36 : decode prog_12_method_40_code 36 = .ok (.if_icmp .ne 10, 3) := by decide +kernel
theorem d_M_colon_39 : decode prog_12_method_40_code 39 = .ok (.iload_n 2, 1) := by decide +kernel
theorem d_M_colon_40 : decode prog_12_method_40_code 40 = .ok (.iconst 1, 1) := by decide +kernel
theorem d_M_colon_41 : decode prog_12_method_40_code 41 = .ok (.iadd, 1) := by decide +kernel
theorem d_M_colon_42 : decode prog_12_method_40_code 42 = .ok (.istore_n 2, 1) := by decide +kernel
theorem d_M_colon_43 : decode prog_12_method_40_code 43 = .ok (.goto (-36), 3) := by decide +kernel
theorem d_M_colon_46 : decode prog_12_method_40_code 46 = .ok (.iload_n 2, 1) := by decide +kernel
theorem d_M_colon_47 : decode prog_12_method_40_code 47 = .ok (.aload_n 0, 1) := by decide +kernel
theorem d_M_colon_48 : decode prog_12_method_40_code 48 = .ok (.iload_n 1, 1) := by decide +kernel
theorem d_M_colon_49 : decode prog_12_method_40_code 49 = .ok (.invokevirtual 198, 3) := by decide +kernel
theorem d_M_colon_52 : decode prog_12_method_40_code 52 = .ok (.if_icmp .ge 28, 3) := by decide +kernel
theorem d_M_colon_55 : decode prog_12_method_40_code 55 = .ok (.iload_n 2, 1) := by decide +kernel
theorem d_M_colon_56 : decode prog_12_method_40_code 56 = .ok (.aload_n 0, 1) := by decide +kernel
theorem d_M_colon_57 : decode prog_12_method_40_code 57 = .ok (.getfield 49, 3) := by decide +kernel
theorem d_M_colon_60 : decode prog_12_method_40_code 60 = .ok (.iload_n 1, 1) := by decide +kernel
theorem d_M_colon_61 : decode prog_12_method_40_code 61 = .ok (.iaload, 1) := by decide +kernel
theorem d_M_colon_62 : decode prog_12_method_40_code 62 = .ok (.if_icmp .le 18, 3) := by decide +kernel
theorem d_M_colon_65 : decode prog_12_method_40_code 65 = .ok (.aload_n 0, 1) := by decide +kernel
theorem d_M_colon_66 : decode prog_12_method_40_code 66 = .ok (.getfield 28, 3) := by decide +kernel
theorem d_M_colon_69 : decode prog_12_method_40_code 69 = .ok (.iload_n 2, 1) := by decide +kernel
theorem d_M_colon_70 : decode prog_12_method_40_code 70 = .ok (.iaload, 1) := by decide +kernel
theorem d_M_colon_71 : decode prog_12_method_40_code 71 = .ok (.bipush 58, 2) := by decide +kernel
theorem d_M_colon_73 : decode prog_12_method_40_code 73 = .ok (.if_icmp .ne 7, 3) := by decide +kernel
theorem d_M_colon_76 : decode prog_12_method_40_code 76 = .ok (.iload_n 2, 1) := by decide +kernel
theorem d_M_colon_77 : decode prog_12_method_40_code 77 = .ok (.goto 4, 3) := by decide +kernel
theorem d_M_colon_80 : decode prog_12_method_40_code 80 = .ok (.iconst (-1), 1) := by decide +kernel
theorem d_M_colon_81 : decode prog_12_method_40_code 81 = .ok (.ireturn, 1) := by decide +kernel
theorem d_M_isMulti_0 : decode prog_12_method_44_code 0 = .ok (.iload_n 1, 1) := by decide +kernel
theorem d_M_isMulti_1 : decode prog_12_method_44_code 1 = .ok (.istore_n 3, 1) := by decide +kernel
theorem d_M_isMulti_2 : decode prog_12_method_44_code 2 = .ok (.iload_n 3, 1) := by decide +kernel
theorem d_M_isMulti_3 : decode prog_12_method_44_code 3 = .ok (.iload_n 2, 1) := by decide +kernel
theorem d_M_isMulti_4 : decode prog_12_method_44_code 4 = .ok (.if_icmp .ge 63, 3) := by decide +kernel
theorem d_M_isMulti_7 : decode prog_12_method_44_code 7 = .ok (.aload_n 0, 1) := by decide +kernel
theorem d_M_isMulti_8 : decode prog_12_method_44_code 8 = .ok (.iload_n 3, 1) := by decide +kernel
theorem d_M_isMulti_9 : decode prog_12_method_44_code 9 = .ok (.invokevirtual 204, 3) := by decide +kernel
theorem d_M_isMulti_12 : decode prog_12_method_44_code 12 = .ok (.istore 4, 2) := by decide +kernel
theorem d_M_isMulti_14 : decode prog_12_method_44_code 14 = .ok (.iload 4, 2) := by decide +kernel
theorem d_M_isMulti_16 : decode prog_12_method_44_code 16 = .ok (.aload_n 0, 1) := by decide +kernel
theorem d_M_isMulti_17 : decode prog_12_method_44_code 17 = .ok (.getfield 49, 3) := by decide +kernel
theorem d_M_isMulti_20 : decode prog_12_method_44_code 20 = .ok (.iload_n 3, 1) := by decide +kernel
theorem d_M_isMulti_21 : decode prog_12_method_44_code 21 = .ok (.iaload, 1) := by decide +kernel
theorem d_M_isMulti_22 : decode prog_12_method_44_code 22 = .ok (.bipush 12, 2) := by decide +kernel
theorem d_M_isMulti_24 : decode prog_12_method_44_code 24 = .ok (.iadd, 1) := by decide +kernel
theorem d_M_isMulti_25 : decode prog_12_method_44_code 25 = .ok (.if_icmp .ne 36, 3) := by decide +kernel
theorem d_M_isMulti_28 : decode prog_12_method_44_code 28 = .ok (.aload_n 0, 1) := by decide +kernel
theorem d_M_isMulti_29 : decode prog_12_method_44_code 29 = .ok (.aload_n 0, 1) := by decide +kernel
theorem d_M_isMulti_30 : decode prog_12_method_44_code 30 = .ok (.getfield 49, 3) := by decide +kernel
theorem d_M_isMulti_33 : decode prog_12_method_44_code 33 = .ok (.iload_n 3, 1) := by decide +kernel
theorem d_M_isMulti_34 : decode prog_12_method_44_code 34 = .ok (.iaload, 1) := by decide +kernel
theorem d_M_isMulti_35 : decode prog_12_method_44_code 35 = .ok (.iload 4, 2) := by decide +kernel
theorem d_M_isMulti_37 : decode prog_12_method_44_code 37 = .ok (.ldc2_w 225, 3) := by decide +kernel
theorem d_M_isMulti_40 : decode prog_12_method_44_code 40 = .ok (.ldc2_w 227, 3) := by decide +kernel
theorem d_M_isMulti_43 : decode prog_12_method_44_code 43 = .ok (.bipush 12, 2) := by decide +kernel
theorem d_M_isMulti_45 : decode prog_12_method_44_code 45 = .ok (.invokevirtual 211, 3) := by decide +kernel
theorem d_M_isMulti_48 : decode prog_12_method_44_code 48 = .ok (.ifCond .eq 13, 3) := by decide +kernel
theorem d_M_isMulti_51 : decode prog_12_method_44_code 51 = .ok (.aload_n 0, 1) := by decide +kernel
theorem d_M_isMulti_52 : decode prog_12_method_44_code 52 = .ok (.iload_n 3, 1) := by decide +kernel
theorem d_M_isMulti_53 : decode prog_12_method_44_code 53 = .ok (.iload 4, 2) := by decide +kernel
theorem d_M_isMulti_55 : decode prog_12_method_44_code 55 = .ok (.iconst 1, 1) := by decide +kernel
theorem d_M_isMulti_56 : decode prog_12_method_44_code 56 = .ok (.iadd, 1) := by decide +kernel
theorem d_M_isMulti_57 : decode prog_12_method_44_code 57 = .ok (.invokevirtual 229, 3) := by decide +kernel
theorem d_M_isMulti_60 : decode prog_12_method_44_code 60 = .ok (.ireturn, 1) := by decide +kernel
theorem d_M_isMulti_61 : decode prog_12_method_44_code 61 = .ok (.iinc 3 1, 3) := by decide +kernel
theorem d_M_isMulti_64 : decode prog_12_method_44_code 64 = .ok (.goto (-62), 3) := by decide +kernel
theorem d_M_isMulti_67 : decode prog_12_method_44_code 67 = .ok (.iconst 0, 1) := by decide +kernel
theorem d_M_isMulti_68 : decode prog_12_method_44_code 68 = .ok (.ireturn, 1) := by decide +kernel
theorem d_M_matches_0 : decode prog_12_method_39_code 0 = .ok (.iload_n 1, 1) := by decide +kernel
theorem d_M_matches_1 : decode prog_12_method_39_code 1 = .ok (.iload 7, 2) := by decide +kernel
theorem d_M_matches_3 : decode prog_12_method_39_code 3 = .ok (.iadd, 1) := by decide +kernel
theorem d_M_matches_4 : decode prog_12_method_39_code 4 = .ok (.iload_n 2, 1) := by decide +kernel
theorem d_M_matches_5 : decode prog_12_method_39_code 5 = .ok (.if_icmp .gt 7, 3) := by decide +kernel
theorem d_M_matches_8 : decode prog_12_method_39_code 8 = .ok (.iconst 1, 1) := by decide +kernel
theorem d_M_matches_9 : decode prog_12_method_39_code 9 = .ok (.goto 4, 3) := by decide +kernel
theorem d_M_matches_12 : decode prog_12_method_39_code 12 = .ok (.iconst 0, 1) := by decide +kernel
theorem d_M_matches_13 : decode prog_12_method_39_code 13 = .ok (.istore 8, 2) := by decide +kernel
theorem d_M_matches_15 : decode prog_12_method_39_code 15 = .ok (.iconst 0, 1) := by decide +kernel
theorem d_M_matches_16 : decode prog_12_method_39_code 16 = .ok (.istore 9, 2) := by decide +kernel
theorem d_M_matches_18 : decode prog_12_method_39_code 18 = .ok (.iload 9, 2) := by decide +kernel
theorem d_M_matches_20 : decode prog_12_method_39_code 20 = .ok (.iload 7, 2) := by decide +kernel
theorem d_M_matches_22 : decode prog_12_method_39_code 22 = .ok (.if_icmp .ge 44, 3) := by decide +kernel
theorem d_M_matches_25 : decode prog_12_method_39_code 25 = .ok (.iload 8, 2) := by decide +kernel
theorem d_M_matches_27 : decode prog_12_method_39_code 27 = .ok (.ifCond .eq 39, 3) := by decide +kernel
theorem d_M_matches_30 : decode prog_12_method_39_code 30 = .ok (.aload_n 0, 1) := by decide +kernel
theorem d_M_matches_31 : decode prog_12_method_39_code 31 = .ok (.getfield 28, 3) := by decide +kernel
theorem d_M_matches_34 : decode prog_12_method_39_code 34 = .ok (.iload_n 1, 1) := by decide +kernel
theorem d_M_matches_35 : decode prog_12_method_39_code 35 = .ok (.iload 9, 2) := by decide +kernel
theorem d_M_matches_37 : decode prog_12_method_39_code 37 = .ok (.iadd, 1) := by decide +kernel
theorem d_M_matches_38 : decode prog_12_method_39_code 38 = .ok (.iaload, 1) := by decide +kernel
theorem d_M_matches_39 : decode prog_12_method_39_code 39 = .ok (.invokestatic 118, 3) := by decide +kernel
theorem d_M_matches_42 : decode prog_12_method_39_code 42 = .ok (.lload_n 3, 1) := by decide +kernel
theorem d_M_matches_43 : decode prog_12_method_39_code 43 = .ok (.lload 5, 2) := by decide +kernel
theorem d_M_matches_45 : decode prog_12_method_39_code 45 = .ok (.iload 9, 2) := by decide +kernel
theorem d_M_matches_47 : decode prog_12_method_39_code 47 = .ok (.invokestatic 184, 3) := by decide +kernel
theorem d_M_matches_50 : decode prog_12_method_39_code 50 = .ok (.if_icmp .ne 7, 3) := by decide +kernel
theorem d_M_matches_53 : decode prog_12_method_39_code 53 = .ok (.iconst 1, 1) := by decide +kernel
theorem d_M_matches_54 : decode prog_12_method_39_code 54 = .ok (.goto 4, 3) := by decide +kernel
theorem d_M_matches_57 : decode prog_12_method_39_code 57 = .ok (.iconst 0, 1) := by decide +kernel
theorem d_M_matches_58 : decode prog_12_method_39_code 58 = .ok (.istore 8, 2) := by decide +kernel
theorem d_M_matches_60 : decode prog_12_method_39_code 60 = .ok (.iinc 9 1, 3) := by decide +kernel
theorem d_M_matches_63 : decode prog_12_method_39_code 63 = .ok (.goto (-45), 3) := by decide +kernel
theorem d_M_matches_66 : decode prog_12_method_39_code 66 = .ok (.iload 8, 2) := by decide +kernel
theorem d_M_matches_68 : decode prog_12_method_39_code 68 = .ok (.ireturn, 1) := by decide +kernel
theorem d_M_boundary_0 : decode prog_12_method_43_code 0 = .ok (.iload_n 2, 1) := by decide +kernel
theorem d_M_boundary_1 : decode prog_12_method_43_code 1 = .ok (.istore_n 3, 1) := by decide +kernel
theorem d_M_boundary_2 : decode prog_12_method_43_code 2 = .ok (.aload_n 0, 1) := by decide +kernel
theorem d_M_boundary_3 : decode prog_12_method_43_code 3 = .ok (.iload_n 1, 1) := by decide +kernel
theorem d_M_boundary_4 : decode prog_12_method_43_code 4 = .ok (.invokevirtual 198, 3) := by decide +kernel
theorem d_M_boundary_7 : decode prog_12_method_43_code 7 = .ok (.istore 4, 2) := by decide +kernel
theorem d_M_boundary_9 : decode prog_12_method_43_code 9 = .ok (.iload_n 3, 1) := by decide +kernel
theorem d_M_boundary_10 : decode prog_12_method_43_code 10 = .ok (.iload 4, 2) := by decide +kernel
theorem d_M_boundary_12 : decode prog_12_method_43_code 12 = .ok (.if_icmp .ge 21, 3) := by decide +kernel
theorem d_M_boundary_15 : decode prog_12_method_43_code 15 = .ok (.aload_n 0, 1) := by decide +kernel
theorem d_M_boundary_16 : decode prog_12_method_43_code 16 = .ok (.getfield 28, 3) := by decide +kernel
theorem d_M_boundary_19 : decode prog_12_method_43_code 19 = .ok (.iload_n 3, 1) := by decide +kernel
theorem d_M_boundary_20 : decode prog_12_method_43_code 20 = .ok (.iaload, 1) := by decide +kernel
theorem d_M_boundary_21 : decode prog_12_method_43_code 21 = .ok (.bipush 32, 2) := by decide +kernel
theorem d_M_boundary_23 : decode prog_12_method_43_code 23 = .ok (.if_icmp .ne 10, 3) := by decide +kernel
theorem d_M_boundary_26 : decode prog_12_method_43_code 26 = .ok (.iload_n 3, 1) := by decide +kernel
theorem d_M_boundary_27 : decode prog_12_method_43_code 27 = .ok (.iconst 1, 1) := by decide +kernel
theorem d_M_boundary_28 : decode prog_12_method_43_code 28 = .ok (.iadd, 1) := by decide +kernel
theorem d_M_boundary_29 : decode prog_12_method_43_code 29 = .ok (.istore_n 3, 1) := by decide +kernel
theorem d_M_boundary_30 : decode prog_12_method_43_code 30 = .ok (.goto (-21), 3) := by decide +kernel
theorem d_M_boundary_33 : decode prog_12_method_43_code 33 = .ok (.aload_n 0, 1) := by decide +kernel
theorem d_M_boundary_34 : decode prog_12_method_43_code 34 = .ok (.iload_n 3, 1) := by decide +kernel
theorem d_M_boundary_35 : decode prog_12_method_43_code 35 = .ok (.iload 4, 2) := by decide +kernel
theorem d_M_boundary_37 : decode prog_12_method_43_code 37 = .ok (.ldc2_w 207, 3) := by decide +kernel
theorem d_M_boundary_40 : decode prog_12_method_43_code 40 = .ok (.ldc2_w 209, 3) := by decide +kernel
theorem d_M_boundary_43 : decode prog_12_method_43_code 43 = .ok (.bipush 10, 2) := by decide +kernel
theorem d_M_boundary_45 : decode prog_12_method_43_code 45 = .ok (.invokevirtual 211, 3) := by decide +kernel
theorem d_M_boundary_48 : decode prog_12_method_43_code 48 = .ok (.ifCond .ne 5, 3) := by decide +kernel
theorem d_M_boundary_51 : decode prog_12_method_43_code 51 = .ok (.iconst 0, 1) := by decide +kernel
theorem d_M_boundary_52 : decode prog_12_method_43_code 52 = .ok (.ireturn, 1) := by decide +kernel
theorem d_M_boundary_53 : decode prog_12_method_43_code 53 = .ok (.iload_n 3, 1) := by decide +kernel
theorem d_M_boundary_54 : decode prog_12_method_43_code 54 = .ok (.bipush 10, 2) := by decide +kernel
theorem d_M_boundary_56 : decode prog_12_method_43_code 56 = .ok (.iadd, 1) := by decide +kernel
theorem d_M_boundary_57 : decode prog_12_method_43_code 57 = .ok (.istore_n 3, 1) := by decide +kernel
theorem d_M_boundary_58 : decode prog_12_method_43_code 58 = .ok (.iload_n 3, 1) := by decide +kernel
theorem d_M_boundary_59 : decode prog_12_method_43_code 59 = .ok (.iload 4, 2) := by decide +kernel
theorem d_M_boundary_61 : decode prog_12_method_43_code 61 = .ok (.if_icmp .ge 28, 3) := by decide +kernel
theorem d_M_boundary_64 : decode prog_12_method_43_code 64 = .ok (.aload_n 0, 1) := by decide +kernel
theorem d_M_boundary_65 : decode prog_12_method_43_code 65 = .ok (.iload_n 3, 1) := by decide +kernel
theorem d_M_boundary_66 : decode prog_12_method_43_code 66 = .ok (.iload 4, 2) := by decide +kernel
theorem d_M_boundary_68 : decode prog_12_method_43_code 68 = .ok (.ldc2_w 215, 3) := by decide +kernel
theorem d_M_boundary_71 : decode prog_12_method_43_code 71 = .ok (.ldc2_w 217, 3) := by decide +kernel
theorem d_M_boundary_74 : decode prog_12_method_43_code 74 = .ok (.bipush 9, 2) := by decide +kernel
theorem d_M_boundary_76 : decode prog_12_method_43_code 76 = .ok (.invokevirtual 211, 3) := by decide +kernel
theorem d_M_boundary_79 : decode prog_12_method_43_code 79 = .ok (.ifCond .ne 10, 3) := by decide +kernel
theorem d_M_boundary_82 : decode prog_12_method_43_code 82 = .ok (.iload_n 3, 1) := by decide +kernel
theorem d_M_boundary_83 : decode prog_12_method_43_code 83 = .ok (.iconst 1, 1) := by decide +kernel
theorem d_M_boundary_84 : decode prog_12_method_43_code 84 = .ok (.iadd, 1) := by decide +kernel
theorem d_M_boundary_85 : decode prog_12_method_43_code 85 = .ok (.istore_n 3, 1) := by decide +kernel
theorem d_M_boundary_86 : decode prog_12_method_43_code 86 = .ok (.goto (-28), 3) := by decide +kernel
theorem d_M_boundary_89 : decode prog_12_method_43_code 89 = .ok (.aload_n 0, 1) := by decide +kernel
theorem d_M_boundary_90 : decode prog_12_method_43_code 90 = .ok (.iload_n 3, 1) := by decide +kernel
theorem d_M_boundary_91 : decode prog_12_method_43_code 91 = .ok (.bipush 9, 2) := by decide +kernel
theorem d_M_boundary_93 : decode prog_12_method_43_code 93 = .ok (.iadd, 1) := by decide +kernel
theorem d_M_boundary_94 : decode prog_12_method_43_code 94 = .ok (.putfield 219, 3) := by decide +kernel
theorem d_M_boundary_97 : decode prog_12_method_43_code 97 = .ok (.aload_n 0, 1) := by decide +kernel
theorem d_M_boundary_98 : decode prog_12_method_43_code 98 = .ok (.iconst 0, 1) := by decide +kernel
theorem d_M_boundary_99 : decode prog_12_method_43_code 99 = .ok (.putfield 222, 3) := by decide +kernel
theorem d_M_boundary_102 : decode prog_12_method_43_code 102 = .ok (.aload_n 0, 1) := by decide +kernel
theorem d_M_boundary_103 : decode prog_12_method_43_code 103 = .ok (.getfield 219, 3) := by decide +kernel
theorem d_M_boundary_106 : decode prog_12_method_43_code 106 = .ok (.aload_n 0, 1) := by decide +kernel
theorem d_M_boundary_107 : decode prog_12_method_43_code 107 = .ok (.getfield 222, 3) := by decide +kernel
theorem d_M_boundary_110 : decode prog_12_method_43_code 110 = .ok (.iadd, 1) := by decide +kernel
theorem d_M_boundary_111 : decode prog_12_method_43_code 111 = .ok (.iload 4, 2) := by decide +kernel
theorem d_M_boundary_113 : decode prog_12_method_43_code 113 = .ok (.if_icmp .ge 36, 3) := by decide +kernel
theorem d_M_boundary_116 : decode prog_12_method_43_code 116 = .ok (.aload_n 0, 1) := by decide +kernel
theorem d_M_boundary_117 : decode prog_12_method_43_code 117 = .ok (.getfield 28, 3) := by decide +kernel
theorem d_M_boundary_120 : decode prog_12_method_43_code 120 = .ok (.aload_n 0, 1) := by decide +kernel
theorem d_M_boundary_121 : decode prog_12_method_43_code 121 = .ok (.getfield 219, 3) := by decide +kernel
theorem d_M_boundary_124 : decode prog_12_method_43_code 124 = .ok (.aload_n 0, 1) := by decide +kernel
theorem d_M_boundary_125 : decode prog_12_method_43_code 125 = .ok (.getfield 222, 3) := by decide +kernel
theorem d_M_boundary_128 : decode prog_12_method_43_code 128 = .ok (.iadd, 1) := by decide +kernel
theorem d_M_boundary_129 : decode prog_12_method_43_code 129 = .ok (.iaload, 1) := by decide +kernel
theorem d_M_boundary_130 : decode prog_12_method_43_code 130 = .ok (.invokestatic 108, 3) := by decide +kernel
theorem d_M_boundary_133 : decode prog_12_method_43_code 133 = .ok (.ifCond .eq 16, 3) := by decide +kernel
theorem d_M_boundary_136 : decode prog_12_method_43_code 136 = .ok (.aload_n 0, 1) := by decide +kernel
theorem d_M_boundary_137 : decode prog_12_method_43_code 137 = .ok (.aload_n 0, 1) := by decide +kernel
theorem d_M_boundary_138 : decode prog_12_method_43_code 138 = .ok (.getfield 222, 3) := by decide +kernel
theorem d_M_boundary_141 : decode prog_12_method_43_code 141 = .ok (.iconst 1, 1) := by decide +kernel
theorem d_M_boundary_142 : decode prog_12_method_43_code 142 = .ok (.iadd, 1) := by decide +kernel
theorem d_M_boundary_143 : decode prog_12_method_43_code 143 = .ok (.putfield 222, 3) := by decide +kernel
theorem d_M_boundary_146 : decode prog_12_method_43_code 146 = .ok (.goto (-44), 3) := by decide +kernel
theorem d_M_boundary_149 : decode prog_12_method_43_code 149 = .ok (.iload_n 3, 1) := by decide +kernel
theorem d_M_boundary_150 : decode prog_12_method_43_code 150 = .ok (.iload 4, 2) := by decide +kernel
theorem d_M_boundary_152 : decode prog_12_method_43_code 152 = .ok (.if_icmp .ge 23, 3) := by decide +kernel
theorem d_M_boundary_155 : decode prog_12_method_43_code 155 = .ok (.aload_n 0, 1) := by decide +kernel
theorem d_M_boundary_156 : decode prog_12_method_43_code 156 = .ok (.getfield 222, 3) := by decide +kernel
theorem d_M_boundary_159 : decode prog_12_method_43_code 159 = .ok (.ifCond .le 16, 3) := by decide +kernel
theorem d_M_boundary_162 : decode prog_12_method_43_code 162 = .ok (.aload_n 0, 1) := by decide +kernel
theorem d_M_boundary_163 : decode prog_12_method_43_code 163 = .ok (.getfield 222, 3) := by decide +kernel
theorem d_M_boundary_166 : decode prog_12_method_43_code 166 = .ok (.bipush 20, 2) := by decide +kernel
theorem d_M_boundary_168 : decode prog_12_method_43_code 168 = .ok (.if_icmp .gt 7, 3) := by decide +kernel
theorem d_M_boundary_171 : decode prog_12_method_43_code 171 = .ok (.iconst 1, 1) := by decide +kernel
theorem d_M_boundary_172 : decode prog_12_method_43_code 172 = .ok (.goto 4, 3) := by decide +kernel
theorem d_M_boundary_175 : decode prog_12_method_43_code 175 = .ok (.iconst 0, 1) := by decide +kernel
theorem d_M_boundary_176 : decode prog_12_method_43_code 176 = .ok (.ireturn, 1) := by decide +kernel
theorem d_M_divide_0 : decode prog_12_method_46_code 0 = .ok (.iload_n 1, 1) := by decide +kernel
theorem d_M_divide_1 : decode prog_12_method_46_code 1 = .ok (.istore 4, 2) := by decide +kernel
theorem d_M_divide_3 : decode prog_12_method_46_code 3 = .ok (.iload 4, 2) := by decide +kernel
theorem d_M_divide_5 : decode prog_12_method_46_code 5 = .ok (.iload_n 2, 1) := by decide +kernel
theorem d_M_divide_6 : decode prog_12_method_46_code 6 = .ok (.if_icmp .ge 22, 3) := by decide +kernel
theorem d_M_divide_9 : decode prog_12_method_46_code 9 = .ok (.aload_n 0, 1) := by decide +kernel
theorem d_M_divide_10 : decode prog_12_method_46_code 10 = .ok (.iload 4, 2) := by decide +kernel
theorem d_M_divide_12 : decode prog_12_method_46_code 12 = .ok (.invokevirtual 232, 3) := by decide +kernel
theorem d_M_divide_15 : decode prog_12_method_46_code 15 = .ok (.iconst 2, 1) := by decide +kernel
theorem d_M_divide_16 : decode prog_12_method_46_code 16 = .ok (.if_icmp .eq 12, 3) := by decide +kernel
theorem d_M_divide_19 : decode prog_12_method_46_code 19 = .ok (.iload 4, 2) := by decide +kernel
theorem d_M_divide_21 : decode prog_12_method_46_code 21 = .ok (.iconst 1, 1) := by decide +kernel
theorem d_M_divide_22 : decode prog_12_method_46_code 22 = .ok (.iadd, 1) := by decide +kernel
theorem d_M_divide_23 : decode prog_12_method_46_code 23 = .ok (.istore 4, 2) := by decide +kernel
theorem d_M_divide_25 : decode prog_12_method_46_code 25 = .ok (.goto (-22), 3) := by decide +kernel
theorem d_M_divide_28 : decode prog_12_method_46_code 28 = .ok (.iload 4, 2) := by decide +kernel
theorem d_M_divide_30 : decode prog_12_method_46_code 30 = .ok (.iload_n 2, 1) := by decide +kernel
theorem d_M_divide_31 : decode prog_12_method_46_code 31 = .ok (.if_icmp .ne 5, 3) := by decide +kernel
theorem d_M_divide_34 : decode prog_12_method_46_code 34 = .ok (.iconst 0, 1) := by decide +kernel
theorem d_M_divide_35 : decode prog_12_method_46_code 35 = .ok (.ireturn, 1) := by decide +kernel
theorem d_M_divide_36 : decode prog_12_method_46_code 36 = .ok (.iload 4, 2) := by decide +kernel
theorem d_M_divide_38 : decode prog_12_method_46_code 38 = .ok (.istore 5, 2) := by decide +kernel
theorem d_M_divide_40 : decode prog_12_method_46_code 40 = .ok (.iconst 0, 1) := by decide +kernel
theorem d_M_divide_41 : decode prog_12_method_46_code 41 = .ok (.istore 6, 2) := by decide +kernel
theorem d_M_divide_43 : decode prog_12_method_46_code 43 = .ok (.iload 4, 2) := by decide +kernel
theorem d_M_divide_45 : decode prog_12_method_46_code 45 = .ok (.iconst 1, 1) := by decide +kernel
theorem d_M_divide_46 : decode prog_12_method_46_code 46 = .ok (.isub, 1) := by decide +kernel
theorem d_M_divide_47 : decode prog_12_method_46_code 47 = .ok (.istore 7, 2) := by decide +kernel
theorem d_M_divide_49 : decode prog_12_method_46_code 49 = .ok (.iload 7, 2) := by decide +kernel
theorem d_M_divide_51 : decode prog_12_method_46_code 51 = .ok (.iload_n 1, 1) := by decide +kernel
theorem d_M_divide_52 : decode prog_12_method_46_code 52 = .ok (.if_icmp .lt 73, 3) := by decide +kernel
theorem d_M_divide_55 : decode prog_12_method_46_code 55 = .ok (.aload_n 0, 1) := by decide +kernel
theorem d_M_divide_56 : decode prog_12_method_46_code 56 = .ok (.iload 7, 2) := by decide +kernel
theorem d_M_divide_58 : decode prog_12_method_46_code 58 = .ok (.invokevirtual 232, 3) := by decide +kernel
theorem d_M_divide_61 : decode prog_12_method_46_code 61 = .ok (.iconst 1, 1) := by decide +kernel
theorem d_M_divide_62 : decode prog_12_method_46_code 62 = .ok (.if_icmp .ne 57, 3) := by decide +kernel
theorem d_M_divide_65 : decode prog_12_method_46_code 65 = .ok (.aload_n 0, 1) := by decide +kernel
theorem d_M_divide_66 : decode prog_12_method_46_code 66 = .ok (.getfield 64, 3) := by decide +kernel
theorem d_M_divide_69 : decode prog_12_method_46_code 69 = .ok (.aload_n 0, 1) := by decide +kernel
theorem d_M_divide_70 : decode prog_12_method_46_code 70 = .ok (.getfield 235, 3) := by decide +kernel
theorem d_M_divide_73 : decode prog_12_method_46_code 73 = .ok (.iload 7, 2) := by decide +kernel
theorem d_M_divide_75 : decode prog_12_method_46_code 75 = .ok (.iconst 1, 1) := by decide +kernel
theorem d_M_divide_76 : decode prog_12_method_46_code 76 = .ok (.iadd, 1) := by decide +kernel
theorem d_M_divide_77 : decode prog_12_method_46_code 77 = .ok (.iastore, 1) := by decide +kernel
theorem d_M_divide_78 : decode prog_12_method_46_code 78 = .ok (.aload_n 0, 1) := by decide +kernel
theorem d_M_divide_79 : decode prog_12_method_46_code 79 = .ok (.getfield 67, 3) := by decide +kernel
theorem d_M_divide_82 : decode prog_12_method_46_code 82 = .ok (.aload_n 0, 1) := by decide +kernel
theorem d_M_divide_83 : decode prog_12_method_46_code 83 = .ok (.getfield 235, 3) := by decide +kernel
theorem d_M_divide_86 : decode prog_12_method_46_code 86 = .ok (.iload 5, 2) := by decide +kernel
theorem d_M_divide_88 : decode prog_12_method_46_code 88 = .ok (.iastore, 1) := by decide +kernel
theorem d_M_divide_89 : decode prog_12_method_46_code 89 = .ok (.aload_n 0, 1) := by decide +kernel
theorem d_M_divide_90 : decode prog_12_method_46_code 90 = .ok (.getfield 70, 3) := by decide +kernel
theorem d_M_divide_93 : decode prog_12_method_46_code 93 = .ok (.aload_n 0, 1) := by decide +kernel
theorem d_M_divide_94 : decode prog_12_method_46_code 94 = .ok (.getfield 235, 3) := by decide +kernel
theorem d_M_divide_97 : decode prog_12_method_46_code 97 = .ok (.iload_n 3, 1) := by decide +kernel
theorem d_M_divide_98 : decode prog_12_method_46_code 98 = .ok (.iastore, 1) := by decide +kernel
theorem d_M_divide_99 : decode prog_12_method_46_code 99 = .ok (.aload_n 0, 1) := by decide +kernel
theorem d_M_divide_100 : decode prog_12_method_46_code 100 = .ok (.aload_n 0, 1) := by decide +kernel
theorem d_M_divide_101 : decode prog_12_method_46_code 101 = .ok (.getfield 235, 3) := by decide +kernel
theorem d_M_divide_104 : decode prog_12_method_46_code 104 = .ok (.iconst 1, 1) := by decide +kernel
theorem d_M_divide_105 : decode prog_12_method_46_code 105 = .ok (.iadd, 1) := by decide +kernel
theorem d_M_divide_106 : decode prog_12_method_46_code 106 = .ok (.putfield 235, 3) := by decide +kernel
theorem d_M_divide_109 : decode prog_12_method_46_code 109 = .ok (.iload 7, 2) := by decide +kernel
theorem d_M_divide_111 : decode prog_12_method_46_code 111 = .ok (.istore 5, 2) := by decide +kernel
theorem d_M_divide_113 : decode prog_12_method_46_code 113 = .ok (.iload 6, 2) := by decide +kernel
theorem d_M_divide_115 : decode prog_12_method_46_code 115 = .ok (.iconst 1, 1) := by decide +kernel
theorem d_M_divide_116 : decode prog_12_method_46_code 116 = .ok (.iadd, 1) := by decide +kernel
theorem d_M_divide_117 : decode prog_12_method_46_code 117 = .ok (.istore 6, 2) := by decide +kernel
theorem d_M_divide_119 : decode prog_12_method_46_code 119 = .ok (.iinc 7 (-1), 3) := by decide +kernel
theorem d_M_divide_122 : decode prog_12_method_46_code 122 = .ok (.goto (-73), 3) := by decide +kernel
theorem d_M_divide_125 : decode prog_12_method_46_code 125 = .ok (.iload 6, 2) := by decide +kernel
theorem d_M_divide_127 : decode prog_12_method_46_code 127 = .ok (.ifCond .le 12, 3) := by decide +kernel
theorem d_M_divide_130 : decode prog_12_method_46_code 130 = .ok (.iload_n 3, 1) := by decide +kernel
theorem d_M_divide_131 : decode prog_12_method_46_code 131 = .ok (.iconst 4, 1) := by decide +kernel
theorem d_M_divide_132 : decode prog_12_method_46_code 132 = .ok (.if_icmp .gt 7, 3) := by decide +kernel
theorem d_M_divide_135 : decode prog_12_method_46_code 135 = .ok (.iconst 1, 1) := by decide +kernel
theorem d_M_divide_136 : decode prog_12_method_46_code 136 = .ok (.goto 4, 3) := by decide +kernel
theorem d_M_divide_139 : decode prog_12_method_46_code 139 = .ok (.iconst 0, 1) := by decide +kernel
theorem d_M_divide_140 : decode prog_12_method_46_code 140 = .ok (.ireturn, 1) := by decide +kernel
theorem d_M_border_0 : decode prog_12_method_45_code 0 = .ok (.aload_n 0, 1) := by decide +kernel
theorem d_M_border_1 : decode prog_12_method_45_code 1 = .ok (.getfield 49, 3) := by decide +kernel
theorem d_M_border_4 : decode prog_12_method_45_code 4 = .ok (.iload_n 1, 1) := by decide +kernel
theorem d_M_border_5 : decode prog_12_method_45_code 5 = .ok (.iaload, 1) := by decide +kernel
theorem d_M_border_6 : decode prog_12_method_45_code 6 = .ok (.istore_n 2, 1) := by decide +kernel
theorem d_M_border_7 : decode prog_12_method_45_code 7 = .ok (.aload_n 0, 1) := by decide +kernel
theorem d_M_border_8 : decode prog_12_method_45_code 8 = .ok (.iload_n 1, 1) := by decide +kernel
theorem d_M_border_9 : decode prog_12_method_45_code 9 = .ok (.invokevirtual 198, 3) := by decide +kernel
theorem d_M_border_12 : decode prog_12_method_45_code 12 = .ok (.iload_n 2, 1) := by decide +kernel
theorem d_M_border_13 : decode prog_12_method_45_code 13 = .ok (.isub, 1) := by decide +kernel
theorem d_M_border_14 : decode prog_12_method_45_code 14 = .ok (.iconst 2, 1) := by decide +kernel
theorem d_M_border_15 : decode prog_12_method_45_code 15 = .ok (.isub, 1) := by decide +kernel
theorem d_M_border_16 : decode prog_12_method_45_code 16 = .ok (.aload_n 0, 1) := by decide +kernel
theorem d_M_border_17 : decode prog_12_method_45_code 17 = .ok (.getfield 222, 3) := by decide +kernel
theorem d_M_border_20 : decode prog_12_method_45_code 20 = .ok (.isub, 1) := by decide +kernel
theorem d_M_border_21 : decode prog_12_method_45_code 21 = .ok (.istore_n 3, 1) := by decide +kernel
theorem d_M_border_22 : decode prog_12_method_45_code 22 = .ok (.iload_n 3, 1) := by decide +kernel
theorem d_M_border_23 : decode prog_12_method_45_code 23 = .ok (.ifCond .eq 8, 3) := by decide +kernel
theorem d_M_border_26 : decode prog_12_method_45_code 26 = .ok (.iload_n 3, 1) := by decide +kernel
theorem d_M_border_27 : decode prog_12_method_45_code 27 = .ok (.iconst 2, 1) := by decide +kernel
theorem d_M_border_28 : decode prog_12_method_45_code 28 = .ok (.if_icmp .ne 31, 3) := by decide +kernel
theorem d_M_border_31 : decode prog_12_method_45_code 31 = .ok (.aload_n 0, 1) := by decide +kernel
theorem d_M_border_32 : decode prog_12_method_45_code 32 = .ok (.getfield 28, 3) := by decide +kernel
theorem d_M_border_35 : decode prog_12_method_45_code 35 = .ok (.iload_n 2, 1) := by decide +kernel
theorem d_M_border_36 : decode prog_12_method_45_code 36 = .ok (.iaload, 1) := by decide +kernel
theorem d_M_border_37 : decode prog_12_method_45_code 37 = .ok (.bipush 45, 2) := by decide +kernel
theorem d_M_border_39 : decode prog_12_method_45_code 39 = .ok (.if_icmp .ne 20, 3) := by decide +kernel
theorem d_M_border_42 : decode prog_12_method_45_code 42 = .ok (.aload_n 0, 1) := by decide +kernel
theorem d_M_border_43 : decode prog_12_method_45_code 43 = .ok (.getfield 28, 3) := by decide +kernel
theorem d_M_border_46 : decode prog_12_method_45_code 46 = .ok (.iload_n 2, 1) := by decide +kernel
theorem d_M_border_47 : decode prog_12_method_45_code 47 = .ok (.iconst 1, 1) := by decide +kernel
theorem d_M_border_48 : decode prog_12_method_45_code 48 = .ok (.iadd, 1) := by decide +kernel
theorem d_M_border_49 : decode prog_12_method_45_code 49 = .ok (.iaload, 1) := by decide +kernel
theorem d_M_border_50 : decode prog_12_method_45_code 50 = .ok (.bipush 45, 2) := by decide +kernel
theorem d_M_border_52 : decode prog_12_method_45_code 52 = .ok (.if_icmp .ne 7, 3) := by decide +kernel
theorem d_M_border_55 : decode prog_12_method_45_code 55 = .ok (.iconst 1, 1) := by decide +kernel
theorem d_M_border_56 : decode prog_12_method_45_code 56 = .ok (.goto 4, 3) := by decide +kernel
theorem d_M_border_59 : decode prog_12_method_45_code 59 = .ok (.iconst 0, 1) := by decide +kernel
theorem d_M_border_60 : decode prog_12_method_45_code 60 = .ok (.istore 4, 2) := by decide +kernel
theorem d_M_border_62 : decode prog_12_method_45_code 62 = .ok (.iconst 0, 1) := by decide +kernel
theorem d_M_border_63 : decode prog_12_method_45_code 63 = .ok (.istore 5, 2) := by decide +kernel
theorem d_M_border_65 : decode prog_12_method_45_code 65 = .ok (.iload 5, 2) := by decide +kernel
theorem d_M_border_67 : decode prog_12_method_45_code 67 = .ok (.aload_n 0, 1) := by decide +kernel
theorem d_M_border_68 : decode prog_12_method_45_code 68 = .ok (.getfield 222, 3) := by decide +kernel
theorem d_M_border_71 : decode prog_12_method_45_code 71 = .ok (.if_icmp .ge 47, 3) := by decide +kernel
theorem d_M_border_74 : decode prog_12_method_45_code 74 = .ok (.iload 4, 2) := by decide +kernel
theorem d_M_border_76 : decode prog_12_method_45_code 76 = .ok (.ifCond .eq 42, 3) := by decide +kernel
theorem d_M_border_79 : decode prog_12_method_45_code 79 = .ok (.aload_n 0, 1) := by decide +kernel
theorem d_M_border_80 : decode prog_12_method_45_code 80 = .ok (.getfield 28, 3) := by decide +kernel
theorem d_M_border_83 : decode prog_12_method_45_code 83 = .ok (.iload_n 2, 1) := by decide +kernel
theorem d_M_border_84 : decode prog_12_method_45_code 84 = .ok (.iconst 2, 1) := by decide +kernel
theorem d_M_border_85 : decode prog_12_method_45_code 85 = .ok (.iadd, 1) := by decide +kernel
theorem d_M_border_86 : decode prog_12_method_45_code 86 = .ok (.iload 5, 2) := by decide +kernel
theorem d_M_border_88 : decode prog_12_method_45_code 88 = .ok (.iadd, 1) := by decide +kernel
theorem d_M_border_89 : decode prog_12_method_45_code 89 = .ok (.iaload, 1) := by decide +kernel
theorem d_M_border_90 : decode prog_12_method_45_code 90 = .ok (.aload_n 0, 1) := by decide +kernel
theorem d_M_border_91 : decode prog_12_method_45_code 91 = .ok (.getfield 28, 3) := by decide +kernel
theorem d_M_border_94 : decode prog_12_method_45_code 94 = .ok (.aload_n 0, 1) := by decide +kernel
theorem d_M_border_95 : decode prog_12_method_45_code 95 = .ok (.getfield 219, 3) := by decide +kernel
theorem d_M_border_98 : decode prog_12_method_45_code 98 = .ok (.iload 5, 2) := by decide +kernel
theorem d_M_border_100 : decode prog_12_method_45_code 100 = .ok (.iadd, 1) := by decide +kernel
theorem d_M_border_101 : decode prog_12_method_45_code 101 = .ok (.iaload, 1) := by decide +kernel
theorem d_M_border_102 : decode prog_12_method_45_code 102 = .ok (.if_icmp .ne 7, 3) := by decide +kernel
theorem d_M_border_105 : decode prog_12_method_45_code 105 = .ok (.iconst 1, 1) := by decide +kernel
theorem d_M_border_106 : decode prog_12_method_45_code 106 = .ok (.goto 4, 3) := by decide +kernel
theorem d_M_border_109 : decode prog_12_method_45_code 109 = .ok (.iconst 0, 1) := by decide +kernel
theorem d_M_border_110 : decode prog_12_method_45_code 110 = .ok (.istore 4, 2) := by decide +kernel
theorem d_M_border_112 : decode prog_12_method_45_code 112 = .ok (.iinc 5 1, 3) := by decide +kernel
theorem d_M_border_115 : decode prog_12_method_45_code 115 = .ok (.goto (-50), 3) := by decide +kernel
theorem d_M_border_118 : decode prog_12_method_45_code 118 = .ok (.iload 4, 2) := by decide +kernel
theorem d_M_border_120 : decode prog_12_method_45_code 120 = .ok (.ifCond .eq 7, 3) := by decide +kernel
theorem d_M_border_123 : decode prog_12_method_45_code 123 = .ok (.iload_n 3, 1) := by decide +kernel
theorem d_M_border_124 : decode prog_12_method_45_code 124 = .ok (.ifCond .ne 14, 3) := by decide +kernel
theorem d_M_border_127 : decode prog_12_method_45_code 127 = .ok (.iload 4, 2) := by decide +kernel
theorem d_M_border_129 : decode prog_12_method_45_code 129 = .ok (.ifCond .eq 7, 3) := by decide +kernel
theorem d_M_border_132 : decode prog_12_method_45_code 132 = .ok (.iconst 1, 1) := by decide +kernel
theorem d_M_border_133 : decode prog_12_method_45_code 133 = .ok (.goto 4, 3) := by decide +kernel
theorem d_M_border_136 : decode prog_12_method_45_code 136 = .ok (.iconst 0, 1) := by decide +kernel
theorem d_M_border_137 : decode prog_12_method_45_code 137 = .ok (.ireturn, 1) := by decide +kernel
theorem d_M_border_138 : decode prog_12_method_45_code 138 = .ok (.aload_n 0, 1) := by decide +kernel
theorem d_M_border_139 : decode prog_12_method_45_code 139 = .ok (.getfield 28, 3) := by decide +kernel
theorem d_M_border_142 : decode prog_12_method_45_code 142 = .ok (.iload_n 2, 1) := by decide +kernel
theorem d_M_border_143 : decode prog_12_method_45_code 143 = .ok (.iconst 2, 1) := by decide +kernel
theorem d_M_border_144 : decode prog_12_method_45_code 144 = .ok (.iadd, 1) := by decide +kernel
theorem d_M_border_145 : decode prog_12_method_45_code 145 = .ok (.aload_n 0, 1) := by decide +kernel
theorem d_M_border_146 : decode prog_12_method_45_code 146 = .ok (.getfield 222, 3) := by decide +kernel
theorem d_M_border_149 : decode prog_12_method_45_code 149 = .ok (.iadd, 1) := by decide +kernel
theorem d_M_border_150 : decode prog_12_method_45_code 150 = .ok (.iaload, 1) := by decide +kernel
theorem d_M_border_151 : decode prog_12_method_45_code 151 = .ok (.bipush 45, 2) := by decide +kernel
theorem d_M_border_153 : decode prog_12_method_45_code 153 = .ok (.if_icmp .ne 25, 3) := by decide +kernel
theorem d_M_border_156 : decode prog_12_method_45_code 156 = .ok (.aload_n 0, 1) := by decide +kernel
theorem d_M_border_157 : decode prog_12_method_45_code 157 = .ok (.getfield 28, 3) := by decide +kernel
theorem d_M_border_160 : decode prog_12_method_45_code 160 = .ok (.iload_n 2, 1) := by decide +kernel
theorem d_M_border_161 : decode prog_12_method_45_code 161 = .ok (.iconst 3, 1) := by decide +kernel
theorem d_M_border_162 : decode prog_12_method_45_code 162 = .ok (.iadd, 1) := by decide +kernel
theorem d_M_border_163 : decode prog_12_method_45_code 163 = .ok (.aload_n 0, 1) := by decide +kernel
theorem d_M_border_164 : decode prog_12_method_45_code 164 = .ok (.getfield 222, 3) := by decide +kernel
theorem d_M_border_167 : decode prog_12_method_45_code 167 = .ok (.iadd, 1) := by decide +kernel
theorem d_M_border_168 : decode prog_12_method_45_code 168 = .ok (.iaload, 1) := by decide +kernel
theorem d_M_border_169 : decode prog_12_method_45_code 169 = .ok (.bipush 45, 2) := by decide +kernel
theorem d_M_border_171 : decode prog_12_method_45_code 171 = .ok (.if_icmp .ne 7, 3) := by decide +kernel
theorem d_M_border_174 : decode prog_12_method_45_code 174 = .ok (.iconst 2, 1) := by decide +kernel
theorem d_M_border_175 : decode prog_12_method_45_code 175 = .ok (.goto 4, 3) := by decide +kernel
theorem d_M_border_178 : decode prog_12_method_45_code 178 = .ok (.iconst 0, 1) := by decide +kernel
theorem d_M_border_179 : decode prog_12_method_45_code 179 = .ok (.ireturn, 1) := by decide +kernel
theorem d_M_part_0 : decode prog_12_method_49_code 0 = .ok (.aload_n 0, 1) := by decide +kernel
theorem d_M_part_1 : decode prog_12_method_49_code 1 = .ok (.iload_n 1, 1) := by decide +kernel
theorem d_M_part_2 : decode prog_12_method_49_code 2 = .ok (.invokevirtual 258, 3) := by decide +kernel
theorem d_M_part_5 : decode prog_12_method_49_code 5 = .ok (.istore 4, 2) := by decide +kernel
theorem d_M_part_7 : decode prog_12_method_49_code 7 = .ok (.iload 4, 2) := by decide +kernel
theorem d_M_part_9 : decode prog_12_method_49_code 9 = .ok (.ifCond .lt 33, 3) := by decide +kernel
theorem d_M_part_12 : decode prog_12_method_49_code 12 = .ok (.aload_n 0, 1) := by decide +kernel
theorem d_M_part_13 : decode prog_12_method_49_code 13 = .ok (.iload 4, 2) := by decide +kernel
theorem d_M_part_15 : decode prog_12_method_49_code 15 = .ok (.invokevirtual 261, 3) := by decide +kernel
theorem d_M_part_18 : decode prog_12_method_49_code 18 = .ok (.ifCond .eq 24, 3) := by decide +kernel
theorem d_M_part_21 : decode prog_12_method_49_code 21 = .ok (.iload_n 2, 1) := by decide +kernel
theorem d_M_part_22 : decode prog_12_method_49_code 22 = .ok (.ifCond .lt 20, 3) := by decide +kernel
theorem d_M_part_25 : decode prog_12_method_49_code 25 = .ok (.iload_n 2, 1) := by decide +kernel
theorem d_M_part_26 : decode prog_12_method_49_code 26 = .ok (.aload_n 0, 1) := by decide +kernel
theorem d_M_part_27 : decode prog_12_method_49_code 27 = .ok (.getfield 241, 3) := by decide +kernel
theorem d_M_part_30 : decode prog_12_method_49_code 30 = .ok (.if_icmp .ge 12, 3) := by decide +kernel
theorem d_M_part_33 : decode prog_12_method_49_code 33 = .ok (.iload_n 3, 1) := by decide +kernel
theorem d_M_part_34 : decode prog_12_method_49_code 34 = .ok (.ifCond .lt 8, 3) := by decide +kernel
theorem d_M_part_37 : decode prog_12_method_49_code 37 = .ok (.iload_n 3, 1) := by decide +kernel
theorem d_M_part_38 : decode prog_12_method_49_code 38 = .ok (.iconst 3, 1) := by decide +kernel
theorem d_M_part_39 : decode prog_12_method_49_code 39 = .ok (.if_icmp .le 5, 3) := by decide +kernel
theorem d_M_part_42 : decode prog_12_method_49_code 42 = .ok (.iconst (-1), 1) := by decide +kernel
theorem d_M_part_43 : decode prog_12_method_49_code 43 = .ok (.ireturn, 1) := by decide +kernel
theorem d_M_part_44 : decode prog_12_method_49_code 44 = .ok (.iload_n 3, 1) := by decide +kernel
theorem d_M_part_45 : decode prog_12_method_49_code 45 = .ok (.ifCond .ne 12, 3) := by decide +kernel
theorem d_M_part_48 : decode prog_12_method_49_code 48 = .ok (.aload_n 0, 1) := by decide +kernel
theorem d_M_part_49 : decode prog_12_method_49_code 49 = .ok (.getfield 52, 3) := by decide +kernel
theorem d_M_part_52 : decode prog_12_method_49_code 52 = .ok (.iload_n 2, 1) := by decide +kernel
theorem d_M_part_53 : decode prog_12_method_49_code 53 = .ok (.iaload, 1) := by decide +kernel
theorem d_M_part_54 : decode prog_12_method_49_code 54 = .ok (.goto 52, 3) := by decide +kernel
theorem d_M_part_57 : decode prog_12_method_49_code 57 = .ok (.iload_n 3, 1) := by decide +kernel
theorem d_M_part_58 : decode prog_12_method_49_code 58 = .ok (.iconst 1, 1) := by decide +kernel
theorem d_M_part_59 : decode prog_12_method_49_code 59 = .ok (.if_icmp .ne 20, 3) := by decide +kernel
theorem d_M_part_62 : decode prog_12_method_49_code 62 = .ok (.aload_n 0, 1) := by decide +kernel
theorem d_M_part_63 : decode prog_12_method_49_code 63 = .ok (.getfield 61, 3) := by decide +kernel
theorem d_M_part_66 : decode prog_12_method_49_code 66 = .ok (.iload_n 2, 1) := by decide +kernel
theorem d_M_part_67 : decode prog_12_method_49_code 67 = .ok (.baload, 1) := by decide +kernel
theorem d_M_part_68 : decode prog_12_method_49_code 68 = .ok (.ifCond .eq 7, 3) := by decide +kernel
theorem d_M_part_71 : decode prog_12_method_49_code 71 = .ok (.iconst 1, 1) := by decide +kernel
theorem d_M_part_72 : decode prog_12_method_49_code 72 = .ok (.goto 34, 3) := by decide +kernel
theorem d_M_part_75 : decode prog_12_method_49_code 75 = .ok (.iconst 0, 1) := by decide +kernel
theorem d_M_part_76 : decode prog_12_method_49_code 76 = .ok (.goto 30, 3) := by decide +kernel
theorem d_M_part_79 : decode prog_12_method_49_code 79 = .ok (.iload_n 3, 1) := by decide +kernel
theorem d_M_part_80 : decode prog_12_method_49_code 80 = .ok (.iconst 2, 1) := by decide +kernel
theorem d_M_part_81 : decode prog_12_method_49_code 81 = .ok (.if_icmp .ne 12, 3) := by decide +kernel
theorem d_M_part_84 : decode prog_12_method_49_code 84 = .ok (.aload_n 0, 1) := by decide +kernel
theorem d_M_part_85 : decode prog_12_method_49_code 85 = .ok (.getfield 55, 3) := by decide +kernel
theorem d_M_part_88 : decode prog_12_method_49_code 88 = .ok (.iload_n 2, 1) := by decide +kernel
theorem d_M_part_89 : decode prog_12_method_49_code 89 = .ok (.iaload, 1) := by decide +kernel
theorem d_M_part_90 : decode prog_12_method_49_code 90 = .ok (.goto 16, 3) := by decide +kernel
theorem d_M_part_93 : decode prog_12_method_49_code 93 = .ok (.aload_n 0, 1) := by decide +kernel
theorem d_M_part_94 : decode prog_12_method_49_code 94 = .ok (.getfield 58, 3) := by decide +kernel
theorem d_M_part_97 : decode prog_12_method_49_code 97 = .ok (.iload_n 2, 1) := by decide +kernel
theorem d_M_part_98 : decode prog_12_method_49_code 98 = .ok (.iaload, 1) := by decide +kernel
theorem d_M_part_99 : decode prog_12_method_49_code 99 = .ok (.aload_n 0, 1) := by decide +kernel
theorem d_M_part_100 : decode prog_12_method_49_code 100 = .ok (.getfield 55, 3) := by decide +kernel
theorem d_M_part_103 : decode prog_12_method_49_code 103 = .ok (.iload_n 2, 1) := by decide +kernel
theorem d_M_part_104 : decode prog_12_method_49_code 104 = .ok (.iaload, 1) := by decide +kernel
theorem d_M_part_105 : decode prog_12_method_49_code 105 = .ok (.isub, 1) := by decide +kernel
theorem d_M_part_106 : decode prog_12_method_49_code 106 = .ok (.ireturn, 1) := by decide +kernel
theorem d_M_state_0 : decode prog_12_method_50_code 0 = .ok (.aload_n 0, 1) := by decide +kernel
theorem d_M_state_1 : decode prog_12_method_50_code 1 = .ok (.getfield 7, 3) := by decide +kernel
theorem d_M_state_4 : decode prog_12_method_50_code 4 = .ok (.ifCond .ne 7, 3) := by decide +kernel
theorem d_M_state_7 : decode prog_12_method_50_code 7 = .ok (.iconst 0, 1) := by decide +kernel
theorem d_M_state_8 : decode prog_12_method_50_code 8 = .ok (.goto 37, 3) := by decide +kernel
theorem d_M_state_11 : decode prog_12_method_50_code 11 = .ok (.aload_n 0, 1) := by decide +kernel
theorem d_M_state_12 : decode prog_12_method_50_code 12 = .ok (.getfield 88, 3) := by decide +kernel
theorem d_M_state_15 : decode prog_12_method_50_code 15 = .ok (.ifCond .eq 7, 3) := by decide +kernel
theorem d_M_state_18 : decode prog_12_method_50_code 18 = .ok (.iconst 4, 1) := by decide +kernel
theorem d_M_state_19 : decode prog_12_method_50_code 19 = .ok (.goto 26, 3) := by decide +kernel
theorem d_M_state_22 : decode prog_12_method_50_code 22 = .ok (.aload_n 0, 1) := by decide +kernel
theorem d_M_state_23 : decode prog_12_method_50_code 23 = .ok (.getfield 85, 3) := by decide +kernel
theorem d_M_state_26 : decode prog_12_method_50_code 26 = .ok (.ifCond .eq 7, 3) := by decide +kernel
theorem d_M_state_29 : decode prog_12_method_50_code 29 = .ok (.iconst 3, 1) := by decide +kernel
theorem d_M_state_30 : decode prog_12_method_50_code 30 = .ok (.goto 15, 3) := by decide +kernel
theorem d_M_state_33 : decode prog_12_method_50_code 33 = .ok (.aload_n 0, 1) := by decide +kernel
theorem d_M_state_34 : decode prog_12_method_50_code 34 = .ok (.getfield 82, 3) := by decide +kernel
theorem d_M_state_37 : decode prog_12_method_50_code 37 = .ok (.ifCond .eq 7, 3) := by decide +kernel
theorem d_M_state_40 : decode prog_12_method_50_code 40 = .ok (.iconst 2, 1) := by decide +kernel
theorem d_M_state_41 : decode prog_12_method_50_code 41 = .ok (.goto 4, 3) := by decide +kernel
theorem d_M_state_44 : decode prog_12_method_50_code 44 = .ok (.iconst 1, 1) := by decide +kernel
theorem d_M_state_45 : decode prog_12_method_50_code 45 = .ok (.ireturn, 1) := by decide +kernel
theorem d_M_letter_0 : decode prog_12_method_52_code 0 = .ok (.iconst (-1), 1) := by decide +kernel
theorem d_M_letter_1 : decode prog_12_method_52_code 1 = .ok (.istore_n 2, 1) := by decide +kernel
theorem d_M_letter_2 : decode prog_12_method_52_code 2 = .ok (.iconst 0, 1) := by decide +kernel
theorem d_M_letter_3 : decode prog_12_method_52_code 3 = .ok (.istore_n 3, 1) := by decide +kernel
theorem d_M_letter_4 : decode prog_12_method_52_code 4 = .ok (.iload_n 3, 1) := by decide +kernel
theorem d_M_letter_5 : decode prog_12_method_52_code 5 = .ok (.iload_n 1, 1) := by decide +kernel
theorem d_M_letter_6 : decode prog_12_method_52_code 6 = .ok (.if_icmp .gt 101, 3) := by decide +kernel
theorem d_M_letter_9 : decode prog_12_method_52_code 9 = .ok (.iconst (-1), 1) := by decide +kernel
theorem d_M_letter_10 : decode prog_12_method_52_code 10 = .ok (.istore 4, 2) := by decide +kernel
theorem d_M_letter_12 : decode prog_12_method_52_code 12 = .ok (.iconst 0, 1) := by decide +kernel
