theorem d_M_letter_13 : decode prog_12_method_52_code 13 = .ok (.istore 5, 2) := by decide +kernel
theorem d_M_letter_15 : decode prog_12_method_52_code 15 = .ok (.iload 5, 2) := by decide +kernel
theorem d_M_letter_17 : decode prog_12_method_52_code 17 = .ok (.bipush 6, 2) := by decide +kernel
theorem d_M_letter_19 : decode prog_12_method_52_code 19 = .ok (.if_icmp .ge 72, 3) := by decide +kernel
theorem d_M_letter_22 : decode prog_12_method_52_code 22 = .ok (.aload_n 0, 1) := by decide +kernel
theorem d_M_letter_23 : decode prog_12_method_52_code 23 = .ok (.iload 5, 2) := by decide +kernel
theorem d_M_letter_25 : decode prog_12_method_52_code 25 = .ok (.invokevirtual 174, 3) := by decide +kernel
theorem d_M_letter_28 : decode prog_12_method_52_code 28 = .ok (.ifCond .eq 35, 3) := by decide +kernel
theorem d_M_letter_31 : decode prog_12_method_52_code 31 = .ok (.aload_n 0, 1) := by decide +kernel
theorem d_M_letter_32 : decode prog_12_method_52_code 32 = .ok (.getfield 21, 3) := by decide +kernel
theorem d_M_letter_35 : decode prog_12_method_52_code 35 = .ok (.iload 5, 2) := by decide +kernel
theorem d_M_letter_37 : decode prog_12_method_52_code 37 = .ok (.iaload, 1) := by decide +kernel
theorem d_M_letter_38 : decode prog_12_method_52_code 38 = .ok (.iload_n 2, 1) := by decide +kernel
theorem d_M_letter_39 : decode prog_12_method_52_code 39 = .ok (.if_icmp .le 24, 3) := by decide +kernel
theorem d_M_letter_42 : decode prog_12_method_52_code 42 = .ok (.iload 4, 2) := by decide +kernel
theorem d_M_letter_44 : decode prog_12_method_52_code 44 = .ok (.ifCond .lt 15, 3) := by decide +kernel
theorem d_M_letter_47 : decode prog_12_method_52_code 47 = .ok (.aload_n 0, 1) := by decide +kernel
theorem d_M_letter_48 : decode prog_12_method_52_code 48 = .ok (.getfield 21, 3) := by decide +kernel
theorem d_M_letter_51 : decode prog_12_method_52_code 51 = .ok (.iload 5, 2) := by decide +kernel
theorem d_M_letter_53 : decode prog_12_method_52_code 53 = .ok (.iaload, 1) := by decide +kernel
theorem d_M_letter_54 : decode prog_12_method_52_code 54 = .ok (.iload 4, 2) := by decide +kernel
theorem d_M_letter_56 : decode prog_12_method_52_code 56 = .ok (.if_icmp .ge 7, 3) := by decide +kernel
theorem d_M_letter_59 : decode prog_12_method_52_code 59 = .ok (.iconst 1, 1) := by decide +kernel
theorem d_M_letter_60 : decode prog_12_method_52_code 60 = .ok (.goto 4, 3) := by decide +kernel
theorem d_M_letter_63 : decode prog_12_method_52_code 63 = .ok (.iconst 0, 1) := by decide +kernel
theorem d_M_letter_64 : decode prog_12_method_52_code 64 = .ok (.istore 6, 2) := by decide +kernel
theorem d_M_letter_66 : decode prog_12_method_52_code 66 = .ok (.iload 6, 2) := by decide +kernel
theorem d_M_letter_68 : decode prog_12_method_52_code 68 = .ok (.ifCond .eq 13, 3) := by decide +kernel
theorem d_M_letter_71 : decode prog_12_method_52_code 71 = .ok (.aload_n 0, 1) := by decide +kernel
theorem d_M_letter_72 : decode prog_12_method_52_code 72 = .ok (.getfield 21, 3) := by decide +kernel
theorem d_M_letter_75 : decode prog_12_method_52_code 75 = .ok (.iload 5, 2) := by decide +kernel
theorem d_M_letter_77 : decode prog_12_method_52_code 77 = .ok (.iaload, 1) := by decide +kernel
theorem d_M_letter_78 : decode prog_12_method_52_code 78 = .ok (.goto 5, 3) := by decide +kernel
theorem d_M_letter_81 : decode prog_12_method_52_code 81 = .ok (.iload 4, 2) := by decide +kernel
theorem d_M_letter_83 : decode prog_12_method_52_code 83 = .ok (.istore 4, 2) := by decide +kernel
theorem d_M_letter_85 : decode prog_12_method_52_code 85 = .ok (.iinc 5 1, 3) := by decide +kernel
theorem d_M_letter_88 : decode prog_12_method_52_code 88 = .ok (.goto (-73), 3) := by decide +kernel
theorem d_M_letter_91 : decode prog_12_method_52_code 91 = .ok (.iload 4, 2) := by decide +kernel
theorem d_M_letter_93 : decode prog_12_method_52_code 93 = .ok (.ifCond .ge 5, 3) := by decide +kernel
theorem d_M_letter_96 : decode prog_12_method_52_code 96 = .ok (.iconst (-1), 1) := by decide +kernel
theorem d_M_letter_97 : decode prog_12_method_52_code 97 = .ok (.ireturn, 1) := by decide +kernel
theorem d_M_letter_98 : decode prog_12_method_52_code 98 = .ok (.iload 4, 2) := by decide +kernel
theorem d_M_letter_100 : decode prog_12_method_52_code 100 = .ok (.istore_n 2, 1) := by decide +kernel
theorem d_M_letter_101 : decode prog_12_method_52_code 101 = .ok (.iinc 3 1, 3) := by decide +kernel
theorem d_M_letter_104 : decode prog_12_method_52_code 104 = .ok (.goto (-100), 3) := by decide +kernel
theorem d_M_letter_107 : decode prog_12_method_52_code 107 = .ok (.iload_n 2, 1) := by decide +kernel
theorem d_M_letter_108 : decode prog_12_method_52_code 108 = .ok (.ireturn, 1) := by decide +kernel
theorem d_M_text_0 : decode prog_12_method_53_code 0 = .ok (.aload_n 0, 1) := by decide +kernel
theorem d_M_text_1 : decode prog_12_method_53_code 1 = .ok (.iload_n 1, 1) := by decide +kernel
theorem d_M_text_2 : decode prog_12_method_53_code 2 = .ok (.invokevirtual 258, 3) := by decide +kernel
theorem d_M_text_5 : decode prog_12_method_53_code 5 = .ok (.istore_n 3, 1) := by decide +kernel
theorem d_M_text_6 : decode prog_12_method_53_code 6 = .ok (.iload_n 3, 1) := by decide +kernel
theorem d_M_text_7 : decode prog_12_method_53_code 7 = .ok (.ifCond .lt 17, 3) := by decide +kernel
theorem d_M_text_10 : decode prog_12_method_53_code 10 = .ok (.iload_n 2, 1) := by decide +kernel
theorem d_M_text_11 : decode prog_12_method_53_code 11 = .ok (.ifCond .lt 13, 3) := by decide +kernel
theorem d_M_text_14 : decode prog_12_method_53_code 14 = .ok (.iload_n 2, 1) := by decide +kernel
theorem d_M_text_15 : decode prog_12_method_53_code 15 = .ok (.aload_n 0, 1) := by decide +kernel
theorem d_M_text_16 : decode prog_12_method_53_code 16 = .ok (.getfield 31, 3) := by decide +kernel
theorem d_M_text_19 : decode prog_12_method_53_code 19 = .ok (.iload_n 3, 1) := by decide +kernel
theorem d_M_text_20 : decode prog_12_method_53_code 20 = .ok (.iaload, 1) := by decide +kernel
theorem d_M_text_21 : decode prog_12_method_53_code 21 = .ok (.if_icmp .lt 7, 3) := by decide +kernel
theorem d_M_text_24 : decode prog_12_method_53_code 24 = .ok (.iconst 0, 1) := by decide +kernel
theorem d_M_text_25 : decode prog_12_method_53_code 25 = .ok (.goto 16, 3) := by decide +kernel
theorem d_M_text_28 : decode prog_12_method_53_code 28 = .ok (.aload_n 0, 1) := by decide +kernel
theorem d_M_text_29 : decode prog_12_method_53_code 29 = .ok (.getfield 28, 3) := by decide +kernel
theorem d_M_text_32 : decode prog_12_method_53_code 32 = .ok (.sipush 602, 3) := by decide +kernel
theorem d_M_text_35 : decode prog_12_method_53_code 35 = .ok (.iload_n 3, 1) := by decide +kernel
theorem d_M_text_36 : decode prog_12_method_53_code 36 = .ok (.imul, 1) := by decide +kernel
theorem d_M_text_37 : decode prog_12_method_53_code 37 = .ok (.iload_n 2, 1) := by decide +kernel
theorem d_M_text_38 : decode prog_12_method_53_code 38 = .ok (.iadd, 1) := by decide +kernel
theorem d_M_text_39 : decode prog_12_method_53_code 39 = .ok (.iaload, 1) := by decide +kernel
theorem d_M_text_40 : decode prog_12_method_53_code 40 = .ok (.i2c, 1) := by decide +kernel
theorem d_M_text_41 : decode prog_12_method_53_code 41 = .ok (.ireturn, 1) := by decide +kernel
theorem d_M_path_0 : decode prog_12_method_54_code 0 = .ok (.aload_n 0, 1) := by decide +kernel
theorem d_M_path_1 : decode prog_12_method_54_code 1 = .ok (.iload_n 1, 1) := by decide +kernel
theorem d_M_path_2 : decode prog_12_method_54_code 2 = .ok (.invokevirtual 258, 3) := by decide +kernel
theorem d_M_path_5 : decode prog_12_method_54_code 5 = .ok (.istore 4, 2) := by decide +kernel
theorem d_M_path_7 : decode prog_12_method_54_code 7 = .ok (.iload 4, 2) := by decide +kernel
theorem d_M_path_9 : decode prog_12_method_54_code 9 = .ok (.ifCond .lt 19, 3) := by decide +kernel
theorem d_M_path_12 : decode prog_12_method_54_code 12 = .ok (.iload_n 2, 1) := by decide +kernel
theorem d_M_path_13 : decode prog_12_method_54_code 13 = .ok (.iconst (-1), 1) := by decide +kernel
theorem d_M_path_14 : decode prog_12_method_54_code 14 = .ok (.if_icmp .lt 14, 3) := by decide +kernel
theorem d_M_path_17 : decode prog_12_method_54_code 17 = .ok (.iload_n 2, 1) := by decide +kernel
theorem d_M_path_18 : decode prog_12_method_54_code 18 = .ok (.aload_n 0, 1) := by decide +kernel
theorem d_M_path_19 : decode prog_12_method_54_code 19 = .ok (.getfield 40, 3) := by decide +kernel
theorem d_M_path_22 : decode prog_12_method_54_code 22 = .ok (.iload 4, 2) := by decide +kernel
theorem d_M_path_24 : decode prog_12_method_54_code 24 = .ok (.iaload, 1) := by decide +kernel
theorem d_M_path_25 : decode prog_12_method_54_code 25 = .ok (.if_icmp .lt 5, 3) := by decide +kernel
theorem d_M_path_28 : decode prog_12_method_54_code 28 = .ok (.iconst 0, 1) := by decide +kernel
theorem d_M_path_29 : decode prog_12_method_54_code 29 = .ok (.ireturn, 1) := by decide +kernel
theorem d_M_path_30 : decode prog_12_method_54_code 30 = .ok (.iconst 5, 1) := by decide +kernel
theorem d_M_path_31 : decode prog_12_method_54_code 31 = .ok (.iload 4, 2) := by decide +kernel
theorem d_M_path_33 : decode prog_12_method_54_code 33 = .ok (.imul, 1) := by decide +kernel
theorem d_M_path_34 : decode prog_12_method_54_code 34 = .ok (.iload_n 2, 1) := by decide +kernel
theorem d_M_path_35 : decode prog_12_method_54_code 35 = .ok (.ifCond .ge 7, 3) := by decide +kernel
theorem d_M_path_38 : decode prog_12_method_54_code 38 = .ok (.iconst 4, 1) := by decide +kernel
theorem d_M_path_39 : decode prog_12_method_54_code 39 = .ok (.goto 4, 3) := by decide +kernel
theorem d_M_path_42 : decode prog_12_method_54_code 42 = .ok (.iload_n 2, 1) := by decide +kernel
theorem d_M_path_43 : decode prog_12_method_54_code 43 = .ok (.iadd, 1) := by decide +kernel
theorem d_M_path_44 : decode prog_12_method_54_code 44 = .ok (.istore 5, 2) := by decide +kernel
theorem d_M_path_46 : decode prog_12_method_54_code 46 = .ok (.iload_n 3, 1) := by decide +kernel
theorem d_M_path_47 : decode prog_12_method_54_code 47 = .ok (.ifCond .lt 14, 3) := by decide +kernel
theorem d_M_path_50 : decode prog_12_method_54_code 50 = .ok (.iload_n 3, 1) := by decide +kernel
theorem d_M_path_51 : decode prog_12_method_54_code 51 = .ok (.aload_n 0, 1) := by decide +kernel
theorem d_M_path_52 : decode prog_12_method_54_code 52 = .ok (.getfield 37, 3) := by decide +kernel
theorem d_M_path_55 : decode prog_12_method_54_code 55 = .ok (.iload 5, 2) := by decide +kernel
theorem d_M_path_57 : decode prog_12_method_54_code 57 = .ok (.iaload, 1) := by decide +kernel
theorem d_M_path_58 : decode prog_12_method_54_code 58 = .ok (.if_icmp .lt 7, 3) := by decide +kernel
theorem d_M_path_61 : decode prog_12_method_54_code 61 = .ok (.iconst 0, 1) := by decide +kernel
theorem d_M_path_62 : decode prog_12_method_54_code 62 = .ok (.goto 16, 3) := by decide +kernel
theorem d_M_path_65 : decode prog_12_method_54_code 65 = .ok (.aload_n 0, 1) := by decide +kernel
theorem d_M_path_66 : decode prog_12_method_54_code 66 = .ok (.getfield 34, 3) := by decide +kernel
theorem d_M_path_69 : decode prog_12_method_54_code 69 = .ok (.bipush 40, 2) := by decide +kernel
theorem d_M_path_71 : decode prog_12_method_54_code 71 = .ok (.iload 5, 2) := by decide +kernel
theorem d_M_path_73 : decode prog_12_method_54_code 73 = .ok (.imul, 1) := by decide +kernel
theorem d_M_path_74 : decode prog_12_method_54_code 74 = .ok (.iload_n 3, 1) := by decide +kernel
theorem d_M_path_75 : decode prog_12_method_54_code 75 = .ok (.iadd, 1) := by decide +kernel
theorem d_M_path_76 : decode prog_12_method_54_code 76 = .ok (.iaload, 1) := by decide +kernel
theorem d_M_path_77 : decode prog_12_method_54_code 77 = .ok (.i2c, 1) := by decide +kernel
theorem d_M_path_78 : decode prog_12_method_54_code 78 = .ok (.ireturn, 1) := by decide +kernel
theorem d_M_recipient1_0 : decode prog_12_method_55_code 0 = .ok (.aload_n 0, 1) := by decide +kernel
theorem d_M_recipient1_1 : decode prog_12_method_55_code 1 = .ok (.iload_n 1, 1) := by decide +kernel
theorem d_M_recipient1_2 : decode prog_12_method_55_code 2 = .ok (.invokevirtual 258, 3) := by decide +kernel
theorem d_M_recipient1_5 : decode prog_12_method_55_code 5 = .ok (.istore_n 3, 1) := by decide +kernel
theorem d_M_recipient1_6 : decode prog_12_method_55_code 6 = .ok (.iload_n 3, 1) := by decide +kernel
theorem d_M_recipient1_7 : decode prog_12_method_55_code 7 = .ok (.ifCond .lt 17, 3) := by decide +kernel
theorem d_M_recipient1_10 : decode prog_12_method_55_code 10 = .ok (.iload_n 2, 1) := by decide +kernel
theorem d_M_recipient1_11 : decode prog_12_method_55_code 11 = .ok (.ifCond .lt 13, 3) := by decide +kernel
theorem d_M_recipient1_14 : decode prog_12_method_55_code 14 = .ok (.iload_n 2, 1) := by decide +kernel
theorem d_M_recipient1_15 : decode prog_12_method_55_code 15 = .ok (.aload_n 0, 1) := by decide +kernel
theorem d_M_recipient1_16 : decode prog_12_method_55_code 16 = .ok (.getfield 40, 3) := by decide +kernel
theorem d_M_recipient1_19 : decode prog_12_method_55_code 19 = .ok (.iload_n 3, 1) := by decide +kernel
theorem d_M_recipient1_20 : decode prog_12_method_55_code 20 = .ok (.iaload, 1) := by decide +kernel
theorem d_M_recipient1_21 : decode prog_12_method_55_code 21 = .ok (.if_icmp .lt 7, 3) := by decide +kernel
theorem d_M_recipient1_24 : decode prog_12_method_55_code 24 = .ok (.iconst (-1), 1) := by decide +kernel
theorem d_M_recipient1_25 : decode prog_12_method_55_code 25 = .ok (.goto 13, 3) := by decide +kernel
theorem d_M_recipient1_28 : decode prog_12_method_55_code 28 = .ok (.aload_n 0, 1) := by decide +kernel
theorem d_M_recipient1_29 : decode prog_12_method_55_code 29 = .ok (.getfield 43, 3) := by decide +kernel
theorem d_M_recipient1_32 : decode prog_12_method_55_code 32 = .ok (.iconst 4, 1) := by decide +kernel
theorem d_M_recipient1_33 : decode prog_12_method_55_code 33 = .ok (.iload_n 3, 1) := by decide +kernel
theorem d_M_recipient1_34 : decode prog_12_method_55_code 34 = .ok (.imul, 1) := by decide +kernel
theorem d_M_recipient1_35 : decode prog_12_method_55_code 35 = .ok (.iload_n 2, 1) := by decide +kernel
theorem d_M_recipient1_36 : decode prog_12_method_55_code 36 = .ok (.iadd, 1) := by decide +kernel
theorem d_M_recipient1_37 : decode prog_12_method_55_code 37 = .ok (.iaload, 1) := by decide +kernel
theorem d_M_recipient1_38 : decode prog_12_method_55_code 38 = .ok (.ireturn, 1) := by decide +kernel
theorem d_M_due_0 : decode prog_12_method_56_code 0 = .ok (.aload_n 0, 1) := by decide +kernel
theorem d_M_due_1 : decode prog_12_method_56_code 1 = .ok (.iload_n 1, 1) := by decide +kernel
theorem d_M_due_2 : decode prog_12_method_56_code 2 = .ok (.invokevirtual 258, 3) := by decide +kernel
theorem d_M_due_5 : decode prog_12_method_56_code 5 = .ok (.istore_n 3, 1) := by decide +kernel
theorem d_M_due_6 : decode prog_12_method_56_code 6 = .ok (.iload_n 3, 1) := by decide +kernel
theorem d_M_due_7 : decode prog_12_method_56_code 7 = .ok (.ifCond .lt 31, 3) := by decide +kernel
theorem d_M_due_10 : decode prog_12_method_56_code 10 = .ok (.iload_n 2, 1) := by decide +kernel
theorem d_M_due_11 : decode prog_12_method_56_code 11 = .ok (.ifCond .lt 27, 3) := by decide +kernel
theorem d_M_due_14 : decode prog_12_method_56_code 14 = .ok (.iload_n 2, 1) := by decide +kernel
theorem d_M_due_15 : decode prog_12_method_56_code 15 = .ok (.aload_n 0, 1) := by decide +kernel
theorem d_M_due_16 : decode prog_12_method_56_code 16 = .ok (.getfield 40, 3) := by decide +kernel
theorem d_M_due_19 : decode prog_12_method_56_code 19 = .ok (.iload_n 3, 1) := by decide +kernel
theorem d_M_due_20 : decode prog_12_method_56_code 20 = .ok (.iaload, 1) := by decide +kernel
theorem d_M_due_21 : decode prog_12_method_56_code 21 = .ok (.if_icmp .ge 17, 3) := by decide +kernel
theorem d_M_due_24 : decode prog_12_method_56_code 24 = .ok (.aload_n 0, 1) := by decide +kernel
theorem d_M_due_25 : decode prog_12_method_56_code 25 = .ok (.getfield 43, 3) := by decide +kernel
theorem d_M_due_28 : decode prog_12_method_56_code 28 = .ok (.iconst 4, 1) := by decide +kernel
theorem d_M_due_29 : decode prog_12_method_56_code 29 = .ok (.iload_n 3, 1) := by decide +kernel
theorem d_M_due_30 : decode prog_12_method_56_code 30 = .ok (.imul, 1) := by decide +kernel
theorem d_M_due_31 : decode prog_12_method_56_code 31 = .ok (.iload_n 2, 1) := by decide +kernel
theorem d_M_due_32 : decode prog_12_method_56_code 32 = .ok (.iadd, 1) := by decide +kernel
theorem d_M_due_33 : decode prog_12_method_56_code 33 = .ok (.iaload, 1) := by decide +kernel
theorem d_M_due_34 : decode prog_12_method_56_code 34 = .ok (.iconst 3, 1) := by decide +kernel
theorem d_M_due_35 : decode prog_12_method_56_code 35 = .ok (.if_icmp .le 7, 3) := by decide +kernel
theorem d_M_due_38 : decode prog_12_method_56_code 38 = .ok (.iconst (-1), 1) := by decide +kernel
theorem d_M_due_39 : decode prog_12_method_56_code 39 = .ok (.goto 13, 3) := by decide +kernel
theorem d_M_due_42 : decode prog_12_method_56_code 42 = .ok (.aload_n 0, 1) := by decide +kernel
theorem d_M_due_43 : decode prog_12_method_56_code 43 = .ok (.getfield 46, 3) := by decide +kernel
theorem d_M_due_46 : decode prog_12_method_56_code 46 = .ok (.iconst 4, 1) := by decide +kernel
theorem d_M_due_47 : decode prog_12_method_56_code 47 = .ok (.iload_n 3, 1) := by decide +kernel
theorem d_M_due_48 : decode prog_12_method_56_code 48 = .ok (.imul, 1) := by decide +kernel
theorem d_M_due_49 : decode prog_12_method_56_code 49 = .ok (.iload_n 2, 1) := by decide +kernel
theorem d_M_due_50 : decode prog_12_method_56_code 50 = .ok (.iadd, 1) := by decide +kernel
theorem d_M_due_51 : decode prog_12_method_56_code 51 = .ok (.iaload, 1) := by decide +kernel
theorem d_M_due_52 : decode prog_12_method_56_code 52 = .ok (.ireturn, 1) := by decide +kernel
