theorem d_M_command_172 : decode prog_12_method_19_code 172 = .ok (.iastore, 1) := by decide +kernel
theorem d_M_command_173 : decode prog_12_method_19_code 173 = .ok (.sipush 354, 3) := by decide +kernel
theorem d_M_command_176 : decode prog_12_method_19_code 176 = .ok (.ireturn, 1) := by decide +kernel
theorem d_M_command_177 : decode prog_12_method_19_code 177 = .ok (.aload_n 0, 1) := by decide +kernel
theorem d_M_command_178 : decode prog_12_method_19_code 178 = .ok (.iload_n 1, 1) := by decide +kernel
theorem d_M_command_179 : decode prog_12_method_19_code 179 = .ok (.ldc 142, 2) := by decide +kernel
theorem d_M_command_181 : decode prog_12_method_19_code 181 = .ok (.if_icmp .ne 14, 3) := by decide +kernel
theorem d_M_command_184 : decode prog_12_method_19_code 184 = .ok (.aload_n 0, 1) := by decide +kernel
theorem d_M_command_185 : decode prog_12_method_19_code 185 = .ok (.getfield 85, 3) := by decide +kernel
theorem d_M_command_188 : decode prog_12_method_19_code 188 = .ok (.ifCond .eq 7, 3) := by decide +kernel
theorem d_M_command_191 : decode prog_12_method_19_code 191 = .ok (.iconst 1, 1) := by decide +kernel
theorem d_M_command_192 : decode prog_12_method_19_code 192 = .ok (.goto 4, 3) := by decide +kernel
theorem d_M_command_195 : decode prog_12_method_19_code 195 = .ok (.iconst 0, 1) := by decide +kernel
theorem d_M_command_196 : decode prog_12_method_19_code 196 = .ok (.putfield 85, 3) := by decide +kernel
theorem d_M_command_199 : decode prog_12_method_19_code 199 = .ok (.aload_n 0, 1) := by decide +kernel
theorem d_M_command_200 : decode prog_12_method_19_code 200 = .ok (.iload_n 1, 1) := by decide +kernel
theorem d_M_command_201 : decode prog_12_method_19_code 201 = .ok (.ldc 143, 2) := by decide +kernel
theorem d_M_command_203 : decode prog_12_method_19_code 203 = .ok (.if_icmp .eq 14, 3) := by decide +kernel
theorem d_M_command_206 : decode prog_12_method_19_code 206 = .ok (.aload_n 0, 1) := by decide +kernel
theorem d_M_command_207 : decode prog_12_method_19_code 207 = .ok (.getfield 82, 3) := by decide +kernel
theorem d_M_command_210 : decode prog_12_method_19_code 210 = .ok (.ifCond .eq 7, 3) := by decide +kernel
theorem d_M_command_213 : decode prog_12_method_19_code 213 = .ok (.iconst 1, 1) := by decide +kernel
theorem d_M_command_214 : decode prog_12_method_19_code 214 = .ok (.goto 4, 3) := by decide +kernel
theorem d_M_command_217 : decode prog_12_method_19_code 217 = .ok (.iconst 0, 1) := by decide +kernel
theorem d_M_command_218 : decode prog_12_method_19_code 218 = .ok (.putfield 82, 3) := by decide +kernel
theorem d_M_command_221 : decode prog_12_method_19_code 221 = .ok (.iload_n 1, 1) := by decide +kernel
theorem d_M_command_222 : decode prog_12_method_19_code 222 = .ok (.ldc 143, 2) := by decide +kernel
theorem d_M_command_224 : decode prog_12_method_19_code 224 = .ok (.if_icmp .ne 9, 3) := by decide +kernel
theorem d_M_command_227 : decode prog_12_method_19_code 227 = .ok (.sipush 221, 3) := by decide +kernel
theorem d_M_command_230 : decode prog_12_method_19_code 230 = .ok (.goto 6, 3) := by decide +kernel
theorem d_M_command_233 : decode prog_12_method_19_code 233 = .ok (.sipush 250, 3) := by decide +kernel
theorem d_M_command_236 : decode prog_12_method_19_code 236 = .ok (.ireturn, 1) := by decide +kernel
theorem d_M_wordCode_0 : decode prog_12_method_16_code 0 = .ok (.iconst 0, 1) := by decide +kernel
theorem d_M_wordCode_1 : decode prog_12_method_16_code 1 = .ok (.istore_n 1, 1) := by decide +kernel
theorem d_M_wordCode_2 : decode prog_12_method_16_code 2 = .ok (.iload_n 1, 1) := by decide +kernel
theorem d_M_wordCode_3 : decode prog_12_method_16_code 3 = .ok (.aload_n 0, 1) := by decide +kernel
theorem d_M_wordCode_4 : decode prog_12_method_16_code 4 = .ok (.getfield 79, 3) := by decide +kernel
theorem d_M_wordCode_7 : decode prog_12_method_16_code 7 = .ok (.if_icmp .ge 21, 3) := by decide +kernel
theorem d_M_wordCode_10 : decode prog_12_method_16_code 10 = .ok (.aload_n 0, 1) := by decide +kernel
theorem d_M_wordCode_11 : decode prog_12_method_16_code 11 = .ok (.getfield 17, 3) := by decide +kernel
theorem d_M_wordCode_14 : decode prog_12_method_16_code 14 = .ok (.iload_n 1, 1) := by decide +kernel
theorem d_M_wordCode_15 : decode prog_12_method_16_code 15 = .ok (.iaload, 1) := by decide +kernel
theorem d_M_wordCode_16 : decode prog_12_method_16_code 16 = .ok (.bipush 32, 2) := by decide +kernel
theorem d_M_wordCode_18 : decode prog_12_method_16_code 18 = .ok (.if_icmp .eq 10, 3) := by decide +kernel
theorem d_M_wordCode_21 : decode prog_12_method_16_code 21 = .ok (.iload_n 1, 1) := by decide +kernel
theorem d_M_wordCode_22 : decode prog_12_method_16_code 22 = .ok (.iconst 1, 1) := by decide +kernel
theorem d_M_wordCode_23 : decode prog_12_method_16_code 23 = .ok (.iadd, 1) := by decide +kernel
theorem d_M_wordCode_24 : decode prog_12_method_16_code 24 = .ok (.istore_n 1, 1) := by decide +kernel
theorem d_M_wordCode_25 : decode prog_12_method_16_code 25 = .ok (.goto (-23), 3) := by decide +kernel
theorem d_M_wordCode_28 : decode prog_12_method_16_code 28 = .ok (.iload_n 1, 1) := by decide +kernel
theorem d_M_wordCode_29 : decode prog_12_method_16_code 29 = .ok (.iconst 4, 1) := by decide +kernel
theorem d_M_wordCode_30 : decode prog_12_method_16_code 30 = .ok (.if_icmp .ne 38, 3) := by decide +kernel
theorem d_M_wordCode_33 : decode prog_12_method_16_code 33 = .ok (.aload_n 0, 1) := by decide +kernel
theorem d_M_wordCode_34 : decode prog_12_method_16_code 34 = .ok (.iconst 0, 1) := by decide +kernel
theorem d_M_wordCode_35 : decode prog_12_method_16_code 35 = .ok (.invokevirtual 122, 3) := by decide +kernel
theorem d_M_wordCode_38 : decode prog_12_method_16_code 38 = .ok (.bipush 24, 2) := by decide +kernel
theorem d_M_wordCode_40 : decode prog_12_method_16_code 40 = .ok (.ishl, 1) := by decide +kernel
theorem d_M_wordCode_41 : decode prog_12_method_16_code 41 = .ok (.aload_n 0, 1) := by decide +kernel
theorem d_M_wordCode_42 : decode prog_12_method_16_code 42 = .ok (.iconst 1, 1) := by decide +kernel
theorem d_M_wordCode_43 : decode prog_12_method_16_code 43 = .ok (.invokevirtual 122, 3) := by decide +kernel
theorem d_M_wordCode_46 : decode prog_12_method_16_code 46 = .ok (.bipush 16, 2) := by decide +kernel
theorem d_M_wordCode_48 : decode prog_12_method_16_code 48 = .ok (.ishl, 1) := by decide +kernel
theorem d_M_wordCode_49 : decode prog_12_method_16_code 49 = .ok (.ior, 1) := by decide +kernel
theorem d_M_wordCode_50 : decode prog_12_method_16_code 50 = .ok (.aload_n 0, 1) := by decide +kernel
theorem d_M_wordCode_51 : decode prog_12_method_16_code 51 = .ok (.iconst 2, 1) := by decide +kernel
theorem d_M_wordCode_52 : decode prog_12_method_16_code 52 = .ok (.invokevirtual 122, 3) := by decide +kernel
theorem d_M_wordCode_55 : decode prog_12_method_16_code 55 = .ok (.bipush 8, 2) := by decide +kernel
theorem d_M_wordCode_57 : decode prog_12_method_16_code 57 = .ok (.ishl, 1) := by decide +kernel
theorem d_M_wordCode_58 : decode prog_12_method_16_code 58 = .ok (.ior, 1) := by decide +kernel
theorem d_M_wordCode_59 : decode prog_12_method_16_code 59 = .ok (.aload_n 0, 1) := by decide +kernel
theorem d_M_wordCode_60 : decode prog_12_method_16_code 60 = .ok (.iconst 3, 1) := by decide +kernel
theorem d_M_wordCode_61 : decode prog_12_method_16_code 61 = .ok (.invokevirtual 122, 3) := by decide +kernel
theorem d_M_wordCode_64 : decode prog_12_method_16_code 64 = .ok (.ior, 1) := by decide +kernel
theorem d_M_wordCode_65 : decode prog_12_method_16_code 65 = .ok (.goto 4, 3) := by decide +kernel
theorem d_M_wordCode_68 : decode prog_12_method_16_code 68 = .ok (.iconst 0, 1) := by decide +kernel
theorem d_M_wordCode_69 : decode prog_12_method_16_code 69 = .ok (.ireturn, 1) := by decide +kernel
theorem d_M_charAt_0 : decode prog_12_method_14_code 0 = .ok (.iload_n 1, 1) := by decide +kernel
theorem d_M_charAt_1 : decode prog_12_method_14_code 1 = .ok (.aload_n 0, 1) := by decide +kernel
theorem d_M_charAt_2 : decode prog_12_method_14_code 2 = .ok (.getfield 79, 3) := by decide +kernel
theorem d_M_charAt_5 : decode prog_12_method_14_code 5 = .ok (.if_icmp .ge 15, 3) := by decide +kernel
theorem d_M_charAt_8 : decode prog_12_method_14_code 8 = .ok (.aload_n 0, 1) := by decide +kernel
theorem d_M_charAt_9 : decode prog_12_method_14_code 9 = .ok (.getfield 17, 3) := by decide +kernel
theorem d_M_charAt_12 : decode prog_12_method_14_code 12 = .ok (.iload_n 1, 1) := by decide +kernel
theorem d_M_charAt_13 : decode prog_12_method_14_code 13 = .ok (.iaload, 1) := by decide +kernel
theorem d_M_charAt_14 : decode prog_12_method_14_code 14 = .ok (.invokestatic 118, 3) := by decide +kernel
theorem d_M_charAt_17 : decode prog_12_method_14_code 17 = .ok (.goto 4, 3) := by decide +kernel
theorem d_M_charAt_20 : decode prog_12_method_14_code 20 = .ok (.iconst 0, 1) := by decide +kernel
theorem d_M_charAt_21 : decode prog_12_method_14_code 21 = .ok (.ireturn, 1) := by decide +kernel
theorem d_M_lower_0 : decode prog_12_method_4_code 0 = .ok (.iload_n 0, 1) := by decide +kernel
theorem d_M_lower_1 : decode prog_12_method_4_code 1 = .ok (.bipush 65, 2) := by decide +kernel
theorem d_M_lower_3 : decode prog_12_method_4_code 3 = .ok (.if_icmp .lt 16, 3) := by decide +kernel
theorem d_M_lower_6 : decode prog_12_method_4_code 6 = .ok (.iload_n 0, 1) := by decide +kernel
theorem d_M_lower_7 : decode prog_12_method_4_code 7 = .ok (.bipush 90, 2) := by decide +kernel
theorem d_M_lower_9 : decode prog_12_method_4_code 9 = .ok (.if_icmp .gt 10, 3) := by decide +kernel
theorem d_M_lower_12 : decode prog_12_method_4_code 12 = .ok (.iload_n 0, 1) := by decide +kernel
theorem d_M_lower_13 : decode prog_12_method_4_code 13 = .ok (.bipush 32, 2) := by decide +kernel
theorem d_M_lower_15 : decode prog_12_method_4_code 15 = .ok (.iadd, 1) := by decide +kernel
theorem d_M_lower_16 : decode prog_12_method_4_code 16 = .ok (.goto 4, 3) := by decide +kernel
theorem d_M_lower_19 : decode prog_12_method_4_code 19 = .ok (.iload_n 0, 1) := by decide +kernel
theorem d_M_lower_20 : decode prog_12_method_4_code 20 = .ok (.ireturn, 1) := by decide +kernel
theorem d_M_fits_0 : decode prog_12_method_17_code 0 = .ok (.iload_n 1, 1) := by decide +kernel
theorem d_M_fits_1 : decode prog_12_method_17_code 1 = .ok (.ldc 125, 2) := by decide +kernel
theorem d_M_fits_3 : decode prog_12_method_17_code 3 = .ok (.if_icmp .eq 9, 3) := by decide +kernel
theorem d_M_fits_6 : decode prog_12_method_17_code 6 = .ok (.iload_n 1, 1) := by decide +kernel
theorem d_M_fits_7 : decode prog_12_method_17_code 7 = .ok (.ldc 126, 2) := by decide +kernel
theorem d_M_fits_9 : decode prog_12_method_17_code 9 = .ok (.if_icmp .ne 29, 3) := by decide +kernel
theorem d_M_fits_12 : decode prog_12_method_17_code 12 = .ok (.aload_n 0, 1) := by decide +kernel
theorem d_M_fits_13 : decode prog_12_method_17_code 13 = .ok (.getfield 79, 3) := by decide +kernel
theorem d_M_fits_16 : decode prog_12_method_17_code 16 = .ok (.iconst 5, 1) := by decide +kernel
theorem d_M_fits_17 : decode prog_12_method_17_code 17 = .ok (.if_icmp .le 19, 3) := by decide +kernel
theorem d_M_fits_20 : decode prog_12_method_17_code 20 = .ok (.aload_n 0, 1) := by decide +kernel
theorem d_M_fits_21 : decode prog_12_method_17_code 21 = .ok (.iconst 5, 1) := by decide +kernel
theorem d_M_fits_22 : decode prog_12_method_17_code 22 = .ok (.aload_n 0, 1) := by decide +kernel
theorem d_M_fits_23 : decode prog_12_method_17_code 23 = .ok (.getfield 79, 3) := by decide +kernel
theorem d_M_fits_26 : decode prog_12_method_17_code 26 = .ok (.invokevirtual 115, 3) := by decide +kernel
theorem d_M_fits_29 : decode prog_12_method_17_code 29 = .ok (.ifCond .eq 7, 3) := by decide +kernel
theorem d_M_fits_32 : decode prog_12_method_17_code 32 = .ok (.iconst 1, 1) := by decide +kernel
theorem d_M_fits_33 : decode prog_12_method_17_code 33 = .ok (.goto 4, 3) := by decide +kernel
theorem d_M_fits_36 : decode prog_12_method_17_code 36 = .ok (.iconst 0, 1) := by decide +kernel
theorem d_M_fits_37 : decode prog_12_method_17_code 37 = .ok (.ireturn, 1) := by decide +kernel
theorem d_M_fits_38 : decode prog_12_method_17_code 38 = .ok (.iload_n 1, 1) := by decide +kernel
theorem d_M_fits_39 : decode prog_12_method_17_code 39 = .ok (.ldc 127, 2) := by decide +kernel
theorem d_M_fits_41 : decode prog_12_method_17_code 41 = .ok (.if_icmp .ne 41, 3) := by decide +kernel
theorem d_M_fits_44 : decode prog_12_method_17_code 44 = .ok (.aload_n 0, 1) := by decide +kernel
theorem d_M_fits_45 : decode prog_12_method_17_code 45 = .ok (.iconst 1, 1) := by decide +kernel
theorem d_M_fits_46 : decode prog_12_method_17_code 46 = .ok (.invokevirtual 128, 3) := by decide +kernel
theorem d_M_fits_49 : decode prog_12_method_17_code 49 = .ok (.ifCond .eq 31, 3) := by decide +kernel
theorem d_M_fits_52 : decode prog_12_method_17_code 52 = .ok (.aload_n 0, 1) := by decide +kernel
theorem d_M_fits_53 : decode prog_12_method_17_code 53 = .ok (.getfield 79, 3) := by decide +kernel
theorem d_M_fits_56 : decode prog_12_method_17_code 56 = .ok (.bipush 12, 2) := by decide +kernel
theorem d_M_fits_58 : decode prog_12_method_17_code 58 = .ok (.if_icmp .eq 18, 3) := by decide +kernel
theorem d_M_fits_61 : decode prog_12_method_17_code 61 = .ok (.aload_n 0, 1) := by decide +kernel
theorem d_M_fits_62 : decode prog_12_method_17_code 62 = .ok (.bipush 11, 2) := by decide +kernel
theorem d_M_fits_64 : decode prog_12_method_17_code 64 = .ok (.aload_n 0, 1) := by decide +kernel
theorem d_M_fits_65 : decode prog_12_method_17_code 65 = .ok (.getfield 79, 3) := by decide +kernel
theorem d_M_fits_68 : decode prog_12_method_17_code 68 = .ok (.iconst 1, 1) := by decide +kernel
theorem d_M_fits_69 : decode prog_12_method_17_code 69 = .ok (.isub, 1) := by decide +kernel
theorem d_M_fits_70 : decode prog_12_method_17_code 70 = .ok (.invokevirtual 132, 3) := by decide +kernel
theorem d_M_fits_73 : decode prog_12_method_17_code 73 = .ok (.ifCond .eq 7, 3) := by decide +kernel
theorem d_M_fits_76 : decode prog_12_method_17_code 76 = .ok (.iconst 1, 1) := by decide +kernel
theorem d_M_fits_77 : decode prog_12_method_17_code 77 = .ok (.goto 4, 3) := by decide +kernel
theorem d_M_fits_80 : decode prog_12_method_17_code 80 = .ok (.iconst 0, 1) := by decide +kernel
theorem d_M_fits_81 : decode prog_12_method_17_code 81 = .ok (.ireturn, 1) := by decide +kernel
theorem d_M_fits_82 : decode prog_12_method_17_code 82 = .ok (.iload_n 1, 1) := by decide +kernel
theorem d_M_fits_83 : decode prog_12_method_17_code 83 = .ok (.ldc 135, 2) := by decide +kernel
theorem d_M_fits_85 : decode prog_12_method_17_code 85 = .ok (.if_icmp .ne 32, 3) := by decide +kernel
theorem d_M_fits_88 : decode prog_12_method_17_code 88 = .ok (.aload_n 0, 1) := by decide +kernel
theorem d_M_fits_89 : decode prog_12_method_17_code 89 = .ok (.iconst 0, 1) := by decide +kernel
theorem d_M_fits_90 : decode prog_12_method_17_code 90 = .ok (.invokevirtual 128, 3) := by decide +kernel
theorem d_M_fits_93 : decode prog_12_method_17_code 93 = .ok (.ifCond .eq 22, 3) := by decide +kernel
theorem d_M_fits_96 : decode prog_12_method_17_code 96 = .ok (.aload_n 0, 1) := by decide +kernel
theorem d_M_fits_97 : decode prog_12_method_17_code 97 = .ok (.bipush 9, 2) := by decide +kernel
theorem d_M_fits_99 : decode prog_12_method_17_code 99 = .ok (.aload_n 0, 1) := by decide +kernel
theorem d_M_fits_100 : decode prog_12_method_17_code 100 = .ok (.getfield 79, 3) := by decide +kernel
theorem d_M_fits_103 : decode prog_12_method_17_code 103 = .ok (.iconst 1, 1) := by decide +kernel
theorem d_M_fits_104 : decode prog_12_method_17_code 104 = .ok (.isub, 1) := by decide +kernel
theorem d_M_fits_105 : decode prog_12_method_17_code 105 = .ok (.invokevirtual 132, 3) := by decide +kernel
theorem d_M_fits_108 : decode prog_12_method_17_code 108 = .ok (.ifCond .eq 7, 3) := by decide +kernel
theorem d_M_fits_111 : decode prog_12_method_17_code 111 = .ok (.iconst 1, 1) := by decide +kernel
theorem d_M_fits_112 : decode prog_12_method_17_code 112 = .ok (.goto 4, 3) := by decide +kernel
theorem d_M_fits_115 : decode prog_12_method_17_code 115 = .ok (.iconst 0, 1) := by decide +kernel
theorem d_M_fits_116 : decode prog_12_method_17_code 116 = .ok (.ireturn, 1) := by decide +kernel
theorem d_M_fits_117 : decode prog_12_method_17_code 117 = .ok (.aload_n 0, 1) := by decide +kernel
theorem d_M_fits_118 : decode prog_12_method_17_code 118 = .ok (.getfield 79, 3) := by decide +kernel
theorem d_M_fits_121 : decode prog_12_method_17_code 121 = .ok (.iconst 4, 1) := by decide +kernel
theorem d_M_fits_122 : decode prog_12_method_17_code 122 = .ok (.if_icmp .ne 7, 3) := by decide +kernel
theorem d_M_fits_125 : decode prog_12_method_17_code 125 = .ok (.iconst 1, 1) := by decide +kernel
theorem d_M_fits_126 : decode prog_12_method_17_code 126 = .ok (.goto 4, 3) := by decide +kernel
theorem d_M_fits_129 : decode prog_12_method_17_code 129 = .ok (.iconst 0, 1) := by decide +kernel
theorem d_M_fits_130 : decode prog_12_method_17_code 130 = .ok (.ireturn, 1) := by decide +kernel
theorem d_M_isDomain_0 : decode prog_12_method_11_code 0 = .ok (.iload_n 2, 1) := by decide +kernel
theorem d_M_isDomain_1 : decode prog_12_method_11_code 1 = .ok (.iload_n 1, 1) := by decide +kernel
theorem d_M_isDomain_2 : decode prog_12_method_11_code 2 = .ok (.isub, 1) := by decide +kernel
theorem d_M_isDomain_3 : decode prog_12_method_11_code 3 = .ok (.iconst 1, 1) := by decide +kernel
theorem d_M_isDomain_4 : decode prog_12_method_11_code 4 = .ok (.if_icmp .lt 11, 3) := by decide +kernel
theorem d_M_isDomain_7 : decode prog_12_method_11_code 7 = .ok (.iload_n 2, 1) := by decide +kernel
theorem d_M_isDomain_8 : decode prog_12_method_11_code 8 = .ok (.iload_n 1, 1) := by decide +kernel
theorem d_M_isDomain_9 : decode prog_12_method_11_code 9 = .ok (.isub, 1) := by decide +kernel
theorem d_M_isDomain_10 : decode prog_12_method_11_code 10 = .ok (.bipush 32, 2) := by decide +kernel
theorem d_M_isDomain_12 : decode prog_12_method_11_code 12 = .ok (.if_icmp .le 5, 3) := by decide +kernel
theorem d_M_isDomain_15 : decode prog_12_method_11_code 15 = .ok (.iconst 0, 1) := by decide +kernel
theorem d_M_isDomain_16 : decode prog_12_method_11_code 16 = .ok (.ireturn, 1) := by decide +kernel
theorem d_M_isDomain_17 : decode prog_12_method_11_code 17 = .ok (.iconst 1, 1) := by decide +kernel
theorem d_M_isDomain_18 : decode prog_12_method_11_code 18 = .ok (.istore_n 3, 1) := by decide +kernel
theorem d_M_isDomain_19 : decode prog_12_method_11_code 19 = .ok (.bipush 46, 2) := by decide +kernel
theorem d_M_isDomain_21 : decode prog_12_method_11_code 21 = .ok (.istore 4, 2) := by decide +kernel
theorem d_M_isDomain_23 : decode prog_12_method_11_code 23 = .ok (.iload_n 1, 1) := by decide +kernel
theorem d_M_isDomain_24 : decode prog_12_method_11_code 24 = .ok (.istore 5, 2) := by decide +kernel
theorem d_M_isDomain_26 : decode prog_12_method_11_code 26 = .ok (.iload 5, 2) := by decide +kernel
theorem d_M_isDomain_28 : decode prog_12_method_11_code 28 = .ok (.iload_n 2, 1) := by decide +kernel
theorem d_M_isDomain_29 : decode prog_12_method_11_code 29 = .ok (.if_icmp .ge 75, 3) := by decide +kernel
theorem d_M_isDomain_32 : decode prog_12_method_11_code 32 = .ok (.aload_n 0, 1) := by decide +kernel
theorem d_M_isDomain_33 : decode prog_12_method_11_code 33 = .ok (.getfield 17, 3) := by decide +kernel
theorem d_M_isDomain_36 : decode prog_12_method_11_code 36 = .ok (.iload 5, 2) := by decide +kernel
theorem d_M_isDomain_38 : decode prog_12_method_11_code 38 = .ok (.iaload, 1) := by decide +kernel
theorem d_M_isDomain_39 : decode prog_12_method_11_code 39 = .ok (.istore 6, 2) := by decide +kernel
theorem d_M_isDomain_41 : decode prog_12_method_11_code 41 = .ok (.iload_n 3, 1) := by decide +kernel
theorem d_M_isDomain_42 : decode prog_12_method_11_code 42 = .ok (.ifCond .eq 50, 3) := by decide +kernel
theorem d_M_isDomain_45 : decode prog_12_method_11_code 45 = .ok (.iload 6, 2) := by decide +kernel
theorem d_M_isDomain_47 : decode prog_12_method_11_code 47 = .ok (.invokestatic 108, 3) := by decide +kernel
theorem d_M_isDomain_50 : decode prog_12_method_11_code 50 = .ok (.ifCond .ne 38, 3) := by decide +kernel
theorem d_M_isDomain_53 : decode prog_12_method_11_code 53 = .ok (.iload 6, 2) := by decide +kernel
theorem d_M_isDomain_55 : decode prog_12_method_11_code 55 = .ok (.bipush 45, 2) := by decide +kernel
theorem d_M_isDomain_57 : decode prog_12_method_11_code 57 = .ok (.if_icmp .ne 10, 3) := by decide +kernel
theorem d_M_isDomain_60 : decode prog_12_method_11_code 60 = .ok (.iload 4, 2) := by decide +kernel
theorem d_M_isDomain_62 : decode prog_12_method_11_code 62 = .ok (.bipush 46, 2) := by decide +kernel
theorem d_M_isDomain_64 : decode prog_12_method_11_code 64 = .ok (.if_icmp .ne 24, 3) := by decide +kernel
theorem d_M_isDomain_67 : decode prog_12_method_11_code 67 = .ok (.iload 6, 2) := by decide +kernel
theorem d_M_isDomain_69 : decode prog_12_method_11_code 69 = .ok (.bipush 46, 2) := by decide +kernel
theorem d_M_isDomain_71 : decode prog_12_method_11_code 71 = .ok (.if_icmp .ne 21, 3) := by decide +kernel
theorem d_M_isDomain_74 : decode prog_12_method_11_code 74 = .ok (.iload 4, 2) := by decide +kernel
theorem d_M_isDomain_76 : decode prog_12_method_11_code 76 = .ok (.bipush 46, 2) := by decide +kernel
theorem d_M_isDomain_78 : decode prog_12_method_11_code 78 = .ok (.if_icmp .eq 14, 3) := by decide +kernel
theorem d_M_isDomain_81 : decode prog_12_method_11_code 81 = .ok (.iload 4, 2) := by decide +kernel
theorem d_M_isDomain_83 : decode prog_12_method_11_code 83 = .ok (.bipush 45, 2) := by decide +kernel
theorem d_M_isDomain_85 : decode prog_12_method_11_code 85 = .ok (.if_icmp .eq 7, 3) := by decide +kernel
theorem d_M_isDomain_88 : decode prog_12_method_11_code 88 = .ok (.iconst 1, 1) := by decide +kernel
theorem d_M_isDomain_89 : decode prog_12_method_11_code 89 = .ok (.goto 4, 3) := by decide +kernel
theorem d_M_isDomain_92 : decode prog_12_method_11_code 92 = .ok (.iconst 0, 1) := by decide +kernel
theorem d_M_isDomain_93 : decode prog_12_method_11_code 93 = .ok (.istore_n 3, 1) := by decide +kernel
theorem d_M_isDomain_94 : decode prog_12_method_11_code 94 = .ok (.iload 6, 2) := by decide +kernel
theorem d_M_isDomain_96 : decode prog_12_method_11_code 96 = .ok (.istore 4, 2) := by decide +kernel
theorem d_M_isDomain_98 : decode prog_12_method_11_code 98 = .ok (.iinc 5 1, 3) := by decide +kernel
theorem d_M_isDomain_101 : decode prog_12_method_11_code 101 = .ok (.goto (-75), 3) := by decide +kernel
theorem d_M_isDomain_104 : decode prog_12_method_11_code 104 = .ok (.iload_n 3, 1) := by decide +kernel
theorem d_M_isDomain_105 : decode prog_12_method_11_code 105 = .ok (.ifCond .eq 21, 3) := by decide +kernel
theorem d_M_isDomain_108 : decode prog_12_method_11_code 108 = .ok (.iload 4, 2) := by decide +kernel
theorem d_M_isDomain_110 : decode prog_12_method_11_code 110 = .ok (.bipush 46, 2) := by decide +kernel
theorem d_M_isDomain_112 : decode prog_12_method_11_code 112 = .ok (.if_icmp .eq 14, 3) := by decide +kernel
theorem d_M_isDomain_115 : decode prog_12_method_11_code 115 = .ok (.iload 4, 2) := by decide +kernel
theorem d_M_isDomain_117 : decode prog_12_method_11_code 117 = .ok (.bipush 45, 2) := by decide +kernel
theorem d_M_isDomain_119 : decode prog_12_method_11_code 119 = .ok (.if_icmp .eq 7, 3) := by decide +kernel
theorem d_M_isDomain_122 : decode prog_12_method_11_code 122 = .ok (.iconst 1, 1) := by decide +kernel
theorem d_M_isDomain_123 : decode prog_12_method_11_code 123 = .ok (.goto 4, 3) := by decide +kernel
theorem d_M_isDomain_126 : decode prog_12_method_11_code 126 = .ok (.iconst 0, 1) := by decide +kernel
theorem d_M_isDomain_127 : decode prog_12_method_11_code 127 = .ok (.ireturn, 1) := by decide +kernel
theorem d_M_isAlnum_0 : decode prog_12_method_3_code 0 = .ok (.iload_n 0, 1) := by decide +kernel
theorem d_M_isAlnum_1 : decode prog_12_method_3_code 1 = .ok (.invokestatic 73, 3) := by decide +kernel
theorem d_M_isAlnum_4 : decode prog_12_method_3_code 4 = .ok (.ifCond .ne 15, 3) := by decide +kernel
theorem d_M_isAlnum_7 : decode prog_12_method_3_code 7 = .ok (.iload_n 0, 1) := by decide +kernel
theorem d_M_isAlnum_8 : decode prog_12_method_3_code 8 = .ok (.bipush 48, 2) := by decide +kernel
theorem d_M_isAlnum_10 : decode prog_12_method_3_code 10 = .ok (.if_icmp .lt 13, 3) := by decide +kernel
theorem d_M_isAlnum_13 : decode prog_12_method_3_code 13 = .ok (.iload_n 0, 1) := by decide +kernel
theorem d_M_isAlnum_14 : decode prog_12_method_3_code 14 = .ok (.bipush 57, 2) := by decide +kernel
theorem d_M_isAlnum_16 : decode prog_12_method_3_code 16 = .ok (.if_icmp .gt 7, 3) := by decide +kernel
theorem d_M_isAlnum_19 : decode prog_12_method_3_code 19 = .ok (.iconst 1, 1) := by decide +kernel
theorem d_M_isAlnum_20 : decode prog_12_method_3_code 20 = .ok (.goto 4, 3) := by decide +kernel
theorem d_M_isAlnum_23 : decode prog_12_method_3_code 23 = .ok (.iconst 0, 1) := by decide +kernel
theorem d_M_isAlnum_24 : decode prog_12_method_3_code 24 = .ok (.ireturn, 1) := by decide +kernel
theorem d_M_isLetter_0 : decode prog_12_method_2_code 0 = .ok (.iload_n 0, 1) := by decide +kernel
theorem d_M_isLetter_1 : decode prog_12_method_2_code 1 = .ok (.bipush 97, 2) := by decide +kernel
theorem d_M_isLetter_3 : decode prog_12_method_2_code 3 = .ok (.if_icmp .lt 9, 3) := by decide +kernel
theorem d_M_isLetter_6 : decode prog_12_method_2_code 6 = .ok (.iload_n 0, 1) := by decide +kernel
theorem d_M_isLetter_7 : decode prog_12_method_2_code 7 = .ok (.bipush 122, 2) := by decide +kernel
theorem d_M_isLetter_9 : decode prog_12_method_2_code 9 = .ok (.if_icmp .le 15, 3) := by decide +kernel
theorem d_M_isLetter_12 : decode prog_12_method_2_code 12 = .ok (.iload_n 0, 1) := by decide +kernel
theorem d_M_isLetter_13 : decode prog_12_method_2_code 13 = .ok (.bipush 65, 2) := by decide +kernel
theorem d_M_isLetter_15 : decode prog_12_method_2_code 15 = .ok (.if_icmp .lt 13, 3) := by decide +kernel
theorem d_M_isLetter_18 : decode prog_12_method_2_code 18 = .ok (.iload_n 0, 1) := by decide +kernel
theorem d_M_isLetter_19 : decode prog_12_method_2_code 19 = .ok (.bipush 90, 2) := by decide +kernel
theorem d_M_isLetter_21 : decode prog_12_method_2_code 21 = .ok (.if_icmp .gt 7, 3) := by decide +kernel
theorem d_M_isLetter_24 : decode prog_12_method_2_code 24 = .ok (.iconst 1, 1) := by decide +kernel
theorem d_M_isLetter_25 : decode prog_12_method_2_code 25 = .ok (.goto 4, 3) := by decide +kernel
theorem d_M_isLetter_28 : decode prog_12_method_2_code 28 = .ok (.iconst 0, 1) := by decide +kernel
theorem d_M_isLetter_29 : decode prog_12_method_2_code 29 = .ok (.ireturn, 1) := by decide +kernel
theorem d_M_bracketed_0 : decode prog_12_method_15_code 0 = .ok (.aload_n 0, 1) := by decide +kernel
theorem d_M_bracketed_1 : decode prog_12_method_15_code 1 = .ok (.iconst 5, 1) := by decide +kernel
theorem d_M_bracketed_2 : decode prog_12_method_15_code 2 = .ok (.invokevirtual 122, 3) := by decide +kernel
theorem d_M_bracketed_5 : decode prog_12_method_15_code 5 = .ok (.bipush 102, 2) := by decide +kernel
theorem d_M_bracketed_7 : decode prog_12_method_15_code 7 = .ok (.if_icmp .ne 71, 3) := by decide +kernel
theorem d_M_bracketed_10 : decode prog_12_method_15_code 10 = .ok (.aload_n 0, 1) := by decide +kernel
theorem d_M_bracketed_11 : decode prog_12_method_15_code 11 = .ok (.bipush 6, 2) := by decide +kernel
theorem d_M_bracketed_13 : decode prog_12_method_15_code 13 = .ok (.invokevirtual 122, 3) := by decide +kernel
theorem d_M_bracketed_16 : decode prog_12_method_15_code 16 = .ok (.bipush 114, 2) := by decide +kernel
theorem d_M_bracketed_18 : decode prog_12_method_15_code 18 = .ok (.if_icmp .ne 60, 3) := by decide +kernel
theorem d_M_bracketed_21 : decode prog_12_method_15_code 21 = .ok (.aload_n 0, 1) := by decide +kernel
theorem d_M_bracketed_22 : decode prog_12_method_15_code 22 = .ok (.bipush 7, 2) := by decide +kernel
theorem d_M_bracketed_24 : decode prog_12_method_15_code 24 = .ok (.invokevirtual 122, 3) := by decide +kernel
theorem d_M_bracketed_27 : decode prog_12_method_15_code 27 = .ok (.bipush 111, 2) := by decide +kernel
theorem d_M_bracketed_29 : decode prog_12_method_15_code 29 = .ok (.if_icmp .ne 49, 3) := by decide +kernel
theorem d_M_bracketed_32 : decode prog_12_method_15_code 32 = .ok (.aload_n 0, 1) := by decide +kernel
theorem d_M_bracketed_33 : decode prog_12_method_15_code 33 = .ok (.bipush 8, 2) := by decide +kernel
theorem d_M_bracketed_35 : decode prog_12_method_15_code 35 = .ok (.invokevirtual 122, 3) := by decide +kernel
theorem d_M_bracketed_38 : decode prog_12_method_15_code 38 = .ok (.bipush 109, 2) := by decide +kernel
theorem d_M_bracketed_40 : decode prog_12_method_15_code 40 = .ok (.if_icmp .ne 38, 3) := by decide +kernel
theorem d_M_bracketed_43 : decode prog_12_method_15_code 43 = .ok (.aload_n 0, 1) := by decide +kernel
theorem d_M_bracketed_44 : decode prog_12_method_15_code 44 = .ok (.bipush 9, 2) := by decide +kernel
theorem d_M_bracketed_46 : decode prog_12_method_15_code 46 = .ok (.invokevirtual 122, 3) := by decide +kernel
theorem d_M_bracketed_49 : decode prog_12_method_15_code 49 = .ok (.bipush 58, 2) := by decide +kernel
theorem d_M_bracketed_51 : decode prog_12_method_15_code 51 = .ok (.if_icmp .ne 27, 3) := by decide +kernel
theorem d_M_bracketed_54 : decode prog_12_method_15_code 54 = .ok (.aload_n 0, 1) := by decide +kernel
theorem d_M_bracketed_55 : decode prog_12_method_15_code 55 = .ok (.bipush 10, 2) := by decide +kernel
theorem d_M_bracketed_57 : decode prog_12_method_15_code 57 = .ok (.invokevirtual 122, 3) := by decide +kernel
theorem d_M_bracketed_60 : decode prog_12_method_15_code 60 = .ok (.bipush 60, 2) := by decide +kernel
theorem d_M_bracketed_62 : decode prog_12_method_15_code 62 = .ok (.if_icmp .ne 16, 3) := by decide +kernel
theorem d_M_bracketed_65 : decode prog_12_method_15_code 65 = .ok (.aload_n 0, 1) := by decide +kernel
theorem d_M_bracketed_66 : decode prog_12_method_15_code 66 = .ok (.getfield 79, 3) := by decide +kernel
theorem d_M_bracketed_69 : decode prog_12_method_15_code 69 = .ok (.bipush 11, 2) := by decide +kernel
theorem d_M_bracketed_71 : decode prog_12_method_15_code 71 = .ok (.if_icmp .le 7, 3) := by decide +kernel
theorem d_M_bracketed_74 : decode prog_12_method_15_code 74 = .ok (.iconst 1, 1) := by decide +kernel
theorem d_M_bracketed_75 : decode prog_12_method_15_code 75 = .ok (.goto 4, 3) := by decide +kernel
theorem d_M_bracketed_78 : decode prog_12_method_15_code 78 = .ok (.iconst 0, 1) := by decide +kernel
theorem d_M_bracketed_79 : decode prog_12_method_15_code 79 = .ok (.istore_n 2, 1) := by decide +kernel
theorem d_M_bracketed_80 : decode prog_12_method_15_code 80 = .ok (.aload_n 0, 1) := by decide +kernel
theorem d_M_bracketed_81 : decode prog_12_method_15_code 81 = .ok (.iconst 5, 1) := by decide +kernel
theorem d_M_bracketed_82 : decode prog_12_method_15_code 82 = .ok (.invokevirtual 122, 3) := by decide +kernel
theorem d_M_bracketed_85 : decode prog_12_method_15_code 85 = .ok (.bipush 116, 2) := by decide +kernel
theorem d_M_bracketed_87 : decode prog_12_method_15_code 87 = .ok (.if_icmp .ne 49, 3) := by decide +kernel
theorem d_M_bracketed_90 : decode prog_12_method_15_code 90 = .ok (.aload_n 0, 1) := by decide +kernel
theorem d_M_bracketed_91 : decode prog_12_method_15_code 91 = .ok (.bipush 6, 2) := by decide +kernel
theorem d_M_bracketed_93 : decode prog_12_method_15_code 93 = .ok (.invokevirtual 122, 3) := by decide +kernel
theorem d_M_bracketed_96 : decode prog_12_method_15_code 96 = .ok (.bipush 111, 2) := by decide +kernel
theorem d_M_bracketed_98 : decode prog_12_method_15_code 98 = .ok (.if_icmp .ne 38, 3) := by decide +kernel
theorem d_M_bracketed_101 : decode prog_12_method_15_code 101 = .ok (.aload_n 0, 1) := by decide +kernel
theorem d_M_bracketed_102 : decode prog_12_method_15_code 102 = .ok (.bipush 7, 2) := by decide +kernel
theorem d_M_bracketed_104 : decode prog_12_method_15_code 104 = .ok (.invokevirtual 122, 3) := by decide +kernel
theorem d_M_bracketed_107 : decode prog_12_method_15_code 107 = .ok (.bipush 58, 2) := by decide +kernel
theorem d_M_bracketed_109 : decode prog_12_method_15_code 109 = .ok (.if_icmp .ne 27, 3) := by decide +kernel
theorem d_M_bracketed_112 : decode prog_12_method_15_code 112 = .ok (.aload_n 0, 1) := by decide +kernel
theorem d_M_bracketed_113 : decode prog_12_method_15_code 113 = .ok (.bipush 8, 2) := by decide +kernel
theorem d_M_bracketed_115 : decode prog_12_method_15_code 115 = .ok (.invokevirtual 122, 3) := by decide +kernel
theorem d_M_bracketed_118 : decode prog_12_method_15_code 118 = .ok (.bipush 60, 2) := by decide +kernel
theorem d_M_bracketed_120 : decode prog_12_method_15_code 120 = .ok (.if_icmp .ne 16, 3) := by decide +kernel
theorem d_M_bracketed_123 : decode prog_12_method_15_code 123 = .ok (.aload_n 0, 1) := by decide +kernel
theorem d_M_bracketed_124 : decode prog_12_method_15_code 124 = .ok (.getfield 79, 3) := by decide +kernel
theorem d_M_bracketed_127 : decode prog_12_method_15_code 127 = .ok (.bipush 9, 2) := by decide +kernel
theorem d_M_bracketed_129 : decode prog_12_method_15_code 129 = .ok (.if_icmp .le 7, 3) := by decide +kernel
theorem d_M_bracketed_132 : decode prog_12_method_15_code 132 = .ok (.iconst 1, 1) := by decide +kernel
theorem d_M_bracketed_133 : decode prog_12_method_15_code 133 = .ok (.goto 4, 3) := by decide +kernel
theorem d_M_bracketed_136 : decode prog_12_method_15_code 136 = .ok (.iconst 0, 1) := by decide +kernel
theorem d_M_bracketed_137 : decode prog_12_method_15_code 137 = .ok (.istore_n 3, 1) := by decide +kernel
theorem d_M_bracketed_138 : decode prog_12_method_15_code 138 = .ok (.iload_n 1, 1) := by decide +kernel
theorem d_M_bracketed_139 : decode prog_12_method_15_code 139 = .ok (.ifCond .eq 10, 3) := by decide +kernel
theorem d_M_bracketed_142 : decode prog_12_method_15_code 142 = .ok (.iload_n 2, 1) := by decide +kernel
theorem d_M_bracketed_143 : decode prog_12_method_15_code 143 = .ok (.ifCond .eq 30, 3) := by decide +kernel
theorem d_M_bracketed_146 : decode prog_12_method_15_code 146 = .ok (.goto 7, 3) := by decide +kernel
theorem d_M_bracketed_149 : decode prog_12_method_15_code 149 = .ok (.iload_n 3, 1) := by decide +kernel
theorem d_M_bracketed_150 : decode prog_12_method_15_code 150 = .ok (.ifCond .eq 23, 3) := by decide +kernel
theorem d_M_bracketed_153 : decode prog_12_method_15_code 153 = .ok (.aload_n 0, 1) := by decide +kernel
theorem d_M_bracketed_154 : decode prog_12_method_15_code 154 = .ok (.getfield 17, 3) := by decide +kernel
theorem d_M_bracketed_157 : decode prog_12_method_15_code 157 = .ok (.aload_n 0, 1) := by decide +kernel
theorem d_M_bracketed_158 : decode prog_12_method_15_code 158 = .ok (.getfield 79, 3) := by decide +kernel
theorem d_M_bracketed_161 : decode prog_12_method_15_code 161 = .ok (.iconst 1, 1) := by decide +kernel
theorem d_M_bracketed_162 : decode prog_12_method_15_code 162 = .ok (.isub, 1) := by decide +kernel
theorem d_M_bracketed_163 : decode prog_12_method_15_code 163 = .ok (.iaload, 1) := by decide +kernel
theorem d_M_bracketed_164 : decode prog_12_method_15_code 164 = .ok (.bipush 62, 2) := by decide +kernel
theorem d_M_bracketed_166 : decode prog_12_method_15_code 166 = .ok (.if_icmp .ne 7, 3) := by decide +kernel
theorem d_M_bracketed_169 : decode prog_12_method_15_code 169 = .ok (.iconst 1, 1) := by decide +kernel
theorem d_M_bracketed_170 : decode prog_12_method_15_code 170 = .ok (.goto 4, 3) := by decide +kernel
theorem d_M_bracketed_173 : decode prog_12_method_15_code 173 = .ok (.iconst 0, 1) := by decide +kernel
theorem d_M_bracketed_174 : decode prog_12_method_15_code 174 = .ok (.ireturn, 1) := by decide +kernel
theorem d_M_isPath_0 : decode prog_12_method_13_code 0 = .ok (.iload_n 1, 1) := by decide +kernel
theorem d_M_isPath_1 : decode prog_12_method_13_code 1 = .ok (.istore_n 3, 1) := by decide +kernel
theorem d_M_isPath_2 : decode prog_12_method_13_code 2 = .ok (.iload_n 3, 1) := by decide +kernel
theorem d_M_isPath_3 : decode prog_12_method_13_code 3 = .ok (.iload_n 2, 1) := by decide +kernel
theorem d_M_isPath_4 : decode prog_12_method_13_code 4 = .ok (.if_icmp .ge 21, 3) := by decide +kernel
theorem d_M_isPath_7 : decode prog_12_method_13_code 7 = .ok (.aload_n 0, 1) := by decide +kernel
theorem d_M_isPath_8 : decode prog_12_method_13_code 8 = .ok (.getfield 17, 3) := by decide +kernel
theorem d_M_isPath_11 : decode prog_12_method_13_code 11 = .ok (.iload_n 3, 1) := by decide +kernel
theorem d_M_isPath_12 : decode prog_12_method_13_code 12 = .ok (.iaload, 1) := by decide +kernel
theorem d_M_isPath_13 : decode prog_12_method_13_code 13 = .ok (.bipush 64, 2) := by decide +kernel
theorem d_M_isPath_15 : decode prog_12_method_13_code 15 = .ok (.if_icmp .eq 10, 3) := by decide +kernel
theorem d_M_isPath_18 : decode prog_12_method_13_code 18 = .ok (.iload_n 3, 1) := by decide +kernel
theorem d_M_isPath_19 : decode prog_12_method_13_code 19 = .ok (.iconst 1, 1) := by decide +kernel
theorem d_M_isPath_20 : decode prog_12_method_13_code 20 = .ok (.iadd, 1) := by decide +kernel
theorem d_M_isPath_21 : decode prog_12_method_13_code 21 = .ok (.istore_n 3, 1) := by decide +kernel
theorem d_M_isPath_22 : decode prog_12_method_13_code 22 = .ok (.goto (-20), 3) := by decide +kernel
theorem d_M_isPath_25 : decode prog_12_method_13_code 25 = .ok (.iload_n 2, 1) := by decide +kernel
theorem d_M_isPath_26 : decode prog_12_method_13_code 26 = .ok (.iload_n 1, 1) := by decide +kernel
theorem d_M_isPath_27 : decode prog_12_method_13_code 27 = .ok (.isub, 1) := by decide +kernel
theorem d_M_isPath_28 : decode prog_12_method_13_code 28 = .ok (.bipush 40, 2) := by decide +kernel
theorem d_M_isPath_30 : decode prog_12_method_13_code 30 = .ok (.if_icmp .gt 32, 3) := by decide +kernel
theorem d_M_isPath_33 : decode prog_12_method_13_code 33 = .ok (.iload_n 3, 1) := by decide +kernel
theorem d_M_isPath_34 : decode prog_12_method_13_code 34 = .ok (.iload_n 2, 1) := by decide +kernel
theorem d_M_isPath_35 : decode prog_12_method_13_code 35 = .ok (.if_icmp .ge 27, 3) := by decide +kernel
theorem d_M_isPath_38 : decode prog_12_method_13_code 38 = .ok (.aload_n 0, 1) := by decide +kernel
theorem d_M_isPath_39 : decode prog_12_method_13_code 39 = .ok (.iload_n 1, 1) := by decide +kernel
theorem d_M_isPath_40 : decode prog_12_method_13_code 40 = .ok (.iload_n 3, 1) := by decide +kernel
theorem d_M_isPath_41 : decode prog_12_method_13_code 41 = .ok (.invokevirtual 111, 3) := by decide +kernel
theorem d_M_isPath_44 : decode prog_12_method_13_code 44 = .ok (.ifCond .eq 18, 3) := by decide +kernel
theorem d_M_isPath_47 : decode prog_12_method_13_code 47 = .ok (.aload_n 0, 1) := by decide +kernel
theorem d_M_isPath_48 : decode prog_12_method_13_code 48 = .ok (.iload_n 3, 1) := by decide +kernel
theorem d_M_isPath_49 : decode prog_12_method_13_code 49 = .ok (.iconst 1, 1) := by decide +kernel
theorem d_M_isPath_50 : decode prog_12_method_13_code 50 = .ok (.iadd, 1) := by decide +kernel
theorem d_M_isPath_51 : decode prog_12_method_13_code 51 = .ok (.iload_n 2, 1) := by decide +kernel
theorem d_M_isPath_52 : decode prog_12_method_13_code 52 = .ok (.invokevirtual 115, 3) := by decide +kernel
theorem d_M_isPath_55 : decode prog_12_method_13_code 55 = .ok (.ifCond .eq 7, 3) := by decide +kernel
theorem d_M_isPath_58 : decode prog_12_method_13_code 58 = .ok (.iconst 1, 1) := by decide +kernel
theorem d_M_isPath_59 : decode prog_12_method_13_code 59 = .ok (.goto 4, 3) := by decide +kernel
theorem d_M_isPath_62 : decode prog_12_method_13_code 62 = .ok (.iconst 0, 1) := by decide +kernel
theorem d_M_isPath_63 : decode prog_12_method_13_code 63 = .ok (.ireturn, 1) := by decide +kernel
theorem d_M_isLocal_0 : decode prog_12_method_12_code 0 = .ok (.iload_n 2, 1) := by decide +kernel
theorem d_M_isLocal_1 : decode prog_12_method_12_code 1 = .ok (.iload_n 1, 1) := by decide +kernel
theorem d_M_isLocal_2 : decode prog_12_method_12_code 2 = .ok (.if_icmp .le 7, 3) := by decide +kernel
theorem d_M_isLocal_5 : decode prog_12_method_12_code 5 = .ok (.iconst 1, 1) := by decide +kernel
theorem d_M_isLocal_6 : decode prog_12_method_12_code 6 = .ok (.goto 4, 3) := by decide +kernel
theorem d_M_isLocal_9 : decode prog_12_method_12_code 9 = .ok (.iconst 0, 1) := by decide +kernel
theorem d_M_isLocal_10 : decode prog_12_method_12_code 10 = .ok (.istore_n 3, 1) := by decide +kernel
theorem d_M_isLocal_11 : decode prog_12_method_12_code 11 = .ok (.bipush 46, 2) := by decide +kernel
theorem d_M_isLocal_13 : decode prog_12_method_12_code 13 = .ok (.istore 4, 2) := by decide +kernel
theorem d_M_isLocal_15 : decode prog_12_method_12_code 15 = .ok (.iload_n 1, 1) := by decide +kernel
theorem d_M_isLocal_16 : decode prog_12_method_12_code 16 = .ok (.istore 5, 2) := by decide +kernel
theorem d_M_isLocal_18 : decode prog_12_method_12_code 18 = .ok (.iload 5, 2) := by decide +kernel
theorem d_M_isLocal_20 : decode prog_12_method_12_code 20 = .ok (.iload_n 2, 1) := by decide +kernel
theorem d_M_isLocal_21 : decode prog_12_method_12_code 21 = .ok (.if_icmp .ge 75, 3) := by decide +kernel
theorem d_M_isLocal_24 : decode prog_12_method_12_code 24 = .ok (.aload_n 0, 1) := by decide +kernel
theorem d_M_isLocal_25 : decode prog_12_method_12_code 25 = .ok (.getfield 17, 3) := by decide +kernel
theorem d_M_isLocal_28 : decode prog_12_method_12_code 28 = .ok (.iload 5, 2) := by decide +kernel
theorem d_M_isLocal_30 : decode prog_12_method_12_code 30 = .ok (.iaload, 1) := by decide +kernel
theorem d_M_isLocal_31 : decode prog_12_method_12_code 31 = .ok (.istore 6, 2) := by decide +kernel
theorem d_M_isLocal_33 : decode prog_12_method_12_code 33 = .ok (.iload_n 3, 1) := by decide +kernel
theorem d_M_isLocal_34 : decode prog_12_method_12_code 34 = .ok (.ifCond .eq 50, 3) := by decide +kernel
theorem d_M_isLocal_37 : decode prog_12_method_12_code 37 = .ok (.iload 6, 2) := by decide +kernel
theorem d_M_isLocal_39 : decode prog_12_method_12_code 39 = .ok (.invokestatic 108, 3) := by decide +kernel
theorem d_M_isLocal_42 : decode prog_12_method_12_code 42 = .ok (.ifCond .ne 38, 3) := by decide +kernel
theorem d_M_isLocal_45 : decode prog_12_method_12_code 45 = .ok (.iload 6, 2) := by decide +kernel
theorem d_M_isLocal_47 : decode prog_12_method_12_code 47 = .ok (.bipush 45, 2) := by decide +kernel
theorem d_M_isLocal_49 : decode prog_12_method_12_code 49 = .ok (.if_icmp .eq 31, 3) := by decide +kernel
theorem d_M_isLocal_52 : decode prog_12_method_12_code 52 = .ok (.iload 6, 2) := by decide +kernel
theorem d_M_isLocal_54 : decode prog_12_method_12_code 54 = .ok (.bipush 95, 2) := by decide +kernel
theorem d_M_isLocal_56 : decode prog_12_method_12_code 56 = .ok (.if_icmp .eq 24, 3) := by decide +kernel
theorem d_M_isLocal_59 : decode prog_12_method_12_code 59 = .ok (.iload 6, 2) := by decide +kernel
theorem d_M_isLocal_61 : decode prog_12_method_12_code 61 = .ok (.bipush 43, 2) := by decide +kernel
theorem d_M_isLocal_63 : decode prog_12_method_12_code 63 = .ok (.if_icmp .eq 17, 3) := by decide +kernel
theorem d_M_isLocal_66 : decode prog_12_method_12_code 66 = .ok (.iload 6, 2) := by decide +kernel
theorem d_M_isLocal_68 : decode prog_12_method_12_code 68 = .ok (.bipush 46, 2) := by decide +kernel
theorem d_M_isLocal_70 : decode prog_12_method_12_code 70 = .ok (.if_icmp .ne 14, 3) := by decide +kernel
theorem d_M_isLocal_73 : decode prog_12_method_12_code 73 = .ok (.iload 4, 2) := by decide +kernel
theorem d_M_isLocal_75 : decode prog_12_method_12_code 75 = .ok (.bipush 46, 2) := by decide +kernel
theorem d_M_isLocal_77 : decode prog_12_method_12_code 77 = .ok (.if_icmp .eq 7, 3) := by decide +kernel
theorem d_M_isLocal_80 : decode prog_12_method_12_code 80 = .ok (.iconst 1, 1) := by decide +kernel
theorem d_M_isLocal_81 : decode prog_12_method_12_code 81 = .ok (.goto 4, 3) := by decide +kernel
theorem d_M_isLocal_84 : decode prog_12_method_12_code 84 = .ok (.iconst 0, 1) := by decide +kernel
theorem d_M_isLocal_85 : decode prog_12_method_12_code 85 = .ok (.istore_n 3, 1) := by decide +kernel
theorem d_M_isLocal_86 : decode prog_12_method_12_code 86 = .ok (.iload 6, 2) := by decide +kernel
theorem d_M_isLocal_88 : decode prog_12_method_12_code 88 = .ok (.istore 4, 2) := by decide +kernel
theorem d_M_isLocal_90 : decode prog_12_method_12_code 90 = .ok (.iinc 5 1, 3) := by decide +kernel
theorem d_M_isLocal_93 : decode prog_12_method_12_code 93 = .ok (.goto (-75), 3) := by decide +kernel
theorem d_M_isLocal_96 : decode prog_12_method_12_code 96 = .ok (.iload_n 3, 1) := by decide +kernel
theorem d_M_isLocal_97 : decode prog_12_method_12_code 97 = .ok (.ifCond .eq 14, 3) := by decide +kernel
theorem d_M_isLocal_100 : decode prog_12_method_12_code 100 = .ok (.iload 4, 2) := by decide +kernel
theorem d_M_isLocal_102 : decode prog_12_method_12_code 102 = .ok (.bipush 46, 2) := by decide +kernel
theorem d_M_isLocal_104 : decode prog_12_method_12_code 104 = .ok (.if_icmp .eq 7, 3) := by decide +kernel
theorem d_M_isLocal_107 : decode prog_12_method_12_code 107 = .ok (.iconst 1, 1) := by decide +kernel
theorem d_M_isLocal_108 : decode prog_12_method_12_code 108 = .ok (.goto 4, 3) := by decide +kernel
theorem d_M_isLocal_111 : decode prog_12_method_12_code 111 = .ok (.iconst 0, 1) := by decide +kernel
theorem d_M_isLocal_112 : decode prog_12_method_12_code 112 = .ok (.ireturn, 1) := by decide +kernel
theorem d_M_mail_0 : decode prog_12_method_20_code 0 = .ok (.aload_n 0, 1) := by decide +kernel
theorem d_M_mail_1 : decode prog_12_method_20_code 1 = .ok (.getfield 82, 3) := by decide +kernel
theorem d_M_mail_4 : decode prog_12_method_20_code 4 = .ok (.ifCond .eq 10, 3) := by decide +kernel
theorem d_M_mail_7 : decode prog_12_method_20_code 7 = .ok (.aload_n 0, 1) := by decide +kernel
theorem d_M_mail_8 : decode prog_12_method_20_code 8 = .ok (.getfield 85, 3) := by decide +kernel
theorem d_M_mail_11 : decode prog_12_method_20_code 11 = .ok (.ifCond .eq 7, 3) := by decide +kernel
theorem d_M_mail_14 : decode prog_12_method_20_code 14 = .ok (.sipush 503, 3) := by decide +kernel
theorem d_M_mail_17 : decode prog_12_method_20_code 17 = .ok (.ireturn, 1) := by decide +kernel
theorem d_M_mail_18 : decode prog_12_method_20_code 18 = .ok (.aload_n 0, 1) := by decide +kernel
theorem d_M_mail_19 : decode prog_12_method_20_code 19 = .ok (.invokevirtual 153, 3) := by decide +kernel
theorem d_M_mail_22 : decode prog_12_method_20_code 22 = .ok (.bipush 6, 2) := by decide +kernel
theorem d_M_mail_24 : decode prog_12_method_20_code 24 = .ok (.if_icmp .ne 7, 3) := by decide +kernel
theorem d_M_mail_27 : decode prog_12_method_20_code 27 = .ok (.sipush 452, 3) := by decide +kernel
theorem d_M_mail_30 : decode prog_12_method_20_code 30 = .ok (.ireturn, 1) := by decide +kernel
theorem d_M_mail_31 : decode prog_12_method_20_code 31 = .ok (.aload_n 0, 1) := by decide +kernel
theorem d_M_mail_32 : decode prog_12_method_20_code 32 = .ok (.iconst 1, 1) := by decide +kernel
theorem d_M_mail_33 : decode prog_12_method_20_code 33 = .ok (.putfield 85, 3) := by decide +kernel
theorem d_M_mail_36 : decode prog_12_method_20_code 36 = .ok (.aload_n 0, 1) := by decide +kernel
theorem d_M_mail_37 : decode prog_12_method_20_code 37 = .ok (.getfield 40, 3) := by decide +kernel
theorem d_M_mail_40 : decode prog_12_method_20_code 40 = .ok (.bipush 6, 2) := by decide +kernel
theorem d_M_mail_42 : decode prog_12_method_20_code 42 = .ok (.iconst 0, 1) := by decide +kernel
theorem d_M_mail_43 : decode prog_12_method_20_code 43 = .ok (.iastore, 1) := by decide +kernel
theorem d_M_mail_44 : decode prog_12_method_20_code 44 = .ok (.aload_n 0, 1) := by decide +kernel
theorem d_M_mail_45 : decode prog_12_method_20_code 45 = .ok (.bipush 11, 2) := by decide +kernel
theorem d_M_mail_47 : decode prog_12_method_20_code 47 = .ok (.iconst 4, 1) := by decide +kernel
theorem d_M_mail_48 : decode prog_12_method_20_code 48 = .ok (.invokevirtual 156, 3) := by decide +kernel
theorem d_M_mail_51 : decode prog_12_method_20_code 51 = .ok (.sipush 250, 3) := by decide +kernel
theorem d_M_mail_54 : decode prog_12_method_20_code 54 = .ok (.ireturn, 1) := by decide +kernel
theorem d_M_keepPath_0 : decode prog_12_method_18_code 0 = .ok (.aload_n 0, 1) := by decide +kernel
theorem d_M_keepPath_1 : decode prog_12_method_18_code 1 = .ok (.getfield 37, 3) := by decide +kernel
theorem d_M_keepPath_4 : decode prog_12_method_18_code 4 = .ok (.bipush 30, 2) := by decide +kernel
theorem d_M_keepPath_6 : decode prog_12_method_18_code 6 = .ok (.iload_n 2, 1) := by decide +kernel
theorem d_M_keepPath_7 : decode prog_12_method_18_code 7 = .ok (.iadd, 1) := by decide +kernel
theorem d_M_keepPath_8 : decode prog_12_method_18_code 8 = .ok (.aload_n 0, 1) := by decide +kernel
theorem d_M_keepPath_9 : decode prog_12_method_18_code 9 = .ok (.getfield 79, 3) := by decide +kernel
theorem d_M_keepPath_12 : decode prog_12_method_18_code 12 = .ok (.iconst 1, 1) := by decide +kernel
theorem d_M_keepPath_13 : decode prog_12_method_18_code 13 = .ok (.isub, 1) := by decide +kernel
theorem d_M_keepPath_14 : decode prog_12_method_18_code 14 = .ok (.iload_n 1, 1) := by decide +kernel
theorem d_M_keepPath_15 : decode prog_12_method_18_code 15 = .ok (.isub, 1) := by decide +kernel
theorem d_M_keepPath_16 : decode prog_12_method_18_code 16 = .ok (.iastore, 1) := by decide +kernel
theorem d_M_keepPath_17 : decode prog_12_method_18_code 17 = .ok (.iload_n 1, 1) := by decide +kernel
theorem d_M_keepPath_18 : decode prog_12_method_18_code 18 = .ok (.istore_n 3, 1) := by decide +kernel
theorem d_M_keepPath_19 : decode prog_12_method_18_code 19 = .ok (.iload_n 3, 1) := by decide +kernel
theorem d_M_keepPath_20 : decode prog_12_method_18_code 20 = .ok (.aload_n 0, 1) := by decide +kernel
theorem d_M_keepPath_21 : decode prog_12_method_18_code 21 = .ok (.getfield 79, 3) := by decide +kernel
theorem d_M_keepPath_24 : decode prog_12_method_18_code 24 = .ok (.iconst 1, 1) := by decide +kernel
theorem d_M_keepPath_25 : decode prog_12_method_18_code 25 = .ok (.isub, 1) := by decide +kernel
theorem d_M_keepPath_26 : decode prog_12_method_18_code 26 = .ok (.if_icmp .ge 31, 3) := by decide +kernel
theorem d_M_keepPath_29 : decode prog_12_method_18_code 29 = .ok (.aload_n 0, 1) := by decide +kernel
theorem d_M_keepPath_30 : decode prog_12_method_18_code 30 = .ok (.getfield 34, 3) := by decide +kernel
theorem d_M_keepPath_33 : decode prog_12_method_18_code 33 = .ok (.bipush 40, 2) := by decide +kernel
theorem d_M_keepPath_35 : decode prog_12_method_18_code 35 = .ok (.bipush 30, 2) := by decide +kernel
theorem d_M_keepPath_37 : decode prog_12_method_18_code 37 = .ok (.iload_n 2, 1) := by decide +kernel
theorem d_M_keepPath_38 : decode prog_12_method_18_code 38 = .ok (.iadd, 1) := by decide +kernel
theorem d_M_keepPath_39 : decode prog_12_method_18_code 39 = .ok (.imul, 1) := by decide +kernel
theorem d_M_keepPath_40 : decode prog_12_method_18_code 40 = .ok (.iload_n 3, 1) := by decide +kernel
theorem d_M_keepPath_41 : decode prog_12_method_18_code 41 = .ok (.iadd, 1) := by decide +kernel
theorem d_M_keepPath_42 : decode prog_12_method_18_code 42 = .ok (.iload_n 1, 1) := by decide +kernel
theorem d_M_keepPath_43 : decode prog_12_method_18_code 43 = .ok (.isub, 1) := by decide +kernel
theorem d_M_keepPath_44 : decode prog_12_method_18_code 44 = .ok (.aload_n 0, 1) := by decide +kernel
theorem d_M_keepPath_45 : decode prog_12_method_18_code 45 = .ok (.getfield 17, 3) := by decide +kernel
theorem d_M_keepPath_48 : decode prog_12_method_18_code 48 = .ok (.iload_n 3, 1) := by decide +kernel
theorem d_M_keepPath_49 : decode prog_12_method_18_code 49 = .ok (.iaload, 1) := by decide +kernel
theorem d_M_keepPath_50 : decode prog_12_method_18_code 50 = .ok (.iastore, 1) := by decide +kernel
theorem d_M_keepPath_51 : decode prog_12_method_18_code 51 = .ok (.iinc 3 1, 3) := by decide +kernel
theorem d_M_keepPath_54 : decode prog_12_method_18_code 54 = .ok (.goto (-35), 3) := by decide +kernel
theorem d_M_keepPath_57 : decode prog_12_method_18_code 57 = .ok (.return_, 1) := by decide +kernel
theorem d_M_recipient0_0 : decode prog_12_method_21_code 0 = .ok (.aload_n 0, 1) := by decide +kernel
theorem d_M_recipient0_1 : decode prog_12_method_21_code 1 = .ok (.getfield 85, 3) := by decide +kernel
theorem d_M_recipient0_4 : decode prog_12_method_21_code 4 = .ok (.ifCond .ne 7, 3) := by decide +kernel
theorem d_M_recipient0_7 : decode prog_12_method_21_code 7 = .ok (.sipush 503, 3) := by decide +kernel
theorem d_M_recipient0_10 : decode prog_12_method_21_code 10 = .ok (.ireturn, 1) := by decide +kernel
theorem d_M_recipient0_11 : decode prog_12_method_21_code 11 = .ok (.aload_n 0, 1) := by decide +kernel
theorem d_M_recipient0_12 : decode prog_12_method_21_code 12 = .ok (.getfield 40, 3) := by decide +kernel
theorem d_M_recipient0_15 : decode prog_12_method_21_code 15 = .ok (.bipush 6, 2) := by decide +kernel
theorem d_M_recipient0_17 : decode prog_12_method_21_code 17 = .ok (.iaload, 1) := by decide +kernel
theorem d_M_recipient0_18 : decode prog_12_method_21_code 18 = .ok (.iconst 4, 1) := by decide +kernel
theorem d_M_recipient0_19 : decode prog_12_method_21_code 19 = .ok (.if_icmp .ne 7, 3) := by decide +kernel
theorem d_M_recipient0_22 : decode prog_12_method_21_code 22 = .ok (.sipush 452, 3) := by decide +kernel
theorem d_M_recipient0_25 : decode prog_12_method_21_code 25 = .ok (.ireturn, 1) := by decide +kernel
theorem d_M_recipient0_26 : decode prog_12_method_21_code 26 = .ok (.aload_n 0, 1) := by decide +kernel
theorem d_M_recipient0_27 : decode prog_12_method_21_code 27 = .ok (.bipush 9, 2) := by decide +kernel
theorem d_M_recipient0_29 : decode prog_12_method_21_code 29 = .ok (.aload_n 0, 1) := by decide +kernel
theorem d_M_recipient0_30 : decode prog_12_method_21_code 30 = .ok (.getfield 40, 3) := by decide +kernel
theorem d_M_recipient0_33 : decode prog_12_method_21_code 33 = .ok (.bipush 6, 2) := by decide +kernel
theorem d_M_recipient0_35 : decode prog_12_method_21_code 35 = .ok (.iaload, 1) := by decide +kernel
theorem d_M_recipient0_36 : decode prog_12_method_21_code 36 = .ok (.invokevirtual 156, 3) := by decide +kernel
theorem d_M_recipient0_39 : decode prog_12_method_21_code 39 = .ok (.aload_n 0, 1) := by decide +kernel
theorem d_M_recipient0_40 : decode prog_12_method_21_code 40 = .ok (.getfield 40, 3) := by decide +kernel
theorem d_M_recipient0_43 : decode prog_12_method_21_code 43 = .ok (.bipush 6, 2) := by decide +kernel
theorem d_M_recipient0_45 : decode prog_12_method_21_code 45 = .ok (.aload_n 0, 1) := by decide +kernel
theorem d_M_recipient0_46 : decode prog_12_method_21_code 46 = .ok (.getfield 40, 3) := by decide +kernel
theorem d_M_recipient0_49 : decode prog_12_method_21_code 49 = .ok (.bipush 6, 2) := by decide +kernel
theorem d_M_recipient0_51 : decode prog_12_method_21_code 51 = .ok (.iaload, 1) := by decide +kernel
theorem d_M_recipient0_52 : decode prog_12_method_21_code 52 = .ok (.iconst 1, 1) := by decide +kernel
theorem d_M_recipient0_53 : decode prog_12_method_21_code 53 = .ok (.iadd, 1) := by decide +kernel
theorem d_M_recipient0_54 : decode prog_12_method_21_code 54 = .ok (.iastore, 1) := by decide +kernel
theorem d_M_recipient0_55 : decode prog_12_method_21_code 55 = .ok (.sipush 250, 3) := by decide +kernel
theorem d_M_recipient0_58 : decode prog_12_method_21_code 58 = .ok (.ireturn, 1) := by decide +kernel
theorem d_M_breakAfter_0 : decode prog_12_method_25_code 0 = .ok (.aload_n 0, 1) := by decide +kernel
theorem d_M_breakAfter_1 : decode prog_12_method_25_code 1 = .ok (.getfield 7, 3) := by decide +kernel
theorem d_M_breakAfter_4 : decode prog_12_method_25_code 4 = .ok (.ifCond .eq 13, 3) := by decide +kernel
theorem d_M_breakAfter_7 : decode prog_12_method_25_code 7 = .ok (.iload_n 1, 1) := by decide +kernel
theorem d_M_breakAfter_8 : decode prog_12_method_25_code 8 = .ok (.ifCond .lt 9, 3) := by decide +kernel
theorem d_M_breakAfter_11 : decode prog_12_method_25_code 11 = .ok (.iload_n 1, 1) := by decide +kernel
theorem d_M_breakAfter_12 : decode prog_12_method_25_code 12 = .ok (.bipush 20, 2) := by decide +kernel
theorem d_M_breakAfter_14 : decode prog_12_method_25_code 14 = .ok (.if_icmp .le 5, 3) := by decide +kernel
theorem d_M_breakAfter_17 : decode prog_12_method_25_code 17 = .ok (.iconst 0, 1) := by decide +kernel
theorem d_M_breakAfter_18 : decode prog_12_method_25_code 18 = .ok (.ireturn, 1) := by decide +kernel
theorem d_M_breakAfter_19 : decode prog_12_method_25_code 19 = .ok (.aload_n 0, 1) := by decide +kernel
theorem d_M_breakAfter_20 : decode prog_12_method_25_code 20 = .ok (.iload_n 1, 1) := by decide +kernel
theorem d_M_breakAfter_21 : decode prog_12_method_25_code 21 = .ok (.putfield 13, 3) := by decide +kernel
theorem d_M_breakAfter_24 : decode prog_12_method_25_code 24 = .ok (.iconst 1, 1) := by decide +kernel
theorem d_M_breakAfter_25 : decode prog_12_method_25_code 25 = .ok (.ireturn, 1) := by decide +kernel
theorem d_M_restart_0 : decode prog_12_method_26_code 0 = .ok (.aload_n 0, 1) := by decide +kernel
theorem d_M_restart_1 : decode prog_12_method_26_code 1 = .ok (.getfield 7, 3) := by decide +kernel
theorem d_M_restart_4 : decode prog_12_method_26_code 4 = .ok (.ifCond .eq 5, 3) := by decide +kernel
theorem d_M_restart_7 : decode prog_12_method_26_code 7 = .ok (.iconst (-1), 1) := by decide +kernel
theorem d_M_restart_8 : decode prog_12_method_26_code 8 = .ok (.ireturn, 1) := by decide +kernel
theorem d_M_restart_9 : decode prog_12_method_26_code 9 = .ok (.aload_n 0, 1) := by decide +kernel
theorem d_M_restart_10 : decode prog_12_method_26_code 10 = .ok (.iconst 1, 1) := by decide +kernel
theorem d_M_restart_11 : decode prog_12_method_26_code 11 = .ok (.putfield 7, 3) := by decide +kernel
theorem d_M_restart_14 : decode prog_12_method_26_code 14 = .ok (.aload_n 0, 1) := by decide +kernel
theorem d_M_restart_15 : decode prog_12_method_26_code 15 = .ok (.iconst (-1), 1) := by decide +kernel
theorem d_M_restart_16 : decode prog_12_method_26_code 16 = .ok (.putfield 13, 3) := by decide +kernel
theorem d_M_restart_19 : decode prog_12_method_26_code 19 = .ok (.aload_n 0, 1) := by decide +kernel
theorem d_M_restart_20 : decode prog_12_method_26_code 20 = .ok (.iconst 0, 1) := by decide +kernel
theorem d_M_restart_21 : decode prog_12_method_26_code 21 = .ok (.putfield 79, 3) := by decide +kernel
theorem d_M_restart_24 : decode prog_12_method_26_code 24 = .ok (.iconst 0, 1) := by decide +kernel
theorem d_M_restart_25 : decode prog_12_method_26_code 25 = .ok (.istore_n 1, 1) := by decide +kernel
theorem d_M_restart_26 : decode prog_12_method_26_code 26 = .ok (.iload_n 1, 1) := by decide +kernel
theorem d_M_restart_27 : decode prog_12_method_26_code 27 = .ok (.bipush 6, 2) := by decide +kernel
theorem d_M_restart_29 : decode prog_12_method_26_code 29 = .ok (.if_icmp .ge 34, 3) := by decide +kernel
theorem d_M_restart_32 : decode prog_12_method_26_code 32 = .ok (.aload_n 0, 1) := by decide +kernel
theorem d_M_restart_33 : decode prog_12_method_26_code 33 = .ok (.getfield 21, 3) := by decide +kernel
theorem d_M_restart_36 : decode prog_12_method_26_code 36 = .ok (.iload_n 1, 1) := by decide +kernel
theorem d_M_restart_37 : decode prog_12_method_26_code 37 = .ok (.aload_n 0, 1) := by decide +kernel
theorem d_M_restart_38 : decode prog_12_method_26_code 38 = .ok (.getfield 24, 3) := by decide +kernel
theorem d_M_restart_41 : decode prog_12_method_26_code 41 = .ok (.iload_n 1, 1) := by decide +kernel
theorem d_M_restart_42 : decode prog_12_method_26_code 42 = .ok (.baload, 1) := by decide +kernel
theorem d_M_restart_43 : decode prog_12_method_26_code 43 = .ok (.ifCond .eq 12, 3) := by decide +kernel
theorem d_M_restart_46 : decode prog_12_method_26_code 46 = .ok (.aload_n 0, 1) := by decide +kernel
theorem d_M_restart_47 : decode prog_12_method_26_code 47 = .ok (.getfield 21, 3) := by decide +kernel
theorem d_M_restart_50 : decode prog_12_method_26_code 50 = .ok (.iload_n 1, 1) := by decide +kernel
theorem d_M_restart_51 : decode prog_12_method_26_code 51 = .ok (.iaload, 1) := by decide +kernel
theorem d_M_restart_52 : decode prog_12_method_26_code 52 = .ok (.goto 4, 3) := by decide +kernel
theorem d_M_restart_55 : decode prog_12_method_26_code 55 = .ok (.iconst (-1), 1) := by decide +kernel
theorem d_M_restart_56 : decode prog_12_method_26_code 56 = .ok (.iastore, 1) := by decide +kernel
theorem d_M_restart_57 : decode prog_12_method_26_code 57 = .ok (.iinc 1 1, 3) := by decide +kernel
theorem d_M_restart_60 : decode prog_12_method_26_code 60 = .ok (.goto (-34), 3) := by decide +kernel
theorem d_M_restart_63 : decode prog_12_method_26_code 63 = .ok (.aload_n 0, 1) := by decide +kernel
theorem d_M_restart_64 : decode prog_12_method_26_code 64 = .ok (.invokevirtual 171, 3) := by decide +kernel
theorem d_M_restart_67 : decode prog_12_method_26_code 67 = .ok (.ireturn, 1) := by decide +kernel
theorem d_M_letters_0 : decode prog_12_method_51_code 0 = .ok (.iconst 0, 1) := by decide +kernel
theorem d_M_letters_1 : decode prog_12_method_51_code 1 = .ok (.istore_n 1, 1) := by decide +kernel
theorem d_M_letters_2 : decode prog_12_method_51_code 2 = .ok (.iconst 0, 1) := by decide +kernel
theorem d_M_letters_3 : decode prog_12_method_51_code 3 = .ok (.istore_n 2, 1) := by decide +kernel
theorem d_M_letters_4 : decode prog_12_method_51_code 4 = .ok (.iload_n 2, 1) := by decide +kernel
theorem d_M_letters_5 : decode prog_12_method_51_code 5 = .ok (.bipush 6, 2) := by decide +kernel
theorem d_M_letters_7 : decode prog_12_method_51_code 7 = .ok (.if_icmp .ge 25, 3) := by decide +kernel
theorem d_M_letters_10 : decode prog_12_method_51_code 10 = .ok (.aload_n 0, 1) := by decide +kernel
theorem d_M_letters_11 : decode prog_12_method_51_code 11 = .ok (.iload_n 2, 1) := by decide +kernel
theorem d_M_letters_12 : decode prog_12_method_51_code 12 = .ok (.invokevirtual 174, 3) := by decide +kernel
theorem d_M_letters_15 : decode prog_12_method_51_code 15 = .ok (.ifCond .eq 9, 3) := by decide +kernel
theorem d_M_letters_18 : decode prog_12_method_51_code 18 = .ok (.iload_n 1, 1) := by decide +kernel
theorem d_M_letters_19 : decode prog_12_method_51_code 19 = .ok (.iconst 1, 1) := by decide +kernel
theorem d_M_letters_20 : decode prog_12_method_51_code 20 = .ok (.iadd, 1) := by decide +kernel
theorem d_M_letters_21 : decode prog_12_method_51_code 21 = .ok (.goto 4, 3) := by decide +kernel
theorem d_M_letters_24 : decode prog_12_method_51_code 24 = .ok (.iload_n 1, 1) := by decide +kernel
theorem d_M_letters_25 : decode prog_12_method_51_code 25 = .ok (.istore_n 1, 1) := by decide +kernel
theorem d_M_letters_26 : decode prog_12_method_51_code 26 = .ok (.iinc 2 1, 3) := by decide +kernel
theorem d_M_letters_29 : decode prog_12_method_51_code 29 = .ok (.goto (-25), 3) := by decide +kernel
theorem d_M_letters_32 : decode prog_12_method_51_code 32 = .ok (.iload_n 1, 1) := by decide +kernel
theorem d_M_letters_33 : decode prog_12_method_51_code 33 = .ok (.ireturn, 1) := by decide +kernel
theorem d_M_isLetterAt_0 : decode prog_12_method_28_code 0 = .ok (.aload_n 0, 1) := by decide +kernel
theorem d_M_isLetterAt_1 : decode prog_12_method_28_code 1 = .ok (.getfield 21, 3) := by decide +kernel
theorem d_M_isLetterAt_4 : decode prog_12_method_28_code 4 = .ok (.iload_n 1, 1) := by decide +kernel
theorem d_M_isLetterAt_5 : decode prog_12_method_28_code 5 = .ok (.iaload, 1) := by decide +kernel
theorem d_M_isLetterAt_6 : decode prog_12_method_28_code 6 = .ok (.ifCond .lt 16, 3) := by decide +kernel
theorem d_M_isLetterAt_9 : decode prog_12_method_28_code 9 = .ok (.aload_n 0, 1) := by decide +kernel
theorem d_M_isLetterAt_10 : decode prog_12_method_28_code 10 = .ok (.getfield 24, 3) := by decide +kernel
theorem d_M_isLetterAt_13 : decode prog_12_method_28_code 13 = .ok (.iload_n 1, 1) := by decide +kernel
theorem d_M_isLetterAt_14 : decode prog_12_method_28_code 14 = .ok (.baload, 1) := by decide +kernel
theorem d_M_isLetterAt_15 : decode prog_12_method_28_code 15 = .ok (.ifCond .eq 7, 3) := by decide +kernel
theorem d_M_isLetterAt_18 : decode prog_12_method_28_code 18 = .ok (.iconst 1, 1) := by decide +kernel
theorem d_M_isLetterAt_19 : decode prog_12_method_28_code 19 = .ok (.goto 4, 3) := by decide +kernel
theorem d_M_isLetterAt_22 : decode prog_12_method_28_code 22 = .ok (.iconst 0, 1) := by decide +kernel
theorem d_M_isLetterAt_23 : decode prog_12_method_28_code 23 = .ok (.ireturn, 1) := by decide +kernel
theorem d_M_pass_0 : decode prog_12_method_27_code 0 = .ok (.iload_n 1, 1) := by decide +kernel
theorem d_M_pass_1 : decode prog_12_method_27_code 1 = .ok (.ifCond .lt 10, 3) := by decide +kernel
theorem d_M_pass_4 : decode prog_12_method_27_code 4 = .ok (.iload_n 1, 1) := by decide +kernel
theorem d_M_pass_5 : decode prog_12_method_27_code 5 = .ok (.sipush 1000, 3) := by decide +kernel
theorem d_M_pass_8 : decode prog_12_method_27_code 8 = .ok (.if_icmp .le 5, 3) := by decide +kernel
theorem d_M_pass_11 : decode prog_12_method_27_code 11 = .ok (.iconst (-1), 1) := by decide +kernel
theorem d_M_pass_12 : decode prog_12_method_27_code 12 = .ok (.ireturn, 1) := by decide +kernel
theorem d_M_pass_13 : decode prog_12_method_27_code 13 = .ok (.aload_n 0, 1) := by decide +kernel
theorem d_M_pass_14 : decode prog_12_method_27_code 14 = .ok (.aload_n 0, 1) := by decide +kernel
theorem d_M_pass_15 : decode prog_12_method_27_code 15 = .ok (.getfield 105, 3) := by decide +kernel
theorem d_M_pass_18 : decode prog_12_method_27_code 18 = .ok (.iload_n 1, 1) := by decide +kernel
theorem d_M_pass_19 : decode prog_12_method_27_code 19 = .ok (.iadd, 1) := by decide +kernel
theorem d_M_pass_20 : decode prog_12_method_27_code 20 = .ok (.putfield 105, 3) := by decide +kernel
theorem d_M_pass_23 : decode prog_12_method_27_code 23 = .ok (.aload_n 0, 1) := by decide +kernel
theorem d_M_pass_24 : decode prog_12_method_27_code 24 = .ok (.getfield 105, 3) := by decide +kernel
theorem d_M_pass_27 : decode prog_12_method_27_code 27 = .ok (.ireturn, 1) := by decide +kernel
theorem d_M_next_0 : decode prog_12_method_30_code 0 = .ok (.aload_n 0, 1) := by decide +kernel
theorem d_M_next_1 : decode prog_12_method_30_code 1 = .ok (.getfield 7, 3) := by decide +kernel
theorem d_M_next_4 : decode prog_12_method_30_code 4 = .ok (.ifCond .eq 10, 3) := by decide +kernel
theorem d_M_next_7 : decode prog_12_method_30_code 7 = .ok (.aload_n 0, 1) := by decide +kernel
theorem d_M_next_8 : decode prog_12_method_30_code 8 = .ok (.invokevirtual 177, 3) := by decide +kernel
theorem d_M_next_11 : decode prog_12_method_30_code 11 = .ok (.goto 4, 3) := by decide +kernel
theorem d_M_next_14 : decode prog_12_method_30_code 14 = .ok (.iconst (-1), 1) := by decide +kernel
theorem d_M_next_15 : decode prog_12_method_30_code 15 = .ok (.istore_n 1, 1) := by decide +kernel
theorem d_M_next_16 : decode prog_12_method_30_code 16 = .ok (.iload_n 1, 1) := by decide +kernel
theorem d_M_next_17 : decode prog_12_method_30_code 17 = .ok (.ifCond .ge 7, 3) := by decide +kernel
theorem d_M_next_20 : decode prog_12_method_30_code 20 = .ok (.iconst (-1), 1) := by decide +kernel
theorem d_M_next_21 : decode prog_12_method_30_code 21 = .ok (.goto 11, 3) := by decide +kernel
theorem d_M_next_24 : decode prog_12_method_30_code 24 = .ok (.aload_n 0, 1) := by decide +kernel
theorem d_M_next_25 : decode prog_12_method_30_code 25 = .ok (.getfield 21, 3) := by decide +kernel
theorem d_M_next_28 : decode prog_12_method_30_code 28 = .ok (.iload_n 1, 1) := by decide +kernel
theorem d_M_next_29 : decode prog_12_method_30_code 29 = .ok (.iconst 4, 1) := by decide +kernel
theorem d_M_next_30 : decode prog_12_method_30_code 30 = .ok (.idiv, 1) := by decide +kernel
theorem d_M_next_31 : decode prog_12_method_30_code 31 = .ok (.iaload, 1) := by decide +kernel
theorem d_M_next_32 : decode prog_12_method_30_code 32 = .ok (.ireturn, 1) := by decide +kernel
theorem d_M_nextOne_0 : decode prog_12_method_29_code 0 = .ok (.iconst (-1), 1) := by decide +kernel
theorem d_M_nextOne_1 : decode prog_12_method_29_code 1 = .ok (.istore_n 1, 1) := by decide +kernel
theorem d_M_nextOne_2 : decode prog_12_method_29_code 2 = .ok (.iconst 0, 1) := by decide +kernel
theorem d_M_nextOne_3 : decode prog_12_method_29_code 3 = .ok (.istore_n 2, 1) := by decide +kernel
theorem d_M_nextOne_4 : decode prog_12_method_29_code 4 = .ok (.iload_n 2, 1) := by decide +kernel
theorem d_M_nextOne_5 : decode prog_12_method_29_code 5 = .ok (.bipush 24, 2) := by decide +kernel
theorem d_M_nextOne_7 : decode prog_12_method_29_code 7 = .ok (.if_icmp .ge 137, 3) := by decide +kernel
theorem d_M_nextOne_10 : decode prog_12_method_29_code 10 = .ok (.iload_n 2, 1) := by decide +kernel
theorem d_M_nextOne_11 : decode prog_12_method_29_code 11 = .ok (.iconst 4, 1) := by decide +kernel
theorem d_M_nextOne_12 : decode prog_12_method_29_code 12 = .ok (.idiv, 1) := by decide +kernel
theorem d_M_nextOne_13 : decode prog_12_method_29_code 13 = .ok (.istore_n 3, 1) := by decide +kernel
theorem d_M_nextOne_14 : decode prog_12_method_29_code 14 = .ok (.aload_n 0, 1) := by decide +kernel
theorem d_M_nextOne_15 : decode prog_12_method_29_code 15 = .ok (.iload_n 3, 1) := by decide +kernel
theorem d_M_nextOne_16 : decode prog_12_method_29_code 16 = .ok (.invokevirtual 174, 3) := by decide +kernel
theorem d_M_nextOne_19 : decode prog_12_method_29_code 19 = .ok (.ifCond .eq 42, 3) := by decide +kernel
theorem d_M_nextOne_22 : decode prog_12_method_29_code 22 = .ok (.iload_n 2, 1) := by decide +kernel
theorem d_M_nextOne_23 : decode prog_12_method_29_code 23 = .ok (.iconst 4, 1) := by decide +kernel
theorem d_M_nextOne_24 : decode prog_12_method_29_code 24 = .ok (.irem, 1) := by decide +kernel
theorem d_M_nextOne_25 : decode prog_12_method_29_code 25 = .ok (.aload_n 0, 1) := by decide +kernel
theorem d_M_nextOne_26 : decode prog_12_method_29_code 26 = .ok (.getfield 40, 3) := by decide +kernel
theorem d_M_nextOne_29 : decode prog_12_method_29_code 29 = .ok (.iload_n 3, 1) := by decide +kernel
theorem d_M_nextOne_30 : decode prog_12_method_29_code 30 = .ok (.iaload, 1) := by decide +kernel
theorem d_M_nextOne_31 : decode prog_12_method_29_code 31 = .ok (.if_icmp .ge 30, 3) := by decide +kernel
theorem d_M_nextOne_34 : decode prog_12_method_29_code 34 = .ok (.aload_n 0, 1) := by decide +kernel
theorem d_M_nextOne_35 : decode prog_12_method_29_code 35 = .ok (.getfield 43, 3) := by decide +kernel
theorem d_M_nextOne_38 : decode prog_12_method_29_code 38 = .ok (.iload_n 2, 1) := by decide +kernel
theorem d_M_nextOne_39 : decode prog_12_method_29_code 39 = .ok (.iaload, 1) := by decide +kernel
theorem d_M_nextOne_40 : decode prog_12_method_29_code 40 = .ok (.iconst 4, 1) := by decide +kernel
theorem d_M_nextOne_41 : decode prog_12_method_29_code 41 = .ok (.if_icmp .ge 20, 3) := by decide +kernel
theorem d_M_nextOne_44 : decode prog_12_method_29_code 44 = .ok (.aload_n 0, 1) := by decide +kernel
theorem d_M_nextOne_45 : decode prog_12_method_29_code 45 = .ok (.getfield 46, 3) := by decide +kernel
theorem d_M_nextOne_48 : decode prog_12_method_29_code 48 = .ok (.iload_n 2, 1) := by decide +kernel
theorem d_M_nextOne_49 : decode prog_12_method_29_code 49 = .ok (.iaload, 1) := by decide +kernel
theorem d_M_nextOne_50 : decode prog_12_method_29_code 50 = .ok (.aload_n 0, 1) := by decide +kernel
theorem d_M_nextOne_51 : decode prog_12_method_29_code 51 = .ok (.getfield 105, 3) := by decide +kernel
theorem d_M_nextOne_54 : decode prog_12_method_29_code 54 = .ok (.if_icmp .gt 7, 3) := by decide +kernel
theorem d_M_nextOne_57 : decode prog_12_method_29_code 57 = .ok (.iconst 1, 1) := by decide +kernel
theorem d_M_nextOne_58 : decode prog_12_method_29_code 58 = .ok (.goto 4, 3) := by decide +kernel
theorem d_M_nextOne_61 : decode prog_12_method_29_code 61 = .ok (.iconst 0, 1) := by decide +kernel
theorem d_M_nextOne_62 : decode prog_12_method_29_code 62 = .ok (.istore 4, 2) := by decide +kernel
theorem d_M_nextOne_64 : decode prog_12_method_29_code 64 = .ok (.iload 4, 2) := by decide +kernel
theorem d_M_nextOne_66 : decode prog_12_method_29_code 66 = .ok (.ifCond .eq 72, 3) := by decide +kernel
theorem d_M_nextOne_69 : decode prog_12_method_29_code 69 = .ok (.iload_n 1, 1) := by decide +kernel
theorem d_M_nextOne_70 : decode prog_12_method_29_code 70 = .ok (.ifCond .lt 50, 3) := by decide +kernel
theorem d_M_nextOne_73 : decode prog_12_method_29_code 73 = .ok (.aload_n 0, 1) := by decide +kernel
theorem d_M_nextOne_74 : decode prog_12_method_29_code 74 = .ok (.getfield 46, 3) := by decide +kernel
theorem d_M_nextOne_77 : decode prog_12_method_29_code 77 = .ok (.iload_n 2, 1) := by decide +kernel
theorem d_M_nextOne_78 : decode prog_12_method_29_code 78 = .ok (.iaload, 1) := by decide +kernel
theorem d_M_nextOne_79 : decode prog_12_method_29_code 79 = .ok (.aload_n 0, 1) := by decide +kernel
theorem d_M_nextOne_80 : decode prog_12_method_29_code 80 = .ok (.getfield 46, 3) := by decide +kernel
theorem d_M_nextOne_83 : decode prog_12_method_29_code 83 = .ok (.iload_n 1, 1) := by decide +kernel
theorem d_M_nextOne_84 : decode prog_12_method_29_code 84 = .ok (.iaload, 1) := by decide +kernel
theorem d_M_nextOne_85 : decode prog_12_method_29_code 85 = .ok (.if_icmp .lt 35, 3) := by decide +kernel
theorem d_M_nextOne_88 : decode prog_12_method_29_code 88 = .ok (.aload_n 0, 1) := by decide +kernel
theorem d_M_nextOne_89 : decode prog_12_method_29_code 89 = .ok (.getfield 46, 3) := by decide +kernel
theorem d_M_nextOne_92 : decode prog_12_method_29_code 92 = .ok (.iload_n 2, 1) := by decide +kernel
theorem d_M_nextOne_93 : decode prog_12_method_29_code 93 = .ok (.iaload, 1) := by decide +kernel
theorem d_M_nextOne_94 : decode prog_12_method_29_code 94 = .ok (.aload_n 0, 1) := by decide +kernel
theorem d_M_nextOne_95 : decode prog_12_method_29_code 95 = .ok (.getfield 46, 3) := by decide +kernel
theorem d_M_nextOne_98 : decode prog_12_method_29_code 98 = .ok (.iload_n 1, 1) := by decide +kernel
theorem d_M_nextOne_99 : decode prog_12_method_29_code 99 = .ok (.iaload, 1) := by decide +kernel
theorem d_M_nextOne_100 : decode prog_12_method_29_code 100 = .ok (.if_icmp .ne 24, 3) := by decide +kernel
theorem d_M_nextOne_103 : decode prog_12_method_29_code 103 = .ok (.aload_n 0, 1) := by decide +kernel
theorem d_M_nextOne_104 : decode prog_12_method_29_code 104 = .ok (.getfield 21, 3) := by decide +kernel
theorem d_M_nextOne_107 : decode prog_12_method_29_code 107 = .ok (.iload_n 3, 1) := by decide +kernel
theorem d_M_nextOne_108 : decode prog_12_method_29_code 108 = .ok (.iaload, 1) := by decide +kernel
theorem d_M_nextOne_109 : decode prog_12_method_29_code 109 = .ok (.aload_n 0, 1) := by decide +kernel
theorem d_M_nextOne_110 : decode prog_12_method_29_code 110 = .ok (.getfield 21, 3) := by decide +kernel
theorem d_M_nextOne_113 : decode prog_12_method_29_code 113 = .ok (.iload_n 1, 1) := by decide +kernel
theorem d_M_nextOne_114 : decode prog_12_method_29_code 114 = .ok (.iconst 4, 1) := by decide +kernel
theorem d_M_nextOne_115 : decode prog_12_method_29_code 115 = .ok (.idiv, 1) := by decide +kernel
theorem d_M_nextOne_116 : decode prog_12_method_29_code 116 = .ok (.iaload, 1) := by decide +kernel
theorem d_M_nextOne_117 : decode prog_12_method_29_code 117 = .ok (.if_icmp .ge 7, 3) := by decide +kernel
theorem d_M_nextOne_120 : decode prog_12_method_29_code 120 = .ok (.iconst 1, 1) := by decide +kernel
theorem d_M_nextOne_121 : decode prog_12_method_29_code 121 = .ok (.goto 4, 3) := by decide +kernel
theorem d_M_nextOne_124 : decode prog_12_method_29_code 124 = .ok (.iconst 0, 1) := by decide +kernel
theorem d_M_nextOne_125 : decode prog_12_method_29_code 125 = .ok (.istore 5, 2) := by decide +kernel
theorem d_M_nextOne_127 : decode prog_12_method_29_code 127 = .ok (.iload 5, 2) := by decide +kernel
theorem d_M_nextOne_129 : decode prog_12_method_29_code 129 = .ok (.ifCond .eq 7, 3) := by decide +kernel
theorem d_M_nextOne_132 : decode prog_12_method_29_code 132 = .ok (.iload_n 2, 1) := by decide +kernel
theorem d_M_nextOne_133 : decode prog_12_method_29_code 133 = .ok (.goto 4, 3) := by decide +kernel
theorem d_M_nextOne_136 : decode prog_12_method_29_code 136 = .ok (.iload_n 1, 1) := by decide +kernel
theorem d_M_nextOne_137 : decode prog_12_method_29_code 137 = .ok (.istore_n 1, 1) := by decide +kernel
theorem d_M_nextOne_138 : decode prog_12_method_29_code 138 = .ok (.iinc 2 1, 3) := by decide +kernel
theorem d_M_nextOne_141 : decode prog_12_method_29_code 141 = .ok (.goto (-137), 3) := by decide +kernel
theorem d_M_nextOne_144 : decode prog_12_method_29_code 144 = .ok (.iload_n 1, 1) := by decide +kernel
theorem d_M_nextOne_145 : decode prog_12_method_29_code 145 = .ok (.ireturn, 1) := by decide +kernel
theorem d_M_reply_0 : decode prog_12_method_34_code 0 = .ok (.aload_n 0, 1) := by decide +kernel
theorem d_M_reply_1 : decode prog_12_method_34_code 1 = .ok (.getfield 7, 3) := by decide +kernel
theorem d_M_reply_4 : decode prog_12_method_34_code 4 = .ok (.ifCond .eq 10, 3) := by decide +kernel
theorem d_M_reply_7 : decode prog_12_method_34_code 7 = .ok (.aload_n 0, 1) := by decide +kernel
theorem d_M_reply_8 : decode prog_12_method_34_code 8 = .ok (.invokevirtual 177, 3) := by decide +kernel
theorem d_M_reply_11 : decode prog_12_method_34_code 11 = .ok (.goto 4, 3) := by decide +kernel
theorem d_M_reply_14 : decode prog_12_method_34_code 14 = .ok (.iconst (-1), 1) := by decide +kernel
theorem d_M_reply_15 : decode prog_12_method_34_code 15 = .ok (.istore_n 2, 1) := by decide +kernel
theorem d_M_reply_16 : decode prog_12_method_34_code 16 = .ok (.iload_n 2, 1) := by decide +kernel
theorem d_M_reply_17 : decode prog_12_method_34_code 17 = .ok (.ifCond .lt 31, 3) := by decide +kernel
theorem d_M_reply_20 : decode prog_12_method_34_code 20 = .ok (.iload_n 1, 1) := by decide +kernel
theorem d_M_reply_21 : decode prog_12_method_34_code 21 = .ok (.sipush 200, 3) := by decide +kernel
theorem d_M_reply_24 : decode prog_12_method_34_code 24 = .ok (.if_icmp .lt 24, 3) := by decide +kernel
theorem d_M_reply_27 : decode prog_12_method_34_code 27 = .ok (.iload_n 1, 1) := by decide +kernel
theorem d_M_reply_28 : decode prog_12_method_34_code 28 = .ok (.sipush 599, 3) := by decide +kernel
theorem d_M_reply_31 : decode prog_12_method_34_code 31 = .ok (.if_icmp .gt 17, 3) := by decide +kernel
theorem d_M_reply_34 : decode prog_12_method_34_code 34 = .ok (.iload_n 1, 1) := by decide +kernel
theorem d_M_reply_35 : decode prog_12_method_34_code 35 = .ok (.sipush 299, 3) := by decide +kernel
theorem d_M_reply_38 : decode prog_12_method_34_code 38 = .ok (.if_icmp .le 12, 3) := by decide +kernel
theorem d_M_reply_41 : decode prog_12_method_34_code 41 = .ok (.iload_n 1, 1) := by decide +kernel
theorem d_M_reply_42 : decode prog_12_method_34_code 42 = .ok (.sipush 400, 3) := by decide +kernel
theorem d_M_reply_45 : decode prog_12_method_34_code 45 = .ok (.if_icmp .ge 5, 3) := by decide +kernel
theorem d_M_reply_48 : decode prog_12_method_34_code 48 = .ok (.iconst (-1), 1) := by decide +kernel
theorem d_M_reply_49 : decode prog_12_method_34_code 49 = .ok (.ireturn, 1) := by decide +kernel
theorem d_M_reply_50 : decode prog_12_method_34_code 50 = .ok (.iload_n 2, 1) := by decide +kernel
theorem d_M_reply_51 : decode prog_12_method_34_code 51 = .ok (.iconst 4, 1) := by decide +kernel
theorem d_M_reply_52 : decode prog_12_method_34_code 52 = .ok (.idiv, 1) := by decide +kernel
theorem d_M_reply_53 : decode prog_12_method_34_code 53 = .ok (.istore_n 3, 1) := by decide +kernel
theorem d_M_reply_54 : decode prog_12_method_34_code 54 = .ok (.iload_n 1, 1) := by decide +kernel
theorem d_M_reply_55 : decode prog_12_method_34_code 55 = .ok (.sipush 400, 3) := by decide +kernel
theorem d_M_reply_58 : decode prog_12_method_34_code 58 = .ok (.if_icmp .lt 64, 3) := by decide +kernel
theorem d_M_reply_61 : decode prog_12_method_34_code 61 = .ok (.iload_n 1, 1) := by decide +kernel
theorem d_M_reply_62 : decode prog_12_method_34_code 62 = .ok (.sipush 500, 3) := by decide +kernel
theorem d_M_reply_65 : decode prog_12_method_34_code 65 = .ok (.if_icmp .ge 57, 3) := by decide +kernel
theorem d_M_reply_68 : decode prog_12_method_34_code 68 = .ok (.aload_n 0, 1) := by decide +kernel
theorem d_M_reply_69 : decode prog_12_method_34_code 69 = .ok (.getfield 43, 3) := by decide +kernel
theorem d_M_reply_72 : decode prog_12_method_34_code 72 = .ok (.iload_n 2, 1) := by decide +kernel
theorem d_M_reply_73 : decode prog_12_method_34_code 73 = .ok (.iaload, 1) := by decide +kernel
theorem d_M_reply_74 : decode prog_12_method_34_code 74 = .ok (.iconst 3, 1) := by decide +kernel
theorem d_M_reply_75 : decode prog_12_method_34_code 75 = .ok (.if_icmp .ge 47, 3) := by decide +kernel
theorem d_M_reply_78 : decode prog_12_method_34_code 78 = .ok (.aload_n 0, 1) := by decide +kernel
theorem d_M_reply_79 : decode prog_12_method_34_code 79 = .ok (.invokevirtual 97, 3) := by decide +kernel
theorem d_M_reply_82 : decode prog_12_method_34_code 82 = .ok (.ifCond .eq 38, 3) := by decide +kernel
theorem d_M_reply_85 : decode prog_12_method_34_code 85 = .ok (.aload_n 0, 1) := by decide +kernel
theorem d_M_reply_86 : decode prog_12_method_34_code 86 = .ok (.getfield 43, 3) := by decide +kernel
theorem d_M_reply_89 : decode prog_12_method_34_code 89 = .ok (.iload_n 2, 1) := by decide +kernel
theorem d_M_reply_90 : decode prog_12_method_34_code 90 = .ok (.aload_n 0, 1) := by decide +kernel
theorem d_M_reply_91 : decode prog_12_method_34_code 91 = .ok (.getfield 43, 3) := by decide +kernel
theorem d_M_reply_94 : decode prog_12_method_34_code 94 = .ok (.iload_n 2, 1) := by decide +kernel
theorem d_M_reply_95 : decode prog_12_method_34_code 95 = .ok (.iaload, 1) := by decide +kernel
theorem d_M_reply_96 : decode prog_12_method_34_code 96 = .ok (.iconst 1, 1) := by decide +kernel
theorem d_M_reply_97 : decode prog_12_method_34_code 97 = .ok (.iadd, 1) := by decide +kernel
theorem d_M_reply_98 : decode prog_12_method_34_code 98 = .ok (.iastore, 1) := by decide +kernel
theorem d_M_reply_99 : decode prog_12_method_34_code 99 = .ok (.aload_n 0, 1) := by decide +kernel
theorem d_M_reply_100 : decode prog_12_method_34_code 100 = .ok (.getfield 46, 3) := by decide +kernel
theorem d_M_reply_103 : decode prog_12_method_34_code 103 = .ok (.iload_n 2, 1) := by decide +kernel
theorem d_M_reply_104 : decode prog_12_method_34_code 104 = .ok (.aload_n 0, 1) := by decide +kernel
theorem d_M_reply_105 : decode prog_12_method_34_code 105 = .ok (.getfield 105, 3) := by decide +kernel
theorem d_M_reply_108 : decode prog_12_method_34_code 108 = .ok (.iconst 1, 1) := by decide +kernel
theorem d_M_reply_109 : decode prog_12_method_34_code 109 = .ok (.iconst 2, 1) := by decide +kernel
theorem d_M_reply_110 : decode prog_12_method_34_code 110 = .ok (.aload_n 0, 1) := by decide +kernel
theorem d_M_reply_111 : decode prog_12_method_34_code 111 = .ok (.getfield 43, 3) := by decide +kernel
theorem d_M_reply_114 : decode prog_12_method_34_code 114 = .ok (.iload_n 2, 1) := by decide +kernel
theorem d_M_reply_115 : decode prog_12_method_34_code 115 = .ok (.iaload, 1) := by decide +kernel
theorem d_M_reply_116 : decode prog_12_method_34_code 116 = .ok (.imul, 1) := by decide +kernel
theorem d_M_reply_117 : decode prog_12_method_34_code 117 = .ok (.ishl, 1) := by decide +kernel
theorem d_M_reply_118 : decode prog_12_method_34_code 118 = .ok (.iadd, 1) := by decide +kernel
theorem d_M_reply_119 : decode prog_12_method_34_code 119 = .ok (.iastore, 1) := by decide +kernel
theorem d_M_reply_120 : decode prog_12_method_34_code 120 = .ok (.iconst 0, 1) := by decide +kernel
theorem d_M_reply_121 : decode prog_12_method_34_code 121 = .ok (.ireturn, 1) := by decide +kernel
theorem d_M_reply_122 : decode prog_12_method_34_code 122 = .ok (.iload_n 1, 1) := by decide +kernel
theorem d_M_reply_123 : decode prog_12_method_34_code 123 = .ok (.sipush 300, 3) := by decide +kernel
theorem d_M_reply_126 : decode prog_12_method_34_code 126 = .ok (.if_icmp .lt 38, 3) := by decide +kernel
theorem d_M_reply_129 : decode prog_12_method_34_code 129 = .ok (.aload_n 0, 1) := by decide +kernel
theorem d_M_reply_130 : decode prog_12_method_34_code 130 = .ok (.getfield 37, 3) := by decide +kernel
theorem d_M_reply_133 : decode prog_12_method_34_code 133 = .ok (.iconst 5, 1) := by decide +kernel
theorem d_M_reply_134 : decode prog_12_method_34_code 134 = .ok (.iload_n 3, 1) := by decide +kernel
theorem d_M_reply_135 : decode prog_12_method_34_code 135 = .ok (.imul, 1) := by decide +kernel
theorem d_M_reply_136 : decode prog_12_method_34_code 136 = .ok (.iconst 4, 1) := by decide +kernel
theorem d_M_reply_137 : decode prog_12_method_34_code 137 = .ok (.iadd, 1) := by decide +kernel
theorem d_M_reply_138 : decode prog_12_method_34_code 138 = .ok (.iaload, 1) := by decide +kernel
theorem d_M_reply_139 : decode prog_12_method_34_code 139 = .ok (.ifCond .le 25, 3) := by decide +kernel
theorem d_M_reply_142 : decode prog_12_method_34_code 142 = .ok (.aload_n 0, 1) := by decide +kernel
theorem d_M_reply_143 : decode prog_12_method_34_code 143 = .ok (.invokevirtual 153, 3) := by decide +kernel
theorem d_M_reply_146 : decode prog_12_method_34_code 146 = .ok (.bipush 6, 2) := by decide +kernel
theorem d_M_reply_148 : decode prog_12_method_34_code 148 = .ok (.if_icmp .ge 16, 3) := by decide +kernel
theorem d_M_reply_151 : decode prog_12_method_34_code 151 = .ok (.aload_n 0, 1) := by decide +kernel
theorem d_M_reply_152 : decode prog_12_method_34_code 152 = .ok (.iload_n 3, 1) := by decide +kernel
theorem d_M_reply_153 : decode prog_12_method_34_code 153 = .ok (.iload_n 2, 1) := by decide +kernel
theorem d_M_reply_154 : decode prog_12_method_34_code 154 = .ok (.iconst 4, 1) := by decide +kernel
theorem d_M_reply_155 : decode prog_12_method_34_code 155 = .ok (.irem, 1) := by decide +kernel
theorem d_M_reply_156 : decode prog_12_method_34_code 156 = .ok (.invokevirtual 188, 3) := by decide +kernel
theorem d_M_reply_159 : decode prog_12_method_34_code 159 = .ok (.ifCond .ne 5, 3) := by decide +kernel
theorem d_M_reply_162 : decode prog_12_method_34_code 162 = .ok (.iconst 0, 1) := by decide +kernel
theorem d_M_reply_163 : decode prog_12_method_34_code 163 = .ok (.ireturn, 1) := by decide +kernel
theorem d_M_reply_164 : decode prog_12_method_34_code 164 = .ok (.aload_n 0, 1) := by decide +kernel
theorem d_M_reply_165 : decode prog_12_method_34_code 165 = .ok (.invokevirtual 97, 3) := by decide +kernel
theorem d_M_reply_168 : decode prog_12_method_34_code 168 = .ok (.ifCond .ne 5, 3) := by decide +kernel
theorem d_M_reply_171 : decode prog_12_method_34_code 171 = .ok (.iconst 0, 1) := by decide +kernel
theorem d_M_reply_172 : decode prog_12_method_34_code 172 = .ok (.ireturn, 1) := by decide +kernel
theorem d_M_reply_173 : decode prog_12_method_34_code 173 = .ok (.aload_n 0, 1) := by decide +kernel
theorem d_M_reply_174 : decode prog_12_method_34_code 174 = .ok (.getfield 43, 3) := by decide +kernel
theorem d_M_reply_177 : decode prog_12_method_34_code 177 = .ok (.iload_n 2, 1) := by decide +kernel
theorem d_M_reply_178 : decode prog_12_method_34_code 178 = .ok (.iload_n 1, 1) := by decide +kernel
theorem d_M_reply_179 : decode prog_12_method_34_code 179 = .ok (.sipush 300, 3) := by decide +kernel
theorem d_M_reply_182 : decode prog_12_method_34_code 182 = .ok (.if_icmp .ge 8, 3) := by decide +kernel
theorem d_M_reply_185 : decode prog_12_method_34_code 185 = .ok (.bipush 10, 2) := by decide +kernel
theorem d_M_reply_187 : decode prog_12_method_34_code 187 = .ok (.goto 5, 3) := by decide +kernel
theorem d_M_reply_190 : decode prog_12_method_34_code 190 = .ok (.bipush 20, 2) := by decide +kernel
theorem d_M_reply_192 : decode prog_12_method_34_code 192 = .ok (.iastore, 1) := by decide +kernel
theorem d_M_reply_193 : decode prog_12_method_34_code 193 = .ok (.aload_n 0, 1) := by decide +kernel
theorem d_M_reply_194 : decode prog_12_method_34_code 194 = .ok (.iload_n 3, 1) := by decide +kernel
theorem d_M_reply_195 : decode prog_12_method_34_code 195 = .ok (.invokevirtual 191, 3) := by decide +kernel
theorem d_M_reply_198 : decode prog_12_method_34_code 198 = .ok (.iload_n 1, 1) := by decide +kernel
theorem d_M_reply_199 : decode prog_12_method_34_code 199 = .ok (.sipush 300, 3) := by decide +kernel
theorem d_M_reply_202 : decode prog_12_method_34_code 202 = .ok (.if_icmp .ge 7, 3) := by decide +kernel
theorem d_M_reply_205 : decode prog_12_method_34_code 205 = .ok (.iconst 1, 1) := by decide +kernel
theorem d_M_reply_206 : decode prog_12_method_34_code 206 = .ok (.goto 4, 3) := by decide +kernel
theorem d_M_reply_209 : decode prog_12_method_34_code 209 = .ok (.iconst 2, 1) := by decide +kernel
theorem d_M_reply_210 : decode prog_12_method_34_code 210 = .ok (.ireturn, 1) := by decide +kernel
theorem d_M_tell_0 : decode prog_12_method_33_code 0 = .ok (.aload_n 0, 1) := by decide +kernel
theorem d_M_tell_1 : decode prog_12_method_33_code 1 = .ok (.getfield 31, 3) := by decide +kernel
theorem d_M_tell_4 : decode prog_12_method_33_code 4 = .ok (.bipush 7, 2) := by decide +kernel
theorem d_M_tell_6 : decode prog_12_method_33_code 6 = .ok (.iconst 0, 1) := by decide +kernel
theorem d_M_tell_7 : decode prog_12_method_33_code 7 = .ok (.iastore, 1) := by decide +kernel
theorem d_M_tell_8 : decode prog_12_method_33_code 8 = .ok (.aload_n 0, 1) := by decide +kernel
theorem d_M_tell_9 : decode prog_12_method_33_code 9 = .ok (.bipush 7, 2) := by decide +kernel
theorem d_M_tell_11 : decode prog_12_method_33_code 11 = .ok (.bipush 10, 2) := by decide +kernel
theorem d_M_tell_13 : decode prog_12_method_33_code 13 = .ok (.invokevirtual 159, 3) := by decide +kernel
theorem d_M_tell_16 : decode prog_12_method_33_code 16 = .ok (.iconst 0, 1) := by decide +kernel
theorem d_M_tell_17 : decode prog_12_method_33_code 17 = .ok (.istore_n 3, 1) := by decide +kernel
theorem d_M_tell_18 : decode prog_12_method_33_code 18 = .ok (.iload_n 3, 1) := by decide +kernel
theorem d_M_tell_19 : decode prog_12_method_33_code 19 = .ok (.bipush 10, 2) := by decide +kernel
theorem d_M_tell_21 : decode prog_12_method_33_code 21 = .ok (.if_icmp .ge 25, 3) := by decide +kernel
theorem d_M_tell_24 : decode prog_12_method_33_code 24 = .ok (.aload_n 0, 1) := by decide +kernel
theorem d_M_tell_25 : decode prog_12_method_33_code 25 = .ok (.bipush 7, 2) := by decide +kernel
theorem d_M_tell_27 : decode prog_12_method_33_code 27 = .ok (.ldc2_w 180, 3) := by decide +kernel
theorem d_M_tell_30 : decode prog_12_method_33_code 30 = .ok (.ldc2_w 182, 3) := by decide +kernel
theorem d_M_tell_33 : decode prog_12_method_33_code 33 = .ok (.iload_n 3, 1) := by decide +kernel
theorem d_M_tell_34 : decode prog_12_method_33_code 34 = .ok (.invokestatic 184, 3) := by decide +kernel
theorem d_M_tell_37 : decode prog_12_method_33_code 37 = .ok (.invokevirtual 159, 3) := by decide +kernel
theorem d_M_tell_40 : decode prog_12_method_33_code 40 = .ok (.iinc 3 1, 3) := by decide +kernel
theorem d_M_tell_43 : decode prog_12_method_33_code 43 = .ok (.goto (-25), 3) := by decide +kernel
