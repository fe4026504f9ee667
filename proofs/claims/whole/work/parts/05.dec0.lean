theorem d_P_type_0 : decode prog_1_method_2_code 0 = .ok (.lload_n 1, 1) := by decide +kernel
theorem d_P_type_1 : decode prog_1_method_2_code 1 = .ok (.invokestatic 43, 3) := by decide +kernel
theorem d_P_type_4 : decode prog_1_method_2_code 4 = .ok (.istore_n 3, 1) := by decide +kernel
theorem d_P_type_5 : decode prog_1_method_2_code 5 = .ok (.aload_n 0, 1) := by decide +kernel
theorem d_P_type_6 : decode prog_1_method_2_code 6 = .ok (.getfield 28, 3) := by decide +kernel
theorem d_P_type_9 : decode prog_1_method_2_code 9 = .ok (.getfield 47, 3) := by decide +kernel
theorem d_P_type_12 : decode prog_1_method_2_code 12 = .ok (.ifCond .ne 22, 3) := by decide +kernel
theorem d_P_type_15 : decode prog_1_method_2_code 15 = .ok (.iload_n 3, 1) := by decide +kernel
theorem d_P_type_16 : decode prog_1_method_2_code 16 = .ok (.iconst (-1), 1) := by decide +kernel
theorem d_P_type_17 : decode prog_1_method_2_code 17 = .ok (.if_icmp .eq 17, 3) := by decide +kernel
theorem d_P_type_20 : decode prog_1_method_2_code 20 = .ok (.aload_n 0, 1) := by decide +kernel
theorem d_P_type_21 : decode prog_1_method_2_code 21 = .ok (.getfield 14, 3) := by decide +kernel
theorem d_P_type_24 : decode prog_1_method_2_code 24 = .ok (.getfield 51, 3) := by decide +kernel
theorem d_P_type_27 : decode prog_1_method_2_code 27 = .ok (.iload_n 3, 1) := by decide +kernel
theorem d_P_type_28 : decode prog_1_method_2_code 28 = .ok (.iadd, 1) := by decide +kernel
theorem d_P_type_29 : decode prog_1_method_2_code 29 = .ok (.bipush 72, 2) := by decide +kernel
theorem d_P_type_31 : decode prog_1_method_2_code 31 = .ok (.if_icmp .le 5, 3) := by decide +kernel
theorem d_P_type_34 : decode prog_1_method_2_code 34 = .ok (.iconst 0, 1) := by decide +kernel
theorem d_P_type_35 : decode prog_1_method_2_code 35 = .ok (.ireturn, 1) := by decide +kernel
theorem d_P_type_36 : decode prog_1_method_2_code 36 = .ok (.iconst 0, 1) := by decide +kernel
theorem d_P_type_37 : decode prog_1_method_2_code 37 = .ok (.istore 4, 2) := by decide +kernel
theorem d_P_type_39 : decode prog_1_method_2_code 39 = .ok (.iload 4, 2) := by decide +kernel
theorem d_P_type_41 : decode prog_1_method_2_code 41 = .ok (.iload_n 3, 1) := by decide +kernel
theorem d_P_type_42 : decode prog_1_method_2_code 42 = .ok (.if_icmp .ge 23, 3) := by decide +kernel
theorem d_P_type_45 : decode prog_1_method_2_code 45 = .ok (.aload_n 0, 1) := by decide +kernel
theorem d_P_type_46 : decode prog_1_method_2_code 46 = .ok (.getfield 14, 3) := by decide +kernel
theorem d_P_type_49 : decode prog_1_method_2_code 49 = .ok (.lload_n 1, 1) := by decide +kernel
theorem d_P_type_50 : decode prog_1_method_2_code 50 = .ok (.iload 4, 2) := by decide +kernel
theorem d_P_type_52 : decode prog_1_method_2_code 52 = .ok (.invokestatic 54, 3) := by decide +kernel
theorem d_P_type_55 : decode prog_1_method_2_code 55 = .ok (.i2c, 1) := by decide +kernel
theorem d_P_type_56 : decode prog_1_method_2_code 56 = .ok (.invokevirtual 58, 3) := by decide +kernel
theorem d_P_type_59 : decode prog_1_method_2_code 59 = .ok (.iinc 4 1, 3) := by decide +kernel
theorem d_P_type_62 : decode prog_1_method_2_code 62 = .ok (.goto (-23), 3) := by decide +kernel
theorem d_P_type_65 : decode prog_1_method_2_code 65 = .ok (.iconst 1, 1) := by decide +kernel
theorem d_P_type_66 : decode prog_1_method_2_code 66 = .ok (.ireturn, 1) := by decide +kernel
theorem d_P_typedLength_0 : decode prog_1_method_19_code 0 = .ok (.iconst 0, 1) := by decide +kernel
theorem d_P_typedLength_1 : decode prog_1_method_19_code 1 = .ok (.istore_n 2, 1) := by decide +kernel
theorem d_P_typedLength_2 : decode prog_1_method_19_code 2 = .ok (.iload_n 2, 1) := by decide +kernel
theorem d_P_typedLength_3 : decode prog_1_method_19_code 3 = .ok (.bipush 8, 2) := by decide +kernel
theorem d_P_typedLength_5 : decode prog_1_method_19_code 5 = .ok (.if_icmp .ge 35, 3) := by decide +kernel
theorem d_P_typedLength_8 : decode prog_1_method_19_code 8 = .ok (.lload_n 0, 1) := by decide +kernel
theorem d_P_typedLength_9 : decode prog_1_method_19_code 9 = .ok (.iload_n 2, 1) := by decide +kernel
theorem d_P_typedLength_10 : decode prog_1_method_19_code 10 = .ok (.invokestatic 54, 3) := by decide +kernel
theorem d_P_typedLength_13 : decode prog_1_method_19_code 13 = .ok (.istore_n 3, 1) := by decide +kernel
theorem d_P_typedLength_14 : decode prog_1_method_19_code 14 = .ok (.iload_n 3, 1) := by decide +kernel
theorem d_P_typedLength_15 : decode prog_1_method_19_code 15 = .ok (.ifCond .ne 5, 3) := by decide +kernel
theorem d_P_typedLength_18 : decode prog_1_method_19_code 18 = .ok (.iload_n 2, 1) := by decide +kernel
theorem d_P_typedLength_19 : decode prog_1_method_19_code 19 = .ok (.ireturn, 1) := by decide +kernel
theorem d_P_typedLength_20 : decode prog_1_method_19_code 20 = .ok (.iload_n 3, 1) := by decide +kernel
theorem d_P_typedLength_21 : decode prog_1_method_19_code 21 = .ok (.bipush 32, 2) := by decide +kernel
theorem d_P_typedLength_23 : decode prog_1_method_19_code 23 = .ok (.if_icmp .lt 9, 3) := by decide +kernel
theorem d_P_typedLength_26 : decode prog_1_method_19_code 26 = .ok (.iload_n 3, 1) := by decide +kernel
theorem d_P_typedLength_27 : decode prog_1_method_19_code 27 = .ok (.bipush 126, 2) := by decide +kernel
theorem d_P_typedLength_29 : decode prog_1_method_19_code 29 = .ok (.if_icmp .le 5, 3) := by decide +kernel
theorem d_P_typedLength_32 : decode prog_1_method_19_code 32 = .ok (.iconst (-1), 1) := by decide +kernel
theorem d_P_typedLength_33 : decode prog_1_method_19_code 33 = .ok (.ireturn, 1) := by decide +kernel
theorem d_P_typedLength_34 : decode prog_1_method_19_code 34 = .ok (.iinc 2 1, 3) := by decide +kernel
theorem d_P_typedLength_37 : decode prog_1_method_19_code 37 = .ok (.goto (-35), 3) := by decide +kernel
theorem d_P_typedLength_40 : decode prog_1_method_19_code 40 = .ok (.bipush 8, 2) := by decide +kernel
theorem d_P_typedLength_42 : decode prog_1_method_19_code 42 = .ok (.ireturn, 1) := by decide +kernel
theorem d_P_typedCode_0 : decode prog_1_method_18_code 0 = .ok (.lload_n 0, 1) := by decide +kernel
theorem d_P_typedCode_1 : decode prog_1_method_18_code 1 = .ok (.bipush 8, 2) := by decide +kernel
theorem d_P_typedCode_3 : decode prog_1_method_18_code 3 = .ok (.iload_n 2, 1) := by decide +kernel
theorem d_P_typedCode_4 : decode prog_1_method_18_code 4 = .ok (.imul, 1) := by decide +kernel
theorem d_P_typedCode_5 : decode prog_1_method_18_code 5 = .ok (.lushr, 1) := by decide +kernel
theorem d_P_typedCode_6 : decode prog_1_method_18_code 6 = .ok (.ldc2_w 171, 3) := by decide +kernel
theorem d_P_typedCode_9 : decode prog_1_method_18_code 9 = .ok (.land, 1) := by decide +kernel
theorem d_P_typedCode_10 : decode prog_1_method_18_code 10 = .ok (.l2i, 1) := by decide +kernel
theorem d_P_typedCode_11 : decode prog_1_method_18_code 11 = .ok (.ireturn, 1) := by decide +kernel
theorem d_R_add_0 : decode prog_8_method_4_code 0 = .ok (.aload_n 0, 1) := by decide +kernel
theorem d_R_add_1 : decode prog_8_method_4_code 1 = .ok (.getfield 13, 3) := by decide +kernel
theorem d_R_add_4 : decode prog_8_method_4_code 4 = .ok (.aload_n 0, 1) := by decide +kernel
theorem d_R_add_5 : decode prog_8_method_4_code 5 = .ok (.getfield 7, 3) := by decide +kernel
theorem d_R_add_8 : decode prog_8_method_4_code 8 = .ok (.arraylength, 1) := by decide +kernel
theorem d_R_add_9 : decode prog_8_method_4_code 9 = .ok (.if_icmp .ge 23, 3) := by decide +kernel
theorem d_R_add_12 : decode prog_8_method_4_code 12 = .ok (.aload_n 0, 1) := by decide +kernel
theorem d_R_add_13 : decode prog_8_method_4_code 13 = .ok (.getfield 7, 3) := by decide +kernel
theorem d_R_add_16 : decode prog_8_method_4_code 16 = .ok (.aload_n 0, 1) := by decide +kernel
theorem d_R_add_17 : decode prog_8_method_4_code 17 = .ok (.getfield 13, 3) := by decide +kernel
theorem d_R_add_20 : decode prog_8_method_4_code 20 = .ok (.iload_n 1, 1) := by decide +kernel
theorem d_R_add_21 : decode prog_8_method_4_code 21 = .ok (.castore, 1) := by decide +kernel
theorem d_R_add_22 : decode prog_8_method_4_code 22 = .ok (.aload_n 0, 1) := by decide +kernel
theorem d_R_add_23 : decode prog_8_method_4_code 23 = .ok (.dup, 1) := by decide +kernel
theorem d_R_add_24 : decode prog_8_method_4_code 24 = .ok (.getfield 13, 3) := by decide +kernel
theorem d_R_add_27 : decode prog_8_method_4_code 27 = .ok (.iconst 1, 1) := by decide +kernel
theorem d_R_add_28 : decode prog_8_method_4_code 28 = .ok (.iadd, 1) := by decide +kernel
theorem d_R_add_29 : decode prog_8_method_4_code 29 = .ok (.putfield 13, 3) := by decide +kernel
theorem d_R_add_32 : decode prog_8_method_4_code 32 = .ok (.return_, 1) := by decide +kernel
theorem d_P_enter_0 : decode prog_1_method_3_code 0 = .ok (.aload_n 0, 1) := by decide +kernel
theorem d_P_enter_1 : decode prog_1_method_3_code 1 = .ok (.getfield 28, 3) := by decide +kernel
theorem d_P_enter_4 : decode prog_1_method_3_code 4 = .ok (.getfield 47, 3) := by decide +kernel
theorem d_P_enter_7 : decode prog_1_method_3_code 7 = .ok (.ifCond .eq 5, 3) := by decide +kernel
theorem d_P_enter_10 : decode prog_1_method_3_code 10 = .ok (.iconst (-1), 1) := by decide +kernel
theorem d_P_enter_11 : decode prog_1_method_3_code 11 = .ok (.ireturn, 1) := by decide +kernel
theorem d_P_enter_12 : decode prog_1_method_3_code 12 = .ok (.aload_n 0, 1) := by decide +kernel
theorem d_P_enter_13 : decode prog_1_method_3_code 13 = .ok (.getfield 21, 3) := by decide +kernel
theorem d_P_enter_16 : decode prog_1_method_3_code 16 = .ok (.getfield 62, 3) := by decide +kernel
theorem d_P_enter_19 : decode prog_1_method_3_code 19 = .ok (.ifCond .eq 10, 3) := by decide +kernel
theorem d_P_enter_22 : decode prog_1_method_3_code 22 = .ok (.aload_n 0, 1) := by decide +kernel
theorem d_P_enter_23 : decode prog_1_method_3_code 23 = .ok (.invokevirtual 65, 3) := by decide +kernel
theorem d_P_enter_26 : decode prog_1_method_3_code 26 = .ok (.goto 7, 3) := by decide +kernel
theorem d_P_enter_29 : decode prog_1_method_3_code 29 = .ok (.aload_n 0, 1) := by decide +kernel
theorem d_P_enter_30 : decode prog_1_method_3_code 30 = .ok (.invokevirtual 69, 3) := by decide +kernel
theorem d_P_enter_33 : decode prog_1_method_3_code 33 = .ok (.istore_n 1, 1) := by decide +kernel
theorem d_P_enter_34 : decode prog_1_method_3_code 34 = .ok (.aload_n 0, 1) := by decide +kernel
theorem d_P_enter_35 : decode prog_1_method_3_code 35 = .ok (.getfield 14, 3) := by decide +kernel
theorem d_P_enter_38 : decode prog_1_method_3_code 38 = .ok (.invokevirtual 72, 3) := by decide +kernel
theorem d_P_enter_41 : decode prog_1_method_3_code 41 = .ok (.iload_n 1, 1) := by decide +kernel
theorem d_P_enter_42 : decode prog_1_method_3_code 42 = .ok (.ireturn, 1) := by decide +kernel
theorem d_P_takeTextLine_0 : decode prog_1_method_33_code 0 = .ok (.aload_n 0, 1) := by decide +kernel
theorem d_P_takeTextLine_1 : decode prog_1_method_33_code 1 = .ok (.getfield 14, 3) := by decide +kernel
theorem d_P_takeTextLine_4 : decode prog_1_method_33_code 4 = .ok (.iconst 0, 1) := by decide +kernel
theorem d_P_takeTextLine_5 : decode prog_1_method_33_code 5 = .ok (.invokevirtual 137, 3) := by decide +kernel
theorem d_P_takeTextLine_8 : decode prog_1_method_33_code 8 = .ok (.bipush 46, 2) := by decide +kernel
theorem d_P_takeTextLine_10 : decode prog_1_method_33_code 10 = .ok (.if_icmp .ne 7, 3) := by decide +kernel
theorem d_P_takeTextLine_13 : decode prog_1_method_33_code 13 = .ok (.iconst 1, 1) := by decide +kernel
theorem d_P_takeTextLine_14 : decode prog_1_method_33_code 14 = .ok (.goto 4, 3) := by decide +kernel
theorem d_P_takeTextLine_17 : decode prog_1_method_33_code 17 = .ok (.iconst 0, 1) := by decide +kernel
theorem d_P_takeTextLine_18 : decode prog_1_method_33_code 18 = .ok (.istore_n 1, 1) := by decide +kernel
theorem d_P_takeTextLine_19 : decode prog_1_method_33_code 19 = .ok (.iload_n 1, 1) := by decide +kernel
theorem d_P_takeTextLine_20 : decode prog_1_method_33_code 20 = .ok (.ifCond .eq 19, 3) := by decide +kernel
theorem d_P_takeTextLine_23 : decode prog_1_method_33_code 23 = .ok (.aload_n 0, 1) := by decide +kernel
theorem d_P_takeTextLine_24 : decode prog_1_method_33_code 24 = .ok (.getfield 14, 3) := by decide +kernel
theorem d_P_takeTextLine_27 : decode prog_1_method_33_code 27 = .ok (.getfield 51, 3) := by decide +kernel
theorem d_P_takeTextLine_30 : decode prog_1_method_33_code 30 = .ok (.iconst 1, 1) := by decide +kernel
theorem d_P_takeTextLine_31 : decode prog_1_method_33_code 31 = .ok (.if_icmp .ne 8, 3) := by decide +kernel
theorem d_P_takeTextLine_34 : decode prog_1_method_33_code 34 = .ok (.aload_n 0, 1) := by decide +kernel
theorem d_P_takeTextLine_35 : decode prog_1_method_33_code 35 = .ok (.invokevirtual 270, 3) := by decide +kernel
theorem d_P_takeTextLine_38 : decode prog_1_method_33_code 38 = .ok (.ireturn, 1) := by decide +kernel
theorem d_P_takeTextLine_39 : decode prog_1_method_33_code 39 = .ok (.aload_n 0, 1) := by decide +kernel
theorem d_P_takeTextLine_40 : decode prog_1_method_33_code 40 = .ok (.getfield 21, 3) := by decide +kernel
theorem d_P_takeTextLine_43 : decode prog_1_method_33_code 43 = .ok (.aload_n 0, 1) := by decide +kernel
theorem d_P_takeTextLine_44 : decode prog_1_method_33_code 44 = .ok (.getfield 14, 3) := by decide +kernel
theorem d_P_takeTextLine_47 : decode prog_1_method_33_code 47 = .ok (.iload_n 1, 1) := by decide +kernel
theorem d_P_takeTextLine_48 : decode prog_1_method_33_code 48 = .ok (.ifCond .eq 7, 3) := by decide +kernel
theorem d_P_takeTextLine_51 : decode prog_1_method_33_code 51 = .ok (.iconst 1, 1) := by decide +kernel
theorem d_P_takeTextLine_52 : decode prog_1_method_33_code 52 = .ok (.goto 4, 3) := by decide +kernel
theorem d_P_takeTextLine_55 : decode prog_1_method_33_code 55 = .ok (.iconst 0, 1) := by decide +kernel
theorem d_P_takeTextLine_56 : decode prog_1_method_33_code 56 = .ok (.invokevirtual 273, 3) := by decide +kernel
theorem d_P_takeTextLine_59 : decode prog_1_method_33_code 59 = .ok (.iconst 0, 1) := by decide +kernel
theorem d_P_takeTextLine_60 : decode prog_1_method_33_code 60 = .ok (.ireturn, 1) := by decide +kernel
theorem d_R_at_0 : decode prog_8_method_3_code 0 = .ok (.iload_n 1, 1) := by decide +kernel
theorem d_R_at_1 : decode prog_8_method_3_code 1 = .ok (.ifCond .lt 20, 3) := by decide +kernel
theorem d_R_at_4 : decode prog_8_method_3_code 4 = .ok (.iload_n 1, 1) := by decide +kernel
theorem d_R_at_5 : decode prog_8_method_3_code 5 = .ok (.aload_n 0, 1) := by decide +kernel
theorem d_R_at_6 : decode prog_8_method_3_code 6 = .ok (.getfield 13, 3) := by decide +kernel
theorem d_R_at_9 : decode prog_8_method_3_code 9 = .ok (.if_icmp .ge 12, 3) := by decide +kernel
theorem d_R_at_12 : decode prog_8_method_3_code 12 = .ok (.aload_n 0, 1) := by decide +kernel
theorem d_R_at_13 : decode prog_8_method_3_code 13 = .ok (.getfield 7, 3) := by decide +kernel
theorem d_R_at_16 : decode prog_8_method_3_code 16 = .ok (.iload_n 1, 1) := by decide +kernel
theorem d_R_at_17 : decode prog_8_method_3_code 17 = .ok (.caload, 1) := by decide +kernel
theorem d_R_at_18 : decode prog_8_method_3_code 18 = .ok (.goto 4, 3) := by decide +kernel
theorem d_R_at_21 : decode prog_8_method_3_code 21 = .ok (.iconst 0, 1) := by decide +kernel
theorem d_R_at_22 : decode prog_8_method_3_code 22 = .ok (.ireturn, 1) := by decide +kernel
theorem d_P_endText_0 : decode prog_1_method_34_code 0 = .ok (.aload_n 0, 1) := by decide +kernel
theorem d_P_endText_1 : decode prog_1_method_34_code 1 = .ok (.getfield 21, 3) := by decide +kernel
theorem d_P_endText_4 : decode prog_1_method_34_code 4 = .ok (.getfield 266, 3) := by decide +kernel
theorem d_P_endText_7 : decode prog_1_method_34_code 7 = .ok (.ifCond .eq 9, 3) := by decide +kernel
theorem d_P_endText_10 : decode prog_1_method_34_code 10 = .ok (.sipush 552, 3) := by decide +kernel
theorem d_P_endText_13 : decode prog_1_method_34_code 13 = .ok (.goto 23, 3) := by decide +kernel
theorem d_P_endText_16 : decode prog_1_method_34_code 16 = .ok (.aload_n 0, 1) := by decide +kernel
theorem d_P_endText_17 : decode prog_1_method_34_code 17 = .ok (.getfield 28, 3) := by decide +kernel
theorem d_P_endText_20 : decode prog_1_method_34_code 20 = .ok (.invokevirtual 250, 3) := by decide +kernel
theorem d_P_endText_23 : decode prog_1_method_34_code 23 = .ok (.ifCond .eq 9, 3) := by decide +kernel
theorem d_P_endText_26 : decode prog_1_method_34_code 26 = .ok (.sipush 452, 3) := by decide +kernel
theorem d_P_endText_29 : decode prog_1_method_34_code 29 = .ok (.goto 7, 3) := by decide +kernel
theorem d_P_endText_32 : decode prog_1_method_34_code 32 = .ok (.aload_n 0, 1) := by decide +kernel
theorem d_P_endText_33 : decode prog_1_method_34_code 33 = .ok (.invokevirtual 277, 3) := by decide +kernel
theorem d_P_endText_36 : decode prog_1_method_34_code 36 = .ok (.istore_n 1, 1) := by decide +kernel
theorem d_P_endText_37 : decode prog_1_method_34_code 37 = .ok (.aload_n 0, 1) := by decide +kernel
theorem d_P_endText_38 : decode prog_1_method_34_code 38 = .ok (.getfield 21, 3) := by decide +kernel
theorem d_P_endText_41 : decode prog_1_method_34_code 41 = .ok (.invokevirtual 204, 3) := by decide +kernel
theorem d_P_endText_44 : decode prog_1_method_34_code 44 = .ok (.iload_n 1, 1) := by decide +kernel
theorem d_P_endText_45 : decode prog_1_method_34_code 45 = .ok (.ireturn, 1) := by decide +kernel
theorem d_O_isFull_0 : decode prog_10_method_3_code 0 = .ok (.aload_n 0, 1) := by decide +kernel
theorem d_O_isFull_1 : decode prog_10_method_3_code 1 = .ok (.getfield 26, 3) := by decide +kernel
theorem d_O_isFull_4 : decode prog_10_method_3_code 4 = .ok (.bipush 6, 2) := by decide +kernel
theorem d_O_isFull_6 : decode prog_10_method_3_code 6 = .ok (.if_icmp .lt 7, 3) := by decide +kernel
theorem d_O_isFull_9 : decode prog_10_method_3_code 9 = .ok (.iconst 1, 1) := by decide +kernel
theorem d_O_isFull_10 : decode prog_10_method_3_code 10 = .ok (.goto 4, 3) := by decide +kernel
theorem d_O_isFull_13 : decode prog_10_method_3_code 13 = .ok (.iconst 0, 1) := by decide +kernel
theorem d_O_isFull_14 : decode prog_10_method_3_code 14 = .ok (.ireturn, 1) := by decide +kernel
theorem d_P_spoolSession_0 : decode prog_1_method_35_code 0 = .ok (.aload_n 0, 1) := by decide +kernel
theorem d_P_spoolSession_1 : decode prog_1_method_35_code 1 = .ok (.getfield 28, 3) := by decide +kernel
theorem d_P_spoolSession_4 : decode prog_1_method_35_code 4 = .ok (.invokevirtual 280, 3) := by decide +kernel
theorem d_P_spoolSession_7 : decode prog_1_method_35_code 7 = .ok (.astore_n 1, 1) := by decide +kernel
theorem d_P_spoolSession_8 : decode prog_1_method_35_code 8 = .ok (.aload_n 1, 1) := by decide +kernel
theorem d_P_spoolSession_9 : decode prog_1_method_35_code 9 = .ok (.ifnonnull 5, 3) := by decide +kernel
theorem d_P_spoolSession_12 : decode prog_1_method_35_code 12 = .ok (.iconst 0, 1) := by decide +kernel
theorem d_P_spoolSession_13 : decode prog_1_method_35_code 13 = .ok (.ireturn, 1) := by decide +kernel
theorem d_P_spoolSession_14 : decode prog_1_method_35_code 14 = .ok (.aload_n 1, 1) := by decide +kernel
theorem d_P_spoolSession_15 : decode prog_1_method_35_code 15 = .ok (.getfield 141, 3) := by decide +kernel
theorem d_P_spoolSession_18 : decode prog_1_method_35_code 18 = .ok (.aload_n 0, 1) := by decide +kernel
theorem d_P_spoolSession_19 : decode prog_1_method_35_code 19 = .ok (.getfield 21, 3) := by decide +kernel
theorem d_P_spoolSession_22 : decode prog_1_method_35_code 22 = .ok (.getfield 254, 3) := by decide +kernel
theorem d_P_spoolSession_25 : decode prog_1_method_35_code 25 = .ok (.invokevirtual 284, 3) := by decide +kernel
theorem d_P_spoolSession_28 : decode prog_1_method_35_code 28 = .ok (.iconst 0, 1) := by decide +kernel
theorem d_P_spoolSession_29 : decode prog_1_method_35_code 29 = .ok (.istore_n 2, 1) := by decide +kernel
theorem d_P_spoolSession_30 : decode prog_1_method_35_code 30 = .ok (.iload_n 2, 1) := by decide +kernel
theorem d_P_spoolSession_31 : decode prog_1_method_35_code 31 = .ok (.aload_n 0, 1) := by decide +kernel
theorem d_P_spoolSession_32 : decode prog_1_method_35_code 32 = .ok (.getfield 21, 3) := by decide +kernel
theorem d_P_spoolSession_35 : decode prog_1_method_35_code 35 = .ok (.getfield 259, 3) := by decide +kernel
theorem d_P_spoolSession_38 : decode prog_1_method_35_code 38 = .ok (.if_icmp .ge 26, 3) := by decide +kernel
theorem d_P_spoolSession_41 : decode prog_1_method_35_code 41 = .ok (.aload_n 1, 1) := by decide +kernel
theorem d_P_spoolSession_42 : decode prog_1_method_35_code 42 = .ok (.aload_n 0, 1) := by decide +kernel
theorem d_P_spoolSession_43 : decode prog_1_method_35_code 43 = .ok (.getfield 21, 3) := by decide +kernel
theorem d_P_spoolSession_46 : decode prog_1_method_35_code 46 = .ok (.getfield 262, 3) := by decide +kernel
theorem d_P_spoolSession_49 : decode prog_1_method_35_code 49 = .ok (.iload_n 2, 1) := by decide +kernel
theorem d_P_spoolSession_50 : decode prog_1_method_35_code 50 = .ok (.aaload, 1) := by decide +kernel
theorem d_P_spoolSession_51 : decode prog_1_method_35_code 51 = .ok (.aload_n 0, 1) := by decide +kernel
theorem d_P_spoolSession_52 : decode prog_1_method_35_code 52 = .ok (.getfield 39, 3) := by decide +kernel
theorem d_P_spoolSession_55 : decode prog_1_method_35_code 55 = .ok (.invokevirtual 288, 3) := by decide +kernel
theorem d_P_spoolSession_58 : decode prog_1_method_35_code 58 = .ok (.iinc 2 1, 3) := by decide +kernel
theorem d_P_spoolSession_61 : decode prog_1_method_35_code 61 = .ok (.goto (-31), 3) := by decide +kernel
theorem d_P_spoolSession_64 : decode prog_1_method_35_code 64 = .ok (.aload_n 1, 1) := by decide +kernel
theorem d_P_spoolSession_65 : decode prog_1_method_35_code 65 = .ok (.getfield 134, 3) := by decide +kernel
theorem d_P_spoolSession_68 : decode prog_1_method_35_code 68 = .ok (.aload_n 0, 1) := by decide +kernel
theorem d_P_spoolSession_69 : decode prog_1_method_35_code 69 = .ok (.getfield 21, 3) := by decide +kernel
theorem d_P_spoolSession_72 : decode prog_1_method_35_code 72 = .ok (.getfield 269, 3) := by decide +kernel
theorem d_P_spoolSession_75 : decode prog_1_method_35_code 75 = .ok (.invokevirtual 284, 3) := by decide +kernel
theorem d_P_spoolSession_78 : decode prog_1_method_35_code 78 = .ok (.aload_n 0, 1) := by decide +kernel
theorem d_P_spoolSession_79 : decode prog_1_method_35_code 79 = .ok (.getfield 28, 3) := by decide +kernel
theorem d_P_spoolSession_82 : decode prog_1_method_35_code 82 = .ok (.aload_n 1, 1) := by decide +kernel
theorem d_P_spoolSession_83 : decode prog_1_method_35_code 83 = .ok (.invokevirtual 291, 3) := by decide +kernel
theorem d_P_spoolSession_86 : decode prog_1_method_35_code 86 = .ok (.ifCond .eq 9, 3) := by decide +kernel
theorem d_P_spoolSession_89 : decode prog_1_method_35_code 89 = .ok (.sipush 250, 3) := by decide +kernel
theorem d_P_spoolSession_92 : decode prog_1_method_35_code 92 = .ok (.goto 4, 3) := by decide +kernel
theorem d_P_spoolSession_95 : decode prog_1_method_35_code 95 = .ok (.iconst 0, 1) := by decide +kernel
theorem d_P_spoolSession_96 : decode prog_1_method_35_code 96 = .ok (.ireturn, 1) := by decide +kernel
theorem d_O_begin_0 : decode prog_10_method_4_code 0 = .ok (.aload_n 0, 1) := by decide +kernel
theorem d_O_begin_1 : decode prog_10_method_4_code 1 = .ok (.invokevirtual 29, 3) := by decide +kernel
theorem d_O_begin_4 : decode prog_10_method_4_code 4 = .ok (.ifCond .eq 5, 3) := by decide +kernel
theorem d_O_begin_7 : decode prog_10_method_4_code 7 = .ok (.aconst_null, 1) := by decide +kernel
theorem d_O_begin_8 : decode prog_10_method_4_code 8 = .ok (.areturn, 1) := by decide +kernel
theorem d_O_begin_9 : decode prog_10_method_4_code 9 = .ok (.aload_n 0, 1) := by decide +kernel
theorem d_O_begin_10 : decode prog_10_method_4_code 10 = .ok (.getfield 33, 3) := by decide +kernel
theorem d_O_begin_13 : decode prog_10_method_4_code 13 = .ok (.istore_n 1, 1) := by decide +kernel
theorem d_O_begin_14 : decode prog_10_method_4_code 14 = .ok (.aload_n 0, 1) := by decide +kernel
theorem d_O_begin_15 : decode prog_10_method_4_code 15 = .ok (.dup, 1) := by decide +kernel
theorem d_O_begin_16 : decode prog_10_method_4_code 16 = .ok (.getfield 33, 3) := by decide +kernel
theorem d_O_begin_19 : decode prog_10_method_4_code 19 = .ok (.iconst 1, 1) := by decide +kernel
theorem d_O_begin_20 : decode prog_10_method_4_code 20 = .ok (.iadd, 1) := by decide +kernel
theorem d_O_begin_21 : decode prog_10_method_4_code 21 = .ok (.putfield 33, 3) := by decide +kernel
theorem d_O_begin_24 : decode prog_10_method_4_code 24 = .ok (.aload_n 0, 1) := by decide +kernel
theorem d_O_begin_25 : decode prog_10_method_4_code 25 = .ok (.invokevirtual 36, 3) := by decide +kernel
theorem d_O_begin_28 : decode prog_10_method_4_code 28 = .ok (.ifCond .ne 5, 3) := by decide +kernel
theorem d_O_begin_31 : decode prog_10_method_4_code 31 = .ok (.aconst_null, 1) := by decide +kernel
theorem d_O_begin_32 : decode prog_10_method_4_code 32 = .ok (.areturn, 1) := by decide +kernel
theorem d_O_begin_33 : decode prog_10_method_4_code 33 = .ok (.aload_n 0, 1) := by decide +kernel
theorem d_O_begin_34 : decode prog_10_method_4_code 34 = .ok (.getfield 11, 3) := by decide +kernel
theorem d_O_begin_37 : decode prog_10_method_4_code 37 = .ok (.aload_n 0, 1) := by decide +kernel
theorem d_O_begin_38 : decode prog_10_method_4_code 38 = .ok (.getfield 26, 3) := by decide +kernel
theorem d_O_begin_41 : decode prog_10_method_4_code 41 = .ok (.aaload, 1) := by decide +kernel
theorem d_O_begin_42 : decode prog_10_method_4_code 42 = .ok (.astore_n 2, 1) := by decide +kernel
theorem d_O_begin_43 : decode prog_10_method_4_code 43 = .ok (.aload_n 2, 1) := by decide +kernel
theorem d_O_begin_44 : decode prog_10_method_4_code 44 = .ok (.iload_n 1, 1) := by decide +kernel
theorem d_O_begin_45 : decode prog_10_method_4_code 45 = .ok (.invokevirtual 39, 3) := by decide +kernel
theorem d_O_begin_48 : decode prog_10_method_4_code 48 = .ok (.aload_n 0, 1) := by decide +kernel
theorem d_O_begin_49 : decode prog_10_method_4_code 49 = .ok (.dup, 1) := by decide +kernel
theorem d_O_begin_50 : decode prog_10_method_4_code 50 = .ok (.getfield 26, 3) := by decide +kernel
theorem d_O_begin_53 : decode prog_10_method_4_code 53 = .ok (.iconst 1, 1) := by decide +kernel
theorem d_O_begin_54 : decode prog_10_method_4_code 54 = .ok (.iadd, 1) := by decide +kernel
theorem d_O_begin_55 : decode prog_10_method_4_code 55 = .ok (.putfield 26, 3) := by decide +kernel
theorem d_O_begin_58 : decode prog_10_method_4_code 58 = .ok (.aload_n 2, 1) := by decide +kernel
theorem d_O_begin_59 : decode prog_10_method_4_code 59 = .ok (.areturn, 1) := by decide +kernel
theorem d_O_write_0 : decode prog_10_method_2_code 0 = .ok (.aload_n 0, 1) := by decide +kernel
theorem d_O_write_1 : decode prog_10_method_2_code 1 = .ok (.getfield 18, 3) := by decide +kernel
theorem d_O_write_4 : decode prog_10_method_2_code 4 = .ok (.ifCond .ne 10, 3) := by decide +kernel
theorem d_O_write_7 : decode prog_10_method_2_code 7 = .ok (.aload_n 0, 1) := by decide +kernel
theorem d_O_write_8 : decode prog_10_method_2_code 8 = .ok (.iconst 1, 1) := by decide +kernel
theorem d_O_write_9 : decode prog_10_method_2_code 9 = .ok (.putfield 22, 3) := by decide +kernel
theorem d_O_write_12 : decode prog_10_method_2_code 12 = .ok (.iconst 0, 1) := by decide +kernel
theorem d_O_write_13 : decode prog_10_method_2_code 13 = .ok (.ireturn, 1) := by decide +kernel
theorem d_O_write_14 : decode prog_10_method_2_code 14 = .ok (.aload_n 0, 1) := by decide +kernel
theorem d_O_write_15 : decode prog_10_method_2_code 15 = .ok (.getfield 18, 3) := by decide +kernel
theorem d_O_write_18 : decode prog_10_method_2_code 18 = .ok (.ifCond .le 13, 3) := by decide +kernel
theorem d_O_write_21 : decode prog_10_method_2_code 21 = .ok (.aload_n 0, 1) := by decide +kernel
theorem d_O_write_22 : decode prog_10_method_2_code 22 = .ok (.dup, 1) := by decide +kernel
theorem d_O_write_23 : decode prog_10_method_2_code 23 = .ok (.getfield 18, 3) := by decide +kernel
theorem d_O_write_26 : decode prog_10_method_2_code 26 = .ok (.iconst 1, 1) := by decide +kernel
theorem d_O_write_27 : decode prog_10_method_2_code 27 = .ok (.isub, 1) := by decide +kernel
theorem d_O_write_28 : decode prog_10_method_2_code 28 = .ok (.putfield 18, 3) := by decide +kernel
theorem d_O_write_31 : decode prog_10_method_2_code 31 = .ok (.iconst 1, 1) := by decide +kernel
theorem d_O_write_32 : decode prog_10_method_2_code 32 = .ok (.ireturn, 1) := by decide +kernel
theorem d_L_begin_0 : decode prog_5_method_2_code 0 = .ok (.aload_n 0, 1) := by decide +kernel
theorem d_L_begin_1 : decode prog_5_method_2_code 1 = .ok (.iload_n 1, 1) := by decide +kernel
theorem d_L_begin_2 : decode prog_5_method_2_code 2 = .ok (.putfield 30, 3) := by decide +kernel
theorem d_L_begin_5 : decode prog_5_method_2_code 5 = .ok (.aload_n 0, 1) := by decide +kernel
theorem d_L_begin_6 : decode prog_5_method_2_code 6 = .ok (.iconst 0, 1) := by decide +kernel
theorem d_L_begin_7 : decode prog_5_method_2_code 7 = .ok (.putfield 34, 3) := by decide +kernel
theorem d_L_begin_10 : decode prog_5_method_2_code 10 = .ok (.aload_n 0, 1) := by decide +kernel
theorem d_L_begin_11 : decode prog_5_method_2_code 11 = .ok (.iconst 0, 1) := by decide +kernel
theorem d_L_begin_12 : decode prog_5_method_2_code 12 = .ok (.putfield 38, 3) := by decide +kernel
theorem d_L_begin_15 : decode prog_5_method_2_code 15 = .ok (.aload_n 0, 1) := by decide +kernel
theorem d_L_begin_16 : decode prog_5_method_2_code 16 = .ok (.getfield 14, 3) := by decide +kernel
theorem d_L_begin_19 : decode prog_5_method_2_code 19 = .ok (.invokevirtual 41, 3) := by decide +kernel
theorem d_L_begin_22 : decode prog_5_method_2_code 22 = .ok (.aload_n 0, 1) := by decide +kernel
theorem d_L_begin_23 : decode prog_5_method_2_code 23 = .ok (.getfield 27, 3) := by decide +kernel
theorem d_L_begin_26 : decode prog_5_method_2_code 26 = .ok (.invokevirtual 41, 3) := by decide +kernel
theorem d_L_begin_29 : decode prog_5_method_2_code 29 = .ok (.return_, 1) := by decide +kernel
theorem d_R_clear_0 : decode prog_8_method_2_code 0 = .ok (.aload_n 0, 1) := by decide +kernel
theorem d_R_clear_1 : decode prog_8_method_2_code 1 = .ok (.iconst 0, 1) := by decide +kernel
theorem d_R_clear_2 : decode prog_8_method_2_code 2 = .ok (.putfield 13, 3) := by decide +kernel
theorem d_R_clear_5 : decode prog_8_method_2_code 5 = .ok (.return_, 1) := by decide +kernel
theorem d_R_addRow_0 : decode prog_8_method_6_code 0 = .ok (.aload_n 1, 1) := by decide +kernel
theorem d_R_addRow_1 : decode prog_8_method_6_code 1 = .ok (.getfield 13, 3) := by decide +kernel
theorem d_R_addRow_4 : decode prog_8_method_6_code 4 = .ok (.aload_n 0, 1) := by decide +kernel
theorem d_R_addRow_5 : decode prog_8_method_6_code 5 = .ok (.getfield 7, 3) := by decide +kernel
theorem d_R_addRow_8 : decode prog_8_method_6_code 8 = .ok (.arraylength, 1) := by decide +kernel
theorem d_R_addRow_9 : decode prog_8_method_6_code 9 = .ok (.aload_n 0, 1) := by decide +kernel
theorem d_R_addRow_10 : decode prog_8_method_6_code 10 = .ok (.getfield 13, 3) := by decide +kernel
theorem d_R_addRow_13 : decode prog_8_method_6_code 13 = .ok (.isub, 1) := by decide +kernel
theorem d_R_addRow_14 : decode prog_8_method_6_code 14 = .ok (.invokestatic 25, 3) := by decide +kernel
theorem d_R_addRow_17 : decode prog_8_method_6_code 17 = .ok (.istore_n 2, 1) := by decide +kernel
theorem d_R_addRow_18 : decode prog_8_method_6_code 18 = .ok (.aload_n 1, 1) := by decide +kernel
theorem d_R_addRow_19 : decode prog_8_method_6_code 19 = .ok (.getfield 7, 3) := by decide +kernel
theorem d_R_addRow_22 : decode prog_8_method_6_code 22 = .ok (.iconst 0, 1) := by decide +kernel
theorem d_R_addRow_23 : decode prog_8_method_6_code 23 = .ok (.aload_n 0, 1) := by decide +kernel
theorem d_R_addRow_24 : decode prog_8_method_6_code 24 = .ok (.getfield 7, 3) := by decide +kernel
theorem d_R_addRow_27 : decode prog_8_method_6_code 27 = .ok (.aload_n 0, 1) := by decide +kernel
theorem d_R_addRow_28 : decode prog_8_method_6_code 28 = .ok (.getfield 13, 3) := by decide +kernel
theorem d_R_addRow_31 : decode prog_8_method_6_code 31 = .ok (.iload_n 2, 1) := by decide +kernel
theorem d_R_addRow_32 : decode prog_8_method_6_code 32 = .ok (.invokestatic 31, 3) := by decide +kernel
theorem d_R_addRow_35 : decode prog_8_method_6_code 35 = .ok (.aload_n 0, 1) := by decide +kernel
theorem d_R_addRow_36 : decode prog_8_method_6_code 36 = .ok (.dup, 1) := by decide +kernel
theorem d_R_addRow_37 : decode prog_8_method_6_code 37 = .ok (.getfield 13, 3) := by decide +kernel
theorem d_R_addRow_40 : decode prog_8_method_6_code 40 = .ok (.iload_n 2, 1) := by decide +kernel
theorem d_R_addRow_41 : decode prog_8_method_6_code 41 = .ok (.iadd, 1) := by decide +kernel
theorem d_R_addRow_42 : decode prog_8_method_6_code 42 = .ok (.putfield 13, 3) := by decide +kernel
theorem d_R_addRow_45 : decode prog_8_method_6_code 45 = .ok (.return_, 1) := by decide +kernel
theorem d_JM_min_0 : decode prog_14_method_69_code 0 = .ok (.iload_n 0, 1) := by decide +kernel
theorem d_JM_min_1 : decode prog_14_method_69_code 1 = .ok (.iload_n 1, 1) := by decide +kernel
theorem d_JM_min_2 : decode prog_14_method_69_code 2 = .ok (.if_icmp .gt 7, 3) := by decide +kernel
theorem d_JM_min_5 : decode prog_14_method_69_code 5 = .ok (.iload_n 0, 1) := by decide +kernel
theorem d_JM_min_6 : decode prog_14_method_69_code 6 = .ok (.goto 4, 3) := by decide +kernel
theorem d_JM_min_9 : decode prog_14_method_69_code 9 = .ok (.iload_n 1, 1) := by decide +kernel
theorem d_JM_min_10 : decode prog_14_method_69_code 10 = .ok (.ireturn, 1) := by decide +kernel
theorem d_L_address_0 : decode prog_5_method_3_code 0 = .ok (.aload_n 0, 1) := by decide +kernel
theorem d_L_address_1 : decode prog_5_method_3_code 1 = .ok (.getfield 38, 3) := by decide +kernel
theorem d_L_address_4 : decode prog_5_method_3_code 4 = .ok (.iconst 4, 1) := by decide +kernel
theorem d_L_address_5 : decode prog_5_method_3_code 5 = .ok (.if_icmp .ge 53, 3) := by decide +kernel
theorem d_L_address_8 : decode prog_5_method_3_code 8 = .ok (.aload_n 0, 1) := by decide +kernel
theorem d_L_address_9 : decode prog_5_method_3_code 9 = .ok (.getfield 22, 3) := by decide +kernel
theorem d_L_address_12 : decode prog_5_method_3_code 12 = .ok (.aload_n 0, 1) := by decide +kernel
theorem d_L_address_13 : decode prog_5_method_3_code 13 = .ok (.getfield 38, 3) := by decide +kernel
theorem d_L_address_16 : decode prog_5_method_3_code 16 = .ok (.aaload, 1) := by decide +kernel
theorem d_L_address_17 : decode prog_5_method_3_code 17 = .ok (.astore_n 3, 1) := by decide +kernel
theorem d_L_address_18 : decode prog_5_method_3_code 18 = .ok (.aload_n 3, 1) := by decide +kernel
theorem d_L_address_19 : decode prog_5_method_3_code 19 = .ok (.getfield 44, 3) := by decide +kernel
theorem d_L_address_22 : decode prog_5_method_3_code 22 = .ok (.invokevirtual 41, 3) := by decide +kernel
theorem d_L_address_25 : decode prog_5_method_3_code 25 = .ok (.aload_n 3, 1) := by decide +kernel
theorem d_L_address_26 : decode prog_5_method_3_code 26 = .ok (.getfield 44, 3) := by decide +kernel
theorem d_L_address_29 : decode prog_5_method_3_code 29 = .ok (.aload_n 1, 1) := by decide +kernel
theorem d_L_address_30 : decode prog_5_method_3_code 30 = .ok (.invokevirtual 47, 3) := by decide +kernel
theorem d_L_address_33 : decode prog_5_method_3_code 33 = .ok (.aload_n 3, 1) := by decide +kernel
theorem d_L_address_34 : decode prog_5_method_3_code 34 = .ok (.iconst 0, 1) := by decide +kernel
theorem d_L_address_35 : decode prog_5_method_3_code 35 = .ok (.putfield 51, 3) := by decide +kernel
theorem d_L_address_38 : decode prog_5_method_3_code 38 = .ok (.aload_n 3, 1) := by decide +kernel
theorem d_L_address_39 : decode prog_5_method_3_code 39 = .ok (.iconst 0, 1) := by decide +kernel
theorem d_L_address_40 : decode prog_5_method_3_code 40 = .ok (.putfield 54, 3) := by decide +kernel
theorem d_L_address_43 : decode prog_5_method_3_code 43 = .ok (.aload_n 3, 1) := by decide +kernel
theorem d_L_address_44 : decode prog_5_method_3_code 44 = .ok (.iload_n 2, 1) := by decide +kernel
theorem d_L_address_45 : decode prog_5_method_3_code 45 = .ok (.putfield 57, 3) := by decide +kernel
theorem d_L_address_48 : decode prog_5_method_3_code 48 = .ok (.aload_n 0, 1) := by decide +kernel
theorem d_L_address_49 : decode prog_5_method_3_code 49 = .ok (.dup, 1) := by decide +kernel
theorem d_L_address_50 : decode prog_5_method_3_code 50 = .ok (.getfield 38, 3) := by decide +kernel
theorem d_L_address_53 : decode prog_5_method_3_code 53 = .ok (.iconst 1, 1) := by decide +kernel
theorem d_L_address_54 : decode prog_5_method_3_code 54 = .ok (.iadd, 1) := by decide +kernel
theorem d_L_address_55 : decode prog_5_method_3_code 55 = .ok (.putfield 38, 3) := by decide +kernel
theorem d_L_address_58 : decode prog_5_method_3_code 58 = .ok (.return_, 1) := by decide +kernel
theorem d_O_seal_0 : decode prog_10_method_5_code 0 = .ok (.aload_n 1, 1) := by decide +kernel
theorem d_O_seal_1 : decode prog_10_method_5_code 1 = .ok (.aload_n 0, 1) := by decide +kernel
theorem d_O_seal_2 : decode prog_10_method_5_code 2 = .ok (.invokevirtual 36, 3) := by decide +kernel
theorem d_O_seal_5 : decode prog_10_method_5_code 5 = .ok (.putfield 43, 3) := by decide +kernel
theorem d_O_seal_8 : decode prog_10_method_5_code 8 = .ok (.aload_n 1, 1) := by decide +kernel
theorem d_O_seal_9 : decode prog_10_method_5_code 9 = .ok (.getfield 43, 3) := by decide +kernel
theorem d_O_seal_12 : decode prog_10_method_5_code 12 = .ok (.ireturn, 1) := by decide +kernel
theorem d_S_endTransaction_0 : decode prog_9_method_3_code 0 = .ok (.aload_n 0, 1) := by decide +kernel
theorem d_S_endTransaction_1 : decode prog_9_method_3_code 1 = .ok (.iconst 0, 1) := by decide +kernel
theorem d_S_endTransaction_2 : decode prog_9_method_3_code 2 = .ok (.putfield 34, 3) := by decide +kernel
theorem d_S_endTransaction_5 : decode prog_9_method_3_code 5 = .ok (.aload_n 0, 1) := by decide +kernel
theorem d_S_endTransaction_6 : decode prog_9_method_3_code 6 = .ok (.iconst 0, 1) := by decide +kernel
theorem d_S_endTransaction_7 : decode prog_9_method_3_code 7 = .ok (.putfield 37, 3) := by decide +kernel
theorem d_S_endTransaction_10 : decode prog_9_method_3_code 10 = .ok (.aload_n 0, 1) := by decide +kernel
theorem d_S_endTransaction_11 : decode prog_9_method_3_code 11 = .ok (.iconst 0, 1) := by decide +kernel
theorem d_S_endTransaction_12 : decode prog_9_method_3_code 12 = .ok (.putfield 40, 3) := by decide +kernel
theorem d_S_endTransaction_15 : decode prog_9_method_3_code 15 = .ok (.return_, 1) := by decide +kernel
theorem d_S_addTextLine_0 : decode prog_9_method_4_code 0 = .ok (.aload_n 0, 1) := by decide +kernel
theorem d_S_addTextLine_1 : decode prog_9_method_4_code 1 = .ok (.getfield 24, 3) := by decide +kernel
theorem d_S_addTextLine_4 : decode prog_9_method_4_code 4 = .ok (.getfield 44, 3) := by decide +kernel
theorem d_S_addTextLine_7 : decode prog_9_method_4_code 7 = .ok (.aload_n 1, 1) := by decide +kernel
theorem d_S_addTextLine_8 : decode prog_9_method_4_code 8 = .ok (.getfield 44, 3) := by decide +kernel
theorem d_S_addTextLine_11 : decode prog_9_method_4_code 11 = .ok (.iadd, 1) := by decide +kernel
theorem d_S_addTextLine_12 : decode prog_9_method_4_code 12 = .ok (.iload_n 2, 1) := by decide +kernel
theorem d_S_addTextLine_13 : decode prog_9_method_4_code 13 = .ok (.isub, 1) := by decide +kernel
theorem d_S_addTextLine_14 : decode prog_9_method_4_code 14 = .ok (.iconst 1, 1) := by decide +kernel
theorem d_S_addTextLine_15 : decode prog_9_method_4_code 15 = .ok (.iadd, 1) := by decide +kernel
theorem d_S_addTextLine_16 : decode prog_9_method_4_code 16 = .ok (.sipush 600, 3) := by decide +kernel
theorem d_S_addTextLine_19 : decode prog_9_method_4_code 19 = .ok (.if_icmp .le 8, 3) := by decide +kernel
theorem d_S_addTextLine_22 : decode prog_9_method_4_code 22 = .ok (.aload_n 0, 1) := by decide +kernel
theorem d_S_addTextLine_23 : decode prog_9_method_4_code 23 = .ok (.iconst 1, 1) := by decide +kernel
theorem d_S_addTextLine_24 : decode prog_9_method_4_code 24 = .ok (.putfield 47, 3) := by decide +kernel
theorem d_S_addTextLine_27 : decode prog_9_method_4_code 27 = .ok (.aload_n 0, 1) := by decide +kernel
theorem d_S_addTextLine_28 : decode prog_9_method_4_code 28 = .ok (.getfield 47, 3) := by decide +kernel
theorem d_S_addTextLine_31 : decode prog_9_method_4_code 31 = .ok (.ifCond .ne 25, 3) := by decide +kernel
theorem d_S_addTextLine_34 : decode prog_9_method_4_code 34 = .ok (.aload_n 0, 1) := by decide +kernel
theorem d_S_addTextLine_35 : decode prog_9_method_4_code 35 = .ok (.getfield 24, 3) := by decide +kernel
theorem d_S_addTextLine_38 : decode prog_9_method_4_code 38 = .ok (.aload_n 1, 1) := by decide +kernel
theorem d_S_addTextLine_39 : decode prog_9_method_4_code 39 = .ok (.iload_n 2, 1) := by decide +kernel
theorem d_S_addTextLine_40 : decode prog_9_method_4_code 40 = .ok (.aload_n 1, 1) := by decide +kernel
theorem d_S_addTextLine_41 : decode prog_9_method_4_code 41 = .ok (.getfield 44, 3) := by decide +kernel
theorem d_S_addTextLine_44 : decode prog_9_method_4_code 44 = .ok (.invokevirtual 50, 3) := by decide +kernel
theorem d_S_addTextLine_47 : decode prog_9_method_4_code 47 = .ok (.aload_n 0, 1) := by decide +kernel
theorem d_S_addTextLine_48 : decode prog_9_method_4_code 48 = .ok (.getfield 24, 3) := by decide +kernel
theorem d_S_addTextLine_51 : decode prog_9_method_4_code 51 = .ok (.bipush 10, 2) := by decide +kernel
theorem d_S_addTextLine_53 : decode prog_9_method_4_code 53 = .ok (.invokevirtual 54, 3) := by decide +kernel
theorem d_S_addTextLine_56 : decode prog_9_method_4_code 56 = .ok (.return_, 1) := by decide +kernel
theorem d_R_addPiece_0 : decode prog_8_method_5_code 0 = .ok (.iload_n 2, 1) := by decide +kernel
theorem d_R_addPiece_1 : decode prog_8_method_5_code 1 = .ok (.istore 4, 2) := by decide +kernel
theorem d_R_addPiece_3 : decode prog_8_method_5_code 3 = .ok (.iload 4, 2) := by decide +kernel
theorem d_R_addPiece_5 : decode prog_8_method_5_code 5 = .ok (.iload_n 3, 1) := by decide +kernel
theorem d_R_addPiece_6 : decode prog_8_method_5_code 6 = .ok (.if_icmp .ge 19, 3) := by decide +kernel
theorem d_R_addPiece_9 : decode prog_8_method_5_code 9 = .ok (.aload_n 0, 1) := by decide +kernel
theorem d_R_addPiece_10 : decode prog_8_method_5_code 10 = .ok (.aload_n 1, 1) := by decide +kernel
theorem d_R_addPiece_11 : decode prog_8_method_5_code 11 = .ok (.iload 4, 2) := by decide +kernel
theorem d_R_addPiece_13 : decode prog_8_method_5_code 13 = .ok (.invokevirtual 17, 3) := by decide +kernel
theorem d_R_addPiece_16 : decode prog_8_method_5_code 16 = .ok (.invokevirtual 21, 3) := by decide +kernel
theorem d_R_addPiece_19 : decode prog_8_method_5_code 19 = .ok (.iinc 4 1, 3) := by decide +kernel
theorem d_R_addPiece_22 : decode prog_8_method_5_code 22 = .ok (.goto (-19), 3) := by decide +kernel
theorem d_R_addPiece_25 : decode prog_8_method_5_code 25 = .ok (.return_, 1) := by decide +kernel
theorem d_P_obey_0 : decode prog_1_method_22_code 0 = .ok (.aload_n 0, 1) := by decide +kernel
theorem d_P_obey_1 : decode prog_1_method_22_code 1 = .ok (.invokevirtual 173, 3) := by decide +kernel
theorem d_P_obey_4 : decode prog_1_method_22_code 4 = .ok (.astore_n 1, 1) := by decide +kernel
theorem d_P_obey_5 : decode prog_1_method_22_code 5 = .ok (.aload_n 1, 1) := by decide +kernel
theorem d_P_obey_6 : decode prog_1_method_22_code 6 = .ok (.ifnonnull 7, 3) := by decide +kernel
theorem d_P_obey_9 : decode prog_1_method_22_code 9 = .ok (.sipush 500, 3) := by decide +kernel
theorem d_P_obey_12 : decode prog_1_method_22_code 12 = .ok (.ireturn, 1) := by decide +kernel
theorem d_P_obey_13 : decode prog_1_method_22_code 13 = .ok (.aload_n 0, 1) := by decide +kernel
theorem d_P_obey_14 : decode prog_1_method_22_code 14 = .ok (.aload_n 1, 1) := by decide +kernel
theorem d_P_obey_15 : decode prog_1_method_22_code 15 = .ok (.invokevirtual 177, 3) := by decide +kernel
theorem d_P_obey_18 : decode prog_1_method_22_code 18 = .ok (.ifCond .ne 7, 3) := by decide +kernel
theorem d_P_obey_21 : decode prog_1_method_22_code 21 = .ok (.sipush 501, 3) := by decide +kernel
theorem d_P_obey_24 : decode prog_1_method_22_code 24 = .ok (.ireturn, 1) := by decide +kernel
theorem d_P_obey_25 : decode prog_1_method_22_code 25 = .ok (.getstatic 181, 3) := by decide +kernel
theorem d_P_obey_28 : decode prog_1_method_22_code 28 = .ok (.aload_n 1, 1) := by decide +kernel
theorem d_P_obey_29 : decode prog_1_method_22_code 29 = .ok (.invokevirtual 187, 3) := by decide +kernel
theorem d_P_obey_32 : decode prog_1_method_22_code 32 = .ok (.iaload, 1) := by decide +kernel
theorem d_P_obey_33 : decode prog_1_method_22_code 33 = .ok (.tableswitch 85 1 7 #[43, 43, 48, 53, 58, 63, 74], 43) := by decide +kernel
theorem d_P_obey_76 : decode prog_1_method_22_code 76 = .ok (.aload_n 0, 1) := by decide +kernel
theorem d_P_obey_77 : decode prog_1_method_22_code 77 = .ok (.invokevirtual 192, 3) := by decide +kernel
theorem d_P_obey_80 : decode prog_1_method_22_code 80 = .ok (.ireturn, 1) := by decide +kernel
theorem d_P_obey_81 : decode prog_1_method_22_code 81 = .ok (.aload_n 0, 1) := by decide +kernel
theorem d_P_obey_82 : decode prog_1_method_22_code 82 = .ok (.invokevirtual 195, 3) := by decide +kernel
theorem d_P_obey_85 : decode prog_1_method_22_code 85 = .ok (.ireturn, 1) := by decide +kernel
theorem d_P_obey_86 : decode prog_1_method_22_code 86 = .ok (.aload_n 0, 1) := by decide +kernel
theorem d_P_obey_87 : decode prog_1_method_22_code 87 = .ok (.invokevirtual 198, 3) := by decide +kernel
theorem d_P_obey_90 : decode prog_1_method_22_code 90 = .ok (.ireturn, 1) := by decide +kernel
theorem d_P_obey_91 : decode prog_1_method_22_code 91 = .ok (.aload_n 0, 1) := by decide +kernel
theorem d_P_obey_92 : decode prog_1_method_22_code 92 = .ok (.invokevirtual 201, 3) := by decide +kernel
theorem d_P_obey_95 : decode prog_1_method_22_code 95 = .ok (.ireturn, 1) := by decide +kernel
theorem d_P_obey_96 : decode prog_1_method_22_code 96 = .ok (.aload_n 0, 1) := by decide +kernel
theorem d_P_obey_97 : decode prog_1_method_22_code 97 = .ok (.getfield 21, 3) := by decide +kernel
theorem d_P_obey_100 : decode prog_1_method_22_code 100 = .ok (.invokevirtual 204, 3) := by decide +kernel
theorem d_P_obey_103 : decode prog_1_method_22_code 103 = .ok (.sipush 250, 3) := by decide +kernel
theorem d_P_obey_106 : decode prog_1_method_22_code 106 = .ok (.ireturn, 1) := by decide +kernel
theorem d_P_obey_107 : decode prog_1_method_22_code 107 = .ok (.aload_n 0, 1) := by decide +kernel
theorem d_P_obey_108 : decode prog_1_method_22_code 108 = .ok (.getfield 21, 3) := by decide +kernel
theorem d_P_obey_111 : decode prog_1_method_22_code 111 = .ok (.invokevirtual 81, 3) := by decide +kernel
theorem d_P_obey_114 : decode prog_1_method_22_code 114 = .ok (.sipush 221, 3) := by decide +kernel
theorem d_P_obey_117 : decode prog_1_method_22_code 117 = .ok (.ireturn, 1) := by decide +kernel
theorem d_P_obey_118 : decode prog_1_method_22_code 118 = .ok (.sipush 250, 3) := by decide +kernel
theorem d_P_obey_121 : decode prog_1_method_22_code 121 = .ok (.ireturn, 1) := by decide +kernel
theorem d_P_commandOfLine_0 : decode prog_1_method_23_code 0 = .ok (.aload_n 0, 1) := by decide +kernel
theorem d_P_commandOfLine_1 : decode prog_1_method_23_code 1 = .ok (.getfield 14, 3) := by decide +kernel
theorem d_P_commandOfLine_4 : decode prog_1_method_23_code 4 = .ok (.getfield 51, 3) := by decide +kernel
theorem d_P_commandOfLine_7 : decode prog_1_method_23_code 7 = .ok (.iconst 4, 1) := by decide +kernel
theorem d_P_commandOfLine_8 : decode prog_1_method_23_code 8 = .ok (.if_icmp .le 18, 3) := by decide +kernel
theorem d_P_commandOfLine_11 : decode prog_1_method_23_code 11 = .ok (.aload_n 0, 1) := by decide +kernel
theorem d_P_commandOfLine_12 : decode prog_1_method_23_code 12 = .ok (.getfield 14, 3) := by decide +kernel
theorem d_P_commandOfLine_15 : decode prog_1_method_23_code 15 = .ok (.iconst 4, 1) := by decide +kernel
theorem d_P_commandOfLine_16 : decode prog_1_method_23_code 16 = .ok (.invokevirtual 137, 3) := by decide +kernel
theorem d_P_commandOfLine_19 : decode prog_1_method_23_code 19 = .ok (.bipush 32, 2) := by decide +kernel
theorem d_P_commandOfLine_21 : decode prog_1_method_23_code 21 = .ok (.if_icmp .eq 5, 3) := by decide +kernel
theorem d_P_commandOfLine_24 : decode prog_1_method_23_code 24 = .ok (.aconst_null, 1) := by decide +kernel
theorem d_P_commandOfLine_25 : decode prog_1_method_23_code 25 = .ok (.areturn, 1) := by decide +kernel
theorem d_P_commandOfLine_26 : decode prog_1_method_23_code 26 = .ok (.iconst 0, 1) := by decide +kernel
theorem d_P_commandOfLine_27 : decode prog_1_method_23_code 27 = .ok (.istore_n 1, 1) := by decide +kernel
theorem d_P_commandOfLine_28 : decode prog_1_method_23_code 28 = .ok (.iload_n 1, 1) := by decide +kernel
theorem d_P_commandOfLine_29 : decode prog_1_method_23_code 29 = .ok (.getstatic 207, 3) := by decide +kernel
theorem d_P_commandOfLine_32 : decode prog_1_method_23_code 32 = .ok (.arraylength, 1) := by decide +kernel
theorem d_P_commandOfLine_33 : decode prog_1_method_23_code 33 = .ok (.if_icmp .ge 34, 3) := by decide +kernel
theorem d_P_commandOfLine_36 : decode prog_1_method_23_code 36 = .ok (.aload_n 0, 1) := by decide +kernel
theorem d_P_commandOfLine_37 : decode prog_1_method_23_code 37 = .ok (.getfield 14, 3) := by decide +kernel
theorem d_P_commandOfLine_40 : decode prog_1_method_23_code 40 = .ok (.iconst 0, 1) := by decide +kernel
theorem d_P_commandOfLine_41 : decode prog_1_method_23_code 41 = .ok (.getstatic 207, 3) := by decide +kernel
theorem d_P_commandOfLine_44 : decode prog_1_method_23_code 44 = .ok (.iload_n 1, 1) := by decide +kernel
theorem d_P_commandOfLine_45 : decode prog_1_method_23_code 45 = .ok (.aaload, 1) := by decide +kernel
theorem d_P_commandOfLine_46 : decode prog_1_method_23_code 46 = .ok (.getfield 211, 3) := by decide +kernel
theorem d_P_commandOfLine_49 : decode prog_1_method_23_code 49 = .ok (.invokevirtual 215, 3) := by decide +kernel
theorem d_P_commandOfLine_52 : decode prog_1_method_23_code 52 = .ok (.ifCond .eq 9, 3) := by decide +kernel
theorem d_P_commandOfLine_55 : decode prog_1_method_23_code 55 = .ok (.getstatic 207, 3) := by decide +kernel
theorem d_P_commandOfLine_58 : decode prog_1_method_23_code 58 = .ok (.iload_n 1, 1) := by decide +kernel
theorem d_P_commandOfLine_59 : decode prog_1_method_23_code 59 = .ok (.aaload, 1) := by decide +kernel
theorem d_P_commandOfLine_60 : decode prog_1_method_23_code 60 = .ok (.areturn, 1) := by decide +kernel
theorem d_P_commandOfLine_61 : decode prog_1_method_23_code 61 = .ok (.iinc 1 1, 3) := by decide +kernel
theorem d_P_commandOfLine_64 : decode prog_1_method_23_code 64 = .ok (.goto (-36), 3) := by decide +kernel
theorem d_P_commandOfLine_67 : decode prog_1_method_23_code 67 = .ok (.aconst_null, 1) := by decide +kernel
theorem d_P_commandOfLine_68 : decode prog_1_method_23_code 68 = .ok (.areturn, 1) := by decide +kernel
theorem d_R_matches_0 : decode prog_8_method_8_code 0 = .ok (.iload_n 1, 1) := by decide +kernel
theorem d_R_matches_1 : decode prog_8_method_8_code 1 = .ok (.ifCond .lt 16, 3) := by decide +kernel
theorem d_R_matches_4 : decode prog_8_method_8_code 4 = .ok (.iload_n 1, 1) := by decide +kernel
theorem d_R_matches_5 : decode prog_8_method_8_code 5 = .ok (.aload_n 0, 1) := by decide +kernel
theorem d_R_matches_6 : decode prog_8_method_8_code 6 = .ok (.getfield 13, 3) := by decide +kernel
theorem d_R_matches_9 : decode prog_8_method_8_code 9 = .ok (.aload_n 2, 1) := by decide +kernel
theorem d_R_matches_10 : decode prog_8_method_8_code 10 = .ok (.invokevirtual 37, 3) := by decide +kernel
theorem d_R_matches_13 : decode prog_8_method_8_code 13 = .ok (.isub, 1) := by decide +kernel
theorem d_R_matches_14 : decode prog_8_method_8_code 14 = .ok (.if_icmp .le 5, 3) := by decide +kernel
theorem d_R_matches_17 : decode prog_8_method_8_code 17 = .ok (.iconst 0, 1) := by decide +kernel
theorem d_R_matches_18 : decode prog_8_method_8_code 18 = .ok (.ireturn, 1) := by decide +kernel
theorem d_R_matches_19 : decode prog_8_method_8_code 19 = .ok (.iconst 0, 1) := by decide +kernel
theorem d_R_matches_20 : decode prog_8_method_8_code 20 = .ok (.istore_n 3, 1) := by decide +kernel
theorem d_R_matches_21 : decode prog_8_method_8_code 21 = .ok (.iload_n 3, 1) := by decide +kernel
theorem d_R_matches_22 : decode prog_8_method_8_code 22 = .ok (.aload_n 2, 1) := by decide +kernel
theorem d_R_matches_23 : decode prog_8_method_8_code 23 = .ok (.invokevirtual 37, 3) := by decide +kernel
theorem d_R_matches_26 : decode prog_8_method_8_code 26 = .ok (.if_icmp .ge 30, 3) := by decide +kernel
theorem d_R_matches_29 : decode prog_8_method_8_code 29 = .ok (.aload_n 0, 1) := by decide +kernel
theorem d_R_matches_30 : decode prog_8_method_8_code 30 = .ok (.getfield 7, 3) := by decide +kernel
theorem d_R_matches_33 : decode prog_8_method_8_code 33 = .ok (.iload_n 1, 1) := by decide +kernel
theorem d_R_matches_34 : decode prog_8_method_8_code 34 = .ok (.iload_n 3, 1) := by decide +kernel
theorem d_R_matches_35 : decode prog_8_method_8_code 35 = .ok (.iadd, 1) := by decide +kernel
theorem d_R_matches_36 : decode prog_8_method_8_code 36 = .ok (.caload, 1) := by decide +kernel
theorem d_R_matches_37 : decode prog_8_method_8_code 37 = .ok (.invokestatic 45, 3) := by decide +kernel
theorem d_R_matches_40 : decode prog_8_method_8_code 40 = .ok (.aload_n 2, 1) := by decide +kernel
theorem d_R_matches_41 : decode prog_8_method_8_code 41 = .ok (.iload_n 3, 1) := by decide +kernel
theorem d_R_matches_42 : decode prog_8_method_8_code 42 = .ok (.invokevirtual 42, 3) := by decide +kernel
theorem d_R_matches_45 : decode prog_8_method_8_code 45 = .ok (.if_icmp .eq 5, 3) := by decide +kernel
theorem d_R_matches_48 : decode prog_8_method_8_code 48 = .ok (.iconst 0, 1) := by decide +kernel
theorem d_R_matches_49 : decode prog_8_method_8_code 49 = .ok (.ireturn, 1) := by decide +kernel
theorem d_R_matches_50 : decode prog_8_method_8_code 50 = .ok (.iinc 3 1, 3) := by decide +kernel
theorem d_R_matches_53 : decode prog_8_method_8_code 53 = .ok (.goto (-32), 3) := by decide +kernel
theorem d_R_matches_56 : decode prog_8_method_8_code 56 = .ok (.iconst 1, 1) := by decide +kernel
theorem d_R_matches_57 : decode prog_8_method_8_code 57 = .ok (.ireturn, 1) := by decide +kernel
theorem d_JS_length_0 : decode prog_15_method_54_code 0 = .ok (.aload_n 0, 1) := by decide +kernel
theorem d_JS_length_1 : decode prog_15_method_54_code 1 = .ok (.getfield 9, 3) := by decide +kernel
theorem d_JS_length_4 : decode prog_15_method_54_code 4 = .ok (.arraylength, 1) := by decide +kernel
theorem d_JS_length_5 : decode prog_15_method_54_code 5 = .ok (.aload_n 0, 1) := by decide +kernel
theorem d_JS_length_6 : decode prog_15_method_54_code 6 = .ok (.invokevirtual 335, 3) := by decide +kernel
theorem d_JS_length_9 : decode prog_15_method_54_code 9 = .ok (.ishr, 1) := by decide +kernel
theorem d_JS_length_10 : decode prog_15_method_54_code 10 = .ok (.ireturn, 1) := by decide +kernel
theorem d_JS_coder_0 : decode prog_15_method_152_code 0 = .ok (.getstatic 38, 3) := by decide +kernel
theorem d_JS_coder_3 : decode prog_15_method_152_code 3 = .ok (.ifCond .eq 10, 3) := by decide +kernel
theorem d_JS_coder_6 : decode prog_15_method_152_code 6 = .ok (.aload_n 0, 1) := by decide +kernel
theorem d_JS_coder_7 : decode prog_15_method_152_code 7 = .ok (.getfield 15, 3) := by decide +kernel
theorem d_JS_coder_10 : decode prog_15_method_152_code 10 = .ok (.goto 4, 3) := by decide +kernel
theorem d_JS_coder_13 : decode prog_15_method_152_code 13 = .ok (.iconst 1, 1) := by decide +kernel
theorem d_JS_coder_14 : decode prog_15_method_152_code 14 = .ok (.ireturn, 1) := by decide +kernel
theorem d_G_small_0 : decode prog_4_method_2_code 0 = .ok (.iload_n 0, 1) := by decide +kernel
theorem d_G_small_1 : decode prog_4_method_2_code 1 = .ok (.bipush 65, 2) := by decide +kernel
theorem d_G_small_3 : decode prog_4_method_2_code 3 = .ok (.if_icmp .lt 17, 3) := by decide +kernel
theorem d_G_small_6 : decode prog_4_method_2_code 6 = .ok (.iload_n 0, 1) := by decide +kernel
theorem d_G_small_7 : decode prog_4_method_2_code 7 = .ok (.bipush 90, 2) := by decide +kernel
theorem d_G_small_9 : decode prog_4_method_2_code 9 = .ok (.if_icmp .gt 11, 3) := by decide +kernel
theorem d_G_small_12 : decode prog_4_method_2_code 12 = .ok (.iload_n 0, 1) := by decide +kernel
theorem d_G_small_13 : decode prog_4_method_2_code 13 = .ok (.bipush 32, 2) := by decide +kernel
theorem d_G_small_15 : decode prog_4_method_2_code 15 = .ok (.iadd, 1) := by decide +kernel
theorem d_G_small_16 : decode prog_4_method_2_code 16 = .ok (.i2c, 1) := by decide +kernel
theorem d_G_small_17 : decode prog_4_method_2_code 17 = .ok (.goto 4, 3) := by decide +kernel
theorem d_G_small_20 : decode prog_4_method_2_code 20 = .ok (.iload_n 0, 1) := by decide +kernel
theorem d_G_small_21 : decode prog_4_method_2_code 21 = .ok (.ireturn, 1) := by decide +kernel
theorem d_JS_charAt_0 : decode prog_15_method_56_code 0 = .ok (.aload_n 0, 1) := by decide +kernel
theorem d_JS_charAt_1 : decode prog_15_method_56_code 1 = .ok (.invokevirtual 492, 3) := by decide +kernel
theorem d_JS_charAt_4 : decode prog_15_method_56_code 4 = .ok (.ifCond .eq 12, 3) := by decide +kernel
theorem d_JS_charAt_7 : decode prog_15_method_56_code 7 = .ok (.aload_n 0, 1) := by decide +kernel
theorem d_JS_charAt_8 : decode prog_15_method_56_code 8 = .ok (.getfield 9, 3) := by decide +kernel
theorem d_JS_charAt_11 : decode prog_15_method_56_code 11 = .ok (.iload_n 1, 1) := by decide +kernel
theorem d_JS_charAt_12 : decode prog_15_method_56_code 12 = .ok (.invokestatic 495, 3) := by decide +kernel
theorem d_JS_charAt_15 : decode prog_15_method_56_code 15 = .ok (.ireturn, 1) := by decide +kernel
theorem d_JS_charAt_16 : decode prog_15_method_56_code 16 = .ok (.aload_n 0, 1) := by decide +kernel
theorem d_JS_charAt_17 : decode prog_15_method_56_code 17 = .ok (.getfield 9, 3) := by decide +kernel
theorem d_JS_charAt_20 : decode prog_15_method_56_code 20 = .ok (.iload_n 1, 1) := by decide +kernel
theorem d_JS_charAt_21 : decode prog_15_method_56_code 21 = .ok (.invokestatic 498, 3) := by decide +kernel
theorem d_JS_charAt_24 : decode prog_15_method_56_code 24 = .ok (.ireturn, 1) := by decide +kernel
theorem d_JS_isLatin1_0 : decode prog_15_method_154_code 0 = .ok (.getstatic 38, 3) := by decide +kernel
theorem d_JS_isLatin1_3 : decode prog_15_method_154_code 3 = .ok (.ifCond .eq 14, 3) := by decide +kernel
theorem d_JS_isLatin1_6 : decode prog_15_method_154_code 6 = .ok (.aload_n 0, 1) := by decide +kernel
theorem d_JS_isLatin1_7 : decode prog_15_method_154_code 7 = .ok (.getfield 15, 3) := by decide +kernel
theorem d_JS_isLatin1_10 : decode prog_15_method_154_code 10 = .ok (.ifCond .ne 7, 3) := by decide +kernel
theorem d_JS_isLatin1_13 : decode prog_15_method_154_code 13 = .ok (.iconst 1, 1) := by decide +kernel
theorem d_JS_isLatin1_14 : decode prog_15_method_154_code 14 = .ok (.goto 4, 3) := by decide +kernel
theorem d_JS_isLatin1_17 : decode prog_15_method_154_code 17 = .ok (.iconst 0, 1) := by decide +kernel
theorem d_JS_isLatin1_18 : decode prog_15_method_154_code 18 = .ok (.ireturn, 1) := by decide +kernel
theorem d_JL_charAt_0 : decode prog_16_method_2_code 0 = .ok (.iload_n 1, 1) := by decide +kernel
theorem d_JL_charAt_1 : decode prog_16_method_2_code 1 = .ok (.aload_n 0, 1) := by decide +kernel
theorem d_JL_charAt_2 : decode prog_16_method_2_code 2 = .ok (.arraylength, 1) := by decide +kernel
theorem d_JL_charAt_3 : decode prog_16_method_2_code 3 = .ok (.invokestatic 9, 3) := by decide +kernel
theorem d_JL_charAt_6 : decode prog_16_method_2_code 6 = .ok (.aload_n 0, 1) := by decide +kernel
theorem d_JL_charAt_7 : decode prog_16_method_2_code 7 = .ok (.iload_n 1, 1) := by decide +kernel
theorem d_JL_charAt_8 : decode prog_16_method_2_code 8 = .ok (.baload, 1) := by decide +kernel
theorem d_JL_charAt_9 : decode prog_16_method_2_code 9 = .ok (.sipush 255, 3) := by decide +kernel
theorem d_JL_charAt_12 : decode prog_16_method_2_code 12 = .ok (.iand, 1) := by decide +kernel
theorem d_JL_charAt_13 : decode prog_16_method_2_code 13 = .ok (.i2c, 1) := by decide +kernel
theorem d_JL_charAt_14 : decode prog_16_method_2_code 14 = .ok (.ireturn, 1) := by decide +kernel
theorem d_JS_checkIndex_0 : decode prog_15_method_155_code 0 = .ok (.iload_n 0, 1) := by decide +kernel
theorem d_JS_checkIndex_1 : decode prog_15_method_155_code 1 = .ok (.iload_n 1, 1) := by decide +kernel
theorem d_JS_checkIndex_2 : decode prog_15_method_155_code 2 = .ok (.getstatic 1053, 3) := by decide +kernel
theorem d_JS_checkIndex_5 : decode prog_15_method_155_code 5 = .ok (.invokestatic 1059, 3) := by decide +kernel
theorem d_JS_checkIndex_8 : decode prog_15_method_155_code 8 = .ok (.pop, 1) := by decide +kernel
theorem d_JS_checkIndex_9 : decode prog_15_method_155_code 9 = .ok (.return_, 1) := by decide +kernel
theorem d_JP_checkIndex_0 : decode prog_19_method_11_code 0 = .ok (.iload_n 0, 1) := by decide +kernel
theorem d_JP_checkIndex_1 : decode prog_19_method_11_code 1 = .ok (.ifCond .lt 8, 3) := by decide +kernel
theorem d_JP_checkIndex_4 : decode prog_19_method_11_code 4 = .ok (.iload_n 0, 1) := by decide +kernel
theorem d_JP_checkIndex_5 : decode prog_19_method_11_code 5 = .ok (.iload_n 1, 1) := by decide +kernel
theorem d_JP_checkIndex_6 : decode prog_19_method_11_code 6 = .ok (.if_icmp .lt 10, 3) := by decide +kernel
theorem d_JP_checkIndex_9 : decode prog_19_method_11_code 9 = .ok (.aload_n 2, 1) := by decide +kernel
theorem d_JP_checkIndex_10 : decode prog_19_method_11_code 10 = .ok (.iload_n 0, 1) := by decide +kernel
theorem d_JP_checkIndex_11 : decode prog_19_method_11_code 11 = .ok (.iload_n 1, 1) := by decide +kernel
theorem d_JP_checkIndex_12 : decode prog_19_method_11_code 12 = .ok (.invokestatic 95, 3) := by decide +kernel
theorem d_JP_checkIndex_15 : decode prog_19_method_11_code 15 = .ok (.athrow, 1) := by decide +kernel
theorem d_JP_checkIndex_16 : decode prog_19_method_11_code 16 = .ok (.iload_n 0, 1) := by decide +kernel
theorem d_JP_checkIndex_17 : decode prog_19_method_11_code 17 = .ok (.ireturn, 1) := by decide +kernel
theorem d_P_isWrittenRight_0 : decode prog_1_method_24_code 0 = .ok (.getstatic 181, 3) := by decide +kernel
theorem d_P_isWrittenRight_3 : decode prog_1_method_24_code 3 = .ok (.aload_n 1, 1) := by decide +kernel
theorem d_P_isWrittenRight_4 : decode prog_1_method_24_code 4 = .ok (.invokevirtual 187, 3) := by decide +kernel
theorem d_P_isWrittenRight_7 : decode prog_1_method_24_code 7 = .ok (.iaload, 1) := by decide +kernel
theorem d_P_isWrittenRight_8 : decode prog_1_method_24_code 8 = .ok (.tableswitch 105 1 4 #[32, 32, 48, 81], 32) := by decide +kernel
theorem d_P_isWrittenRight_40 : decode prog_1_method_24_code 40 = .ok (.aload_n 0, 1) := by decide +kernel
theorem d_P_isWrittenRight_41 : decode prog_1_method_24_code 41 = .ok (.getfield 14, 3) := by decide +kernel
theorem d_P_isWrittenRight_44 : decode prog_1_method_24_code 44 = .ok (.iconst 5, 1) := by decide +kernel
theorem d_P_isWrittenRight_45 : decode prog_1_method_24_code 45 = .ok (.aload_n 0, 1) := by decide +kernel
theorem d_P_isWrittenRight_46 : decode prog_1_method_24_code 46 = .ok (.getfield 14, 3) := by decide +kernel
theorem d_P_isWrittenRight_49 : decode prog_1_method_24_code 49 = .ok (.getfield 51, 3) := by decide +kernel
theorem d_P_isWrittenRight_52 : decode prog_1_method_24_code 52 = .ok (.invokestatic 219, 3) := by decide +kernel
theorem d_P_isWrittenRight_55 : decode prog_1_method_24_code 55 = .ok (.ireturn, 1) := by decide +kernel
theorem d_P_isWrittenRight_56 : decode prog_1_method_24_code 56 = .ok (.aload_n 0, 1) := by decide +kernel
theorem d_P_isWrittenRight_57 : decode prog_1_method_24_code 57 = .ok (.ldc 225, 2) := by decide +kernel
theorem d_P_isWrittenRight_59 : decode prog_1_method_24_code 59 = .ok (.invokevirtual 227, 3) := by decide +kernel
theorem d_P_isWrittenRight_62 : decode prog_1_method_24_code 62 = .ok (.ifCond .eq 25, 3) := by decide +kernel
theorem d_P_isWrittenRight_65 : decode prog_1_method_24_code 65 = .ok (.aload_n 0, 1) := by decide +kernel
theorem d_P_isWrittenRight_66 : decode prog_1_method_24_code 66 = .ok (.ldc 225, 2) := by decide +kernel
theorem d_P_isWrittenRight_68 : decode prog_1_method_24_code 68 = .ok (.invokevirtual 231, 3) := by decide +kernel
theorem d_P_isWrittenRight_71 : decode prog_1_method_24_code 71 = .ok (.ifCond .ne 12, 3) := by decide +kernel
theorem d_P_isWrittenRight_74 : decode prog_1_method_24_code 74 = .ok (.aload_n 0, 1) := by decide +kernel
theorem d_P_isWrittenRight_75 : decode prog_1_method_24_code 75 = .ok (.ldc 225, 2) := by decide +kernel
theorem d_P_isWrittenRight_77 : decode prog_1_method_24_code 77 = .ok (.invokevirtual 234, 3) := by decide +kernel
theorem d_P_isWrittenRight_80 : decode prog_1_method_24_code 80 = .ok (.ifCond .eq 7, 3) := by decide +kernel
theorem d_P_isWrittenRight_83 : decode prog_1_method_24_code 83 = .ok (.iconst 1, 1) := by decide +kernel
theorem d_P_isWrittenRight_84 : decode prog_1_method_24_code 84 = .ok (.goto 4, 3) := by decide +kernel
theorem d_P_isWrittenRight_87 : decode prog_1_method_24_code 87 = .ok (.iconst 0, 1) := by decide +kernel
theorem d_P_isWrittenRight_88 : decode prog_1_method_24_code 88 = .ok (.ireturn, 1) := by decide +kernel
theorem d_P_isWrittenRight_89 : decode prog_1_method_24_code 89 = .ok (.aload_n 0, 1) := by decide +kernel
theorem d_P_isWrittenRight_90 : decode prog_1_method_24_code 90 = .ok (.ldc 237, 2) := by decide +kernel
theorem d_P_isWrittenRight_92 : decode prog_1_method_24_code 92 = .ok (.invokevirtual 227, 3) := by decide +kernel
theorem d_P_isWrittenRight_95 : decode prog_1_method_24_code 95 = .ok (.ifCond .eq 16, 3) := by decide +kernel
theorem d_P_isWrittenRight_98 : decode prog_1_method_24_code 98 = .ok (.aload_n 0, 1) := by decide +kernel
theorem d_P_isWrittenRight_99 : decode prog_1_method_24_code 99 = .ok (.ldc 237, 2) := by decide +kernel
theorem d_P_isWrittenRight_101 : decode prog_1_method_24_code 101 = .ok (.invokevirtual 234, 3) := by decide +kernel
theorem d_P_isWrittenRight_104 : decode prog_1_method_24_code 104 = .ok (.ifCond .eq 7, 3) := by decide +kernel
theorem d_P_isWrittenRight_107 : decode prog_1_method_24_code 107 = .ok (.iconst 1, 1) := by decide +kernel
theorem d_P_isWrittenRight_108 : decode prog_1_method_24_code 108 = .ok (.goto 4, 3) := by decide +kernel
theorem d_P_isWrittenRight_111 : decode prog_1_method_24_code 111 = .ok (.iconst 0, 1) := by decide +kernel
theorem d_P_isWrittenRight_112 : decode prog_1_method_24_code 112 = .ok (.ireturn, 1) := by decide +kernel
theorem d_P_isWrittenRight_113 : decode prog_1_method_24_code 113 = .ok (.aload_n 0, 1) := by decide +kernel
theorem d_P_isWrittenRight_114 : decode prog_1_method_24_code 114 = .ok (.getfield 14, 3) := by decide +kernel
theorem d_P_isWrittenRight_117 : decode prog_1_method_24_code 117 = .ok (.getfield 51, 3) := by decide +kernel
theorem d_P_isWrittenRight_120 : decode prog_1_method_24_code 120 = .ok (.iconst 4, 1) := by decide +kernel
theorem d_P_isWrittenRight_121 : decode prog_1_method_24_code 121 = .ok (.if_icmp .ne 7, 3) := by decide +kernel
theorem d_P_isWrittenRight_124 : decode prog_1_method_24_code 124 = .ok (.iconst 1, 1) := by decide +kernel
theorem d_P_isWrittenRight_125 : decode prog_1_method_24_code 125 = .ok (.goto 4, 3) := by decide +kernel
theorem d_P_isWrittenRight_128 : decode prog_1_method_24_code 128 = .ok (.iconst 0, 1) := by decide +kernel
theorem d_P_isWrittenRight_129 : decode prog_1_method_24_code 129 = .ok (.ireturn, 1) := by decide +kernel
theorem d_JE_ordinal_0 : decode prog_13_method_2_code 0 = .ok (.aload_n 0, 1) := by decide +kernel
theorem d_JE_ordinal_1 : decode prog_13_method_2_code 1 = .ok (.getfield 7, 3) := by decide +kernel
theorem d_JE_ordinal_4 : decode prog_13_method_2_code 4 = .ok (.ireturn, 1) := by decide +kernel
theorem d_G_isDomain_0 : decode prog_4_method_6_code 0 = .ok (.iload_n 2, 1) := by decide +kernel
theorem d_G_isDomain_1 : decode prog_4_method_6_code 1 = .ok (.iload_n 1, 1) := by decide +kernel
theorem d_G_isDomain_2 : decode prog_4_method_6_code 2 = .ok (.isub, 1) := by decide +kernel
theorem d_G_isDomain_3 : decode prog_4_method_6_code 3 = .ok (.bipush 32, 2) := by decide +kernel
theorem d_G_isDomain_5 : decode prog_4_method_6_code 5 = .ok (.if_icmp .le 5, 3) := by decide +kernel
theorem d_G_isDomain_8 : decode prog_4_method_6_code 8 = .ok (.iconst 0, 1) := by decide +kernel
theorem d_G_isDomain_9 : decode prog_4_method_6_code 9 = .ok (.ireturn, 1) := by decide +kernel
theorem d_G_isDomain_10 : decode prog_4_method_6_code 10 = .ok (.bipush 46, 2) := by decide +kernel
theorem d_G_isDomain_12 : decode prog_4_method_6_code 12 = .ok (.istore_n 3, 1) := by decide +kernel
theorem d_G_isDomain_13 : decode prog_4_method_6_code 13 = .ok (.iload_n 1, 1) := by decide +kernel
theorem d_G_isDomain_14 : decode prog_4_method_6_code 14 = .ok (.istore 4, 2) := by decide +kernel
theorem d_G_isDomain_16 : decode prog_4_method_6_code 16 = .ok (.iload 4, 2) := by decide +kernel
theorem d_G_isDomain_18 : decode prog_4_method_6_code 18 = .ok (.iload_n 2, 1) := by decide +kernel
theorem d_G_isDomain_19 : decode prog_4_method_6_code 19 = .ok (.if_icmp .ge 69, 3) := by decide +kernel
theorem d_G_isDomain_22 : decode prog_4_method_6_code 22 = .ok (.aload_n 0, 1) := by decide +kernel
theorem d_G_isDomain_23 : decode prog_4_method_6_code 23 = .ok (.iload 4, 2) := by decide +kernel
theorem d_G_isDomain_25 : decode prog_4_method_6_code 25 = .ok (.invokevirtual 9, 3) := by decide +kernel
theorem d_G_isDomain_28 : decode prog_4_method_6_code 28 = .ok (.istore 5, 2) := by decide +kernel
theorem d_G_isDomain_30 : decode prog_4_method_6_code 30 = .ok (.iload 5, 2) := by decide +kernel
theorem d_G_isDomain_32 : decode prog_4_method_6_code 32 = .ok (.bipush 46, 2) := by decide +kernel
theorem d_G_isDomain_34 : decode prog_4_method_6_code 34 = .ok (.if_icmp .ne 10, 3) := by decide +kernel
theorem d_G_isDomain_37 : decode prog_4_method_6_code 37 = .ok (.iload_n 3, 1) := by decide +kernel
theorem d_G_isDomain_38 : decode prog_4_method_6_code 38 = .ok (.invokestatic 24, 3) := by decide +kernel
theorem d_G_isDomain_41 : decode prog_4_method_6_code 41 = .ok (.goto 29, 3) := by decide +kernel
theorem d_G_isDomain_44 : decode prog_4_method_6_code 44 = .ok (.iload 5, 2) := by decide +kernel
theorem d_G_isDomain_46 : decode prog_4_method_6_code 46 = .ok (.bipush 45, 2) := by decide +kernel
theorem d_G_isDomain_48 : decode prog_4_method_6_code 48 = .ok (.if_icmp .ne 17, 3) := by decide +kernel
theorem d_G_isDomain_51 : decode prog_4_method_6_code 51 = .ok (.iload_n 3, 1) := by decide +kernel
theorem d_G_isDomain_52 : decode prog_4_method_6_code 52 = .ok (.bipush 46, 2) := by decide +kernel
theorem d_G_isDomain_54 : decode prog_4_method_6_code 54 = .ok (.if_icmp .eq 7, 3) := by decide +kernel
theorem d_G_isDomain_57 : decode prog_4_method_6_code 57 = .ok (.iconst 1, 1) := by decide +kernel
theorem d_G_isDomain_58 : decode prog_4_method_6_code 58 = .ok (.goto 12, 3) := by decide +kernel
theorem d_G_isDomain_61 : decode prog_4_method_6_code 61 = .ok (.iconst 0, 1) := by decide +kernel
theorem d_G_isDomain_62 : decode prog_4_method_6_code 62 = .ok (.goto 8, 3) := by decide +kernel
theorem d_G_isDomain_65 : decode prog_4_method_6_code 65 = .ok (.iload 5, 2) := by decide +kernel
theorem d_G_isDomain_67 : decode prog_4_method_6_code 67 = .ok (.invokestatic 24, 3) := by decide +kernel
theorem d_G_isDomain_70 : decode prog_4_method_6_code 70 = .ok (.istore 6, 2) := by decide +kernel
theorem d_G_isDomain_72 : decode prog_4_method_6_code 72 = .ok (.iload 6, 2) := by decide +kernel
theorem d_G_isDomain_74 : decode prog_4_method_6_code 74 = .ok (.ifCond .ne 5, 3) := by decide +kernel
theorem d_G_isDomain_77 : decode prog_4_method_6_code 77 = .ok (.iconst 0, 1) := by decide +kernel
theorem d_G_isDomain_78 : decode prog_4_method_6_code 78 = .ok (.ireturn, 1) := by decide +kernel
theorem d_G_isDomain_79 : decode prog_4_method_6_code 79 = .ok (.iload 5, 2) := by decide +kernel
theorem d_G_isDomain_81 : decode prog_4_method_6_code 81 = .ok (.istore_n 3, 1) := by decide +kernel
theorem d_G_isDomain_82 : decode prog_4_method_6_code 82 = .ok (.iinc 4 1, 3) := by decide +kernel
theorem d_G_isDomain_85 : decode prog_4_method_6_code 85 = .ok (.goto (-69), 3) := by decide +kernel
theorem d_G_isDomain_88 : decode prog_4_method_6_code 88 = .ok (.iload_n 3, 1) := by decide +kernel
theorem d_G_isDomain_89 : decode prog_4_method_6_code 89 = .ok (.invokestatic 24, 3) := by decide +kernel
theorem d_G_isDomain_92 : decode prog_4_method_6_code 92 = .ok (.ireturn, 1) := by decide +kernel
theorem d_G_isLetterOrDigit_0 : decode prog_4_method_3_code 0 = .ok (.iload_n 0, 1) := by decide +kernel
theorem d_G_isLetterOrDigit_1 : decode prog_4_method_3_code 1 = .ok (.bipush 97, 2) := by decide +kernel
theorem d_G_isLetterOrDigit_3 : decode prog_4_method_3_code 3 = .ok (.if_icmp .lt 9, 3) := by decide +kernel
theorem d_G_isLetterOrDigit_6 : decode prog_4_method_3_code 6 = .ok (.iload_n 0, 1) := by decide +kernel
theorem d_G_isLetterOrDigit_7 : decode prog_4_method_3_code 7 = .ok (.bipush 122, 2) := by decide +kernel
theorem d_G_isLetterOrDigit_9 : decode prog_4_method_3_code 9 = .ok (.if_icmp .le 27, 3) := by decide +kernel
theorem d_G_isLetterOrDigit_12 : decode prog_4_method_3_code 12 = .ok (.iload_n 0, 1) := by decide +kernel
theorem d_G_isLetterOrDigit_13 : decode prog_4_method_3_code 13 = .ok (.bipush 65, 2) := by decide +kernel
theorem d_G_isLetterOrDigit_15 : decode prog_4_method_3_code 15 = .ok (.if_icmp .lt 9, 3) := by decide +kernel
theorem d_G_isLetterOrDigit_18 : decode prog_4_method_3_code 18 = .ok (.iload_n 0, 1) := by decide +kernel
theorem d_G_isLetterOrDigit_19 : decode prog_4_method_3_code 19 = .ok (.bipush 90, 2) := by decide +kernel
theorem d_G_isLetterOrDigit_21 : decode prog_4_method_3_code 21 = .ok (.if_icmp .le 15, 3) := by decide +kernel
theorem d_G_isLetterOrDigit_24 : decode prog_4_method_3_code 24 = .ok (.iload_n 0, 1) := by decide +kernel
theorem d_G_isLetterOrDigit_25 : decode prog_4_method_3_code 25 = .ok (.bipush 48, 2) := by decide +kernel
theorem d_G_isLetterOrDigit_27 : decode prog_4_method_3_code 27 = .ok (.if_icmp .lt 13, 3) := by decide +kernel
theorem d_G_isLetterOrDigit_30 : decode prog_4_method_3_code 30 = .ok (.iload_n 0, 1) := by decide +kernel
theorem d_G_isLetterOrDigit_31 : decode prog_4_method_3_code 31 = .ok (.bipush 57, 2) := by decide +kernel
theorem d_G_isLetterOrDigit_33 : decode prog_4_method_3_code 33 = .ok (.if_icmp .gt 7, 3) := by decide +kernel
theorem d_G_isLetterOrDigit_36 : decode prog_4_method_3_code 36 = .ok (.iconst 1, 1) := by decide +kernel
theorem d_G_isLetterOrDigit_37 : decode prog_4_method_3_code 37 = .ok (.goto 4, 3) := by decide +kernel
theorem d_G_isLetterOrDigit_40 : decode prog_4_method_3_code 40 = .ok (.iconst 0, 1) := by decide +kernel
theorem d_G_isLetterOrDigit_41 : decode prog_4_method_3_code 41 = .ok (.ireturn, 1) := by decide +kernel
theorem d_P_isBracketed_0 : decode prog_1_method_25_code 0 = .ok (.aload_n 0, 1) := by decide +kernel
theorem d_P_isBracketed_1 : decode prog_1_method_25_code 1 = .ok (.getfield 14, 3) := by decide +kernel
theorem d_P_isBracketed_4 : decode prog_1_method_25_code 4 = .ok (.iconst 4, 1) := by decide +kernel
theorem d_P_isBracketed_5 : decode prog_1_method_25_code 5 = .ok (.aload_n 1, 1) := by decide +kernel
theorem d_P_isBracketed_6 : decode prog_1_method_25_code 6 = .ok (.invokevirtual 215, 3) := by decide +kernel
theorem d_P_isBracketed_9 : decode prog_1_method_25_code 9 = .ok (.ifCond .eq 28, 3) := by decide +kernel
theorem d_P_isBracketed_12 : decode prog_1_method_25_code 12 = .ok (.aload_n 0, 1) := by decide +kernel
theorem d_P_isBracketed_13 : decode prog_1_method_25_code 13 = .ok (.getfield 14, 3) := by decide +kernel
theorem d_P_isBracketed_16 : decode prog_1_method_25_code 16 = .ok (.aload_n 0, 1) := by decide +kernel
theorem d_P_isBracketed_17 : decode prog_1_method_25_code 17 = .ok (.getfield 14, 3) := by decide +kernel
theorem d_P_isBracketed_20 : decode prog_1_method_25_code 20 = .ok (.getfield 51, 3) := by decide +kernel
theorem d_P_isBracketed_23 : decode prog_1_method_25_code 23 = .ok (.iconst 1, 1) := by decide +kernel
theorem d_P_isBracketed_24 : decode prog_1_method_25_code 24 = .ok (.isub, 1) := by decide +kernel
theorem d_P_isBracketed_25 : decode prog_1_method_25_code 25 = .ok (.invokevirtual 137, 3) := by decide +kernel
theorem d_P_isBracketed_28 : decode prog_1_method_25_code 28 = .ok (.bipush 62, 2) := by decide +kernel
theorem d_P_isBracketed_30 : decode prog_1_method_25_code 30 = .ok (.if_icmp .ne 7, 3) := by decide +kernel
theorem d_P_isBracketed_33 : decode prog_1_method_25_code 33 = .ok (.iconst 1, 1) := by decide +kernel
theorem d_P_isBracketed_34 : decode prog_1_method_25_code 34 = .ok (.goto 4, 3) := by decide +kernel
theorem d_P_isBracketed_37 : decode prog_1_method_25_code 37 = .ok (.iconst 0, 1) := by decide +kernel
theorem d_P_isBracketed_38 : decode prog_1_method_25_code 38 = .ok (.ireturn, 1) := by decide +kernel
theorem d_P_isBracketEmpty_0 : decode prog_1_method_26_code 0 = .ok (.aload_n 1, 1) := by decide +kernel
theorem d_P_isBracketEmpty_1 : decode prog_1_method_26_code 1 = .ok (.invokestatic 239, 3) := by decide +kernel
theorem d_P_isBracketEmpty_4 : decode prog_1_method_26_code 4 = .ok (.aload_n 0, 1) := by decide +kernel
theorem d_P_isBracketEmpty_5 : decode prog_1_method_26_code 5 = .ok (.getfield 14, 3) := by decide +kernel
theorem d_P_isBracketEmpty_8 : decode prog_1_method_26_code 8 = .ok (.getfield 51, 3) := by decide +kernel
theorem d_P_isBracketEmpty_11 : decode prog_1_method_26_code 11 = .ok (.iconst 1, 1) := by decide +kernel
theorem d_P_isBracketEmpty_12 : decode prog_1_method_26_code 12 = .ok (.isub, 1) := by decide +kernel
theorem d_P_isBracketEmpty_13 : decode prog_1_method_26_code 13 = .ok (.if_icmp .ne 7, 3) := by decide +kernel
theorem d_P_isBracketEmpty_16 : decode prog_1_method_26_code 16 = .ok (.iconst 1, 1) := by decide +kernel
theorem d_P_isBracketEmpty_17 : decode prog_1_method_26_code 17 = .ok (.goto 4, 3) := by decide +kernel
theorem d_P_isBracketEmpty_20 : decode prog_1_method_26_code 20 = .ok (.iconst 0, 1) := by decide +kernel
theorem d_P_isBracketEmpty_21 : decode prog_1_method_26_code 21 = .ok (.ireturn, 1) := by decide +kernel
theorem d_P_bracketStart_0 : decode prog_1_method_28_code 0 = .ok (.iconst 4, 1) := by decide +kernel
theorem d_P_bracketStart_1 : decode prog_1_method_28_code 1 = .ok (.aload_n 0, 1) := by decide +kernel
theorem d_P_bracketStart_2 : decode prog_1_method_28_code 2 = .ok (.invokevirtual 246, 3) := by decide +kernel
theorem d_P_bracketStart_5 : decode prog_1_method_28_code 5 = .ok (.iadd, 1) := by decide +kernel
theorem d_P_bracketStart_6 : decode prog_1_method_28_code 6 = .ok (.ireturn, 1) := by decide +kernel
theorem d_P_isPathIn_0 : decode prog_1_method_27_code 0 = .ok (.aload_n 0, 1) := by decide +kernel
theorem d_P_isPathIn_1 : decode prog_1_method_27_code 1 = .ok (.getfield 14, 3) := by decide +kernel
theorem d_P_isPathIn_4 : decode prog_1_method_27_code 4 = .ok (.aload_n 1, 1) := by decide +kernel
theorem d_P_isPathIn_5 : decode prog_1_method_27_code 5 = .ok (.invokestatic 239, 3) := by decide +kernel
theorem d_P_isPathIn_8 : decode prog_1_method_27_code 8 = .ok (.aload_n 0, 1) := by decide +kernel
theorem d_P_isPathIn_9 : decode prog_1_method_27_code 9 = .ok (.getfield 14, 3) := by decide +kernel
theorem d_P_isPathIn_12 : decode prog_1_method_27_code 12 = .ok (.getfield 51, 3) := by decide +kernel
theorem d_P_isPathIn_15 : decode prog_1_method_27_code 15 = .ok (.iconst 1, 1) := by decide +kernel
theorem d_P_isPathIn_16 : decode prog_1_method_27_code 16 = .ok (.isub, 1) := by decide +kernel
theorem d_P_isPathIn_17 : decode prog_1_method_27_code 17 = .ok (.invokestatic 243, 3) := by decide +kernel
theorem d_P_isPathIn_20 : decode prog_1_method_27_code 20 = .ok (.ireturn, 1) := by decide +kernel
theorem d_G_isPath_0 : decode prog_4_method_4_code 0 = .ok (.iload_n 2, 1) := by decide +kernel
theorem d_G_isPath_1 : decode prog_4_method_4_code 1 = .ok (.iload_n 1, 1) := by decide +kernel
theorem d_G_isPath_2 : decode prog_4_method_4_code 2 = .ok (.isub, 1) := by decide +kernel
theorem d_G_isPath_3 : decode prog_4_method_4_code 3 = .ok (.bipush 40, 2) := by decide +kernel
theorem d_G_isPath_5 : decode prog_4_method_4_code 5 = .ok (.if_icmp .le 5, 3) := by decide +kernel
theorem d_G_isPath_8 : decode prog_4_method_4_code 8 = .ok (.iconst 0, 1) := by decide +kernel
theorem d_G_isPath_9 : decode prog_4_method_4_code 9 = .ok (.ireturn, 1) := by decide +kernel
theorem d_G_isPath_10 : decode prog_4_method_4_code 10 = .ok (.iload_n 1, 1) := by decide +kernel
theorem d_G_isPath_11 : decode prog_4_method_4_code 11 = .ok (.istore_n 3, 1) := by decide +kernel
theorem d_G_isPath_12 : decode prog_4_method_4_code 12 = .ok (.iload_n 3, 1) := by decide +kernel
theorem d_G_isPath_13 : decode prog_4_method_4_code 13 = .ok (.iload_n 2, 1) := by decide +kernel
theorem d_G_isPath_14 : decode prog_4_method_4_code 14 = .ok (.if_icmp .ge 45, 3) := by decide +kernel
theorem d_G_isPath_17 : decode prog_4_method_4_code 17 = .ok (.aload_n 0, 1) := by decide +kernel
theorem d_G_isPath_18 : decode prog_4_method_4_code 18 = .ok (.iload_n 3, 1) := by decide +kernel
theorem d_G_isPath_19 : decode prog_4_method_4_code 19 = .ok (.invokevirtual 9, 3) := by decide +kernel
theorem d_G_isPath_22 : decode prog_4_method_4_code 22 = .ok (.bipush 64, 2) := by decide +kernel
theorem d_G_isPath_24 : decode prog_4_method_4_code 24 = .ok (.if_icmp .ne 29, 3) := by decide +kernel
theorem d_G_isPath_27 : decode prog_4_method_4_code 27 = .ok (.aload_n 0, 1) := by decide +kernel
theorem d_G_isPath_28 : decode prog_4_method_4_code 28 = .ok (.iload_n 1, 1) := by decide +kernel
theorem d_G_isPath_29 : decode prog_4_method_4_code 29 = .ok (.iload_n 3, 1) := by decide +kernel
theorem d_G_isPath_30 : decode prog_4_method_4_code 30 = .ok (.invokestatic 15, 3) := by decide +kernel
theorem d_G_isPath_33 : decode prog_4_method_4_code 33 = .ok (.ifCond .eq 18, 3) := by decide +kernel
theorem d_G_isPath_36 : decode prog_4_method_4_code 36 = .ok (.aload_n 0, 1) := by decide +kernel
theorem d_G_isPath_37 : decode prog_4_method_4_code 37 = .ok (.iload_n 3, 1) := by decide +kernel
theorem d_G_isPath_38 : decode prog_4_method_4_code 38 = .ok (.iconst 1, 1) := by decide +kernel
theorem d_G_isPath_39 : decode prog_4_method_4_code 39 = .ok (.iadd, 1) := by decide +kernel
theorem d_G_isPath_40 : decode prog_4_method_4_code 40 = .ok (.iload_n 2, 1) := by decide +kernel
theorem d_G_isPath_41 : decode prog_4_method_4_code 41 = .ok (.invokestatic 21, 3) := by decide +kernel
theorem d_G_isPath_44 : decode prog_4_method_4_code 44 = .ok (.ifCond .eq 7, 3) := by decide +kernel
theorem d_G_isPath_47 : decode prog_4_method_4_code 47 = .ok (.iconst 1, 1) := by decide +kernel
theorem d_G_isPath_48 : decode prog_4_method_4_code 48 = .ok (.goto 4, 3) := by decide +kernel
theorem d_G_isPath_51 : decode prog_4_method_4_code 51 = .ok (.iconst 0, 1) := by decide +kernel
theorem d_G_isPath_52 : decode prog_4_method_4_code 52 = .ok (.ireturn, 1) := by decide +kernel
theorem d_G_isPath_53 : decode prog_4_method_4_code 53 = .ok (.iinc 3 1, 3) := by decide +kernel
theorem d_G_isPath_56 : decode prog_4_method_4_code 56 = .ok (.goto (-44), 3) := by decide +kernel
theorem d_G_isPath_59 : decode prog_4_method_4_code 59 = .ok (.iconst 0, 1) := by decide +kernel
theorem d_G_isPath_60 : decode prog_4_method_4_code 60 = .ok (.ireturn, 1) := by decide +kernel
theorem d_G_isLocal_0 : decode prog_4_method_5_code 0 = .ok (.iconst 0, 1) := by decide +kernel
theorem d_G_isLocal_1 : decode prog_4_method_5_code 1 = .ok (.istore_n 3, 1) := by decide +kernel
theorem d_G_isLocal_2 : decode prog_4_method_5_code 2 = .ok (.iload_n 1, 1) := by decide +kernel
theorem d_G_isLocal_3 : decode prog_4_method_5_code 3 = .ok (.istore 4, 2) := by decide +kernel
theorem d_G_isLocal_5 : decode prog_4_method_5_code 5 = .ok (.iload 4, 2) := by decide +kernel
theorem d_G_isLocal_7 : decode prog_4_method_5_code 7 = .ok (.iload_n 2, 1) := by decide +kernel
theorem d_G_isLocal_8 : decode prog_4_method_5_code 8 = .ok (.if_icmp .ge 74, 3) := by decide +kernel
theorem d_G_isLocal_11 : decode prog_4_method_5_code 11 = .ok (.aload_n 0, 1) := by decide +kernel
theorem d_G_isLocal_12 : decode prog_4_method_5_code 12 = .ok (.iload 4, 2) := by decide +kernel
theorem d_G_isLocal_14 : decode prog_4_method_5_code 14 = .ok (.invokevirtual 9, 3) := by decide +kernel
theorem d_G_isLocal_17 : decode prog_4_method_5_code 17 = .ok (.istore 5, 2) := by decide +kernel
theorem d_G_isLocal_19 : decode prog_4_method_5_code 19 = .ok (.iload 5, 2) := by decide +kernel
theorem d_G_isLocal_21 : decode prog_4_method_5_code 21 = .ok (.invokestatic 24, 3) := by decide +kernel
theorem d_G_isLocal_24 : decode prog_4_method_5_code 24 = .ok (.ifCond .ne 24, 3) := by decide +kernel
theorem d_G_isLocal_27 : decode prog_4_method_5_code 27 = .ok (.iload 5, 2) := by decide +kernel
theorem d_G_isLocal_29 : decode prog_4_method_5_code 29 = .ok (.bipush 45, 2) := by decide +kernel
theorem d_G_isLocal_31 : decode prog_4_method_5_code 31 = .ok (.if_icmp .eq 17, 3) := by decide +kernel
theorem d_G_isLocal_34 : decode prog_4_method_5_code 34 = .ok (.iload 5, 2) := by decide +kernel
theorem d_G_isLocal_36 : decode prog_4_method_5_code 36 = .ok (.bipush 95, 2) := by decide +kernel
theorem d_G_isLocal_38 : decode prog_4_method_5_code 38 = .ok (.if_icmp .eq 10, 3) := by decide +kernel
theorem d_G_isLocal_41 : decode prog_4_method_5_code 41 = .ok (.iload 5, 2) := by decide +kernel
theorem d_G_isLocal_43 : decode prog_4_method_5_code 43 = .ok (.bipush 43, 2) := by decide +kernel
theorem d_G_isLocal_45 : decode prog_4_method_5_code 45 = .ok (.if_icmp .ne 7, 3) := by decide +kernel
theorem d_G_isLocal_48 : decode prog_4_method_5_code 48 = .ok (.iconst 1, 1) := by decide +kernel
theorem d_G_isLocal_49 : decode prog_4_method_5_code 49 = .ok (.goto 4, 3) := by decide +kernel
theorem d_G_isLocal_52 : decode prog_4_method_5_code 52 = .ok (.iconst 0, 1) := by decide +kernel
theorem d_G_isLocal_53 : decode prog_4_method_5_code 53 = .ok (.istore 6, 2) := by decide +kernel
theorem d_G_isLocal_55 : decode prog_4_method_5_code 55 = .ok (.iload 6, 2) := by decide +kernel
theorem d_G_isLocal_57 : decode prog_4_method_5_code 57 = .ok (.ifCond .ne 16, 3) := by decide +kernel
theorem d_G_isLocal_60 : decode prog_4_method_5_code 60 = .ok (.iload 5, 2) := by decide +kernel
theorem d_G_isLocal_62 : decode prog_4_method_5_code 62 = .ok (.bipush 46, 2) := by decide +kernel
theorem d_G_isLocal_64 : decode prog_4_method_5_code 64 = .ok (.if_icmp .ne 7, 3) := by decide +kernel
theorem d_G_isLocal_67 : decode prog_4_method_5_code 67 = .ok (.iload_n 3, 1) := by decide +kernel
theorem d_G_isLocal_68 : decode prog_4_method_5_code 68 = .ok (.ifCond .ne 5, 3) := by decide +kernel
theorem d_G_isLocal_71 : decode prog_4_method_5_code 71 = .ok (.iconst 0, 1) := by decide +kernel
theorem d_G_isLocal_72 : decode prog_4_method_5_code 72 = .ok (.ireturn, 1) := by decide +kernel
theorem d_G_isLocal_73 : decode prog_4_method_5_code 73 = .ok (.iload 6, 2) := by decide +kernel
theorem d_G_isLocal_75 : decode prog_4_method_5_code 75 = .ok (.istore_n 3, 1) := by decide +kernel
theorem d_G_isLocal_76 : decode prog_4_method_5_code 76 = .ok (.iinc 4 1, 3) := by decide +kernel
theorem d_G_isLocal_79 : decode prog_4_method_5_code 79 = .ok (.goto (-74), 3) := by decide +kernel
theorem d_G_isLocal_82 : decode prog_4_method_5_code 82 = .ok (.iload_n 3, 1) := by decide +kernel
theorem d_G_isLocal_83 : decode prog_4_method_5_code 83 = .ok (.ireturn, 1) := by decide +kernel
theorem d_P_greet_0 : decode prog_1_method_29_code 0 = .ok (.aload_n 0, 1) := by decide +kernel
theorem d_P_greet_1 : decode prog_1_method_29_code 1 = .ok (.getfield 21, 3) := by decide +kernel
theorem d_P_greet_4 : decode prog_1_method_29_code 4 = .ok (.iconst 1, 1) := by decide +kernel
theorem d_P_greet_5 : decode prog_1_method_29_code 5 = .ok (.putfield 124, 3) := by decide +kernel
theorem d_P_greet_8 : decode prog_1_method_29_code 8 = .ok (.aload_n 0, 1) := by decide +kernel
theorem d_P_greet_9 : decode prog_1_method_29_code 9 = .ok (.getfield 21, 3) := by decide +kernel
theorem d_P_greet_12 : decode prog_1_method_29_code 12 = .ok (.invokevirtual 204, 3) := by decide +kernel
theorem d_P_greet_15 : decode prog_1_method_29_code 15 = .ok (.sipush 250, 3) := by decide +kernel
theorem d_P_greet_18 : decode prog_1_method_29_code 18 = .ok (.ireturn, 1) := by decide +kernel
theorem d_P_beginTransaction_0 : decode prog_1_method_30_code 0 = .ok (.aload_n 0, 1) := by decide +kernel
theorem d_P_beginTransaction_1 : decode prog_1_method_30_code 1 = .ok (.getfield 21, 3) := by decide +kernel
theorem d_P_beginTransaction_4 : decode prog_1_method_30_code 4 = .ok (.getfield 124, 3) := by decide +kernel
theorem d_P_beginTransaction_7 : decode prog_1_method_30_code 7 = .ok (.ifCond .eq 13, 3) := by decide +kernel
theorem d_P_beginTransaction_10 : decode prog_1_method_30_code 10 = .ok (.aload_n 0, 1) := by decide +kernel
theorem d_P_beginTransaction_11 : decode prog_1_method_30_code 11 = .ok (.getfield 21, 3) := by decide +kernel
theorem d_P_beginTransaction_14 : decode prog_1_method_30_code 14 = .ok (.getfield 121, 3) := by decide +kernel
theorem d_P_beginTransaction_17 : decode prog_1_method_30_code 17 = .ok (.ifCond .eq 7, 3) := by decide +kernel
theorem d_P_beginTransaction_20 : decode prog_1_method_30_code 20 = .ok (.sipush 503, 3) := by decide +kernel
theorem d_P_beginTransaction_23 : decode prog_1_method_30_code 23 = .ok (.ireturn, 1) := by decide +kernel
theorem d_P_beginTransaction_24 : decode prog_1_method_30_code 24 = .ok (.aload_n 0, 1) := by decide +kernel
theorem d_P_beginTransaction_25 : decode prog_1_method_30_code 25 = .ok (.getfield 28, 3) := by decide +kernel
theorem d_P_beginTransaction_28 : decode prog_1_method_30_code 28 = .ok (.invokevirtual 250, 3) := by decide +kernel
theorem d_P_beginTransaction_31 : decode prog_1_method_30_code 31 = .ok (.ifCond .eq 7, 3) := by decide +kernel
theorem d_P_beginTransaction_34 : decode prog_1_method_30_code 34 = .ok (.sipush 452, 3) := by decide +kernel
theorem d_P_beginTransaction_37 : decode prog_1_method_30_code 37 = .ok (.ireturn, 1) := by decide +kernel
theorem d_P_beginTransaction_38 : decode prog_1_method_30_code 38 = .ok (.aload_n 0, 1) := by decide +kernel
theorem d_P_beginTransaction_39 : decode prog_1_method_30_code 39 = .ok (.getfield 21, 3) := by decide +kernel
theorem d_P_beginTransaction_42 : decode prog_1_method_30_code 42 = .ok (.iconst 1, 1) := by decide +kernel
theorem d_P_beginTransaction_43 : decode prog_1_method_30_code 43 = .ok (.putfield 121, 3) := by decide +kernel
theorem d_P_beginTransaction_46 : decode prog_1_method_30_code 46 = .ok (.aload_n 0, 1) := by decide +kernel
