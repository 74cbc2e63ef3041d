theorem dJ6_bitCount_0f7a4_0 : decode cJ6_bitCount_0f7a4 0 = .ok (.iload_n 0, 1) := by decide +kernel
theorem dJ6_bitCount_0f7a4_1 : decode cJ6_bitCount_0f7a4 1 = .ok (.iload_n 0, 1) := by decide +kernel
theorem dJ6_bitCount_0f7a4_2 : decode cJ6_bitCount_0f7a4 2 = .ok (.iconst 1, 1) := by decide +kernel
theorem dJ6_bitCount_0f7a4_3 : decode cJ6_bitCount_0f7a4 3 = .ok (.iushr, 1) := by decide +kernel
theorem dJ6_bitCount_0f7a4_4 : decode cJ6_bitCount_0f7a4 4 = .ok (.ldc_w 265, 3) := by decide +kernel
theorem dJ6_bitCount_0f7a4_7 : decode cJ6_bitCount_0f7a4 7 = .ok (.iand, 1) := by decide +kernel
theorem dJ6_bitCount_0f7a4_8 : decode cJ6_bitCount_0f7a4 8 = .ok (.isub, 1) := by decide +kernel
theorem dJ6_bitCount_0f7a4_9 : decode cJ6_bitCount_0f7a4 9 = .ok (.istore_n 0, 1) := by decide +kernel
theorem dJ6_bitCount_0f7a4_10 : decode cJ6_bitCount_0f7a4 10 = .ok (.iload_n 0, 1) := by decide +kernel
theorem dJ6_bitCount_0f7a4_11 : decode cJ6_bitCount_0f7a4 11 = .ok (.ldc_w 266, 3) := by decide +kernel
theorem dJ6_bitCount_0f7a4_14 : decode cJ6_bitCount_0f7a4 14 = .ok (.iand, 1) := by decide +kernel
theorem dJ6_bitCount_0f7a4_15 : decode cJ6_bitCount_0f7a4 15 = .ok (.iload_n 0, 1) := by decide +kernel
theorem dJ6_bitCount_0f7a4_16 : decode cJ6_bitCount_0f7a4 16 = .ok (.iconst 2, 1) := by decide +kernel
theorem dJ6_bitCount_0f7a4_17 : decode cJ6_bitCount_0f7a4 17 = .ok (.iushr, 1) := by decide +kernel
theorem dJ6_bitCount_0f7a4_18 : decode cJ6_bitCount_0f7a4 18 = .ok (.ldc_w 266, 3) := by decide +kernel
theorem dJ6_bitCount_0f7a4_21 : decode cJ6_bitCount_0f7a4 21 = .ok (.iand, 1) := by decide +kernel
theorem dJ6_bitCount_0f7a4_22 : decode cJ6_bitCount_0f7a4 22 = .ok (.iadd, 1) := by decide +kernel
theorem dJ6_bitCount_0f7a4_23 : decode cJ6_bitCount_0f7a4 23 = .ok (.istore_n 0, 1) := by decide +kernel
theorem dJ6_bitCount_0f7a4_24 : decode cJ6_bitCount_0f7a4 24 = .ok (.iload_n 0, 1) := by decide +kernel
theorem dJ6_bitCount_0f7a4_25 : decode cJ6_bitCount_0f7a4 25 = .ok (.iload_n 0, 1) := by decide +kernel
theorem dJ6_bitCount_0f7a4_26 : decode cJ6_bitCount_0f7a4 26 = .ok (.iconst 4, 1) := by decide +kernel
theorem dJ6_bitCount_0f7a4_27 : decode cJ6_bitCount_0f7a4 27 = .ok (.iushr, 1) := by decide +kernel
theorem dJ6_bitCount_0f7a4_28 : decode cJ6_bitCount_0f7a4 28 = .ok (.iadd, 1) := by decide +kernel
theorem dJ6_bitCount_0f7a4_29 : decode cJ6_bitCount_0f7a4 29 = .ok (.ldc_w 267, 3) := by decide +kernel
theorem dJ6_bitCount_0f7a4_32 : decode cJ6_bitCount_0f7a4 32 = .ok (.iand, 1) := by decide +kernel
theorem dJ6_bitCount_0f7a4_33 : decode cJ6_bitCount_0f7a4 33 = .ok (.istore_n 0, 1) := by decide +kernel
theorem dJ6_bitCount_0f7a4_34 : decode cJ6_bitCount_0f7a4 34 = .ok (.iload_n 0, 1) := by decide +kernel
theorem dJ6_bitCount_0f7a4_35 : decode cJ6_bitCount_0f7a4 35 = .ok (.iload_n 0, 1) := by decide +kernel
theorem dJ6_bitCount_0f7a4_36 : decode cJ6_bitCount_0f7a4 36 = .ok (.bipush 8, 2) := by decide +kernel
theorem dJ6_bitCount_0f7a4_38 : decode cJ6_bitCount_0f7a4 38 = .ok (.iushr, 1) := by decide +kernel
theorem dJ6_bitCount_0f7a4_39 : decode cJ6_bitCount_0f7a4 39 = .ok (.iadd, 1) := by decide +kernel
theorem dJ6_bitCount_0f7a4_40 : decode cJ6_bitCount_0f7a4 40 = .ok (.istore_n 0, 1) := by decide +kernel
theorem dJ6_bitCount_0f7a4_41 : decode cJ6_bitCount_0f7a4 41 = .ok (.iload_n 0, 1) := by decide +kernel
theorem dJ6_bitCount_0f7a4_42 : decode cJ6_bitCount_0f7a4 42 = .ok (.iload_n 0, 1) := by decide +kernel
theorem dJ6_bitCount_0f7a4_43 : decode cJ6_bitCount_0f7a4 43 = .ok (.bipush 16, 2) := by decide +kernel
theorem dJ6_bitCount_0f7a4_45 : decode cJ6_bitCount_0f7a4 45 = .ok (.iushr, 1) := by decide +kernel
theorem dJ6_bitCount_0f7a4_46 : decode cJ6_bitCount_0f7a4 46 = .ok (.iadd, 1) := by decide +kernel
theorem dJ6_bitCount_0f7a4_47 : decode cJ6_bitCount_0f7a4 47 = .ok (.istore_n 0, 1) := by decide +kernel
theorem dJ6_bitCount_0f7a4_48 : decode cJ6_bitCount_0f7a4 48 = .ok (.iload_n 0, 1) := by decide +kernel
theorem dJ6_bitCount_0f7a4_49 : decode cJ6_bitCount_0f7a4 49 = .ok (.bipush 63, 2) := by decide +kernel
theorem dJ6_bitCount_0f7a4_51 : decode cJ6_bitCount_0f7a4 51 = .ok (.iand, 1) := by decide +kernel
theorem dJ6_bitCount_0f7a4_52 : decode cJ6_bitCount_0f7a4 52 = .ok (.ireturn, 1) := by decide +kernel
theorem dJ9_max_7cf53_0 : decode cJ9_max_7cf53 0 = .ok (.iload_n 0, 1) := by decide +kernel
theorem dJ9_max_7cf53_1 : decode cJ9_max_7cf53 1 = .ok (.iload_n 1, 1) := by decide +kernel
theorem dJ9_max_7cf53_2 : decode cJ9_max_7cf53 2 = .ok (.if_icmp .lt 7, 3) := by decide +kernel
theorem dJ9_max_7cf53_5 : decode cJ9_max_7cf53 5 = .ok (.iload_n 0, 1) := by decide +kernel
theorem dJ9_max_7cf53_6 : decode cJ9_max_7cf53 6 = .ok (.goto 4, 3) := by decide +kernel
theorem dJ9_max_7cf53_9 : decode cJ9_max_7cf53 9 = .ok (.iload_n 1, 1) := by decide +kernel
theorem dJ9_max_7cf53_10 : decode cJ9_max_7cf53 10 = .ok (.ireturn, 1) := by decide +kernel
theorem dJ9_min_7cf53_0 : decode cJ9_min_7cf53 0 = .ok (.iload_n 0, 1) := by decide +kernel
theorem dJ9_min_7cf53_1 : decode cJ9_min_7cf53 1 = .ok (.iload_n 1, 1) := by decide +kernel
theorem dJ9_min_7cf53_2 : decode cJ9_min_7cf53 2 = .ok (.if_icmp .gt 7, 3) := by decide +kernel
theorem dJ9_min_7cf53_5 : decode cJ9_min_7cf53 5 = .ok (.iload_n 0, 1) := by decide +kernel
theorem dJ9_min_7cf53_6 : decode cJ9_min_7cf53 6 = .ok (.goto 4, 3) := by decide +kernel
theorem dJ9_min_7cf53_9 : decode cJ9_min_7cf53 9 = .ok (.iload_n 1, 1) := by decide +kernel
theorem dJ9_min_7cf53_10 : decode cJ9_min_7cf53 10 = .ok (.ireturn, 1) := by decide +kernel
theorem dJ9_min_f86c9_0 : decode cJ9_min_f86c9 0 = .ok (.lload_n 0, 1) := by decide +kernel
theorem dJ9_min_f86c9_1 : decode cJ9_min_f86c9 1 = .ok (.lload_n 2, 1) := by decide +kernel
theorem dJ9_min_f86c9_2 : decode cJ9_min_f86c9 2 = .ok (.lcmp, 1) := by decide +kernel
theorem dJ9_min_f86c9_3 : decode cJ9_min_f86c9 3 = .ok (.ifCond .gt 7, 3) := by decide +kernel
theorem dJ9_min_f86c9_6 : decode cJ9_min_f86c9 6 = .ok (.lload_n 0, 1) := by decide +kernel
theorem dJ9_min_f86c9_7 : decode cJ9_min_f86c9 7 = .ok (.goto 4, 3) := by decide +kernel
theorem dJ9_min_f86c9_10 : decode cJ9_min_f86c9 10 = .ok (.lload_n 2, 1) := by decide +kernel
theorem dJ9_min_f86c9_11 : decode cJ9_min_f86c9 11 = .ok (.lreturn, 1) := by decide +kernel
theorem dJ0_length_8abf5_0 : decode cJ0_length_8abf5 0 = .ok (.aload_n 0, 1) := by decide +kernel
theorem dJ0_length_8abf5_1 : decode cJ0_length_8abf5 1 = .ok (.getfield 9, 3) := by decide +kernel
theorem dJ0_length_8abf5_4 : decode cJ0_length_8abf5 4 = .ok (.arraylength, 1) := by decide +kernel
theorem dJ0_length_8abf5_5 : decode cJ0_length_8abf5 5 = .ok (.aload_n 0, 1) := by decide +kernel
theorem dJ0_length_8abf5_6 : decode cJ0_length_8abf5 6 = .ok (.invokevirtual 335, 3) := by decide +kernel
theorem dJ0_length_8abf5_9 : decode cJ0_length_8abf5 9 = .ok (.ishr, 1) := by decide +kernel
theorem dJ0_length_8abf5_10 : decode cJ0_length_8abf5 10 = .ok (.ireturn, 1) := by decide +kernel
theorem dJ0_charAt_5068e_0 : decode cJ0_charAt_5068e 0 = .ok (.aload_n 0, 1) := by decide +kernel
theorem dJ0_charAt_5068e_1 : decode cJ0_charAt_5068e 1 = .ok (.invokevirtual 492, 3) := by decide +kernel
theorem dJ0_charAt_5068e_4 : decode cJ0_charAt_5068e 4 = .ok (.ifCond .eq 12, 3) := by decide +kernel
theorem dJ0_charAt_5068e_7 : decode cJ0_charAt_5068e 7 = .ok (.aload_n 0, 1) := by decide +kernel
theorem dJ0_charAt_5068e_8 : decode cJ0_charAt_5068e 8 = .ok (.getfield 9, 3) := by decide +kernel
theorem dJ0_charAt_5068e_11 : decode cJ0_charAt_5068e 11 = .ok (.iload_n 1, 1) := by decide +kernel
theorem dJ0_charAt_5068e_12 : decode cJ0_charAt_5068e 12 = .ok (.invokestatic 495, 3) := by decide +kernel
theorem dJ0_charAt_5068e_15 : decode cJ0_charAt_5068e 15 = .ok (.ireturn, 1) := by decide +kernel
theorem dJ0_charAt_5068e_16 : decode cJ0_charAt_5068e 16 = .ok (.aload_n 0, 1) := by decide +kernel
theorem dJ0_charAt_5068e_17 : decode cJ0_charAt_5068e 17 = .ok (.getfield 9, 3) := by decide +kernel
theorem dJ0_charAt_5068e_20 : decode cJ0_charAt_5068e 20 = .ok (.iload_n 1, 1) := by decide +kernel
theorem dJ0_charAt_5068e_21 : decode cJ0_charAt_5068e 21 = .ok (.invokestatic 498, 3) := by decide +kernel
theorem dJ0_charAt_5068e_24 : decode cJ0_charAt_5068e 24 = .ok (.ireturn, 1) := by decide +kernel
theorem dJ0_coder_7d493_0 : decode cJ0_coder_7d493 0 = .ok (.getstatic 38, 3) := by decide +kernel
theorem dJ0_coder_7d493_3 : decode cJ0_coder_7d493 3 = .ok (.ifCond .eq 10, 3) := by decide +kernel
theorem dJ0_coder_7d493_6 : decode cJ0_coder_7d493 6 = .ok (.aload_n 0, 1) := by decide +kernel
theorem dJ0_coder_7d493_7 : decode cJ0_coder_7d493 7 = .ok (.getfield 15, 3) := by decide +kernel
theorem dJ0_coder_7d493_10 : decode cJ0_coder_7d493 10 = .ok (.goto 4, 3) := by decide +kernel
theorem dJ0_coder_7d493_13 : decode cJ0_coder_7d493 13 = .ok (.iconst 1, 1) := by decide +kernel
theorem dJ0_coder_7d493_14 : decode cJ0_coder_7d493 14 = .ok (.ireturn, 1) := by decide +kernel
theorem dJ0_isLatin1_aae02_0 : decode cJ0_isLatin1_aae02 0 = .ok (.getstatic 38, 3) := by decide +kernel
theorem dJ0_isLatin1_aae02_3 : decode cJ0_isLatin1_aae02 3 = .ok (.ifCond .eq 14, 3) := by decide +kernel
theorem dJ0_isLatin1_aae02_6 : decode cJ0_isLatin1_aae02 6 = .ok (.aload_n 0, 1) := by decide +kernel
theorem dJ0_isLatin1_aae02_7 : decode cJ0_isLatin1_aae02 7 = .ok (.getfield 15, 3) := by decide +kernel
theorem dJ0_isLatin1_aae02_10 : decode cJ0_isLatin1_aae02 10 = .ok (.ifCond .ne 7, 3) := by decide +kernel
theorem dJ0_isLatin1_aae02_13 : decode cJ0_isLatin1_aae02 13 = .ok (.iconst 1, 1) := by decide +kernel
theorem dJ0_isLatin1_aae02_14 : decode cJ0_isLatin1_aae02 14 = .ok (.goto 4, 3) := by decide +kernel
theorem dJ0_isLatin1_aae02_17 : decode cJ0_isLatin1_aae02 17 = .ok (.iconst 0, 1) := by decide +kernel
theorem dJ0_isLatin1_aae02_18 : decode cJ0_isLatin1_aae02 18 = .ok (.ireturn, 1) := by decide +kernel
theorem dJ0_checkIndex_df160_0 : decode cJ0_checkIndex_df160 0 = .ok (.iload_n 0, 1) := by decide +kernel
theorem dJ0_checkIndex_df160_1 : decode cJ0_checkIndex_df160 1 = .ok (.iload_n 1, 1) := by decide +kernel
theorem dJ0_checkIndex_df160_2 : decode cJ0_checkIndex_df160 2 = .ok (.getstatic 1053, 3) := by decide +kernel
theorem dJ0_checkIndex_df160_5 : decode cJ0_checkIndex_df160 5 = .ok (.invokestatic 1059, 3) := by decide +kernel
theorem dJ0_checkIndex_df160_8 : decode cJ0_checkIndex_df160 8 = .ok (.pop, 1) := by decide +kernel
theorem dJ0_checkIndex_df160_9 : decode cJ0_checkIndex_df160 9 = .ok (.return_, 1) := by decide +kernel
theorem dJ1_charAt_3b067_0 : decode cJ1_charAt_3b067 0 = .ok (.iload_n 1, 1) := by decide +kernel
theorem dJ1_charAt_3b067_1 : decode cJ1_charAt_3b067 1 = .ok (.aload_n 0, 1) := by decide +kernel
theorem dJ1_charAt_3b067_2 : decode cJ1_charAt_3b067 2 = .ok (.arraylength, 1) := by decide +kernel
theorem dJ1_charAt_3b067_3 : decode cJ1_charAt_3b067 3 = .ok (.invokestatic 9, 3) := by decide +kernel
theorem dJ1_charAt_3b067_6 : decode cJ1_charAt_3b067 6 = .ok (.aload_n 0, 1) := by decide +kernel
theorem dJ1_charAt_3b067_7 : decode cJ1_charAt_3b067 7 = .ok (.iload_n 1, 1) := by decide +kernel
theorem dJ1_charAt_3b067_8 : decode cJ1_charAt_3b067 8 = .ok (.baload, 1) := by decide +kernel
theorem dJ1_charAt_3b067_9 : decode cJ1_charAt_3b067 9 = .ok (.sipush 255, 3) := by decide +kernel
theorem dJ1_charAt_3b067_12 : decode cJ1_charAt_3b067 12 = .ok (.iand, 1) := by decide +kernel
theorem dJ1_charAt_3b067_13 : decode cJ1_charAt_3b067 13 = .ok (.i2c, 1) := by decide +kernel
theorem dJ1_charAt_3b067_14 : decode cJ1_charAt_3b067 14 = .ok (.ireturn, 1) := by decide +kernel
theorem dJ2_getChar_3b067_0 : decode cJ2_getChar_3b067 0 = .ok (.getstatic 44, 3) := by decide +kernel
theorem dJ2_getChar_3b067_3 : decode cJ2_getChar_3b067 3 = .ok (.ifCond .ne 25, 3) := by decide +kernel
theorem dJ2_getChar_3b067_6 : decode cJ2_getChar_3b067 6 = .ok (.iload_n 1, 1) := by decide +kernel
theorem dJ2_getChar_3b067_7 : decode cJ2_getChar_3b067 7 = .ok (.ifCond .lt 11, 3) := by decide +kernel
theorem dJ2_getChar_3b067_10 : decode cJ2_getChar_3b067 10 = .ok (.iload_n 1, 1) := by decide +kernel
theorem dJ2_getChar_3b067_11 : decode cJ2_getChar_3b067 11 = .ok (.aload_n 0, 1) := by decide +kernel
theorem dJ2_getChar_3b067_12 : decode cJ2_getChar_3b067 12 = .ok (.invokestatic 48, 3) := by decide +kernel
theorem dJ2_getChar_3b067_15 : decode cJ2_getChar_3b067 15 = .ok (.if_icmp .lt 13, 3) := by decide +kernel
theorem dJ2_getChar_3b067_18 : decode cJ2_getChar_3b067 18 = .ok (.new 52, 3) := by decide +kernel
theorem dJ2_getChar_3b067_21 : decode cJ2_getChar_3b067 21 = .ok (.dup, 1) := by decide +kernel
theorem dJ2_getChar_3b067_22 : decode cJ2_getChar_3b067 22 = .ok (.ldc 54, 2) := by decide +kernel
theorem dJ2_getChar_3b067_24 : decode cJ2_getChar_3b067 24 = .ok (.invokespecial 56, 3) := by decide +kernel
theorem dJ2_getChar_3b067_27 : decode cJ2_getChar_3b067 27 = .ok (.athrow, 1) := by decide +kernel
theorem dJ2_getChar_3b067_28 : decode cJ2_getChar_3b067 28 = .ok (.iload_n 1, 1) := by decide +kernel
theorem dJ2_getChar_3b067_29 : decode cJ2_getChar_3b067 29 = .ok (.iconst 1, 1) := by decide +kernel
theorem dJ2_getChar_3b067_30 : decode cJ2_getChar_3b067 30 = .ok (.ishl, 1) := by decide +kernel
theorem dJ2_getChar_3b067_31 : decode cJ2_getChar_3b067 31 = .ok (.istore_n 1, 1) := by decide +kernel
theorem dJ2_getChar_3b067_32 : decode cJ2_getChar_3b067 32 = .ok (.aload_n 0, 1) := by decide +kernel
theorem dJ2_getChar_3b067_33 : decode cJ2_getChar_3b067 33 = .ok (.iload_n 1, 1) := by decide +kernel
theorem dJ2_getChar_3b067_34 : decode cJ2_getChar_3b067 34 = .ok (.iinc 1 1, 3) := by decide +kernel
theorem dJ2_getChar_3b067_37 : decode cJ2_getChar_3b067 37 = .ok (.baload, 1) := by decide +kernel
theorem dJ2_getChar_3b067_38 : decode cJ2_getChar_3b067 38 = .ok (.sipush 255, 3) := by decide +kernel
theorem dJ2_getChar_3b067_41 : decode cJ2_getChar_3b067 41 = .ok (.iand, 1) := by decide +kernel
theorem dJ2_getChar_3b067_42 : decode cJ2_getChar_3b067 42 = .ok (.getstatic 59, 3) := by decide +kernel
theorem dJ2_getChar_3b067_45 : decode cJ2_getChar_3b067 45 = .ok (.ishl, 1) := by decide +kernel
theorem dJ2_getChar_3b067_46 : decode cJ2_getChar_3b067 46 = .ok (.aload_n 0, 1) := by decide +kernel
theorem dJ2_getChar_3b067_47 : decode cJ2_getChar_3b067 47 = .ok (.iload_n 1, 1) := by decide +kernel
theorem dJ2_getChar_3b067_48 : decode cJ2_getChar_3b067 48 = .ok (.baload, 1) := by decide +kernel
theorem dJ2_getChar_3b067_49 : decode cJ2_getChar_3b067 49 = .ok (.sipush 255, 3) := by decide +kernel
theorem dJ2_getChar_3b067_52 : decode cJ2_getChar_3b067 52 = .ok (.iand, 1) := by decide +kernel
theorem dJ2_getChar_3b067_53 : decode cJ2_getChar_3b067 53 = .ok (.getstatic 63, 3) := by decide +kernel
theorem dJ2_getChar_3b067_56 : decode cJ2_getChar_3b067 56 = .ok (.ishl, 1) := by decide +kernel
theorem dJ2_getChar_3b067_57 : decode cJ2_getChar_3b067 57 = .ok (.ior, 1) := by decide +kernel
theorem dJ2_getChar_3b067_58 : decode cJ2_getChar_3b067 58 = .ok (.i2c, 1) := by decide +kernel
theorem dJ2_getChar_3b067_59 : decode cJ2_getChar_3b067 59 = .ok (.ireturn, 1) := by decide +kernel
theorem dJ2_length_9d52b_0 : decode cJ2_length_9d52b 0 = .ok (.aload_n 0, 1) := by decide +kernel
theorem dJ2_length_9d52b_1 : decode cJ2_length_9d52b 1 = .ok (.arraylength, 1) := by decide +kernel
theorem dJ2_length_9d52b_2 : decode cJ2_length_9d52b 2 = .ok (.iconst 1, 1) := by decide +kernel
theorem dJ2_length_9d52b_3 : decode cJ2_length_9d52b 3 = .ok (.ishr, 1) := by decide +kernel
theorem dJ2_length_9d52b_4 : decode cJ2_length_9d52b 4 = .ok (.ireturn, 1) := by decide +kernel
theorem dJ2_charAt_3b067_0 : decode cJ2_charAt_3b067 0 = .ok (.iload_n 1, 1) := by decide +kernel
theorem dJ2_charAt_3b067_1 : decode cJ2_charAt_3b067 1 = .ok (.aload_n 0, 1) := by decide +kernel
theorem dJ2_charAt_3b067_2 : decode cJ2_charAt_3b067 2 = .ok (.invokestatic 67, 3) := by decide +kernel
theorem dJ2_charAt_3b067_5 : decode cJ2_charAt_3b067 5 = .ok (.aload_n 0, 1) := by decide +kernel
theorem dJ2_charAt_3b067_6 : decode cJ2_charAt_3b067 6 = .ok (.iload_n 1, 1) := by decide +kernel
theorem dJ2_charAt_3b067_7 : decode cJ2_charAt_3b067 7 = .ok (.invokestatic 71, 3) := by decide +kernel
theorem dJ2_charAt_3b067_10 : decode cJ2_charAt_3b067 10 = .ok (.ireturn, 1) := by decide +kernel
theorem dJ2_checkIndex_2214a_0 : decode cJ2_checkIndex_2214a 0 = .ok (.iload_n 0, 1) := by decide +kernel
theorem dJ2_checkIndex_2214a_1 : decode cJ2_checkIndex_2214a 1 = .ok (.aload_n 1, 1) := by decide +kernel
theorem dJ2_checkIndex_2214a_2 : decode cJ2_checkIndex_2214a 2 = .ok (.invokestatic 48, 3) := by decide +kernel
theorem dJ2_checkIndex_2214a_5 : decode cJ2_checkIndex_2214a 5 = .ok (.invokestatic 414, 3) := by decide +kernel
theorem dJ2_checkIndex_2214a_8 : decode cJ2_checkIndex_2214a 8 = .ok (.return_, 1) := by decide +kernel
theorem dJ7_fill_53178_0 : decode cJ7_fill_53178 0 = .ok (.iconst 0, 1) := by decide +kernel
theorem dJ7_fill_53178_1 : decode cJ7_fill_53178 1 = .ok (.istore_n 2, 1) := by decide +kernel
theorem dJ7_fill_53178_2 : decode cJ7_fill_53178 2 = .ok (.aload_n 0, 1) := by decide +kernel
theorem dJ7_fill_53178_3 : decode cJ7_fill_53178 3 = .ok (.arraylength, 1) := by decide +kernel
theorem dJ7_fill_53178_4 : decode cJ7_fill_53178 4 = .ok (.istore_n 3, 1) := by decide +kernel
theorem dJ7_fill_53178_5 : decode cJ7_fill_53178 5 = .ok (.iload_n 2, 1) := by decide +kernel
theorem dJ7_fill_53178_6 : decode cJ7_fill_53178 6 = .ok (.iload_n 3, 1) := by decide +kernel
theorem dJ7_fill_53178_7 : decode cJ7_fill_53178 7 = .ok (.if_icmp .ge 13, 3) := by decide +kernel
theorem dJ7_fill_53178_10 : decode cJ7_fill_53178 10 = .ok (.aload_n 0, 1) := by decide +kernel
theorem dJ7_fill_53178_11 : decode cJ7_fill_53178 11 = .ok (.iload_n 2, 1) := by decide +kernel
theorem dJ7_fill_53178_12 : decode cJ7_fill_53178 12 = .ok (.iload_n 1, 1) := by decide +kernel
theorem dJ7_fill_53178_13 : decode cJ7_fill_53178 13 = .ok (.iastore, 1) := by decide +kernel
theorem dJ7_fill_53178_14 : decode cJ7_fill_53178 14 = .ok (.iinc 2 1, 3) := by decide +kernel
theorem dJ7_fill_53178_17 : decode cJ7_fill_53178 17 = .ok (.goto (-12), 3) := by decide +kernel
theorem dJ7_fill_53178_20 : decode cJ7_fill_53178 20 = .ok (.return_, 1) := by decide +kernel
theorem dJ3_checkIndex_8e157_0 : decode cJ3_checkIndex_8e157 0 = .ok (.iload_n 0, 1) := by decide +kernel
theorem dJ3_checkIndex_8e157_1 : decode cJ3_checkIndex_8e157 1 = .ok (.ifCond .lt 8, 3) := by decide +kernel
theorem dJ3_checkIndex_8e157_4 : decode cJ3_checkIndex_8e157 4 = .ok (.iload_n 0, 1) := by decide +kernel
theorem dJ3_checkIndex_8e157_5 : decode cJ3_checkIndex_8e157 5 = .ok (.iload_n 1, 1) := by decide +kernel
theorem dJ3_checkIndex_8e157_6 : decode cJ3_checkIndex_8e157 6 = .ok (.if_icmp .lt 10, 3) := by decide +kernel
theorem dJ3_checkIndex_8e157_9 : decode cJ3_checkIndex_8e157 9 = .ok (.aload_n 2, 1) := by decide +kernel
theorem dJ3_checkIndex_8e157_10 : decode cJ3_checkIndex_8e157 10 = .ok (.iload_n 0, 1) := by decide +kernel
theorem dJ3_checkIndex_8e157_11 : decode cJ3_checkIndex_8e157 11 = .ok (.iload_n 1, 1) := by decide +kernel
theorem dJ3_checkIndex_8e157_12 : decode cJ3_checkIndex_8e157 12 = .ok (.invokestatic 95, 3) := by decide +kernel
theorem dJ3_checkIndex_8e157_15 : decode cJ3_checkIndex_8e157 15 = .ok (.athrow, 1) := by decide +kernel
theorem dJ3_checkIndex_8e157_16 : decode cJ3_checkIndex_8e157 16 = .ok (.iload_n 0, 1) := by decide +kernel
theorem dJ3_checkIndex_8e157_17 : decode cJ3_checkIndex_8e157 17 = .ok (.ireturn, 1) := by decide +kernel
theorem dL_law_0 : decode cL_law 0 = .ok (.new 7, 3) := by decide +kernel
theorem dL_law_3 : decode cL_law 3 = .ok (.dup, 1) := by decide +kernel
theorem dL_law_4 : decode cL_law 4 = .ok (.invokespecial 9, 3) := by decide +kernel
theorem dL_law_7 : decode cL_law 7 = .ok (.astore_n 1, 1) := by decide +kernel
theorem dL_law_8 : decode cL_law 8 = .ok (.new 10, 3) := by decide +kernel
theorem dL_law_11 : decode cL_law 11 = .ok (.dup, 1) := by decide +kernel
theorem dL_law_12 : decode cL_law 12 = .ok (.invokespecial 12, 3) := by decide +kernel
theorem dL_law_15 : decode cL_law 15 = .ok (.astore_n 2, 1) := by decide +kernel
theorem dL_law_16 : decode cL_law 16 = .ok (.iconst 0, 1) := by decide +kernel
theorem dL_law_17 : decode cL_law 17 = .ok (.istore_n 3, 1) := by decide +kernel
theorem dL_law_18 : decode cL_law 18 = .ok (.iload_n 3, 1) := by decide +kernel
theorem dL_law_19 : decode cL_law 19 = .ok (.aload_n 0, 1) := by decide +kernel
theorem dL_law_20 : decode cL_law 20 = .ok (.arraylength, 1) := by decide +kernel
theorem dL_law_21 : decode cL_law 21 = .ok (.bipush 7, 2) := by decide +kernel
theorem dL_law_23 : decode cL_law 23 = .ok (.isub, 1) := by decide +kernel
theorem dL_law_24 : decode cL_law 24 = .ok (.if_icmp .gt 1399, 3) := by decide +kernel
theorem dL_law_27 : decode cL_law 27 = .ok (.aload_n 0, 1) := by decide +kernel
theorem dL_law_28 : decode cL_law 28 = .ok (.iload_n 3, 1) := by decide +kernel
theorem dL_law_29 : decode cL_law 29 = .ok (.iaload, 1) := by decide +kernel
theorem dL_law_30 : decode cL_law 30 = .ok (.bipush 63, 2) := by decide +kernel
theorem dL_law_32 : decode cL_law 32 = .ok (.iand, 1) := by decide +kernel
theorem dL_law_33 : decode cL_law 33 = .ok (.tableswitch 1384 0 37 #[167, 200, 223, 298, 311, 334, 387, 400, 433, 456, 499, 532, 565, 588, 631, 674, 697, 720, 743, 756, 779, 812, 845, 858, 891, 924, 947, 970, 1003, 1036, 1069, 1123, 1136, 1149, 1192, 1235, 1298, 1351], 167) := by decide +kernel
theorem dL_law_200 : decode cL_law 200 = .ok (.aload_n 1, 1) := by decide +kernel
theorem dL_law_201 : decode cL_law 201 = .ok (.aload_n 0, 1) := by decide +kernel
theorem dL_law_202 : decode cL_law 202 = .ok (.iload_n 3, 1) := by decide +kernel
theorem dL_law_203 : decode cL_law 203 = .ok (.iconst 1, 1) := by decide +kernel
theorem dL_law_204 : decode cL_law 204 = .ok (.iadd, 1) := by decide +kernel
theorem dL_law_205 : decode cL_law 205 = .ok (.iaload, 1) := by decide +kernel
theorem dL_law_206 : decode cL_law 206 = .ok (.aload_n 0, 1) := by decide +kernel
theorem dL_law_207 : decode cL_law 207 = .ok (.iload_n 3, 1) := by decide +kernel
theorem dL_law_208 : decode cL_law 208 = .ok (.iconst 2, 1) := by decide +kernel
theorem dL_law_209 : decode cL_law 209 = .ok (.iadd, 1) := by decide +kernel
theorem dL_law_210 : decode cL_law 210 = .ok (.iaload, 1) := by decide +kernel
theorem dL_law_211 : decode cL_law 211 = .ok (.invokevirtual 13, 3) := by decide +kernel
theorem dL_law_214 : decode cL_law 214 = .ok (.aload_n 2, 1) := by decide +kernel
theorem dL_law_215 : decode cL_law 215 = .ok (.aload_n 0, 1) := by decide +kernel
theorem dL_law_216 : decode cL_law 216 = .ok (.iload_n 3, 1) := by decide +kernel
theorem dL_law_217 : decode cL_law 217 = .ok (.iconst 1, 1) := by decide +kernel
theorem dL_law_218 : decode cL_law 218 = .ok (.iadd, 1) := by decide +kernel
theorem dL_law_219 : decode cL_law 219 = .ok (.iaload, 1) := by decide +kernel
theorem dL_law_220 : decode cL_law 220 = .ok (.aload_n 0, 1) := by decide +kernel
theorem dL_law_221 : decode cL_law 221 = .ok (.iload_n 3, 1) := by decide +kernel
theorem dL_law_222 : decode cL_law 222 = .ok (.iconst 2, 1) := by decide +kernel
theorem dL_law_223 : decode cL_law 223 = .ok (.iadd, 1) := by decide +kernel
theorem dL_law_224 : decode cL_law 224 = .ok (.iaload, 1) := by decide +kernel
theorem dL_law_225 : decode cL_law 225 = .ok (.invokevirtual 17, 3) := by decide +kernel
theorem dL_law_228 : decode cL_law 228 = .ok (.if_icmp .eq 1189, 3) := by decide +kernel
theorem dL_law_231 : decode cL_law 231 = .ok (.iconst 0, 1) := by decide +kernel
theorem dL_law_232 : decode cL_law 232 = .ok (.ireturn, 1) := by decide +kernel
theorem dL_law_233 : decode cL_law 233 = .ok (.aload_n 1, 1) := by decide +kernel
theorem dL_law_234 : decode cL_law 234 = .ok (.aload_n 0, 1) := by decide +kernel
theorem dL_law_235 : decode cL_law 235 = .ok (.iload_n 3, 1) := by decide +kernel
theorem dL_law_236 : decode cL_law 236 = .ok (.iconst 1, 1) := by decide +kernel
theorem dL_law_237 : decode cL_law 237 = .ok (.iadd, 1) := by decide +kernel
theorem dL_law_238 : decode cL_law 238 = .ok (.iaload, 1) := by decide +kernel
theorem dL_law_239 : decode cL_law 239 = .ok (.invokevirtual 18, 3) := by decide +kernel
theorem dL_law_242 : decode cL_law 242 = .ok (.aload_n 2, 1) := by decide +kernel
theorem dL_law_243 : decode cL_law 243 = .ok (.aload_n 0, 1) := by decide +kernel
theorem dL_law_244 : decode cL_law 244 = .ok (.iload_n 3, 1) := by decide +kernel
theorem dL_law_245 : decode cL_law 245 = .ok (.iconst 1, 1) := by decide +kernel
theorem dL_law_246 : decode cL_law 246 = .ok (.iadd, 1) := by decide +kernel
theorem dL_law_247 : decode cL_law 247 = .ok (.iaload, 1) := by decide +kernel
theorem dL_law_248 : decode cL_law 248 = .ok (.invokevirtual 22, 3) := by decide +kernel
theorem dL_law_251 : decode cL_law 251 = .ok (.if_icmp .eq 1166, 3) := by decide +kernel
theorem dL_law_254 : decode cL_law 254 = .ok (.iconst 0, 1) := by decide +kernel
theorem dL_law_255 : decode cL_law 255 = .ok (.ireturn, 1) := by decide +kernel
theorem dL_law_256 : decode cL_law 256 = .ok (.aload_n 1, 1) := by decide +kernel
theorem dL_law_257 : decode cL_law 257 = .ok (.aload_n 0, 1) := by decide +kernel
theorem dL_law_258 : decode cL_law 258 = .ok (.iload_n 3, 1) := by decide +kernel
theorem dL_law_259 : decode cL_law 259 = .ok (.iconst 1, 1) := by decide +kernel
theorem dL_law_260 : decode cL_law 260 = .ok (.iadd, 1) := by decide +kernel
theorem dL_law_261 : decode cL_law 261 = .ok (.iaload, 1) := by decide +kernel
theorem dL_law_262 : decode cL_law 262 = .ok (.aload_n 0, 1) := by decide +kernel
theorem dL_law_263 : decode cL_law 263 = .ok (.iload_n 3, 1) := by decide +kernel
theorem dL_law_264 : decode cL_law 264 = .ok (.iconst 2, 1) := by decide +kernel
theorem dL_law_265 : decode cL_law 265 = .ok (.iadd, 1) := by decide +kernel
theorem dL_law_266 : decode cL_law 266 = .ok (.iaload, 1) := by decide +kernel
theorem dL_law_267 : decode cL_law 267 = .ok (.aload_n 0, 1) := by decide +kernel
theorem dL_law_268 : decode cL_law 268 = .ok (.iload_n 3, 1) := by decide +kernel
theorem dL_law_269 : decode cL_law 269 = .ok (.iconst 3, 1) := by decide +kernel
theorem dL_law_270 : decode cL_law 270 = .ok (.iadd, 1) := by decide +kernel
theorem dL_law_271 : decode cL_law 271 = .ok (.iaload, 1) := by decide +kernel
theorem dL_law_272 : decode cL_law 272 = .ok (.aload_n 0, 1) := by decide +kernel
theorem dL_law_273 : decode cL_law 273 = .ok (.iload_n 3, 1) := by decide +kernel
theorem dL_law_274 : decode cL_law 274 = .ok (.iconst 4, 1) := by decide +kernel
theorem dL_law_275 : decode cL_law 275 = .ok (.iadd, 1) := by decide +kernel
theorem dL_law_276 : decode cL_law 276 = .ok (.iaload, 1) := by decide +kernel
theorem dL_law_277 : decode cL_law 277 = .ok (.aload_n 0, 1) := by decide +kernel
theorem dL_law_278 : decode cL_law 278 = .ok (.iload_n 3, 1) := by decide +kernel
theorem dL_law_279 : decode cL_law 279 = .ok (.iconst 5, 1) := by decide +kernel
theorem dL_law_280 : decode cL_law 280 = .ok (.iadd, 1) := by decide +kernel
theorem dL_law_281 : decode cL_law 281 = .ok (.iaload, 1) := by decide +kernel
theorem dL_law_282 : decode cL_law 282 = .ok (.aload_n 0, 1) := by decide +kernel
theorem dL_law_283 : decode cL_law 283 = .ok (.iload_n 3, 1) := by decide +kernel
theorem dL_law_284 : decode cL_law 284 = .ok (.bipush 6, 2) := by decide +kernel
theorem dL_law_286 : decode cL_law 286 = .ok (.iadd, 1) := by decide +kernel
theorem dL_law_287 : decode cL_law 287 = .ok (.iaload, 1) := by decide +kernel
theorem dL_law_288 : decode cL_law 288 = .ok (.invokevirtual 23, 3) := by decide +kernel
theorem dL_law_291 : decode cL_law 291 = .ok (.aload_n 2, 1) := by decide +kernel
theorem dL_law_292 : decode cL_law 292 = .ok (.aload_n 0, 1) := by decide +kernel
theorem dL_law_293 : decode cL_law 293 = .ok (.iload_n 3, 1) := by decide +kernel
theorem dL_law_294 : decode cL_law 294 = .ok (.iconst 1, 1) := by decide +kernel
theorem dL_law_295 : decode cL_law 295 = .ok (.iadd, 1) := by decide +kernel
theorem dL_law_296 : decode cL_law 296 = .ok (.iaload, 1) := by decide +kernel
theorem dL_law_297 : decode cL_law 297 = .ok (.aload_n 0, 1) := by decide +kernel
theorem dL_law_298 : decode cL_law 298 = .ok (.iload_n 3, 1) := by decide +kernel
theorem dL_law_299 : decode cL_law 299 = .ok (.iconst 2, 1) := by decide +kernel
theorem dL_law_300 : decode cL_law 300 = .ok (.iadd, 1) := by decide +kernel
theorem dL_law_301 : decode cL_law 301 = .ok (.iaload, 1) := by decide +kernel
theorem dL_law_302 : decode cL_law 302 = .ok (.aload_n 0, 1) := by decide +kernel
theorem dL_law_303 : decode cL_law 303 = .ok (.iload_n 3, 1) := by decide +kernel
theorem dL_law_304 : decode cL_law 304 = .ok (.iconst 3, 1) := by decide +kernel
theorem dL_law_305 : decode cL_law 305 = .ok (.iadd, 1) := by decide +kernel
theorem dL_law_306 : decode cL_law 306 = .ok (.iaload, 1) := by decide +kernel
theorem dL_law_307 : decode cL_law 307 = .ok (.aload_n 0, 1) := by decide +kernel
theorem dL_law_308 : decode cL_law 308 = .ok (.iload_n 3, 1) := by decide +kernel
theorem dL_law_309 : decode cL_law 309 = .ok (.iconst 4, 1) := by decide +kernel
theorem dL_law_310 : decode cL_law 310 = .ok (.iadd, 1) := by decide +kernel
theorem dL_law_311 : decode cL_law 311 = .ok (.iaload, 1) := by decide +kernel
theorem dL_law_312 : decode cL_law 312 = .ok (.aload_n 0, 1) := by decide +kernel
theorem dL_law_313 : decode cL_law 313 = .ok (.iload_n 3, 1) := by decide +kernel
theorem dL_law_314 : decode cL_law 314 = .ok (.iconst 5, 1) := by decide +kernel
theorem dL_law_315 : decode cL_law 315 = .ok (.iadd, 1) := by decide +kernel
theorem dL_law_316 : decode cL_law 316 = .ok (.iaload, 1) := by decide +kernel
theorem dL_law_317 : decode cL_law 317 = .ok (.aload_n 0, 1) := by decide +kernel
theorem dL_law_318 : decode cL_law 318 = .ok (.iload_n 3, 1) := by decide +kernel
theorem dL_law_319 : decode cL_law 319 = .ok (.bipush 6, 2) := by decide +kernel
theorem dL_law_321 : decode cL_law 321 = .ok (.iadd, 1) := by decide +kernel
theorem dL_law_322 : decode cL_law 322 = .ok (.iaload, 1) := by decide +kernel
theorem dL_law_323 : decode cL_law 323 = .ok (.invokevirtual 27, 3) := by decide +kernel
theorem dL_law_326 : decode cL_law 326 = .ok (.if_icmp .eq 1091, 3) := by decide +kernel
theorem dL_law_329 : decode cL_law 329 = .ok (.iconst 0, 1) := by decide +kernel
theorem dL_law_330 : decode cL_law 330 = .ok (.ireturn, 1) := by decide +kernel
theorem dL_law_331 : decode cL_law 331 = .ok (.aload_n 1, 1) := by decide +kernel
theorem dL_law_332 : decode cL_law 332 = .ok (.invokevirtual 28, 3) := by decide +kernel
theorem dL_law_335 : decode cL_law 335 = .ok (.aload_n 2, 1) := by decide +kernel
theorem dL_law_336 : decode cL_law 336 = .ok (.invokevirtual 32, 3) := by decide +kernel
theorem dL_law_339 : decode cL_law 339 = .ok (.if_icmp .eq 1078, 3) := by decide +kernel
theorem dL_law_342 : decode cL_law 342 = .ok (.iconst 0, 1) := by decide +kernel
theorem dL_law_343 : decode cL_law 343 = .ok (.ireturn, 1) := by decide +kernel
theorem dL_law_344 : decode cL_law 344 = .ok (.aload_n 1, 1) := by decide +kernel
theorem dL_law_345 : decode cL_law 345 = .ok (.aload_n 0, 1) := by decide +kernel
theorem dL_law_346 : decode cL_law 346 = .ok (.iload_n 3, 1) := by decide +kernel
theorem dL_law_347 : decode cL_law 347 = .ok (.iconst 1, 1) := by decide +kernel
theorem dL_law_348 : decode cL_law 348 = .ok (.iadd, 1) := by decide +kernel
theorem dL_law_349 : decode cL_law 349 = .ok (.iaload, 1) := by decide +kernel
theorem dL_law_350 : decode cL_law 350 = .ok (.invokevirtual 33, 3) := by decide +kernel
theorem dL_law_353 : decode cL_law 353 = .ok (.aload_n 2, 1) := by decide +kernel
theorem dL_law_354 : decode cL_law 354 = .ok (.aload_n 0, 1) := by decide +kernel
theorem dL_law_355 : decode cL_law 355 = .ok (.iload_n 3, 1) := by decide +kernel
theorem dL_law_356 : decode cL_law 356 = .ok (.iconst 1, 1) := by decide +kernel
theorem dL_law_357 : decode cL_law 357 = .ok (.iadd, 1) := by decide +kernel
theorem dL_law_358 : decode cL_law 358 = .ok (.iaload, 1) := by decide +kernel
theorem dL_law_359 : decode cL_law 359 = .ok (.invokevirtual 36, 3) := by decide +kernel
theorem dL_law_362 : decode cL_law 362 = .ok (.if_icmp .eq 1055, 3) := by decide +kernel
theorem dL_law_365 : decode cL_law 365 = .ok (.iconst 0, 1) := by decide +kernel
theorem dL_law_366 : decode cL_law 366 = .ok (.ireturn, 1) := by decide +kernel
theorem dL_law_367 : decode cL_law 367 = .ok (.aload_n 1, 1) := by decide +kernel
theorem dL_law_368 : decode cL_law 368 = .ok (.aload_n 0, 1) := by decide +kernel
theorem dL_law_369 : decode cL_law 369 = .ok (.iload_n 3, 1) := by decide +kernel
theorem dL_law_370 : decode cL_law 370 = .ok (.iconst 1, 1) := by decide +kernel
theorem dL_law_371 : decode cL_law 371 = .ok (.iadd, 1) := by decide +kernel
theorem dL_law_372 : decode cL_law 372 = .ok (.iaload, 1) := by decide +kernel
theorem dL_law_373 : decode cL_law 373 = .ok (.aload_n 0, 1) := by decide +kernel
theorem dL_law_374 : decode cL_law 374 = .ok (.iload_n 3, 1) := by decide +kernel
theorem dL_law_375 : decode cL_law 375 = .ok (.iconst 2, 1) := by decide +kernel
theorem dL_law_376 : decode cL_law 376 = .ok (.iadd, 1) := by decide +kernel
theorem dL_law_377 : decode cL_law 377 = .ok (.iaload, 1) := by decide +kernel
theorem dL_law_378 : decode cL_law 378 = .ok (.aload_n 0, 1) := by decide +kernel
theorem dL_law_379 : decode cL_law 379 = .ok (.iload_n 3, 1) := by decide +kernel
theorem dL_law_380 : decode cL_law 380 = .ok (.iconst 3, 1) := by decide +kernel
theorem dL_law_381 : decode cL_law 381 = .ok (.iadd, 1) := by decide +kernel
theorem dL_law_382 : decode cL_law 382 = .ok (.iaload, 1) := by decide +kernel
theorem dL_law_383 : decode cL_law 383 = .ok (.aload_n 0, 1) := by decide +kernel
theorem dL_law_384 : decode cL_law 384 = .ok (.iload_n 3, 1) := by decide +kernel
theorem dL_law_385 : decode cL_law 385 = .ok (.iconst 4, 1) := by decide +kernel
theorem dL_law_386 : decode cL_law 386 = .ok (.iadd, 1) := by decide +kernel
theorem dL_law_387 : decode cL_law 387 = .ok (.iaload, 1) := by decide +kernel
theorem dL_law_388 : decode cL_law 388 = .ok (.invokevirtual 37, 3) := by decide +kernel
theorem dL_law_391 : decode cL_law 391 = .ok (.aload_n 2, 1) := by decide +kernel
theorem dL_law_392 : decode cL_law 392 = .ok (.aload_n 0, 1) := by decide +kernel
theorem dL_law_393 : decode cL_law 393 = .ok (.iload_n 3, 1) := by decide +kernel
theorem dL_law_394 : decode cL_law 394 = .ok (.iconst 1, 1) := by decide +kernel
theorem dL_law_395 : decode cL_law 395 = .ok (.iadd, 1) := by decide +kernel
theorem dL_law_396 : decode cL_law 396 = .ok (.iaload, 1) := by decide +kernel
theorem dL_law_397 : decode cL_law 397 = .ok (.aload_n 0, 1) := by decide +kernel
theorem dL_law_398 : decode cL_law 398 = .ok (.iload_n 3, 1) := by decide +kernel
theorem dL_law_399 : decode cL_law 399 = .ok (.iconst 2, 1) := by decide +kernel
theorem dL_law_400 : decode cL_law 400 = .ok (.iadd, 1) := by decide +kernel
theorem dL_law_401 : decode cL_law 401 = .ok (.iaload, 1) := by decide +kernel
theorem dL_law_402 : decode cL_law 402 = .ok (.aload_n 0, 1) := by decide +kernel
theorem dL_law_403 : decode cL_law 403 = .ok (.iload_n 3, 1) := by decide +kernel
theorem dL_law_404 : decode cL_law 404 = .ok (.iconst 3, 1) := by decide +kernel
theorem dL_law_405 : decode cL_law 405 = .ok (.iadd, 1) := by decide +kernel
theorem dL_law_406 : decode cL_law 406 = .ok (.iaload, 1) := by decide +kernel
theorem dL_law_407 : decode cL_law 407 = .ok (.aload_n 0, 1) := by decide +kernel
theorem dL_law_408 : decode cL_law 408 = .ok (.iload_n 3, 1) := by decide +kernel
theorem dL_law_409 : decode cL_law 409 = .ok (.iconst 4, 1) := by decide +kernel
theorem dL_law_410 : decode cL_law 410 = .ok (.iadd, 1) := by decide +kernel
theorem dL_law_411 : decode cL_law 411 = .ok (.iaload, 1) := by decide +kernel
theorem dL_law_412 : decode cL_law 412 = .ok (.invokevirtual 41, 3) := by decide +kernel
theorem dL_law_415 : decode cL_law 415 = .ok (.if_icmp .eq 1002, 3) := by decide +kernel
theorem dL_law_418 : decode cL_law 418 = .ok (.iconst 0, 1) := by decide +kernel
theorem dL_law_419 : decode cL_law 419 = .ok (.ireturn, 1) := by decide +kernel
theorem dL_law_420 : decode cL_law 420 = .ok (.aload_n 1, 1) := by decide +kernel
theorem dL_law_421 : decode cL_law 421 = .ok (.invokevirtual 42, 3) := by decide +kernel
theorem dL_law_424 : decode cL_law 424 = .ok (.aload_n 2, 1) := by decide +kernel
theorem dL_law_425 : decode cL_law 425 = .ok (.invokevirtual 45, 3) := by decide +kernel
theorem dL_law_428 : decode cL_law 428 = .ok (.if_icmp .eq 989, 3) := by decide +kernel
theorem dL_law_431 : decode cL_law 431 = .ok (.iconst 0, 1) := by decide +kernel
theorem dL_law_432 : decode cL_law 432 = .ok (.ireturn, 1) := by decide +kernel
theorem dL_law_433 : decode cL_law 433 = .ok (.aload_n 1, 1) := by decide +kernel
theorem dL_law_434 : decode cL_law 434 = .ok (.aload_n 0, 1) := by decide +kernel
theorem dL_law_435 : decode cL_law 435 = .ok (.iload_n 3, 1) := by decide +kernel
theorem dL_law_436 : decode cL_law 436 = .ok (.iconst 1, 1) := by decide +kernel
theorem dL_law_437 : decode cL_law 437 = .ok (.iadd, 1) := by decide +kernel
theorem dL_law_438 : decode cL_law 438 = .ok (.iaload, 1) := by decide +kernel
theorem dL_law_439 : decode cL_law 439 = .ok (.aload_n 0, 1) := by decide +kernel
theorem dL_law_440 : decode cL_law 440 = .ok (.iload_n 3, 1) := by decide +kernel
theorem dL_law_441 : decode cL_law 441 = .ok (.iconst 2, 1) := by decide +kernel
theorem dL_law_442 : decode cL_law 442 = .ok (.iadd, 1) := by decide +kernel
theorem dL_law_443 : decode cL_law 443 = .ok (.iaload, 1) := by decide +kernel
theorem dL_law_444 : decode cL_law 444 = .ok (.invokevirtual 46, 3) := by decide +kernel
theorem dL_law_447 : decode cL_law 447 = .ok (.aload_n 2, 1) := by decide +kernel
theorem dL_law_448 : decode cL_law 448 = .ok (.aload_n 0, 1) := by decide +kernel
theorem dL_law_449 : decode cL_law 449 = .ok (.iload_n 3, 1) := by decide +kernel
theorem dL_law_450 : decode cL_law 450 = .ok (.iconst 1, 1) := by decide +kernel
theorem dL_law_451 : decode cL_law 451 = .ok (.iadd, 1) := by decide +kernel
theorem dL_law_452 : decode cL_law 452 = .ok (.iaload, 1) := by decide +kernel
theorem dL_law_453 : decode cL_law 453 = .ok (.aload_n 0, 1) := by decide +kernel
theorem dL_law_454 : decode cL_law 454 = .ok (.iload_n 3, 1) := by decide +kernel
theorem dL_law_455 : decode cL_law 455 = .ok (.iconst 2, 1) := by decide +kernel
theorem dL_law_456 : decode cL_law 456 = .ok (.iadd, 1) := by decide +kernel
theorem dL_law_457 : decode cL_law 457 = .ok (.iaload, 1) := by decide +kernel
theorem dL_law_458 : decode cL_law 458 = .ok (.invokevirtual 49, 3) := by decide +kernel
theorem dL_law_461 : decode cL_law 461 = .ok (.if_icmp .eq 956, 3) := by decide +kernel
theorem dL_law_464 : decode cL_law 464 = .ok (.iconst 0, 1) := by decide +kernel
theorem dL_law_465 : decode cL_law 465 = .ok (.ireturn, 1) := by decide +kernel
theorem dL_law_466 : decode cL_law 466 = .ok (.aload_n 1, 1) := by decide +kernel
theorem dL_law_467 : decode cL_law 467 = .ok (.aload_n 0, 1) := by decide +kernel
theorem dL_law_468 : decode cL_law 468 = .ok (.iload_n 3, 1) := by decide +kernel
theorem dL_law_469 : decode cL_law 469 = .ok (.iconst 1, 1) := by decide +kernel
theorem dL_law_470 : decode cL_law 470 = .ok (.iadd, 1) := by decide +kernel
theorem dL_law_471 : decode cL_law 471 = .ok (.iaload, 1) := by decide +kernel
theorem dL_law_472 : decode cL_law 472 = .ok (.invokevirtual 50, 3) := by decide +kernel
theorem dL_law_475 : decode cL_law 475 = .ok (.aload_n 2, 1) := by decide +kernel
theorem dL_law_476 : decode cL_law 476 = .ok (.aload_n 0, 1) := by decide +kernel
theorem dL_law_477 : decode cL_law 477 = .ok (.iload_n 3, 1) := by decide +kernel
theorem dL_law_478 : decode cL_law 478 = .ok (.iconst 1, 1) := by decide +kernel
theorem dL_law_479 : decode cL_law 479 = .ok (.iadd, 1) := by decide +kernel
theorem dL_law_480 : decode cL_law 480 = .ok (.iaload, 1) := by decide +kernel
theorem dL_law_481 : decode cL_law 481 = .ok (.invokevirtual 53, 3) := by decide +kernel
theorem dL_law_484 : decode cL_law 484 = .ok (.if_icmp .eq 933, 3) := by decide +kernel
theorem dL_law_487 : decode cL_law 487 = .ok (.iconst 0, 1) := by decide +kernel
theorem dL_law_488 : decode cL_law 488 = .ok (.ireturn, 1) := by decide +kernel
theorem dL_law_489 : decode cL_law 489 = .ok (.aload_n 1, 1) := by decide +kernel
theorem dL_law_490 : decode cL_law 490 = .ok (.aload_n 0, 1) := by decide +kernel
theorem dL_law_491 : decode cL_law 491 = .ok (.iload_n 3, 1) := by decide +kernel
theorem dL_law_492 : decode cL_law 492 = .ok (.iconst 1, 1) := by decide +kernel
theorem dL_law_493 : decode cL_law 493 = .ok (.iadd, 1) := by decide +kernel
theorem dL_law_494 : decode cL_law 494 = .ok (.iaload, 1) := by decide +kernel
theorem dL_law_495 : decode cL_law 495 = .ok (.aload_n 0, 1) := by decide +kernel
theorem dL_law_496 : decode cL_law 496 = .ok (.iload_n 3, 1) := by decide +kernel
theorem dL_law_497 : decode cL_law 497 = .ok (.iconst 2, 1) := by decide +kernel
theorem dL_law_498 : decode cL_law 498 = .ok (.iadd, 1) := by decide +kernel
theorem dL_law_499 : decode cL_law 499 = .ok (.iaload, 1) := by decide +kernel
theorem dL_law_500 : decode cL_law 500 = .ok (.aload_n 0, 1) := by decide +kernel
theorem dL_law_501 : decode cL_law 501 = .ok (.iload_n 3, 1) := by decide +kernel
theorem dL_law_502 : decode cL_law 502 = .ok (.iconst 3, 1) := by decide +kernel
theorem dL_law_503 : decode cL_law 503 = .ok (.iadd, 1) := by decide +kernel
theorem dL_law_504 : decode cL_law 504 = .ok (.iaload, 1) := by decide +kernel
theorem dL_law_505 : decode cL_law 505 = .ok (.invokevirtual 54, 3) := by decide +kernel
theorem dL_law_508 : decode cL_law 508 = .ok (.aload_n 2, 1) := by decide +kernel
theorem dL_law_509 : decode cL_law 509 = .ok (.aload_n 0, 1) := by decide +kernel
theorem dL_law_510 : decode cL_law 510 = .ok (.iload_n 3, 1) := by decide +kernel
theorem dL_law_511 : decode cL_law 511 = .ok (.iconst 1, 1) := by decide +kernel
theorem dL_law_512 : decode cL_law 512 = .ok (.iadd, 1) := by decide +kernel
theorem dL_law_513 : decode cL_law 513 = .ok (.iaload, 1) := by decide +kernel
theorem dL_law_514 : decode cL_law 514 = .ok (.aload_n 0, 1) := by decide +kernel
theorem dL_law_515 : decode cL_law 515 = .ok (.iload_n 3, 1) := by decide +kernel
theorem dL_law_516 : decode cL_law 516 = .ok (.iconst 2, 1) := by decide +kernel
theorem dL_law_517 : decode cL_law 517 = .ok (.iadd, 1) := by decide +kernel
theorem dL_law_518 : decode cL_law 518 = .ok (.iaload, 1) := by decide +kernel
theorem dL_law_519 : decode cL_law 519 = .ok (.aload_n 0, 1) := by decide +kernel
theorem dL_law_520 : decode cL_law 520 = .ok (.iload_n 3, 1) := by decide +kernel
theorem dL_law_521 : decode cL_law 521 = .ok (.iconst 3, 1) := by decide +kernel
theorem dL_law_522 : decode cL_law 522 = .ok (.iadd, 1) := by decide +kernel
theorem dL_law_523 : decode cL_law 523 = .ok (.iaload, 1) := by decide +kernel
theorem dL_law_524 : decode cL_law 524 = .ok (.invokevirtual 58, 3) := by decide +kernel
theorem dL_law_527 : decode cL_law 527 = .ok (.if_icmp .eq 890, 3) := by decide +kernel
theorem dL_law_530 : decode cL_law 530 = .ok (.iconst 0, 1) := by decide +kernel
theorem dL_law_531 : decode cL_law 531 = .ok (.ireturn, 1) := by decide +kernel
theorem dL_law_532 : decode cL_law 532 = .ok (.aload_n 1, 1) := by decide +kernel
theorem dL_law_533 : decode cL_law 533 = .ok (.aload_n 0, 1) := by decide +kernel
theorem dL_law_534 : decode cL_law 534 = .ok (.iload_n 3, 1) := by decide +kernel
theorem dL_law_535 : decode cL_law 535 = .ok (.iconst 1, 1) := by decide +kernel
theorem dL_law_536 : decode cL_law 536 = .ok (.iadd, 1) := by decide +kernel
theorem dL_law_537 : decode cL_law 537 = .ok (.iaload, 1) := by decide +kernel
theorem dL_law_538 : decode cL_law 538 = .ok (.aload_n 0, 1) := by decide +kernel
theorem dL_law_539 : decode cL_law 539 = .ok (.iload_n 3, 1) := by decide +kernel
theorem dL_law_540 : decode cL_law 540 = .ok (.iconst 2, 1) := by decide +kernel
theorem dL_law_541 : decode cL_law 541 = .ok (.iadd, 1) := by decide +kernel
theorem dL_law_542 : decode cL_law 542 = .ok (.iaload, 1) := by decide +kernel
theorem dL_law_543 : decode cL_law 543 = .ok (.invokevirtual 59, 3) := by decide +kernel
theorem dL_law_546 : decode cL_law 546 = .ok (.aload_n 2, 1) := by decide +kernel
theorem dL_law_547 : decode cL_law 547 = .ok (.aload_n 0, 1) := by decide +kernel
theorem dL_law_548 : decode cL_law 548 = .ok (.iload_n 3, 1) := by decide +kernel
theorem dL_law_549 : decode cL_law 549 = .ok (.iconst 1, 1) := by decide +kernel
theorem dL_law_550 : decode cL_law 550 = .ok (.iadd, 1) := by decide +kernel
theorem dL_law_551 : decode cL_law 551 = .ok (.iaload, 1) := by decide +kernel
theorem dL_law_552 : decode cL_law 552 = .ok (.aload_n 0, 1) := by decide +kernel
theorem dL_law_553 : decode cL_law 553 = .ok (.iload_n 3, 1) := by decide +kernel
theorem dL_law_554 : decode cL_law 554 = .ok (.iconst 2, 1) := by decide +kernel
theorem dL_law_555 : decode cL_law 555 = .ok (.iadd, 1) := by decide +kernel
theorem dL_law_556 : decode cL_law 556 = .ok (.iaload, 1) := by decide +kernel
theorem dL_law_557 : decode cL_law 557 = .ok (.invokevirtual 62, 3) := by decide +kernel
theorem dL_law_560 : decode cL_law 560 = .ok (.if_icmp .eq 857, 3) := by decide +kernel
theorem dL_law_563 : decode cL_law 563 = .ok (.iconst 0, 1) := by decide +kernel
theorem dL_law_564 : decode cL_law 564 = .ok (.ireturn, 1) := by decide +kernel
theorem dL_law_565 : decode cL_law 565 = .ok (.aload_n 1, 1) := by decide +kernel
theorem dL_law_566 : decode cL_law 566 = .ok (.aload_n 0, 1) := by decide +kernel
theorem dL_law_567 : decode cL_law 567 = .ok (.iload_n 3, 1) := by decide +kernel
theorem dL_law_568 : decode cL_law 568 = .ok (.iconst 1, 1) := by decide +kernel
theorem dL_law_569 : decode cL_law 569 = .ok (.iadd, 1) := by decide +kernel
theorem dL_law_570 : decode cL_law 570 = .ok (.iaload, 1) := by decide +kernel
theorem dL_law_571 : decode cL_law 571 = .ok (.aload_n 0, 1) := by decide +kernel
theorem dL_law_572 : decode cL_law 572 = .ok (.iload_n 3, 1) := by decide +kernel
theorem dL_law_573 : decode cL_law 573 = .ok (.iconst 2, 1) := by decide +kernel
theorem dL_law_574 : decode cL_law 574 = .ok (.iadd, 1) := by decide +kernel
theorem dL_law_575 : decode cL_law 575 = .ok (.iaload, 1) := by decide +kernel
theorem dL_law_576 : decode cL_law 576 = .ok (.invokevirtual 63, 3) := by decide +kernel
theorem dL_law_579 : decode cL_law 579 = .ok (.aload_n 2, 1) := by decide +kernel
theorem dL_law_580 : decode cL_law 580 = .ok (.aload_n 0, 1) := by decide +kernel
theorem dL_law_581 : decode cL_law 581 = .ok (.iload_n 3, 1) := by decide +kernel
theorem dL_law_582 : decode cL_law 582 = .ok (.iconst 1, 1) := by decide +kernel
theorem dL_law_583 : decode cL_law 583 = .ok (.iadd, 1) := by decide +kernel
theorem dL_law_584 : decode cL_law 584 = .ok (.iaload, 1) := by decide +kernel
theorem dL_law_585 : decode cL_law 585 = .ok (.aload_n 0, 1) := by decide +kernel
theorem dL_law_586 : decode cL_law 586 = .ok (.iload_n 3, 1) := by decide +kernel
theorem dL_law_587 : decode cL_law 587 = .ok (.iconst 2, 1) := by decide +kernel
theorem dL_law_588 : decode cL_law 588 = .ok (.iadd, 1) := by decide +kernel
theorem dL_law_589 : decode cL_law 589 = .ok (.iaload, 1) := by decide +kernel
theorem dL_law_590 : decode cL_law 590 = .ok (.invokevirtual 66, 3) := by decide +kernel
theorem dL_law_593 : decode cL_law 593 = .ok (.if_icmp .eq 824, 3) := by decide +kernel
theorem dL_law_596 : decode cL_law 596 = .ok (.iconst 0, 1) := by decide +kernel
theorem dL_law_597 : decode cL_law 597 = .ok (.ireturn, 1) := by decide +kernel
theorem dL_law_598 : decode cL_law 598 = .ok (.aload_n 1, 1) := by decide +kernel
theorem dL_law_599 : decode cL_law 599 = .ok (.aload_n 0, 1) := by decide +kernel
theorem dL_law_600 : decode cL_law 600 = .ok (.iload_n 3, 1) := by decide +kernel
theorem dL_law_601 : decode cL_law 601 = .ok (.iconst 1, 1) := by decide +kernel
theorem dL_law_602 : decode cL_law 602 = .ok (.iadd, 1) := by decide +kernel
theorem dL_law_603 : decode cL_law 603 = .ok (.iaload, 1) := by decide +kernel
theorem dL_law_604 : decode cL_law 604 = .ok (.invokevirtual 67, 3) := by decide +kernel
theorem dL_law_607 : decode cL_law 607 = .ok (.aload_n 2, 1) := by decide +kernel
theorem dL_law_608 : decode cL_law 608 = .ok (.aload_n 0, 1) := by decide +kernel
theorem dL_law_609 : decode cL_law 609 = .ok (.iload_n 3, 1) := by decide +kernel
theorem dL_law_610 : decode cL_law 610 = .ok (.iconst 1, 1) := by decide +kernel
theorem dL_law_611 : decode cL_law 611 = .ok (.iadd, 1) := by decide +kernel
theorem dL_law_612 : decode cL_law 612 = .ok (.iaload, 1) := by decide +kernel
theorem dL_law_613 : decode cL_law 613 = .ok (.invokevirtual 70, 3) := by decide +kernel
theorem dL_law_616 : decode cL_law 616 = .ok (.if_icmp .eq 801, 3) := by decide +kernel
theorem dL_law_619 : decode cL_law 619 = .ok (.iconst 0, 1) := by decide +kernel
theorem dL_law_620 : decode cL_law 620 = .ok (.ireturn, 1) := by decide +kernel
theorem dL_law_621 : decode cL_law 621 = .ok (.aload_n 1, 1) := by decide +kernel
theorem dL_law_622 : decode cL_law 622 = .ok (.aload_n 0, 1) := by decide +kernel
theorem dL_law_623 : decode cL_law 623 = .ok (.iload_n 3, 1) := by decide +kernel
theorem dL_law_624 : decode cL_law 624 = .ok (.iconst 1, 1) := by decide +kernel
theorem dL_law_625 : decode cL_law 625 = .ok (.iadd, 1) := by decide +kernel
theorem dL_law_626 : decode cL_law 626 = .ok (.iaload, 1) := by decide +kernel
theorem dL_law_627 : decode cL_law 627 = .ok (.aload_n 0, 1) := by decide +kernel
theorem dL_law_628 : decode cL_law 628 = .ok (.iload_n 3, 1) := by decide +kernel
theorem dL_law_629 : decode cL_law 629 = .ok (.iconst 2, 1) := by decide +kernel
theorem dL_law_630 : decode cL_law 630 = .ok (.iadd, 1) := by decide +kernel
theorem dL_law_631 : decode cL_law 631 = .ok (.iaload, 1) := by decide +kernel
theorem dL_law_632 : decode cL_law 632 = .ok (.aload_n 0, 1) := by decide +kernel
theorem dL_law_633 : decode cL_law 633 = .ok (.iload_n 3, 1) := by decide +kernel
theorem dL_law_634 : decode cL_law 634 = .ok (.iconst 3, 1) := by decide +kernel
theorem dL_law_635 : decode cL_law 635 = .ok (.iadd, 1) := by decide +kernel
theorem dL_law_636 : decode cL_law 636 = .ok (.iaload, 1) := by decide +kernel
theorem dL_law_637 : decode cL_law 637 = .ok (.invokevirtual 71, 3) := by decide +kernel
theorem dL_law_640 : decode cL_law 640 = .ok (.aload_n 2, 1) := by decide +kernel
theorem dL_law_641 : decode cL_law 641 = .ok (.aload_n 0, 1) := by decide +kernel
theorem dL_law_642 : decode cL_law 642 = .ok (.iload_n 3, 1) := by decide +kernel
theorem dL_law_643 : decode cL_law 643 = .ok (.iconst 1, 1) := by decide +kernel
theorem dL_law_644 : decode cL_law 644 = .ok (.iadd, 1) := by decide +kernel
theorem dL_law_645 : decode cL_law 645 = .ok (.iaload, 1) := by decide +kernel
theorem dL_law_646 : decode cL_law 646 = .ok (.aload_n 0, 1) := by decide +kernel
theorem dL_law_647 : decode cL_law 647 = .ok (.iload_n 3, 1) := by decide +kernel
theorem dL_law_648 : decode cL_law 648 = .ok (.iconst 2, 1) := by decide +kernel
theorem dL_law_649 : decode cL_law 649 = .ok (.iadd, 1) := by decide +kernel
theorem dL_law_650 : decode cL_law 650 = .ok (.iaload, 1) := by decide +kernel
theorem dL_law_651 : decode cL_law 651 = .ok (.aload_n 0, 1) := by decide +kernel
theorem dL_law_652 : decode cL_law 652 = .ok (.iload_n 3, 1) := by decide +kernel
theorem dL_law_653 : decode cL_law 653 = .ok (.iconst 3, 1) := by decide +kernel
theorem dL_law_654 : decode cL_law 654 = .ok (.iadd, 1) := by decide +kernel
theorem dL_law_655 : decode cL_law 655 = .ok (.iaload, 1) := by decide +kernel
theorem dL_law_656 : decode cL_law 656 = .ok (.invokevirtual 74, 3) := by decide +kernel
theorem dL_law_659 : decode cL_law 659 = .ok (.if_icmp .eq 758, 3) := by decide +kernel
theorem dL_law_662 : decode cL_law 662 = .ok (.iconst 0, 1) := by decide +kernel
theorem dL_law_663 : decode cL_law 663 = .ok (.ireturn, 1) := by decide +kernel
theorem dL_law_664 : decode cL_law 664 = .ok (.aload_n 1, 1) := by decide +kernel
theorem dL_law_665 : decode cL_law 665 = .ok (.aload_n 0, 1) := by decide +kernel
theorem dL_law_666 : decode cL_law 666 = .ok (.iload_n 3, 1) := by decide +kernel
theorem dL_law_667 : decode cL_law 667 = .ok (.iconst 1, 1) := by decide +kernel
theorem dL_law_668 : decode cL_law 668 = .ok (.iadd, 1) := by decide +kernel
theorem dL_law_669 : decode cL_law 669 = .ok (.iaload, 1) := by decide +kernel
theorem dL_law_670 : decode cL_law 670 = .ok (.aload_n 0, 1) := by decide +kernel
theorem dL_law_671 : decode cL_law 671 = .ok (.iload_n 3, 1) := by decide +kernel
theorem dL_law_672 : decode cL_law 672 = .ok (.iconst 2, 1) := by decide +kernel
theorem dL_law_673 : decode cL_law 673 = .ok (.iadd, 1) := by decide +kernel
theorem dL_law_674 : decode cL_law 674 = .ok (.iaload, 1) := by decide +kernel
theorem dL_law_675 : decode cL_law 675 = .ok (.aload_n 0, 1) := by decide +kernel
theorem dL_law_676 : decode cL_law 676 = .ok (.iload_n 3, 1) := by decide +kernel
theorem dL_law_677 : decode cL_law 677 = .ok (.iconst 3, 1) := by decide +kernel
theorem dL_law_678 : decode cL_law 678 = .ok (.iadd, 1) := by decide +kernel
theorem dL_law_679 : decode cL_law 679 = .ok (.iaload, 1) := by decide +kernel
theorem dL_law_680 : decode cL_law 680 = .ok (.invokevirtual 75, 3) := by decide +kernel
theorem dL_law_683 : decode cL_law 683 = .ok (.aload_n 2, 1) := by decide +kernel
theorem dL_law_684 : decode cL_law 684 = .ok (.aload_n 0, 1) := by decide +kernel
theorem dL_law_685 : decode cL_law 685 = .ok (.iload_n 3, 1) := by decide +kernel
theorem dL_law_686 : decode cL_law 686 = .ok (.iconst 1, 1) := by decide +kernel
theorem dL_law_687 : decode cL_law 687 = .ok (.iadd, 1) := by decide +kernel
theorem dL_law_688 : decode cL_law 688 = .ok (.iaload, 1) := by decide +kernel
theorem dL_law_689 : decode cL_law 689 = .ok (.aload_n 0, 1) := by decide +kernel
theorem dL_law_690 : decode cL_law 690 = .ok (.iload_n 3, 1) := by decide +kernel
theorem dL_law_691 : decode cL_law 691 = .ok (.iconst 2, 1) := by decide +kernel
theorem dL_law_692 : decode cL_law 692 = .ok (.iadd, 1) := by decide +kernel
theorem dL_law_693 : decode cL_law 693 = .ok (.iaload, 1) := by decide +kernel
theorem dL_law_694 : decode cL_law 694 = .ok (.aload_n 0, 1) := by decide +kernel
theorem dL_law_695 : decode cL_law 695 = .ok (.iload_n 3, 1) := by decide +kernel
theorem dL_law_696 : decode cL_law 696 = .ok (.iconst 3, 1) := by decide +kernel
theorem dL_law_697 : decode cL_law 697 = .ok (.iadd, 1) := by decide +kernel
theorem dL_law_698 : decode cL_law 698 = .ok (.iaload, 1) := by decide +kernel
theorem dL_law_699 : decode cL_law 699 = .ok (.invokevirtual 78, 3) := by decide +kernel
theorem dL_law_702 : decode cL_law 702 = .ok (.if_icmp .eq 715, 3) := by decide +kernel
theorem dL_law_705 : decode cL_law 705 = .ok (.iconst 0, 1) := by decide +kernel
theorem dL_law_706 : decode cL_law 706 = .ok (.ireturn, 1) := by decide +kernel
theorem dL_law_707 : decode cL_law 707 = .ok (.aload_n 1, 1) := by decide +kernel
theorem dL_law_708 : decode cL_law 708 = .ok (.aload_n 0, 1) := by decide +kernel
theorem dL_law_709 : decode cL_law 709 = .ok (.iload_n 3, 1) := by decide +kernel
theorem dL_law_710 : decode cL_law 710 = .ok (.iconst 1, 1) := by decide +kernel
theorem dL_law_711 : decode cL_law 711 = .ok (.iadd, 1) := by decide +kernel
theorem dL_law_712 : decode cL_law 712 = .ok (.iaload, 1) := by decide +kernel
theorem dL_law_713 : decode cL_law 713 = .ok (.invokevirtual 79, 3) := by decide +kernel
theorem dL_law_716 : decode cL_law 716 = .ok (.aload_n 2, 1) := by decide +kernel
theorem dL_law_717 : decode cL_law 717 = .ok (.aload_n 0, 1) := by decide +kernel
theorem dL_law_718 : decode cL_law 718 = .ok (.iload_n 3, 1) := by decide +kernel
theorem dL_law_719 : decode cL_law 719 = .ok (.iconst 1, 1) := by decide +kernel
theorem dL_law_720 : decode cL_law 720 = .ok (.iadd, 1) := by decide +kernel
theorem dL_law_721 : decode cL_law 721 = .ok (.iaload, 1) := by decide +kernel
theorem dL_law_722 : decode cL_law 722 = .ok (.invokevirtual 82, 3) := by decide +kernel
theorem dL_law_725 : decode cL_law 725 = .ok (.if_icmp .eq 692, 3) := by decide +kernel
theorem dL_law_728 : decode cL_law 728 = .ok (.iconst 0, 1) := by decide +kernel
theorem dL_law_729 : decode cL_law 729 = .ok (.ireturn, 1) := by decide +kernel
theorem dL_law_730 : decode cL_law 730 = .ok (.aload_n 1, 1) := by decide +kernel
theorem dL_law_731 : decode cL_law 731 = .ok (.aload_n 0, 1) := by decide +kernel
theorem dL_law_732 : decode cL_law 732 = .ok (.iload_n 3, 1) := by decide +kernel
theorem dL_law_733 : decode cL_law 733 = .ok (.iconst 1, 1) := by decide +kernel
theorem dL_law_734 : decode cL_law 734 = .ok (.iadd, 1) := by decide +kernel
theorem dL_law_735 : decode cL_law 735 = .ok (.iaload, 1) := by decide +kernel
theorem dL_law_736 : decode cL_law 736 = .ok (.invokevirtual 83, 3) := by decide +kernel
theorem dL_law_739 : decode cL_law 739 = .ok (.aload_n 2, 1) := by decide +kernel
theorem dL_law_740 : decode cL_law 740 = .ok (.aload_n 0, 1) := by decide +kernel
theorem dL_law_741 : decode cL_law 741 = .ok (.iload_n 3, 1) := by decide +kernel
theorem dL_law_742 : decode cL_law 742 = .ok (.iconst 1, 1) := by decide +kernel
theorem dL_law_743 : decode cL_law 743 = .ok (.iadd, 1) := by decide +kernel
theorem dL_law_744 : decode cL_law 744 = .ok (.iaload, 1) := by decide +kernel
theorem dL_law_745 : decode cL_law 745 = .ok (.invokevirtual 86, 3) := by decide +kernel
theorem dL_law_748 : decode cL_law 748 = .ok (.if_icmp .eq 669, 3) := by decide +kernel
theorem dL_law_751 : decode cL_law 751 = .ok (.iconst 0, 1) := by decide +kernel
theorem dL_law_752 : decode cL_law 752 = .ok (.ireturn, 1) := by decide +kernel
theorem dL_law_753 : decode cL_law 753 = .ok (.aload_n 1, 1) := by decide +kernel
theorem dL_law_754 : decode cL_law 754 = .ok (.aload_n 0, 1) := by decide +kernel
theorem dL_law_755 : decode cL_law 755 = .ok (.iload_n 3, 1) := by decide +kernel
theorem dL_law_756 : decode cL_law 756 = .ok (.iconst 1, 1) := by decide +kernel
theorem dL_law_757 : decode cL_law 757 = .ok (.iadd, 1) := by decide +kernel
theorem dL_law_758 : decode cL_law 758 = .ok (.iaload, 1) := by decide +kernel
theorem dL_law_759 : decode cL_law 759 = .ok (.invokevirtual 87, 3) := by decide +kernel
theorem dL_law_762 : decode cL_law 762 = .ok (.aload_n 2, 1) := by decide +kernel
theorem dL_law_763 : decode cL_law 763 = .ok (.aload_n 0, 1) := by decide +kernel
theorem dL_law_764 : decode cL_law 764 = .ok (.iload_n 3, 1) := by decide +kernel
theorem dL_law_765 : decode cL_law 765 = .ok (.iconst 1, 1) := by decide +kernel
theorem dL_law_766 : decode cL_law 766 = .ok (.iadd, 1) := by decide +kernel
theorem dL_law_767 : decode cL_law 767 = .ok (.iaload, 1) := by decide +kernel
theorem dL_law_768 : decode cL_law 768 = .ok (.invokevirtual 90, 3) := by decide +kernel
theorem dL_law_771 : decode cL_law 771 = .ok (.if_icmp .eq 646, 3) := by decide +kernel
theorem dL_law_774 : decode cL_law 774 = .ok (.iconst 0, 1) := by decide +kernel
theorem dL_law_775 : decode cL_law 775 = .ok (.ireturn, 1) := by decide +kernel
theorem dL_law_776 : decode cL_law 776 = .ok (.aload_n 1, 1) := by decide +kernel
theorem dL_law_777 : decode cL_law 777 = .ok (.invokevirtual 91, 3) := by decide +kernel
theorem dL_law_780 : decode cL_law 780 = .ok (.aload_n 2, 1) := by decide +kernel
theorem dL_law_781 : decode cL_law 781 = .ok (.invokevirtual 94, 3) := by decide +kernel
theorem dL_law_784 : decode cL_law 784 = .ok (.if_icmp .eq 633, 3) := by decide +kernel
theorem dL_law_787 : decode cL_law 787 = .ok (.iconst 0, 1) := by decide +kernel
theorem dL_law_788 : decode cL_law 788 = .ok (.ireturn, 1) := by decide +kernel
theorem dL_law_789 : decode cL_law 789 = .ok (.aload_n 1, 1) := by decide +kernel
theorem dL_law_790 : decode cL_law 790 = .ok (.aload_n 0, 1) := by decide +kernel
theorem dL_law_791 : decode cL_law 791 = .ok (.iload_n 3, 1) := by decide +kernel
theorem dL_law_792 : decode cL_law 792 = .ok (.iconst 1, 1) := by decide +kernel
theorem dL_law_793 : decode cL_law 793 = .ok (.iadd, 1) := by decide +kernel
theorem dL_law_794 : decode cL_law 794 = .ok (.iaload, 1) := by decide +kernel
theorem dL_law_795 : decode cL_law 795 = .ok (.invokevirtual 95, 3) := by decide +kernel
theorem dL_law_798 : decode cL_law 798 = .ok (.aload_n 2, 1) := by decide +kernel
theorem dL_law_799 : decode cL_law 799 = .ok (.aload_n 0, 1) := by decide +kernel
theorem dL_law_800 : decode cL_law 800 = .ok (.iload_n 3, 1) := by decide +kernel
theorem dL_law_801 : decode cL_law 801 = .ok (.iconst 1, 1) := by decide +kernel
theorem dL_law_802 : decode cL_law 802 = .ok (.iadd, 1) := by decide +kernel
theorem dL_law_803 : decode cL_law 803 = .ok (.iaload, 1) := by decide +kernel
theorem dL_law_804 : decode cL_law 804 = .ok (.invokevirtual 98, 3) := by decide +kernel
theorem dL_law_807 : decode cL_law 807 = .ok (.if_icmp .eq 610, 3) := by decide +kernel
theorem dL_law_810 : decode cL_law 810 = .ok (.iconst 0, 1) := by decide +kernel
theorem dL_law_811 : decode cL_law 811 = .ok (.ireturn, 1) := by decide +kernel
theorem dL_law_812 : decode cL_law 812 = .ok (.aload_n 1, 1) := by decide +kernel
theorem dL_law_813 : decode cL_law 813 = .ok (.aload_n 0, 1) := by decide +kernel
theorem dL_law_814 : decode cL_law 814 = .ok (.iload_n 3, 1) := by decide +kernel
theorem dL_law_815 : decode cL_law 815 = .ok (.iconst 1, 1) := by decide +kernel
theorem dL_law_816 : decode cL_law 816 = .ok (.iadd, 1) := by decide +kernel
theorem dL_law_817 : decode cL_law 817 = .ok (.iaload, 1) := by decide +kernel
theorem dL_law_818 : decode cL_law 818 = .ok (.aload_n 0, 1) := by decide +kernel
theorem dL_law_819 : decode cL_law 819 = .ok (.iload_n 3, 1) := by decide +kernel
theorem dL_law_820 : decode cL_law 820 = .ok (.iconst 2, 1) := by decide +kernel
theorem dL_law_821 : decode cL_law 821 = .ok (.iadd, 1) := by decide +kernel
theorem dL_law_822 : decode cL_law 822 = .ok (.iaload, 1) := by decide +kernel
theorem dL_law_823 : decode cL_law 823 = .ok (.invokevirtual 99, 3) := by decide +kernel
theorem dL_law_826 : decode cL_law 826 = .ok (.aload_n 2, 1) := by decide +kernel
theorem dL_law_827 : decode cL_law 827 = .ok (.aload_n 0, 1) := by decide +kernel
theorem dL_law_828 : decode cL_law 828 = .ok (.iload_n 3, 1) := by decide +kernel
theorem dL_law_829 : decode cL_law 829 = .ok (.iconst 1, 1) := by decide +kernel
theorem dL_law_830 : decode cL_law 830 = .ok (.iadd, 1) := by decide +kernel
theorem dL_law_831 : decode cL_law 831 = .ok (.iaload, 1) := by decide +kernel
theorem dL_law_832 : decode cL_law 832 = .ok (.aload_n 0, 1) := by decide +kernel
theorem dL_law_833 : decode cL_law 833 = .ok (.iload_n 3, 1) := by decide +kernel
theorem dL_law_834 : decode cL_law 834 = .ok (.iconst 2, 1) := by decide +kernel
theorem dL_law_835 : decode cL_law 835 = .ok (.iadd, 1) := by decide +kernel
theorem dL_law_836 : decode cL_law 836 = .ok (.iaload, 1) := by decide +kernel
theorem dL_law_837 : decode cL_law 837 = .ok (.invokevirtual 102, 3) := by decide +kernel
theorem dL_law_840 : decode cL_law 840 = .ok (.if_icmp .eq 577, 3) := by decide +kernel
theorem dL_law_843 : decode cL_law 843 = .ok (.iconst 0, 1) := by decide +kernel
theorem dL_law_844 : decode cL_law 844 = .ok (.ireturn, 1) := by decide +kernel
theorem dL_law_845 : decode cL_law 845 = .ok (.aload_n 1, 1) := by decide +kernel
theorem dL_law_846 : decode cL_law 846 = .ok (.aload_n 0, 1) := by decide +kernel
theorem dL_law_847 : decode cL_law 847 = .ok (.iload_n 3, 1) := by decide +kernel
theorem dL_law_848 : decode cL_law 848 = .ok (.iconst 1, 1) := by decide +kernel
theorem dL_law_849 : decode cL_law 849 = .ok (.iadd, 1) := by decide +kernel
theorem dL_law_850 : decode cL_law 850 = .ok (.iaload, 1) := by decide +kernel
theorem dL_law_851 : decode cL_law 851 = .ok (.aload_n 0, 1) := by decide +kernel
theorem dL_law_852 : decode cL_law 852 = .ok (.iload_n 3, 1) := by decide +kernel
theorem dL_law_853 : decode cL_law 853 = .ok (.iconst 2, 1) := by decide +kernel
theorem dL_law_854 : decode cL_law 854 = .ok (.iadd, 1) := by decide +kernel
theorem dL_law_855 : decode cL_law 855 = .ok (.iaload, 1) := by decide +kernel
theorem dL_law_856 : decode cL_law 856 = .ok (.invokevirtual 103, 3) := by decide +kernel
theorem dL_law_859 : decode cL_law 859 = .ok (.aload_n 2, 1) := by decide +kernel
theorem dL_law_860 : decode cL_law 860 = .ok (.aload_n 0, 1) := by decide +kernel
theorem dL_law_861 : decode cL_law 861 = .ok (.iload_n 3, 1) := by decide +kernel
theorem dL_law_862 : decode cL_law 862 = .ok (.iconst 1, 1) := by decide +kernel
theorem dL_law_863 : decode cL_law 863 = .ok (.iadd, 1) := by decide +kernel
theorem dL_law_864 : decode cL_law 864 = .ok (.iaload, 1) := by decide +kernel
theorem dL_law_865 : decode cL_law 865 = .ok (.aload_n 0, 1) := by decide +kernel
theorem dL_law_866 : decode cL_law 866 = .ok (.iload_n 3, 1) := by decide +kernel
theorem dL_law_867 : decode cL_law 867 = .ok (.iconst 2, 1) := by decide +kernel
theorem dL_law_868 : decode cL_law 868 = .ok (.iadd, 1) := by decide +kernel
theorem dL_law_869 : decode cL_law 869 = .ok (.iaload, 1) := by decide +kernel
theorem dL_law_870 : decode cL_law 870 = .ok (.invokevirtual 106, 3) := by decide +kernel
theorem dL_law_873 : decode cL_law 873 = .ok (.if_icmp .eq 544, 3) := by decide +kernel
theorem dL_law_876 : decode cL_law 876 = .ok (.iconst 0, 1) := by decide +kernel
theorem dL_law_877 : decode cL_law 877 = .ok (.ireturn, 1) := by decide +kernel
theorem dL_law_878 : decode cL_law 878 = .ok (.aload_n 1, 1) := by decide +kernel
theorem dL_law_879 : decode cL_law 879 = .ok (.invokevirtual 107, 3) := by decide +kernel
theorem dL_law_882 : decode cL_law 882 = .ok (.aload_n 2, 1) := by decide +kernel
theorem dL_law_883 : decode cL_law 883 = .ok (.invokevirtual 110, 3) := by decide +kernel
theorem dL_law_886 : decode cL_law 886 = .ok (.if_icmp .eq 531, 3) := by decide +kernel
theorem dL_law_889 : decode cL_law 889 = .ok (.iconst 0, 1) := by decide +kernel
theorem dL_law_890 : decode cL_law 890 = .ok (.ireturn, 1) := by decide +kernel
theorem dL_law_891 : decode cL_law 891 = .ok (.aload_n 1, 1) := by decide +kernel
theorem dL_law_892 : decode cL_law 892 = .ok (.aload_n 0, 1) := by decide +kernel
theorem dL_law_893 : decode cL_law 893 = .ok (.iload_n 3, 1) := by decide +kernel
theorem dL_law_894 : decode cL_law 894 = .ok (.iconst 1, 1) := by decide +kernel
theorem dL_law_895 : decode cL_law 895 = .ok (.iadd, 1) := by decide +kernel
theorem dL_law_896 : decode cL_law 896 = .ok (.iaload, 1) := by decide +kernel
theorem dL_law_897 : decode cL_law 897 = .ok (.aload_n 0, 1) := by decide +kernel
theorem dL_law_898 : decode cL_law 898 = .ok (.iload_n 3, 1) := by decide +kernel
theorem dL_law_899 : decode cL_law 899 = .ok (.iconst 2, 1) := by decide +kernel
theorem dL_law_900 : decode cL_law 900 = .ok (.iadd, 1) := by decide +kernel
theorem dL_law_901 : decode cL_law 901 = .ok (.iaload, 1) := by decide +kernel
theorem dL_law_902 : decode cL_law 902 = .ok (.invokevirtual 111, 3) := by decide +kernel
theorem dL_law_905 : decode cL_law 905 = .ok (.aload_n 2, 1) := by decide +kernel
theorem dL_law_906 : decode cL_law 906 = .ok (.aload_n 0, 1) := by decide +kernel
theorem dL_law_907 : decode cL_law 907 = .ok (.iload_n 3, 1) := by decide +kernel
theorem dL_law_908 : decode cL_law 908 = .ok (.iconst 1, 1) := by decide +kernel
theorem dL_law_909 : decode cL_law 909 = .ok (.iadd, 1) := by decide +kernel
theorem dL_law_910 : decode cL_law 910 = .ok (.iaload, 1) := by decide +kernel
theorem dL_law_911 : decode cL_law 911 = .ok (.aload_n 0, 1) := by decide +kernel
theorem dL_law_912 : decode cL_law 912 = .ok (.iload_n 3, 1) := by decide +kernel
theorem dL_law_913 : decode cL_law 913 = .ok (.iconst 2, 1) := by decide +kernel
theorem dL_law_914 : decode cL_law 914 = .ok (.iadd, 1) := by decide +kernel
theorem dL_law_915 : decode cL_law 915 = .ok (.iaload, 1) := by decide +kernel
theorem dL_law_916 : decode cL_law 916 = .ok (.invokevirtual 114, 3) := by decide +kernel
theorem dL_law_919 : decode cL_law 919 = .ok (.if_icmp .eq 498, 3) := by decide +kernel
theorem dL_law_922 : decode cL_law 922 = .ok (.iconst 0, 1) := by decide +kernel
theorem dL_law_923 : decode cL_law 923 = .ok (.ireturn, 1) := by decide +kernel
theorem dL_law_924 : decode cL_law 924 = .ok (.aload_n 1, 1) := by decide +kernel
theorem dL_law_925 : decode cL_law 925 = .ok (.aload_n 0, 1) := by decide +kernel
theorem dL_law_926 : decode cL_law 926 = .ok (.iload_n 3, 1) := by decide +kernel
theorem dL_law_927 : decode cL_law 927 = .ok (.iconst 1, 1) := by decide +kernel
theorem dL_law_928 : decode cL_law 928 = .ok (.iadd, 1) := by decide +kernel
theorem dL_law_929 : decode cL_law 929 = .ok (.iaload, 1) := by decide +kernel
theorem dL_law_930 : decode cL_law 930 = .ok (.aload_n 0, 1) := by decide +kernel
theorem dL_law_931 : decode cL_law 931 = .ok (.iload_n 3, 1) := by decide +kernel
theorem dL_law_932 : decode cL_law 932 = .ok (.iconst 2, 1) := by decide +kernel
theorem dL_law_933 : decode cL_law 933 = .ok (.iadd, 1) := by decide +kernel
theorem dL_law_934 : decode cL_law 934 = .ok (.iaload, 1) := by decide +kernel
theorem dL_law_935 : decode cL_law 935 = .ok (.invokevirtual 115, 3) := by decide +kernel
theorem dL_law_938 : decode cL_law 938 = .ok (.aload_n 2, 1) := by decide +kernel
theorem dL_law_939 : decode cL_law 939 = .ok (.aload_n 0, 1) := by decide +kernel
theorem dL_law_940 : decode cL_law 940 = .ok (.iload_n 3, 1) := by decide +kernel
theorem dL_law_941 : decode cL_law 941 = .ok (.iconst 1, 1) := by decide +kernel
theorem dL_law_942 : decode cL_law 942 = .ok (.iadd, 1) := by decide +kernel
theorem dL_law_943 : decode cL_law 943 = .ok (.iaload, 1) := by decide +kernel
theorem dL_law_944 : decode cL_law 944 = .ok (.aload_n 0, 1) := by decide +kernel
theorem dL_law_945 : decode cL_law 945 = .ok (.iload_n 3, 1) := by decide +kernel
theorem dL_law_946 : decode cL_law 946 = .ok (.iconst 2, 1) := by decide +kernel
theorem dL_law_947 : decode cL_law 947 = .ok (.iadd, 1) := by decide +kernel
theorem dL_law_948 : decode cL_law 948 = .ok (.iaload, 1) := by decide +kernel
theorem dL_law_949 : decode cL_law 949 = .ok (.invokevirtual 118, 3) := by decide +kernel
theorem dL_law_952 : decode cL_law 952 = .ok (.if_icmp .eq 465, 3) := by decide +kernel
theorem dL_law_955 : decode cL_law 955 = .ok (.iconst 0, 1) := by decide +kernel
theorem dL_law_956 : decode cL_law 956 = .ok (.ireturn, 1) := by decide +kernel
theorem dL_law_957 : decode cL_law 957 = .ok (.aload_n 1, 1) := by decide +kernel
theorem dL_law_958 : decode cL_law 958 = .ok (.aload_n 0, 1) := by decide +kernel
theorem dL_law_959 : decode cL_law 959 = .ok (.iload_n 3, 1) := by decide +kernel
theorem dL_law_960 : decode cL_law 960 = .ok (.iconst 1, 1) := by decide +kernel
theorem dL_law_961 : decode cL_law 961 = .ok (.iadd, 1) := by decide +kernel
theorem dL_law_962 : decode cL_law 962 = .ok (.iaload, 1) := by decide +kernel
theorem dL_law_963 : decode cL_law 963 = .ok (.invokevirtual 119, 3) := by decide +kernel
theorem dL_law_966 : decode cL_law 966 = .ok (.aload_n 2, 1) := by decide +kernel
theorem dL_law_967 : decode cL_law 967 = .ok (.aload_n 0, 1) := by decide +kernel
theorem dL_law_968 : decode cL_law 968 = .ok (.iload_n 3, 1) := by decide +kernel
theorem dL_law_969 : decode cL_law 969 = .ok (.iconst 1, 1) := by decide +kernel
theorem dL_law_970 : decode cL_law 970 = .ok (.iadd, 1) := by decide +kernel
theorem dL_law_971 : decode cL_law 971 = .ok (.iaload, 1) := by decide +kernel
theorem dL_law_972 : decode cL_law 972 = .ok (.invokevirtual 122, 3) := by decide +kernel
theorem dL_law_975 : decode cL_law 975 = .ok (.if_icmp .eq 442, 3) := by decide +kernel
theorem dL_law_978 : decode cL_law 978 = .ok (.iconst 0, 1) := by decide +kernel
theorem dL_law_979 : decode cL_law 979 = .ok (.ireturn, 1) := by decide +kernel
theorem dL_law_980 : decode cL_law 980 = .ok (.aload_n 1, 1) := by decide +kernel
theorem dL_law_981 : decode cL_law 981 = .ok (.aload_n 0, 1) := by decide +kernel
theorem dL_law_982 : decode cL_law 982 = .ok (.iload_n 3, 1) := by decide +kernel
theorem dL_law_983 : decode cL_law 983 = .ok (.iconst 1, 1) := by decide +kernel
theorem dL_law_984 : decode cL_law 984 = .ok (.iadd, 1) := by decide +kernel
theorem dL_law_985 : decode cL_law 985 = .ok (.iaload, 1) := by decide +kernel
theorem dL_law_986 : decode cL_law 986 = .ok (.invokevirtual 123, 3) := by decide +kernel
theorem dL_law_989 : decode cL_law 989 = .ok (.aload_n 2, 1) := by decide +kernel
theorem dL_law_990 : decode cL_law 990 = .ok (.aload_n 0, 1) := by decide +kernel
theorem dL_law_991 : decode cL_law 991 = .ok (.iload_n 3, 1) := by decide +kernel
theorem dL_law_992 : decode cL_law 992 = .ok (.iconst 1, 1) := by decide +kernel
theorem dL_law_993 : decode cL_law 993 = .ok (.iadd, 1) := by decide +kernel
theorem dL_law_994 : decode cL_law 994 = .ok (.iaload, 1) := by decide +kernel
theorem dL_law_995 : decode cL_law 995 = .ok (.invokevirtual 126, 3) := by decide +kernel
theorem dL_law_998 : decode cL_law 998 = .ok (.if_icmp .eq 419, 3) := by decide +kernel
theorem dL_law_1001 : decode cL_law 1001 = .ok (.iconst 0, 1) := by decide +kernel
theorem dL_law_1002 : decode cL_law 1002 = .ok (.ireturn, 1) := by decide +kernel
theorem dL_law_1003 : decode cL_law 1003 = .ok (.aload_n 1, 1) := by decide +kernel
theorem dL_law_1004 : decode cL_law 1004 = .ok (.aload_n 0, 1) := by decide +kernel
theorem dL_law_1005 : decode cL_law 1005 = .ok (.iload_n 3, 1) := by decide +kernel
theorem dL_law_1006 : decode cL_law 1006 = .ok (.iconst 1, 1) := by decide +kernel
theorem dL_law_1007 : decode cL_law 1007 = .ok (.iadd, 1) := by decide +kernel
theorem dL_law_1008 : decode cL_law 1008 = .ok (.iaload, 1) := by decide +kernel
theorem dL_law_1009 : decode cL_law 1009 = .ok (.aload_n 0, 1) := by decide +kernel
theorem dL_law_1010 : decode cL_law 1010 = .ok (.iload_n 3, 1) := by decide +kernel
theorem dL_law_1011 : decode cL_law 1011 = .ok (.iconst 2, 1) := by decide +kernel
theorem dL_law_1012 : decode cL_law 1012 = .ok (.iadd, 1) := by decide +kernel
theorem dL_law_1013 : decode cL_law 1013 = .ok (.iaload, 1) := by decide +kernel
theorem dL_law_1014 : decode cL_law 1014 = .ok (.invokevirtual 127, 3) := by decide +kernel
theorem dL_law_1017 : decode cL_law 1017 = .ok (.aload_n 2, 1) := by decide +kernel
theorem dL_law_1018 : decode cL_law 1018 = .ok (.aload_n 0, 1) := by decide +kernel
theorem dL_law_1019 : decode cL_law 1019 = .ok (.iload_n 3, 1) := by decide +kernel
theorem dL_law_1020 : decode cL_law 1020 = .ok (.iconst 1, 1) := by decide +kernel
theorem dL_law_1021 : decode cL_law 1021 = .ok (.iadd, 1) := by decide +kernel
theorem dL_law_1022 : decode cL_law 1022 = .ok (.iaload, 1) := by decide +kernel
theorem dL_law_1023 : decode cL_law 1023 = .ok (.aload_n 0, 1) := by decide +kernel
theorem dL_law_1024 : decode cL_law 1024 = .ok (.iload_n 3, 1) := by decide +kernel
theorem dL_law_1025 : decode cL_law 1025 = .ok (.iconst 2, 1) := by decide +kernel
theorem dL_law_1026 : decode cL_law 1026 = .ok (.iadd, 1) := by decide +kernel
theorem dL_law_1027 : decode cL_law 1027 = .ok (.iaload, 1) := by decide +kernel
theorem dL_law_1028 : decode cL_law 1028 = .ok (.invokevirtual 130, 3) := by decide +kernel
theorem dL_law_1031 : decode cL_law 1031 = .ok (.if_icmp .eq 386, 3) := by decide +kernel
theorem dL_law_1034 : decode cL_law 1034 = .ok (.iconst 0, 1) := by decide +kernel
theorem dL_law_1035 : decode cL_law 1035 = .ok (.ireturn, 1) := by decide +kernel
theorem dL_law_1036 : decode cL_law 1036 = .ok (.aload_n 1, 1) := by decide +kernel
theorem dL_law_1037 : decode cL_law 1037 = .ok (.aload_n 0, 1) := by decide +kernel
theorem dL_law_1038 : decode cL_law 1038 = .ok (.iload_n 3, 1) := by decide +kernel
theorem dL_law_1039 : decode cL_law 1039 = .ok (.iconst 1, 1) := by decide +kernel
theorem dL_law_1040 : decode cL_law 1040 = .ok (.iadd, 1) := by decide +kernel
theorem dL_law_1041 : decode cL_law 1041 = .ok (.iaload, 1) := by decide +kernel
theorem dL_law_1042 : decode cL_law 1042 = .ok (.aload_n 0, 1) := by decide +kernel
theorem dL_law_1043 : decode cL_law 1043 = .ok (.iload_n 3, 1) := by decide +kernel
theorem dL_law_1044 : decode cL_law 1044 = .ok (.iconst 2, 1) := by decide +kernel
theorem dL_law_1045 : decode cL_law 1045 = .ok (.iadd, 1) := by decide +kernel
theorem dL_law_1046 : decode cL_law 1046 = .ok (.iaload, 1) := by decide +kernel
theorem dL_law_1047 : decode cL_law 1047 = .ok (.invokevirtual 131, 3) := by decide +kernel
theorem dL_law_1050 : decode cL_law 1050 = .ok (.aload_n 2, 1) := by decide +kernel
theorem dL_law_1051 : decode cL_law 1051 = .ok (.aload_n 0, 1) := by decide +kernel
theorem dL_law_1052 : decode cL_law 1052 = .ok (.iload_n 3, 1) := by decide +kernel
theorem dL_law_1053 : decode cL_law 1053 = .ok (.iconst 1, 1) := by decide +kernel
theorem dL_law_1054 : decode cL_law 1054 = .ok (.iadd, 1) := by decide +kernel
theorem dL_law_1055 : decode cL_law 1055 = .ok (.iaload, 1) := by decide +kernel
theorem dL_law_1056 : decode cL_law 1056 = .ok (.aload_n 0, 1) := by decide +kernel
theorem dL_law_1057 : decode cL_law 1057 = .ok (.iload_n 3, 1) := by decide +kernel
theorem dL_law_1058 : decode cL_law 1058 = .ok (.iconst 2, 1) := by decide +kernel
theorem dL_law_1059 : decode cL_law 1059 = .ok (.iadd, 1) := by decide +kernel
theorem dL_law_1060 : decode cL_law 1060 = .ok (.iaload, 1) := by decide +kernel
theorem dL_law_1061 : decode cL_law 1061 = .ok (.invokevirtual 134, 3) := by decide +kernel
theorem dL_law_1064 : decode cL_law 1064 = .ok (.if_icmp .eq 353, 3) := by decide +kernel
theorem dL_law_1067 : decode cL_law 1067 = .ok (.iconst 0, 1) := by decide +kernel
theorem dL_law_1068 : decode cL_law 1068 = .ok (.ireturn, 1) := by decide +kernel
theorem dL_law_1069 : decode cL_law 1069 = .ok (.aload_n 1, 1) := by decide +kernel
theorem dL_law_1070 : decode cL_law 1070 = .ok (.aload_n 0, 1) := by decide +kernel
theorem dL_law_1071 : decode cL_law 1071 = .ok (.iload_n 3, 1) := by decide +kernel
theorem dL_law_1072 : decode cL_law 1072 = .ok (.iconst 1, 1) := by decide +kernel
theorem dL_law_1073 : decode cL_law 1073 = .ok (.iadd, 1) := by decide +kernel
theorem dL_law_1074 : decode cL_law 1074 = .ok (.iaload, 1) := by decide +kernel
theorem dL_law_1075 : decode cL_law 1075 = .ok (.aload_n 0, 1) := by decide +kernel
theorem dL_law_1076 : decode cL_law 1076 = .ok (.iload_n 3, 1) := by decide +kernel
theorem dL_law_1077 : decode cL_law 1077 = .ok (.iconst 2, 1) := by decide +kernel
theorem dL_law_1078 : decode cL_law 1078 = .ok (.iadd, 1) := by decide +kernel
theorem dL_law_1079 : decode cL_law 1079 = .ok (.iaload, 1) := by decide +kernel
theorem dL_law_1080 : decode cL_law 1080 = .ok (.invokevirtual 135, 3) := by decide +kernel
theorem dL_law_1083 : decode cL_law 1083 = .ok (.aload_n 2, 1) := by decide +kernel
theorem dL_law_1084 : decode cL_law 1084 = .ok (.aload_n 0, 1) := by decide +kernel
theorem dL_law_1085 : decode cL_law 1085 = .ok (.iload_n 3, 1) := by decide +kernel
theorem dL_law_1086 : decode cL_law 1086 = .ok (.iconst 1, 1) := by decide +kernel
theorem dL_law_1087 : decode cL_law 1087 = .ok (.iadd, 1) := by decide +kernel
theorem dL_law_1088 : decode cL_law 1088 = .ok (.iaload, 1) := by decide +kernel
theorem dL_law_1089 : decode cL_law 1089 = .ok (.aload_n 0, 1) := by decide +kernel
theorem dL_law_1090 : decode cL_law 1090 = .ok (.iload_n 3, 1) := by decide +kernel
theorem dL_law_1091 : decode cL_law 1091 = .ok (.iconst 2, 1) := by decide +kernel
theorem dL_law_1092 : decode cL_law 1092 = .ok (.iadd, 1) := by decide +kernel
theorem dL_law_1093 : decode cL_law 1093 = .ok (.iaload, 1) := by decide +kernel
theorem dL_law_1094 : decode cL_law 1094 = .ok (.invokevirtual 138, 3) := by decide +kernel
theorem dL_law_1097 : decode cL_law 1097 = .ok (.if_icmp .eq 320, 3) := by decide +kernel
theorem dL_law_1100 : decode cL_law 1100 = .ok (.iconst 0, 1) := by decide +kernel
theorem dL_law_1101 : decode cL_law 1101 = .ok (.ireturn, 1) := by decide +kernel
theorem dL_law_1102 : decode cL_law 1102 = .ok (.aload_n 1, 1) := by decide +kernel
theorem dL_law_1103 : decode cL_law 1103 = .ok (.aload_n 0, 1) := by decide +kernel
theorem dL_law_1104 : decode cL_law 1104 = .ok (.iload_n 3, 1) := by decide +kernel
theorem dL_law_1105 : decode cL_law 1105 = .ok (.iconst 1, 1) := by decide +kernel
theorem dL_law_1106 : decode cL_law 1106 = .ok (.iadd, 1) := by decide +kernel
theorem dL_law_1107 : decode cL_law 1107 = .ok (.iaload, 1) := by decide +kernel
theorem dL_law_1108 : decode cL_law 1108 = .ok (.aload_n 0, 1) := by decide +kernel
theorem dL_law_1109 : decode cL_law 1109 = .ok (.iload_n 3, 1) := by decide +kernel
theorem dL_law_1110 : decode cL_law 1110 = .ok (.iconst 2, 1) := by decide +kernel
theorem dL_law_1111 : decode cL_law 1111 = .ok (.iadd, 1) := by decide +kernel
theorem dL_law_1112 : decode cL_law 1112 = .ok (.iaload, 1) := by decide +kernel
theorem dL_law_1113 : decode cL_law 1113 = .ok (.aload_n 0, 1) := by decide +kernel
theorem dL_law_1114 : decode cL_law 1114 = .ok (.iload_n 3, 1) := by decide +kernel
theorem dL_law_1115 : decode cL_law 1115 = .ok (.iconst 3, 1) := by decide +kernel
theorem dL_law_1116 : decode cL_law 1116 = .ok (.iadd, 1) := by decide +kernel
theorem dL_law_1117 : decode cL_law 1117 = .ok (.iaload, 1) := by decide +kernel
theorem dL_law_1118 : decode cL_law 1118 = .ok (.aload_n 0, 1) := by decide +kernel
theorem dL_law_1119 : decode cL_law 1119 = .ok (.iload_n 3, 1) := by decide +kernel
theorem dL_law_1120 : decode cL_law 1120 = .ok (.iconst 4, 1) := by decide +kernel
theorem dL_law_1121 : decode cL_law 1121 = .ok (.iadd, 1) := by decide +kernel
theorem dL_law_1122 : decode cL_law 1122 = .ok (.iaload, 1) := by decide +kernel
theorem dL_law_1123 : decode cL_law 1123 = .ok (.invokevirtual 139, 3) := by decide +kernel
theorem dL_law_1126 : decode cL_law 1126 = .ok (.aload_n 2, 1) := by decide +kernel
theorem dL_law_1127 : decode cL_law 1127 = .ok (.aload_n 0, 1) := by decide +kernel
theorem dL_law_1128 : decode cL_law 1128 = .ok (.iload_n 3, 1) := by decide +kernel
theorem dL_law_1129 : decode cL_law 1129 = .ok (.iconst 1, 1) := by decide +kernel
theorem dL_law_1130 : decode cL_law 1130 = .ok (.iadd, 1) := by decide +kernel
theorem dL_law_1131 : decode cL_law 1131 = .ok (.iaload, 1) := by decide +kernel
theorem dL_law_1132 : decode cL_law 1132 = .ok (.aload_n 0, 1) := by decide +kernel
theorem dL_law_1133 : decode cL_law 1133 = .ok (.iload_n 3, 1) := by decide +kernel
theorem dL_law_1134 : decode cL_law 1134 = .ok (.iconst 2, 1) := by decide +kernel
theorem dL_law_1135 : decode cL_law 1135 = .ok (.iadd, 1) := by decide +kernel
theorem dL_law_1136 : decode cL_law 1136 = .ok (.iaload, 1) := by decide +kernel
theorem dL_law_1137 : decode cL_law 1137 = .ok (.aload_n 0, 1) := by decide +kernel
theorem dL_law_1138 : decode cL_law 1138 = .ok (.iload_n 3, 1) := by decide +kernel
theorem dL_law_1139 : decode cL_law 1139 = .ok (.iconst 3, 1) := by decide +kernel
theorem dL_law_1140 : decode cL_law 1140 = .ok (.iadd, 1) := by decide +kernel
theorem dL_law_1141 : decode cL_law 1141 = .ok (.iaload, 1) := by decide +kernel
theorem dL_law_1142 : decode cL_law 1142 = .ok (.aload_n 0, 1) := by decide +kernel
theorem dL_law_1143 : decode cL_law 1143 = .ok (.iload_n 3, 1) := by decide +kernel
theorem dL_law_1144 : decode cL_law 1144 = .ok (.iconst 4, 1) := by decide +kernel
theorem dL_law_1145 : decode cL_law 1145 = .ok (.iadd, 1) := by decide +kernel
theorem dL_law_1146 : decode cL_law 1146 = .ok (.iaload, 1) := by decide +kernel
theorem dL_law_1147 : decode cL_law 1147 = .ok (.invokevirtual 143, 3) := by decide +kernel
theorem dL_law_1150 : decode cL_law 1150 = .ok (.lcmp, 1) := by decide +kernel
theorem dL_law_1151 : decode cL_law 1151 = .ok (.ifCond .eq 266, 3) := by decide +kernel
theorem dL_law_1154 : decode cL_law 1154 = .ok (.iconst 0, 1) := by decide +kernel
theorem dL_law_1155 : decode cL_law 1155 = .ok (.ireturn, 1) := by decide +kernel
theorem dL_law_1156 : decode cL_law 1156 = .ok (.aload_n 1, 1) := by decide +kernel
theorem dL_law_1157 : decode cL_law 1157 = .ok (.invokevirtual 144, 3) := by decide +kernel
theorem dL_law_1160 : decode cL_law 1160 = .ok (.aload_n 2, 1) := by decide +kernel
theorem dL_law_1161 : decode cL_law 1161 = .ok (.invokevirtual 147, 3) := by decide +kernel
theorem dL_law_1164 : decode cL_law 1164 = .ok (.if_icmp .eq 253, 3) := by decide +kernel
theorem dL_law_1167 : decode cL_law 1167 = .ok (.iconst 0, 1) := by decide +kernel
theorem dL_law_1168 : decode cL_law 1168 = .ok (.ireturn, 1) := by decide +kernel
theorem dL_law_1169 : decode cL_law 1169 = .ok (.aload_n 1, 1) := by decide +kernel
theorem dL_law_1170 : decode cL_law 1170 = .ok (.invokevirtual 148, 3) := by decide +kernel
theorem dL_law_1173 : decode cL_law 1173 = .ok (.aload_n 2, 1) := by decide +kernel
theorem dL_law_1174 : decode cL_law 1174 = .ok (.invokevirtual 151, 3) := by decide +kernel
theorem dL_law_1177 : decode cL_law 1177 = .ok (.if_icmp .eq 240, 3) := by decide +kernel
theorem dL_law_1180 : decode cL_law 1180 = .ok (.iconst 0, 1) := by decide +kernel
theorem dL_law_1181 : decode cL_law 1181 = .ok (.ireturn, 1) := by decide +kernel
theorem dL_law_1182 : decode cL_law 1182 = .ok (.aload_n 1, 1) := by decide +kernel
theorem dL_law_1183 : decode cL_law 1183 = .ok (.aload_n 0, 1) := by decide +kernel
theorem dL_law_1184 : decode cL_law 1184 = .ok (.iload_n 3, 1) := by decide +kernel
theorem dL_law_1185 : decode cL_law 1185 = .ok (.iconst 1, 1) := by decide +kernel
theorem dL_law_1186 : decode cL_law 1186 = .ok (.iadd, 1) := by decide +kernel
theorem dL_law_1187 : decode cL_law 1187 = .ok (.iaload, 1) := by decide +kernel
theorem dL_law_1188 : decode cL_law 1188 = .ok (.aload_n 0, 1) := by decide +kernel
theorem dL_law_1189 : decode cL_law 1189 = .ok (.iload_n 3, 1) := by decide +kernel
theorem dL_law_1190 : decode cL_law 1190 = .ok (.iconst 2, 1) := by decide +kernel
theorem dL_law_1191 : decode cL_law 1191 = .ok (.iadd, 1) := by decide +kernel
theorem dL_law_1192 : decode cL_law 1192 = .ok (.iaload, 1) := by decide +kernel
theorem dL_law_1193 : decode cL_law 1193 = .ok (.aload_n 0, 1) := by decide +kernel
theorem dL_law_1194 : decode cL_law 1194 = .ok (.iload_n 3, 1) := by decide +kernel
theorem dL_law_1195 : decode cL_law 1195 = .ok (.iconst 3, 1) := by decide +kernel
theorem dL_law_1196 : decode cL_law 1196 = .ok (.iadd, 1) := by decide +kernel
theorem dL_law_1197 : decode cL_law 1197 = .ok (.iaload, 1) := by decide +kernel
theorem dL_law_1198 : decode cL_law 1198 = .ok (.invokevirtual 152, 3) := by decide +kernel
theorem dL_law_1201 : decode cL_law 1201 = .ok (.aload_n 2, 1) := by decide +kernel
theorem dL_law_1202 : decode cL_law 1202 = .ok (.aload_n 0, 1) := by decide +kernel
theorem dL_law_1203 : decode cL_law 1203 = .ok (.iload_n 3, 1) := by decide +kernel
theorem dL_law_1204 : decode cL_law 1204 = .ok (.iconst 1, 1) := by decide +kernel
theorem dL_law_1205 : decode cL_law 1205 = .ok (.iadd, 1) := by decide +kernel
theorem dL_law_1206 : decode cL_law 1206 = .ok (.iaload, 1) := by decide +kernel
theorem dL_law_1207 : decode cL_law 1207 = .ok (.aload_n 0, 1) := by decide +kernel
theorem dL_law_1208 : decode cL_law 1208 = .ok (.iload_n 3, 1) := by decide +kernel
theorem dL_law_1209 : decode cL_law 1209 = .ok (.iconst 2, 1) := by decide +kernel
theorem dL_law_1210 : decode cL_law 1210 = .ok (.iadd, 1) := by decide +kernel
theorem dL_law_1211 : decode cL_law 1211 = .ok (.iaload, 1) := by decide +kernel
theorem dL_law_1212 : decode cL_law 1212 = .ok (.aload_n 0, 1) := by decide +kernel
theorem dL_law_1213 : decode cL_law 1213 = .ok (.iload_n 3, 1) := by decide +kernel
theorem dL_law_1214 : decode cL_law 1214 = .ok (.iconst 3, 1) := by decide +kernel
theorem dL_law_1215 : decode cL_law 1215 = .ok (.iadd, 1) := by decide +kernel
theorem dL_law_1216 : decode cL_law 1216 = .ok (.iaload, 1) := by decide +kernel
theorem dL_law_1217 : decode cL_law 1217 = .ok (.invokevirtual 155, 3) := by decide +kernel
theorem dL_law_1220 : decode cL_law 1220 = .ok (.if_icmp .eq 197, 3) := by decide +kernel
theorem dL_law_1223 : decode cL_law 1223 = .ok (.iconst 0, 1) := by decide +kernel
theorem dL_law_1224 : decode cL_law 1224 = .ok (.ireturn, 1) := by decide +kernel
theorem dL_law_1225 : decode cL_law 1225 = .ok (.aload_n 1, 1) := by decide +kernel
theorem dL_law_1226 : decode cL_law 1226 = .ok (.aload_n 0, 1) := by decide +kernel
theorem dL_law_1227 : decode cL_law 1227 = .ok (.iload_n 3, 1) := by decide +kernel
theorem dL_law_1228 : decode cL_law 1228 = .ok (.iconst 1, 1) := by decide +kernel
theorem dL_law_1229 : decode cL_law 1229 = .ok (.iadd, 1) := by decide +kernel
theorem dL_law_1230 : decode cL_law 1230 = .ok (.iaload, 1) := by decide +kernel
theorem dL_law_1231 : decode cL_law 1231 = .ok (.aload_n 0, 1) := by decide +kernel
theorem dL_law_1232 : decode cL_law 1232 = .ok (.iload_n 3, 1) := by decide +kernel
theorem dL_law_1233 : decode cL_law 1233 = .ok (.iconst 2, 1) := by decide +kernel
theorem dL_law_1234 : decode cL_law 1234 = .ok (.iadd, 1) := by decide +kernel
theorem dL_law_1235 : decode cL_law 1235 = .ok (.iaload, 1) := by decide +kernel
theorem dL_law_1236 : decode cL_law 1236 = .ok (.aload_n 0, 1) := by decide +kernel
theorem dL_law_1237 : decode cL_law 1237 = .ok (.iload_n 3, 1) := by decide +kernel
theorem dL_law_1238 : decode cL_law 1238 = .ok (.iconst 3, 1) := by decide +kernel
theorem dL_law_1239 : decode cL_law 1239 = .ok (.iadd, 1) := by decide +kernel
theorem dL_law_1240 : decode cL_law 1240 = .ok (.iaload, 1) := by decide +kernel
theorem dL_law_1241 : decode cL_law 1241 = .ok (.invokevirtual 156, 3) := by decide +kernel
theorem dL_law_1244 : decode cL_law 1244 = .ok (.aload_n 2, 1) := by decide +kernel
theorem dL_law_1245 : decode cL_law 1245 = .ok (.aload_n 0, 1) := by decide +kernel
theorem dL_law_1246 : decode cL_law 1246 = .ok (.iload_n 3, 1) := by decide +kernel
theorem dL_law_1247 : decode cL_law 1247 = .ok (.iconst 1, 1) := by decide +kernel
theorem dL_law_1248 : decode cL_law 1248 = .ok (.iadd, 1) := by decide +kernel
theorem dL_law_1249 : decode cL_law 1249 = .ok (.iaload, 1) := by decide +kernel
theorem dL_law_1250 : decode cL_law 1250 = .ok (.aload_n 0, 1) := by decide +kernel
theorem dL_law_1251 : decode cL_law 1251 = .ok (.iload_n 3, 1) := by decide +kernel
theorem dL_law_1252 : decode cL_law 1252 = .ok (.iconst 2, 1) := by decide +kernel
theorem dL_law_1253 : decode cL_law 1253 = .ok (.iadd, 1) := by decide +kernel
theorem dL_law_1254 : decode cL_law 1254 = .ok (.iaload, 1) := by decide +kernel
theorem dL_law_1255 : decode cL_law 1255 = .ok (.aload_n 0, 1) := by decide +kernel
theorem dL_law_1256 : decode cL_law 1256 = .ok (.iload_n 3, 1) := by decide +kernel
theorem dL_law_1257 : decode cL_law 1257 = .ok (.iconst 3, 1) := by decide +kernel
theorem dL_law_1258 : decode cL_law 1258 = .ok (.iadd, 1) := by decide +kernel
theorem dL_law_1259 : decode cL_law 1259 = .ok (.iaload, 1) := by decide +kernel
theorem dL_law_1260 : decode cL_law 1260 = .ok (.invokevirtual 159, 3) := by decide +kernel
theorem dL_law_1263 : decode cL_law 1263 = .ok (.if_icmp .eq 154, 3) := by decide +kernel
theorem dL_law_1266 : decode cL_law 1266 = .ok (.iconst 0, 1) := by decide +kernel
theorem dL_law_1267 : decode cL_law 1267 = .ok (.ireturn, 1) := by decide +kernel
theorem dL_law_1268 : decode cL_law 1268 = .ok (.aload_n 1, 1) := by decide +kernel
theorem dL_law_1269 : decode cL_law 1269 = .ok (.aload_n 0, 1) := by decide +kernel
theorem dL_law_1270 : decode cL_law 1270 = .ok (.iload_n 3, 1) := by decide +kernel
theorem dL_law_1271 : decode cL_law 1271 = .ok (.iconst 1, 1) := by decide +kernel
theorem dL_law_1272 : decode cL_law 1272 = .ok (.iadd, 1) := by decide +kernel
theorem dL_law_1273 : decode cL_law 1273 = .ok (.iaload, 1) := by decide +kernel
theorem dL_law_1274 : decode cL_law 1274 = .ok (.aload_n 0, 1) := by decide +kernel
theorem dL_law_1275 : decode cL_law 1275 = .ok (.iload_n 3, 1) := by decide +kernel
theorem dL_law_1276 : decode cL_law 1276 = .ok (.iconst 2, 1) := by decide +kernel
theorem dL_law_1277 : decode cL_law 1277 = .ok (.iadd, 1) := by decide +kernel
theorem dL_law_1278 : decode cL_law 1278 = .ok (.iaload, 1) := by decide +kernel
theorem dL_law_1279 : decode cL_law 1279 = .ok (.aload_n 0, 1) := by decide +kernel
theorem dL_law_1280 : decode cL_law 1280 = .ok (.iload_n 3, 1) := by decide +kernel
theorem dL_law_1281 : decode cL_law 1281 = .ok (.iconst 3, 1) := by decide +kernel
theorem dL_law_1282 : decode cL_law 1282 = .ok (.iadd, 1) := by decide +kernel
theorem dL_law_1283 : decode cL_law 1283 = .ok (.iaload, 1) := by decide +kernel
theorem dL_law_1284 : decode cL_law 1284 = .ok (.aload_n 0, 1) := by decide +kernel
theorem dL_law_1285 : decode cL_law 1285 = .ok (.iload_n 3, 1) := by decide +kernel
theorem dL_law_1286 : decode cL_law 1286 = .ok (.iconst 4, 1) := by decide +kernel
theorem dL_law_1287 : decode cL_law 1287 = .ok (.iadd, 1) := by decide +kernel
theorem dL_law_1288 : decode cL_law 1288 = .ok (.iaload, 1) := by decide +kernel
theorem dL_law_1289 : decode cL_law 1289 = .ok (.aload_n 0, 1) := by decide +kernel
theorem dL_law_1290 : decode cL_law 1290 = .ok (.iload_n 3, 1) := by decide +kernel
theorem dL_law_1291 : decode cL_law 1291 = .ok (.iconst 5, 1) := by decide +kernel
theorem dL_law_1292 : decode cL_law 1292 = .ok (.iadd, 1) := by decide +kernel
theorem dL_law_1293 : decode cL_law 1293 = .ok (.iaload, 1) := by decide +kernel
theorem dL_law_1294 : decode cL_law 1294 = .ok (.invokevirtual 160, 3) := by decide +kernel
theorem dL_law_1297 : decode cL_law 1297 = .ok (.aload_n 2, 1) := by decide +kernel
theorem dL_law_1298 : decode cL_law 1298 = .ok (.aload_n 0, 1) := by decide +kernel
theorem dL_law_1299 : decode cL_law 1299 = .ok (.iload_n 3, 1) := by decide +kernel
theorem dL_law_1300 : decode cL_law 1300 = .ok (.iconst 1, 1) := by decide +kernel
theorem dL_law_1301 : decode cL_law 1301 = .ok (.iadd, 1) := by decide +kernel
theorem dL_law_1302 : decode cL_law 1302 = .ok (.iaload, 1) := by decide +kernel
theorem dL_law_1303 : decode cL_law 1303 = .ok (.aload_n 0, 1) := by decide +kernel
theorem dL_law_1304 : decode cL_law 1304 = .ok (.iload_n 3, 1) := by decide +kernel
theorem dL_law_1305 : decode cL_law 1305 = .ok (.iconst 2, 1) := by decide +kernel
theorem dL_law_1306 : decode cL_law 1306 = .ok (.iadd, 1) := by decide +kernel
theorem dL_law_1307 : decode cL_law 1307 = .ok (.iaload, 1) := by decide +kernel
theorem dL_law_1308 : decode cL_law 1308 = .ok (.aload_n 0, 1) := by decide +kernel
theorem dL_law_1309 : decode cL_law 1309 = .ok (.iload_n 3, 1) := by decide +kernel
theorem dL_law_1310 : decode cL_law 1310 = .ok (.iconst 3, 1) := by decide +kernel
theorem dL_law_1311 : decode cL_law 1311 = .ok (.iadd, 1) := by decide +kernel
theorem dL_law_1312 : decode cL_law 1312 = .ok (.iaload, 1) := by decide +kernel
theorem dL_law_1313 : decode cL_law 1313 = .ok (.aload_n 0, 1) := by decide +kernel
theorem dL_law_1314 : decode cL_law 1314 = .ok (.iload_n 3, 1) := by decide +kernel
theorem dL_law_1315 : decode cL_law 1315 = .ok (.iconst 4, 1) := by decide +kernel
theorem dL_law_1316 : decode cL_law 1316 = .ok (.iadd, 1) := by decide +kernel
theorem dL_law_1317 : decode cL_law 1317 = .ok (.iaload, 1) := by decide +kernel
theorem dL_law_1318 : decode cL_law 1318 = .ok (.aload_n 0, 1) := by decide +kernel
theorem dL_law_1319 : decode cL_law 1319 = .ok (.iload_n 3, 1) := by decide +kernel
theorem dL_law_1320 : decode cL_law 1320 = .ok (.iconst 5, 1) := by decide +kernel
theorem dL_law_1321 : decode cL_law 1321 = .ok (.iadd, 1) := by decide +kernel
theorem dL_law_1322 : decode cL_law 1322 = .ok (.iaload, 1) := by decide +kernel
theorem dL_law_1323 : decode cL_law 1323 = .ok (.invokevirtual 164, 3) := by decide +kernel
theorem dL_law_1326 : decode cL_law 1326 = .ok (.if_icmp .eq 91, 3) := by decide +kernel
theorem dL_law_1329 : decode cL_law 1329 = .ok (.iconst 0, 1) := by decide +kernel
theorem dL_law_1330 : decode cL_law 1330 = .ok (.ireturn, 1) := by decide +kernel
theorem dL_law_1331 : decode cL_law 1331 = .ok (.aload_n 1, 1) := by decide +kernel
theorem dL_law_1332 : decode cL_law 1332 = .ok (.aload_n 0, 1) := by decide +kernel
theorem dL_law_1333 : decode cL_law 1333 = .ok (.iload_n 3, 1) := by decide +kernel
theorem dL_law_1334 : decode cL_law 1334 = .ok (.iconst 1, 1) := by decide +kernel
theorem dL_law_1335 : decode cL_law 1335 = .ok (.iadd, 1) := by decide +kernel
theorem dL_law_1336 : decode cL_law 1336 = .ok (.iaload, 1) := by decide +kernel
theorem dL_law_1337 : decode cL_law 1337 = .ok (.aload_n 0, 1) := by decide +kernel
theorem dL_law_1338 : decode cL_law 1338 = .ok (.iload_n 3, 1) := by decide +kernel
theorem dL_law_1339 : decode cL_law 1339 = .ok (.iconst 2, 1) := by decide +kernel
theorem dL_law_1340 : decode cL_law 1340 = .ok (.iadd, 1) := by decide +kernel
theorem dL_law_1341 : decode cL_law 1341 = .ok (.iaload, 1) := by decide +kernel
theorem dL_law_1342 : decode cL_law 1342 = .ok (.aload_n 0, 1) := by decide +kernel
theorem dL_law_1343 : decode cL_law 1343 = .ok (.iload_n 3, 1) := by decide +kernel
theorem dL_law_1344 : decode cL_law 1344 = .ok (.iconst 3, 1) := by decide +kernel
theorem dL_law_1345 : decode cL_law 1345 = .ok (.iadd, 1) := by decide +kernel
theorem dL_law_1346 : decode cL_law 1346 = .ok (.iaload, 1) := by decide +kernel
theorem dL_law_1347 : decode cL_law 1347 = .ok (.aload_n 0, 1) := by decide +kernel
theorem dL_law_1348 : decode cL_law 1348 = .ok (.iload_n 3, 1) := by decide +kernel
theorem dL_law_1349 : decode cL_law 1349 = .ok (.iconst 4, 1) := by decide +kernel
theorem dL_law_1350 : decode cL_law 1350 = .ok (.iadd, 1) := by decide +kernel
theorem dL_law_1351 : decode cL_law 1351 = .ok (.iaload, 1) := by decide +kernel
theorem dL_law_1352 : decode cL_law 1352 = .ok (.invokevirtual 165, 3) := by decide +kernel
theorem dL_law_1355 : decode cL_law 1355 = .ok (.aload_n 2, 1) := by decide +kernel
theorem dL_law_1356 : decode cL_law 1356 = .ok (.aload_n 0, 1) := by decide +kernel
theorem dL_law_1357 : decode cL_law 1357 = .ok (.iload_n 3, 1) := by decide +kernel
theorem dL_law_1358 : decode cL_law 1358 = .ok (.iconst 1, 1) := by decide +kernel
theorem dL_law_1359 : decode cL_law 1359 = .ok (.iadd, 1) := by decide +kernel
theorem dL_law_1360 : decode cL_law 1360 = .ok (.iaload, 1) := by decide +kernel
theorem dL_law_1361 : decode cL_law 1361 = .ok (.aload_n 0, 1) := by decide +kernel
theorem dL_law_1362 : decode cL_law 1362 = .ok (.iload_n 3, 1) := by decide +kernel
theorem dL_law_1363 : decode cL_law 1363 = .ok (.iconst 2, 1) := by decide +kernel
theorem dL_law_1364 : decode cL_law 1364 = .ok (.iadd, 1) := by decide +kernel
theorem dL_law_1365 : decode cL_law 1365 = .ok (.iaload, 1) := by decide +kernel
theorem dL_law_1366 : decode cL_law 1366 = .ok (.aload_n 0, 1) := by decide +kernel
theorem dL_law_1367 : decode cL_law 1367 = .ok (.iload_n 3, 1) := by decide +kernel
theorem dL_law_1368 : decode cL_law 1368 = .ok (.iconst 3, 1) := by decide +kernel
theorem dL_law_1369 : decode cL_law 1369 = .ok (.iadd, 1) := by decide +kernel
theorem dL_law_1370 : decode cL_law 1370 = .ok (.iaload, 1) := by decide +kernel
theorem dL_law_1371 : decode cL_law 1371 = .ok (.aload_n 0, 1) := by decide +kernel
theorem dL_law_1372 : decode cL_law 1372 = .ok (.iload_n 3, 1) := by decide +kernel
theorem dL_law_1373 : decode cL_law 1373 = .ok (.iconst 4, 1) := by decide +kernel
theorem dL_law_1374 : decode cL_law 1374 = .ok (.iadd, 1) := by decide +kernel
theorem dL_law_1375 : decode cL_law 1375 = .ok (.iaload, 1) := by decide +kernel
theorem dL_law_1376 : decode cL_law 1376 = .ok (.invokevirtual 168, 3) := by decide +kernel
theorem dL_law_1379 : decode cL_law 1379 = .ok (.if_icmp .eq 38, 3) := by decide +kernel
theorem dL_law_1382 : decode cL_law 1382 = .ok (.iconst 0, 1) := by decide +kernel
theorem dL_law_1383 : decode cL_law 1383 = .ok (.ireturn, 1) := by decide +kernel
theorem dL_law_1384 : decode cL_law 1384 = .ok (.aload_n 1, 1) := by decide +kernel
theorem dL_law_1385 : decode cL_law 1385 = .ok (.aload_n 0, 1) := by decide +kernel
theorem dL_law_1386 : decode cL_law 1386 = .ok (.iload_n 3, 1) := by decide +kernel
theorem dL_law_1387 : decode cL_law 1387 = .ok (.iconst 1, 1) := by decide +kernel
theorem dL_law_1388 : decode cL_law 1388 = .ok (.iadd, 1) := by decide +kernel
theorem dL_law_1389 : decode cL_law 1389 = .ok (.iaload, 1) := by decide +kernel
theorem dL_law_1390 : decode cL_law 1390 = .ok (.aload_n 0, 1) := by decide +kernel
theorem dL_law_1391 : decode cL_law 1391 = .ok (.iload_n 3, 1) := by decide +kernel
theorem dL_law_1392 : decode cL_law 1392 = .ok (.iconst 2, 1) := by decide +kernel
theorem dL_law_1393 : decode cL_law 1393 = .ok (.iadd, 1) := by decide +kernel
theorem dL_law_1394 : decode cL_law 1394 = .ok (.iaload, 1) := by decide +kernel
theorem dL_law_1395 : decode cL_law 1395 = .ok (.invokevirtual 169, 3) := by decide +kernel
theorem dL_law_1398 : decode cL_law 1398 = .ok (.aload_n 2, 1) := by decide +kernel
theorem dL_law_1399 : decode cL_law 1399 = .ok (.aload_n 0, 1) := by decide +kernel
theorem dL_law_1400 : decode cL_law 1400 = .ok (.iload_n 3, 1) := by decide +kernel
theorem dL_law_1401 : decode cL_law 1401 = .ok (.iconst 1, 1) := by decide +kernel
theorem dL_law_1402 : decode cL_law 1402 = .ok (.iadd, 1) := by decide +kernel
theorem dL_law_1403 : decode cL_law 1403 = .ok (.iaload, 1) := by decide +kernel
theorem dL_law_1404 : decode cL_law 1404 = .ok (.aload_n 0, 1) := by decide +kernel
theorem dL_law_1405 : decode cL_law 1405 = .ok (.iload_n 3, 1) := by decide +kernel
theorem dL_law_1406 : decode cL_law 1406 = .ok (.iconst 2, 1) := by decide +kernel
theorem dL_law_1407 : decode cL_law 1407 = .ok (.iadd, 1) := by decide +kernel
theorem dL_law_1408 : decode cL_law 1408 = .ok (.iaload, 1) := by decide +kernel
theorem dL_law_1409 : decode cL_law 1409 = .ok (.invokevirtual 172, 3) := by decide +kernel
theorem dL_law_1412 : decode cL_law 1412 = .ok (.if_icmp .eq 5, 3) := by decide +kernel
theorem dL_law_1415 : decode cL_law 1415 = .ok (.iconst 0, 1) := by decide +kernel
theorem dL_law_1416 : decode cL_law 1416 = .ok (.ireturn, 1) := by decide +kernel
theorem dL_law_1417 : decode cL_law 1417 = .ok (.iinc 3 7, 3) := by decide +kernel
theorem dL_law_1420 : decode cL_law 1420 = .ok (.goto (-1402), 3) := by decide +kernel
theorem dL_law_1423 : decode cL_law 1423 = .ok (.iconst 1, 1) := by decide +kernel
theorem dL_law_1424 : decode cL_law 1424 = .ok (.ireturn, 1) := by decide +kernel
theorem dX0_init_0 : decode cX0_init 0 = .ok (.aload_n 0, 1) := by decide +kernel
theorem dX0_init_1 : decode cX0_init 1 = .ok (.invokespecial 3, 3) := by decide +kernel
theorem dX0_init_4 : decode cX0_init 4 = .ok (.aload_n 0, 1) := by decide +kernel
theorem dX0_init_5 : decode cX0_init 5 = .ok (.sipush 8192, 3) := by decide +kernel
theorem dX0_init_8 : decode cX0_init 8 = .ok (.newarray .long, 2) := by decide +kernel
theorem dX0_init_10 : decode cX0_init 10 = .ok (.putfield 11, 3) := by decide +kernel
theorem dX0_init_13 : decode cX0_init 13 = .ok (.aload_n 0, 1) := by decide +kernel
theorem dX0_init_14 : decode cX0_init 14 = .ok (.sipush 8192, 3) := by decide +kernel
theorem dX0_init_17 : decode cX0_init 17 = .ok (.newarray .int, 2) := by decide +kernel
theorem dX0_init_19 : decode cX0_init 19 = .ok (.putfield 15, 3) := by decide +kernel
theorem dX0_init_22 : decode cX0_init 22 = .ok (.aload_n 0, 1) := by decide +kernel
theorem dX0_init_23 : decode cX0_init 23 = .ok (.sipush 8192, 3) := by decide +kernel
theorem dX0_init_26 : decode cX0_init 26 = .ok (.newarray .int, 2) := by decide +kernel
theorem dX0_init_28 : decode cX0_init 28 = .ok (.putfield 19, 3) := by decide +kernel
theorem dX0_init_31 : decode cX0_init 31 = .ok (.aload_n 0, 1) := by decide +kernel
theorem dX0_init_32 : decode cX0_init 32 = .ok (.sipush 4096, 3) := by decide +kernel
theorem dX0_init_35 : decode cX0_init 35 = .ok (.newarray .int, 2) := by decide +kernel
theorem dX0_init_37 : decode cX0_init 37 = .ok (.putfield 22, 3) := by decide +kernel
theorem dX0_init_40 : decode cX0_init 40 = .ok (.return_, 1) := by decide +kernel
theorem dX0_seek_0 : decode cX0_seek 0 = .ok (.aload_n 0, 1) := by decide +kernel
theorem dX0_seek_1 : decode cX0_seek 1 = .ok (.iconst 0, 1) := by decide +kernel
theorem dX0_seek_2 : decode cX0_seek 2 = .ok (.invokevirtual 25, 3) := by decide +kernel
theorem dX0_seek_5 : decode cX0_seek 5 = .ok (.aload_n 0, 1) := by decide +kernel
theorem dX0_seek_6 : decode cX0_seek 6 = .ok (.aload_n 1, 1) := by decide +kernel
theorem dX0_seek_7 : decode cX0_seek 7 = .ok (.getfield 29, 3) := by decide +kernel
theorem dX0_seek_10 : decode cX0_seek 10 = .ok (.putfield 35, 3) := by decide +kernel
theorem dX0_seek_13 : decode cX0_seek 13 = .ok (.aload_n 0, 1) := by decide +kernel
theorem dX0_seek_14 : decode cX0_seek 14 = .ok (.getfield 11, 3) := by decide +kernel
theorem dX0_seek_17 : decode cX0_seek 17 = .ok (.iconst 0, 1) := by decide +kernel
theorem dX0_seek_18 : decode cX0_seek 18 = .ok (.lconst 0, 1) := by decide +kernel
theorem dX0_seek_19 : decode cX0_seek 19 = .ok (.lastore, 1) := by decide +kernel
theorem dX0_seek_20 : decode cX0_seek 20 = .ok (.aload_n 0, 1) := by decide +kernel
theorem dX0_seek_21 : decode cX0_seek 21 = .ok (.getfield 15, 3) := by decide +kernel
theorem dX0_seek_24 : decode cX0_seek 24 = .ok (.iconst 0, 1) := by decide +kernel
theorem dX0_seek_25 : decode cX0_seek 25 = .ok (.aload_n 1, 1) := by decide +kernel
theorem dX0_seek_26 : decode cX0_seek 26 = .ok (.invokevirtual 36, 3) := by decide +kernel
theorem dX0_seek_29 : decode cX0_seek 29 = .ok (.iastore, 1) := by decide +kernel
theorem dX0_seek_30 : decode cX0_seek 30 = .ok (.aload_n 0, 1) := by decide +kernel
theorem dX0_seek_31 : decode cX0_seek 31 = .ok (.getfield 19, 3) := by decide +kernel
theorem dX0_seek_34 : decode cX0_seek 34 = .ok (.iconst 0, 1) := by decide +kernel
theorem dX0_seek_35 : decode cX0_seek 35 = .ok (.iconst 0, 1) := by decide +kernel
theorem dX0_seek_36 : decode cX0_seek 36 = .ok (.iastore, 1) := by decide +kernel
theorem dX0_seek_37 : decode cX0_seek 37 = .ok (.aload_n 0, 1) := by decide +kernel
theorem dX0_seek_38 : decode cX0_seek 38 = .ok (.iconst 1, 1) := by decide +kernel
theorem dX0_seek_39 : decode cX0_seek 39 = .ok (.putfield 40, 3) := by decide +kernel
theorem dX0_seek_42 : decode cX0_seek 42 = .ok (.aload_n 0, 1) := by decide +kernel
theorem dX0_seek_43 : decode cX0_seek 43 = .ok (.aload_n 1, 1) := by decide +kernel
theorem dX0_seek_44 : decode cX0_seek 44 = .ok (.iconst 0, 1) := by decide +kernel
theorem dX0_seek_45 : decode cX0_seek 45 = .ok (.iload_n 2, 1) := by decide +kernel
theorem dX0_seek_46 : decode cX0_seek 46 = .ok (.iload_n 3, 1) := by decide +kernel
theorem dX0_seek_47 : decode cX0_seek 47 = .ok (.invokevirtual 43, 3) := by decide +kernel
theorem dX0_seek_50 : decode cX0_seek 50 = .ok (.return_, 1) := by decide +kernel
theorem dX0_forget_0 : decode cX0_forget 0 = .ok (.iload_n 1, 1) := by decide +kernel
theorem dX0_forget_1 : decode cX0_forget 1 = .ok (.istore_n 2, 1) := by decide +kernel
theorem dX0_forget_2 : decode cX0_forget 2 = .ok (.iload_n 2, 1) := by decide +kernel
theorem dX0_forget_3 : decode cX0_forget 3 = .ok (.aload_n 0, 1) := by decide +kernel
theorem dX0_forget_4 : decode cX0_forget 4 = .ok (.getfield 40, 3) := by decide +kernel
theorem dX0_forget_7 : decode cX0_forget 7 = .ok (.if_icmp .ge 21, 3) := by decide +kernel
theorem dX0_forget_10 : decode cX0_forget 10 = .ok (.aload_n 0, 1) := by decide +kernel
theorem dX0_forget_11 : decode cX0_forget 11 = .ok (.getfield 15, 3) := by decide +kernel
theorem dX0_forget_14 : decode cX0_forget 14 = .ok (.aload_n 0, 1) := by decide +kernel
theorem dX0_forget_15 : decode cX0_forget 15 = .ok (.getfield 19, 3) := by decide +kernel
theorem dX0_forget_18 : decode cX0_forget 18 = .ok (.iload_n 2, 1) := by decide +kernel
theorem dX0_forget_19 : decode cX0_forget 19 = .ok (.iaload, 1) := by decide +kernel
theorem dX0_forget_20 : decode cX0_forget 20 = .ok (.iconst 0, 1) := by decide +kernel
theorem dX0_forget_21 : decode cX0_forget 21 = .ok (.iastore, 1) := by decide +kernel
theorem dX0_forget_22 : decode cX0_forget 22 = .ok (.iinc 2 1, 3) := by decide +kernel
theorem dX0_forget_25 : decode cX0_forget 25 = .ok (.goto (-23), 3) := by decide +kernel
theorem dX0_forget_28 : decode cX0_forget 28 = .ok (.aload_n 0, 1) := by decide +kernel
theorem dX0_forget_29 : decode cX0_forget 29 = .ok (.iload_n 1, 1) := by decide +kernel
theorem dX0_forget_30 : decode cX0_forget 30 = .ok (.putfield 40, 3) := by decide +kernel
theorem dX0_forget_33 : decode cX0_forget 33 = .ok (.return_, 1) := by decide +kernel
theorem dX0_spread_0 : decode cX0_spread 0 = .ok (.iload_n 2, 1) := by decide +kernel
theorem dX0_spread_1 : decode cX0_spread 1 = .ok (.istore 5, 2) := by decide +kernel
theorem dX0_spread_3 : decode cX0_spread 3 = .ok (.iload 5, 2) := by decide +kernel
theorem dX0_spread_5 : decode cX0_spread 5 = .ok (.aload_n 0, 1) := by decide +kernel
theorem dX0_spread_6 : decode cX0_spread 6 = .ok (.getfield 40, 3) := by decide +kernel
theorem dX0_spread_9 : decode cX0_spread 9 = .ok (.if_icmp .ge 116, 3) := by decide +kernel
theorem dX0_spread_12 : decode cX0_spread 12 = .ok (.iload 5, 2) := by decide +kernel
theorem dX0_spread_14 : decode cX0_spread 14 = .ok (.sipush 8192, 3) := by decide +kernel
theorem dX0_spread_17 : decode cX0_spread 17 = .ok (.if_icmp .ge 108, 3) := by decide +kernel
theorem dX0_spread_20 : decode cX0_spread 20 = .ok (.aload_n 0, 1) := by decide +kernel
theorem dX0_spread_21 : decode cX0_spread 21 = .ok (.getfield 19, 3) := by decide +kernel
theorem dX0_spread_24 : decode cX0_spread 24 = .ok (.iload 5, 2) := by decide +kernel
theorem dX0_spread_26 : decode cX0_spread 26 = .ok (.iaload, 1) := by decide +kernel
theorem dX0_spread_27 : decode cX0_spread 27 = .ok (.istore 6, 2) := by decide +kernel
theorem dX0_spread_29 : decode cX0_spread 29 = .ok (.aload_n 0, 1) := by decide +kernel
theorem dX0_spread_30 : decode cX0_spread 30 = .ok (.iload 6, 2) := by decide +kernel
theorem dX0_spread_32 : decode cX0_spread 32 = .ok (.iload_n 3, 1) := by decide +kernel
theorem dX0_spread_33 : decode cX0_spread 33 = .ok (.invokevirtual 47, 3) := by decide +kernel
theorem dX0_spread_36 : decode cX0_spread 36 = .ok (.ifCond .eq 6, 3) := by decide +kernel
theorem dX0_spread_39 : decode cX0_spread 39 = .ok (.goto 80, 3) := by decide +kernel
theorem dX0_spread_42 : decode cX0_spread 42 = .ok (.aload_n 0, 1) := by decide +kernel
theorem dX0_spread_43 : decode cX0_spread 43 = .ok (.getfield 15, 3) := by decide +kernel
theorem dX0_spread_46 : decode cX0_spread 46 = .ok (.iload 6, 2) := by decide +kernel
theorem dX0_spread_48 : decode cX0_spread 48 = .ok (.iaload, 1) := by decide +kernel
theorem dX0_spread_49 : decode cX0_spread 49 = .ok (.invokestatic 51, 3) := by decide +kernel
theorem dX0_spread_52 : decode cX0_spread 52 = .ok (.iload 4, 2) := by decide +kernel
theorem dX0_spread_54 : decode cX0_spread 54 = .ok (.iand, 1) := by decide +kernel
theorem dX0_spread_55 : decode cX0_spread 55 = .ok (.ifCond .ne 7, 3) := by decide +kernel
theorem dX0_spread_58 : decode cX0_spread 58 = .ok (.iconst 0, 1) := by decide +kernel
theorem dX0_spread_59 : decode cX0_spread 59 = .ok (.goto 4, 3) := by decide +kernel
theorem dX0_spread_62 : decode cX0_spread 62 = .ok (.iconst 1, 1) := by decide +kernel
theorem dX0_spread_63 : decode cX0_spread 63 = .ok (.istore 7, 2) := by decide +kernel
theorem dX0_spread_65 : decode cX0_spread 65 = .ok (.aload_n 1, 1) := by decide +kernel
theorem dX0_spread_66 : decode cX0_spread 66 = .ok (.aload_n 0, 1) := by decide +kernel
theorem dX0_spread_67 : decode cX0_spread 67 = .ok (.getfield 15, 3) := by decide +kernel
theorem dX0_spread_70 : decode cX0_spread 70 = .ok (.iload 6, 2) := by decide +kernel
theorem dX0_spread_72 : decode cX0_spread 72 = .ok (.iaload, 1) := by decide +kernel
theorem dX0_spread_73 : decode cX0_spread 73 = .ok (.iload 7, 2) := by decide +kernel
theorem dX0_spread_75 : decode cX0_spread 75 = .ok (.invokevirtual 55, 3) := by decide +kernel
theorem dX0_spread_78 : decode cX0_spread 78 = .ok (.istore 8, 2) := by decide +kernel
theorem dX0_spread_80 : decode cX0_spread 80 = .ok (.iconst 0, 1) := by decide +kernel
theorem dX0_spread_81 : decode cX0_spread 81 = .ok (.istore 9, 2) := by decide +kernel
theorem dX0_spread_83 : decode cX0_spread 83 = .ok (.iload 9, 2) := by decide +kernel
theorem dX0_spread_85 : decode cX0_spread 85 = .ok (.aload_n 1, 1) := by decide +kernel
theorem dX0_spread_86 : decode cX0_spread 86 = .ok (.getfield 59, 3) := by decide +kernel
theorem dX0_spread_89 : decode cX0_spread 89 = .ok (.if_icmp .ge 30, 3) := by decide +kernel
theorem dX0_spread_92 : decode cX0_spread 92 = .ok (.iload 8, 2) := by decide +kernel
theorem dX0_spread_94 : decode cX0_spread 94 = .ok (.iload 9, 2) := by decide +kernel
theorem dX0_spread_96 : decode cX0_spread 96 = .ok (.ishr, 1) := by decide +kernel
theorem dX0_spread_97 : decode cX0_spread 97 = .ok (.iconst 1, 1) := by decide +kernel
theorem dX0_spread_98 : decode cX0_spread 98 = .ok (.iand, 1) := by decide +kernel
theorem dX0_spread_99 : decode cX0_spread 99 = .ok (.ifCond .eq 14, 3) := by decide +kernel
theorem dX0_spread_102 : decode cX0_spread 102 = .ok (.aload_n 0, 1) := by decide +kernel
theorem dX0_spread_103 : decode cX0_spread 103 = .ok (.aload_n 1, 1) := by decide +kernel
theorem dX0_spread_104 : decode cX0_spread 104 = .ok (.iload 6, 2) := by decide +kernel
theorem dX0_spread_106 : decode cX0_spread 106 = .ok (.iload 9, 2) := by decide +kernel
theorem dX0_spread_108 : decode cX0_spread 108 = .ok (.iload 7, 2) := by decide +kernel
theorem dX0_spread_110 : decode cX0_spread 110 = .ok (.invokevirtual 62, 3) := by decide +kernel
theorem dX0_spread_113 : decode cX0_spread 113 = .ok (.iinc 9 1, 3) := by decide +kernel
theorem dX0_spread_116 : decode cX0_spread 116 = .ok (.goto (-33), 3) := by decide +kernel
theorem dX0_spread_119 : decode cX0_spread 119 = .ok (.iinc 5 1, 3) := by decide +kernel
theorem dX0_spread_122 : decode cX0_spread 122 = .ok (.goto (-119), 3) := by decide +kernel
theorem dX0_spread_125 : decode cX0_spread 125 = .ok (.return_, 1) := by decide +kernel
theorem dX0_step_0 : decode cX0_step 0 = .ok (.iload_n 2, 1) := by decide +kernel
theorem dX0_step_1 : decode cX0_step 1 = .ok (.iconst 1, 1) := by decide +kernel
theorem dX0_step_2 : decode cX0_step 2 = .ok (.iload_n 3, 1) := by decide +kernel
theorem dX0_step_3 : decode cX0_step 3 = .ok (.ishl, 1) := by decide +kernel
theorem dX0_step_4 : decode cX0_step 4 = .ok (.ior, 1) := by decide +kernel
theorem dX0_step_5 : decode cX0_step 5 = .ok (.istore 5, 2) := by decide +kernel
theorem dX0_step_7 : decode cX0_step 7 = .ok (.iload 5, 2) := by decide +kernel
theorem dX0_step_9 : decode cX0_step 9 = .ok (.iload_n 2, 1) := by decide +kernel
theorem dX0_step_10 : decode cX0_step 10 = .ok (.if_icmp .le 11, 3) := by decide +kernel
theorem dX0_step_13 : decode cX0_step 13 = .ok (.iload 5, 2) := by decide +kernel
theorem dX0_step_15 : decode cX0_step 15 = .ok (.sipush 8192, 3) := by decide +kernel
theorem dX0_step_18 : decode cX0_step 18 = .ok (.if_icmp .lt 4, 3) := by decide +kernel
theorem dX0_step_21 : decode cX0_step 21 = .ok (.return_, 1) := by decide +kernel
theorem dX0_step_22 : decode cX0_step 22 = .ok (.aload_n 1, 1) := by decide +kernel
theorem dX0_step_23 : decode cX0_step 23 = .ok (.iload_n 3, 1) := by decide +kernel
theorem dX0_step_24 : decode cX0_step 24 = .ok (.aload_n 0, 1) := by decide +kernel
theorem dX0_step_25 : decode cX0_step 25 = .ok (.getfield 15, 3) := by decide +kernel
theorem dX0_step_28 : decode cX0_step 28 = .ok (.iload_n 2, 1) := by decide +kernel
theorem dX0_step_29 : decode cX0_step 29 = .ok (.iaload, 1) := by decide +kernel
theorem dX0_step_30 : decode cX0_step 30 = .ok (.invokestatic 65, 3) := by decide +kernel
theorem dX0_step_33 : decode cX0_step 33 = .ok (.iload 4, 2) := by decide +kernel
theorem dX0_step_35 : decode cX0_step 35 = .ok (.invokevirtual 68, 3) := by decide +kernel
theorem dX0_step_38 : decode cX0_step 38 = .ok (.i2l, 1) := by decide +kernel
theorem dX0_step_39 : decode cX0_step 39 = .ok (.lstore 6, 2) := by decide +kernel
theorem dX0_step_41 : decode cX0_step 41 = .ok (.iload_n 3, 1) := by decide +kernel
theorem dX0_step_42 : decode cX0_step 42 = .ok (.i2l, 1) := by decide +kernel
theorem dX0_step_43 : decode cX0_step 43 = .ok (.lstore 8, 2) := by decide +kernel
theorem dX0_step_45 : decode cX0_step 45 = .ok (.bipush 48, 2) := by decide +kernel
theorem dX0_step_47 : decode cX0_step 47 = .ok (.iconst 4, 1) := by decide +kernel
theorem dX0_step_48 : decode cX0_step 48 = .ok (.iload_n 2, 1) := by decide +kernel
theorem dX0_step_49 : decode cX0_step 49 = .ok (.invokestatic 72, 3) := by decide +kernel
theorem dX0_step_52 : decode cX0_step 52 = .ok (.imul, 1) := by decide +kernel
theorem dX0_step_53 : decode cX0_step 53 = .ok (.isub, 1) := by decide +kernel
theorem dX0_step_54 : decode cX0_step 54 = .ok (.istore 10, 2) := by decide +kernel
theorem dX0_step_56 : decode cX0_step 56 = .ok (.aload_n 0, 1) := by decide +kernel
theorem dX0_step_57 : decode cX0_step 57 = .ok (.getfield 11, 3) := by decide +kernel
theorem dX0_step_60 : decode cX0_step 60 = .ok (.iload_n 2, 1) := by decide +kernel
theorem dX0_step_61 : decode cX0_step 61 = .ok (.laload, 1) := by decide +kernel
theorem dX0_step_62 : decode cX0_step 62 = .ok (.lload 6, 2) := by decide +kernel
theorem dX0_step_64 : decode cX0_step 64 = .ok (.bipush 52, 2) := by decide +kernel
theorem dX0_step_66 : decode cX0_step 66 = .ok (.lshl, 1) := by decide +kernel
theorem dX0_step_67 : decode cX0_step 67 = .ok (.ladd, 1) := by decide +kernel
theorem dX0_step_68 : decode cX0_step 68 = .ok (.lload 8, 2) := by decide +kernel
theorem dX0_step_70 : decode cX0_step 70 = .ok (.iload 10, 2) := by decide +kernel
theorem dX0_step_72 : decode cX0_step 72 = .ok (.lshl, 1) := by decide +kernel
theorem dX0_step_73 : decode cX0_step 73 = .ok (.ladd, 1) := by decide +kernel
theorem dX0_step_74 : decode cX0_step 74 = .ok (.lstore 11, 2) := by decide +kernel
theorem dX0_step_76 : decode cX0_step 76 = .ok (.aload_n 0, 1) := by decide +kernel
theorem dX0_step_77 : decode cX0_step 77 = .ok (.getfield 15, 3) := by decide +kernel
theorem dX0_step_80 : decode cX0_step 80 = .ok (.iload 5, 2) := by decide +kernel
theorem dX0_step_82 : decode cX0_step 82 = .ok (.iaload, 1) := by decide +kernel
theorem dX0_step_83 : decode cX0_step 83 = .ok (.ifCond .eq 25, 3) := by decide +kernel
theorem dX0_step_86 : decode cX0_step 86 = .ok (.aload_n 0, 1) := by decide +kernel
theorem dX0_step_87 : decode cX0_step 87 = .ok (.getfield 11, 3) := by decide +kernel
theorem dX0_step_90 : decode cX0_step 90 = .ok (.iload 5, 2) := by decide +kernel
theorem dX0_step_92 : decode cX0_step 92 = .ok (.aload_n 0, 1) := by decide +kernel
theorem dX0_step_93 : decode cX0_step 93 = .ok (.getfield 11, 3) := by decide +kernel
theorem dX0_step_96 : decode cX0_step 96 = .ok (.iload 5, 2) := by decide +kernel
theorem dX0_step_98 : decode cX0_step 98 = .ok (.laload, 1) := by decide +kernel
theorem dX0_step_99 : decode cX0_step 99 = .ok (.lload 11, 2) := by decide +kernel
theorem dX0_step_101 : decode cX0_step 101 = .ok (.invokestatic 77, 3) := by decide +kernel
theorem dX0_step_104 : decode cX0_step 104 = .ok (.lastore, 1) := by decide +kernel
theorem dX0_step_105 : decode cX0_step 105 = .ok (.goto 58, 3) := by decide +kernel
theorem dX0_step_108 : decode cX0_step 108 = .ok (.aload_n 0, 1) := by decide +kernel
theorem dX0_step_109 : decode cX0_step 109 = .ok (.getfield 40, 3) := by decide +kernel
theorem dX0_step_112 : decode cX0_step 112 = .ok (.sipush 8192, 3) := by decide +kernel
theorem dX0_step_115 : decode cX0_step 115 = .ok (.if_icmp .ge 48, 3) := by decide +kernel
theorem dX0_step_118 : decode cX0_step 118 = .ok (.aload_n 0, 1) := by decide +kernel
theorem dX0_step_119 : decode cX0_step 119 = .ok (.getfield 11, 3) := by decide +kernel
theorem dX0_step_122 : decode cX0_step 122 = .ok (.iload 5, 2) := by decide +kernel
theorem dX0_step_124 : decode cX0_step 124 = .ok (.lload 11, 2) := by decide +kernel
theorem dX0_step_126 : decode cX0_step 126 = .ok (.lastore, 1) := by decide +kernel
theorem dX0_step_127 : decode cX0_step 127 = .ok (.aload_n 0, 1) := by decide +kernel
theorem dX0_step_128 : decode cX0_step 128 = .ok (.getfield 15, 3) := by decide +kernel
theorem dX0_step_131 : decode cX0_step 131 = .ok (.iload 5, 2) := by decide +kernel
theorem dX0_step_133 : decode cX0_step 133 = .ok (.aload_n 1, 1) := by decide +kernel
theorem dX0_step_134 : decode cX0_step 134 = .ok (.aload_n 0, 1) := by decide +kernel
theorem dX0_step_135 : decode cX0_step 135 = .ok (.getfield 15, 3) := by decide +kernel
theorem dX0_step_138 : decode cX0_step 138 = .ok (.iload_n 2, 1) := by decide +kernel
theorem dX0_step_139 : decode cX0_step 139 = .ok (.iaload, 1) := by decide +kernel
theorem dX0_step_140 : decode cX0_step 140 = .ok (.iload_n 3, 1) := by decide +kernel
theorem dX0_step_141 : decode cX0_step 141 = .ok (.invokevirtual 83, 3) := by decide +kernel
theorem dX0_step_144 : decode cX0_step 144 = .ok (.iastore, 1) := by decide +kernel
theorem dX0_step_145 : decode cX0_step 145 = .ok (.aload_n 0, 1) := by decide +kernel
theorem dX0_step_146 : decode cX0_step 146 = .ok (.getfield 19, 3) := by decide +kernel
theorem dX0_step_149 : decode cX0_step 149 = .ok (.aload_n 0, 1) := by decide +kernel
theorem dX0_step_150 : decode cX0_step 150 = .ok (.dup, 1) := by decide +kernel
theorem dX0_step_151 : decode cX0_step 151 = .ok (.getfield 40, 3) := by decide +kernel
theorem dX0_step_154 : decode cX0_step 154 = .ok (.dup_x1, 1) := by decide +kernel
theorem dX0_step_155 : decode cX0_step 155 = .ok (.iconst 1, 1) := by decide +kernel
theorem dX0_step_156 : decode cX0_step 156 = .ok (.iadd, 1) := by decide +kernel
theorem dX0_step_157 : decode cX0_step 157 = .ok (.putfield 40, 3) := by decide +kernel
theorem dX0_step_160 : decode cX0_step 160 = .ok (.iload 5, 2) := by decide +kernel
theorem dX0_step_162 : decode cX0_step 162 = .ok (.iastore, 1) := by decide +kernel
theorem dX0_step_163 : decode cX0_step 163 = .ok (.return_, 1) := by decide +kernel
theorem dX0_isRing_0 : decode cX0_isRing 0 = .ok (.iload_n 1, 1) := by decide +kernel
theorem dX0_isRing_1 : decode cX0_isRing 1 = .ok (.ifCond .eq 39, 3) := by decide +kernel
theorem dX0_isRing_4 : decode cX0_isRing 4 = .ok (.aload_n 0, 1) := by decide +kernel
theorem dX0_isRing_5 : decode cX0_isRing 5 = .ok (.getfield 15, 3) := by decide +kernel
theorem dX0_isRing_8 : decode cX0_isRing 8 = .ok (.iload_n 1, 1) := by decide +kernel
theorem dX0_isRing_9 : decode cX0_isRing 9 = .ok (.iaload, 1) := by decide +kernel
theorem dX0_isRing_10 : decode cX0_isRing 10 = .ok (.invokestatic 65, 3) := by decide +kernel
theorem dX0_isRing_13 : decode cX0_isRing 13 = .ok (.aload_n 0, 1) := by decide +kernel
theorem dX0_isRing_14 : decode cX0_isRing 14 = .ok (.getfield 35, 3) := by decide +kernel
theorem dX0_isRing_17 : decode cX0_isRing 17 = .ok (.if_icmp .ne 23, 3) := by decide +kernel
theorem dX0_isRing_20 : decode cX0_isRing 20 = .ok (.iload_n 2, 1) := by decide +kernel
theorem dX0_isRing_21 : decode cX0_isRing 21 = .ok (.aload_n 0, 1) := by decide +kernel
theorem dX0_isRing_22 : decode cX0_isRing 22 = .ok (.getfield 15, 3) := by decide +kernel
theorem dX0_isRing_25 : decode cX0_isRing 25 = .ok (.iload_n 1, 1) := by decide +kernel
theorem dX0_isRing_26 : decode cX0_isRing 26 = .ok (.iaload, 1) := by decide +kernel
theorem dX0_isRing_27 : decode cX0_isRing 27 = .ok (.invokestatic 51, 3) := by decide +kernel
theorem dX0_isRing_30 : decode cX0_isRing 30 = .ok (.iconst (-1), 1) := by decide +kernel
theorem dX0_isRing_31 : decode cX0_isRing 31 = .ok (.ixor, 1) := by decide +kernel
theorem dX0_isRing_32 : decode cX0_isRing 32 = .ok (.iand, 1) := by decide +kernel
theorem dX0_isRing_33 : decode cX0_isRing 33 = .ok (.ifCond .ne 7, 3) := by decide +kernel
theorem dX0_isRing_36 : decode cX0_isRing 36 = .ok (.iconst 1, 1) := by decide +kernel
theorem dX0_isRing_37 : decode cX0_isRing 37 = .ok (.goto 4, 3) := by decide +kernel
theorem dX0_isRing_40 : decode cX0_isRing 40 = .ok (.iconst 0, 1) := by decide +kernel
theorem dX0_isRing_41 : decode cX0_isRing 41 = .ok (.ireturn, 1) := by decide +kernel
theorem dX0_least_0 : decode cX0_least 0 = .ok (.iconst (-1), 1) := by decide +kernel
theorem dX0_least_1 : decode cX0_least 1 = .ok (.istore_n 2, 1) := by decide +kernel
theorem dX0_least_2 : decode cX0_least 2 = .ok (.iconst 0, 1) := by decide +kernel
theorem dX0_least_3 : decode cX0_least 3 = .ok (.istore_n 3, 1) := by decide +kernel
theorem dX0_least_4 : decode cX0_least 4 = .ok (.iload_n 3, 1) := by decide +kernel
theorem dX0_least_5 : decode cX0_least 5 = .ok (.aload_n 0, 1) := by decide +kernel
theorem dX0_least_6 : decode cX0_least 6 = .ok (.getfield 40, 3) := by decide +kernel
theorem dX0_least_9 : decode cX0_least 9 = .ok (.if_icmp .ge 51, 3) := by decide +kernel
theorem dX0_least_12 : decode cX0_least 12 = .ok (.aload_n 0, 1) := by decide +kernel
theorem dX0_least_13 : decode cX0_least 13 = .ok (.getfield 19, 3) := by decide +kernel
theorem dX0_least_16 : decode cX0_least 16 = .ok (.iload_n 3, 1) := by decide +kernel
theorem dX0_least_17 : decode cX0_least 17 = .ok (.iaload, 1) := by decide +kernel
theorem dX0_least_18 : decode cX0_least 18 = .ok (.istore 4, 2) := by decide +kernel
theorem dX0_least_20 : decode cX0_least 20 = .ok (.aload_n 0, 1) := by decide +kernel
theorem dX0_least_21 : decode cX0_least 21 = .ok (.iload 4, 2) := by decide +kernel
theorem dX0_least_23 : decode cX0_least 23 = .ok (.iload_n 1, 1) := by decide +kernel
theorem dX0_least_24 : decode cX0_least 24 = .ok (.invokevirtual 47, 3) := by decide +kernel
theorem dX0_least_27 : decode cX0_least 27 = .ok (.ifCond .eq 27, 3) := by decide +kernel
theorem dX0_least_30 : decode cX0_least 30 = .ok (.iload_n 2, 1) := by decide +kernel
theorem dX0_least_31 : decode cX0_least 31 = .ok (.ifCond .lt 20, 3) := by decide +kernel
theorem dX0_least_34 : decode cX0_least 34 = .ok (.aload_n 0, 1) := by decide +kernel
theorem dX0_least_35 : decode cX0_least 35 = .ok (.getfield 11, 3) := by decide +kernel
theorem dX0_least_38 : decode cX0_least 38 = .ok (.iload 4, 2) := by decide +kernel
theorem dX0_least_40 : decode cX0_least 40 = .ok (.laload, 1) := by decide +kernel
theorem dX0_least_41 : decode cX0_least 41 = .ok (.aload_n 0, 1) := by decide +kernel
theorem dX0_least_42 : decode cX0_least 42 = .ok (.getfield 11, 3) := by decide +kernel
theorem dX0_least_45 : decode cX0_least 45 = .ok (.iload_n 2, 1) := by decide +kernel
theorem dX0_least_46 : decode cX0_least 46 = .ok (.laload, 1) := by decide +kernel
theorem dX0_least_47 : decode cX0_least 47 = .ok (.lcmp, 1) := by decide +kernel
theorem dX0_least_48 : decode cX0_least 48 = .ok (.ifCond .ge 6, 3) := by decide +kernel
theorem dX0_least_51 : decode cX0_least 51 = .ok (.iload 4, 2) := by decide +kernel
theorem dX0_least_53 : decode cX0_least 53 = .ok (.istore_n 2, 1) := by decide +kernel
theorem dX0_least_54 : decode cX0_least 54 = .ok (.iinc 3 1, 3) := by decide +kernel
theorem dX0_least_57 : decode cX0_least 57 = .ok (.goto (-53), 3) := by decide +kernel
theorem dX0_least_60 : decode cX0_least 60 = .ok (.iload_n 2, 1) := by decide +kernel
theorem dX0_least_61 : decode cX0_least 61 = .ok (.ireturn, 1) := by decide +kernel
theorem dX0_minutes_0 : decode cX0_minutes 0 = .ok (.aload_n 0, 1) := by decide +kernel
theorem dX0_minutes_1 : decode cX0_minutes 1 = .ok (.getfield 11, 3) := by decide +kernel
theorem dX0_minutes_4 : decode cX0_minutes 4 = .ok (.iload_n 1, 1) := by decide +kernel
theorem dX0_minutes_5 : decode cX0_minutes 5 = .ok (.laload, 1) := by decide +kernel
theorem dX0_minutes_6 : decode cX0_minutes 6 = .ok (.bipush 52, 2) := by decide +kernel
theorem dX0_minutes_8 : decode cX0_minutes 8 = .ok (.lushr, 1) := by decide +kernel
theorem dX0_minutes_9 : decode cX0_minutes 9 = .ok (.l2i, 1) := by decide +kernel
theorem dX0_minutes_10 : decode cX0_minutes 10 = .ok (.ireturn, 1) := by decide +kernel
theorem dX0_streetAt_0 : decode cX0_streetAt 0 = .ok (.aload_n 0, 1) := by decide +kernel
theorem dX0_streetAt_1 : decode cX0_streetAt 1 = .ok (.getfield 11, 3) := by decide +kernel
theorem dX0_streetAt_4 : decode cX0_streetAt 4 = .ok (.iload_n 1, 1) := by decide +kernel
theorem dX0_streetAt_5 : decode cX0_streetAt 5 = .ok (.laload, 1) := by decide +kernel
theorem dX0_streetAt_6 : decode cX0_streetAt 6 = .ok (.bipush 48, 2) := by decide +kernel
theorem dX0_streetAt_8 : decode cX0_streetAt 8 = .ok (.iconst 4, 1) := by decide +kernel
theorem dX0_streetAt_9 : decode cX0_streetAt 9 = .ok (.iload_n 2, 1) := by decide +kernel
theorem dX0_streetAt_10 : decode cX0_streetAt 10 = .ok (.imul, 1) := by decide +kernel
theorem dX0_streetAt_11 : decode cX0_streetAt 11 = .ok (.isub, 1) := by decide +kernel
theorem dX0_streetAt_12 : decode cX0_streetAt 12 = .ok (.lushr, 1) := by decide +kernel
theorem dX0_streetAt_13 : decode cX0_streetAt 13 = .ok (.l2i, 1) := by decide +kernel
theorem dX0_streetAt_14 : decode cX0_streetAt 14 = .ok (.bipush 15, 2) := by decide +kernel
theorem dX0_streetAt_16 : decode cX0_streetAt 16 = .ok (.iand, 1) := by decide +kernel
theorem dX0_streetAt_17 : decode cX0_streetAt 17 = .ok (.ireturn, 1) := by decide +kernel
theorem dX0_shared_0 : decode cX0_shared 0 = .ok (.iconst (-1), 1) := by decide +kernel
theorem dX0_shared_1 : decode cX0_shared 1 = .ok (.istore_n 2, 1) := by decide +kernel
theorem dX0_shared_2 : decode cX0_shared 2 = .ok (.iconst 0, 1) := by decide +kernel
theorem dX0_shared_3 : decode cX0_shared 3 = .ok (.istore_n 3, 1) := by decide +kernel
theorem dX0_shared_4 : decode cX0_shared 4 = .ok (.iload_n 3, 1) := by decide +kernel
theorem dX0_shared_5 : decode cX0_shared 5 = .ok (.aload_n 0, 1) := by decide +kernel
theorem dX0_shared_6 : decode cX0_shared 6 = .ok (.getfield 40, 3) := by decide +kernel
theorem dX0_shared_9 : decode cX0_shared 9 = .ok (.if_icmp .ge 32, 3) := by decide +kernel
theorem dX0_shared_12 : decode cX0_shared 12 = .ok (.aload_n 0, 1) := by decide +kernel
theorem dX0_shared_13 : decode cX0_shared 13 = .ok (.aload_n 0, 1) := by decide +kernel
theorem dX0_shared_14 : decode cX0_shared 14 = .ok (.getfield 19, 3) := by decide +kernel
theorem dX0_shared_17 : decode cX0_shared 17 = .ok (.iload_n 3, 1) := by decide +kernel
theorem dX0_shared_18 : decode cX0_shared 18 = .ok (.iaload, 1) := by decide +kernel
theorem dX0_shared_19 : decode cX0_shared 19 = .ok (.iload_n 1, 1) := by decide +kernel
theorem dX0_shared_20 : decode cX0_shared 20 = .ok (.invokevirtual 47, 3) := by decide +kernel
theorem dX0_shared_23 : decode cX0_shared 23 = .ok (.ifCond .eq 12, 3) := by decide +kernel
theorem dX0_shared_26 : decode cX0_shared 26 = .ok (.iload_n 2, 1) := by decide +kernel
theorem dX0_shared_27 : decode cX0_shared 27 = .ok (.aload_n 0, 1) := by decide +kernel
theorem dX0_shared_28 : decode cX0_shared 28 = .ok (.getfield 19, 3) := by decide +kernel
theorem dX0_shared_31 : decode cX0_shared 31 = .ok (.iload_n 3, 1) := by decide +kernel
theorem dX0_shared_32 : decode cX0_shared 32 = .ok (.iaload, 1) := by decide +kernel
theorem dX0_shared_33 : decode cX0_shared 33 = .ok (.iand, 1) := by decide +kernel
theorem dX0_shared_34 : decode cX0_shared 34 = .ok (.istore_n 2, 1) := by decide +kernel
theorem dX0_shared_35 : decode cX0_shared 35 = .ok (.iinc 3 1, 3) := by decide +kernel
theorem dX0_shared_38 : decode cX0_shared 38 = .ok (.goto (-34), 3) := by decide +kernel
theorem dX0_shared_41 : decode cX0_shared 41 = .ok (.iload_n 2, 1) := by decide +kernel
theorem dX0_shared_42 : decode cX0_shared 42 = .ok (.ireturn, 1) := by decide +kernel
theorem dX0_ringedWithout_0 : decode cX0_ringedWithout 0 = .ok (.aload_n 0, 1) := by decide +kernel
theorem dX0_ringedWithout_1 : decode cX0_ringedWithout 1 = .ok (.iconst 0, 1) := by decide +kernel
theorem dX0_ringedWithout_2 : decode cX0_ringedWithout 2 = .ok (.iload_n 1, 1) := by decide +kernel
theorem dX0_ringedWithout_3 : decode cX0_ringedWithout 3 = .ok (.ifCond .ge 7, 3) := by decide +kernel
theorem dX0_ringedWithout_6 : decode cX0_ringedWithout 6 = .ok (.iconst 0, 1) := by decide +kernel
theorem dX0_ringedWithout_7 : decode cX0_ringedWithout 7 = .ok (.goto 6, 3) := by decide +kernel
theorem dX0_ringedWithout_10 : decode cX0_ringedWithout 10 = .ok (.iconst 1, 1) := by decide +kernel
theorem dX0_ringedWithout_11 : decode cX0_ringedWithout 11 = .ok (.iload_n 1, 1) := by decide +kernel
theorem dX0_ringedWithout_12 : decode cX0_ringedWithout 12 = .ok (.ishl, 1) := by decide +kernel
theorem dX0_ringedWithout_13 : decode cX0_ringedWithout 13 = .ok (.invokevirtual 86, 3) := by decide +kernel
theorem dX0_ringedWithout_16 : decode cX0_ringedWithout 16 = .ok (.ireturn, 1) := by decide +kernel
theorem dX0_ringedSince_0 : decode cX0_ringedSince 0 = .ok (.iconst 0, 1) := by decide +kernel
theorem dX0_ringedSince_1 : decode cX0_ringedSince 1 = .ok (.istore_n 3, 1) := by decide +kernel
theorem dX0_ringedSince_2 : decode cX0_ringedSince 2 = .ok (.iload_n 1, 1) := by decide +kernel
theorem dX0_ringedSince_3 : decode cX0_ringedSince 3 = .ok (.istore 4, 2) := by decide +kernel
theorem dX0_ringedSince_5 : decode cX0_ringedSince 5 = .ok (.iload 4, 2) := by decide +kernel
theorem dX0_ringedSince_7 : decode cX0_ringedSince 7 = .ok (.aload_n 0, 1) := by decide +kernel
theorem dX0_ringedSince_8 : decode cX0_ringedSince 8 = .ok (.getfield 40, 3) := by decide +kernel
theorem dX0_ringedSince_11 : decode cX0_ringedSince 11 = .ok (.if_icmp .ge 48, 3) := by decide +kernel
theorem dX0_ringedSince_14 : decode cX0_ringedSince 14 = .ok (.aload_n 0, 1) := by decide +kernel
theorem dX0_ringedSince_15 : decode cX0_ringedSince 15 = .ok (.getfield 19, 3) := by decide +kernel
theorem dX0_ringedSince_18 : decode cX0_ringedSince 18 = .ok (.iload 4, 2) := by decide +kernel
theorem dX0_ringedSince_20 : decode cX0_ringedSince 20 = .ok (.iaload, 1) := by decide +kernel
theorem dX0_ringedSince_21 : decode cX0_ringedSince 21 = .ok (.istore 5, 2) := by decide +kernel
theorem dX0_ringedSince_23 : decode cX0_ringedSince 23 = .ok (.iload 5, 2) := by decide +kernel
theorem dX0_ringedSince_25 : decode cX0_ringedSince 25 = .ok (.iload_n 2, 1) := by decide +kernel
theorem dX0_ringedSince_26 : decode cX0_ringedSince 26 = .ok (.iand, 1) := by decide +kernel
theorem dX0_ringedSince_27 : decode cX0_ringedSince 27 = .ok (.ifCond .ne 26, 3) := by decide +kernel
theorem dX0_ringedSince_30 : decode cX0_ringedSince 30 = .ok (.aload_n 0, 1) := by decide +kernel
theorem dX0_ringedSince_31 : decode cX0_ringedSince 31 = .ok (.iload 5, 2) := by decide +kernel
theorem dX0_ringedSince_33 : decode cX0_ringedSince 33 = .ok (.iconst 0, 1) := by decide +kernel
theorem dX0_ringedSince_34 : decode cX0_ringedSince 34 = .ok (.invokevirtual 47, 3) := by decide +kernel
theorem dX0_ringedSince_37 : decode cX0_ringedSince 37 = .ok (.ifCond .eq 16, 3) := by decide +kernel
theorem dX0_ringedSince_40 : decode cX0_ringedSince 40 = .ok (.iload_n 3, 1) := by decide +kernel
theorem dX0_ringedSince_41 : decode cX0_ringedSince 41 = .ok (.aload_n 0, 1) := by decide +kernel
theorem dX0_ringedSince_42 : decode cX0_ringedSince 42 = .ok (.getfield 15, 3) := by decide +kernel
theorem dX0_ringedSince_45 : decode cX0_ringedSince 45 = .ok (.iload 5, 2) := by decide +kernel
theorem dX0_ringedSince_47 : decode cX0_ringedSince 47 = .ok (.iaload, 1) := by decide +kernel
theorem dX0_ringedSince_48 : decode cX0_ringedSince 48 = .ok (.invokestatic 51, 3) := by decide +kernel
theorem dX0_ringedSince_51 : decode cX0_ringedSince 51 = .ok (.ior, 1) := by decide +kernel
theorem dX0_ringedSince_52 : decode cX0_ringedSince 52 = .ok (.istore_n 3, 1) := by decide +kernel
theorem dX0_ringedSince_53 : decode cX0_ringedSince 53 = .ok (.iinc 4 1, 3) := by decide +kernel
theorem dX0_ringedSince_56 : decode cX0_ringedSince 56 = .ok (.goto (-51), 3) := by decide +kernel
theorem dX0_ringedSince_59 : decode cX0_ringedSince 59 = .ok (.iload_n 3, 1) := by decide +kernel
theorem dX0_ringedSince_60 : decode cX0_ringedSince 60 = .ok (.iconst 1, 1) := by decide +kernel
theorem dX0_ringedSince_61 : decode cX0_ringedSince 61 = .ok (.aload_n 0, 1) := by decide +kernel
theorem dX0_ringedSince_62 : decode cX0_ringedSince 62 = .ok (.getfield 35, 3) := by decide +kernel
theorem dX0_ringedSince_65 : decode cX0_ringedSince 65 = .ok (.ishl, 1) := by decide +kernel
theorem dX0_ringedSince_66 : decode cX0_ringedSince 66 = .ok (.iconst (-1), 1) := by decide +kernel
theorem dX0_ringedSince_67 : decode cX0_ringedSince 67 = .ok (.ixor, 1) := by decide +kernel
theorem dX0_ringedSince_68 : decode cX0_ringedSince 68 = .ok (.iand, 1) := by decide +kernel
theorem dX0_ringedSince_69 : decode cX0_ringedSince 69 = .ok (.ireturn, 1) := by decide +kernel
theorem dX0_ringedByLane_0 : decode cX0_ringedByLane 0 = .ok (.aload_n 0, 1) := by decide +kernel
theorem dX0_ringedByLane_1 : decode cX0_ringedByLane 1 = .ok (.getfield 40, 3) := by decide +kernel
theorem dX0_ringedByLane_4 : decode cX0_ringedByLane 4 = .ok (.istore 4, 2) := by decide +kernel
theorem dX0_ringedByLane_6 : decode cX0_ringedByLane 6 = .ok (.aload_n 1, 1) := by decide +kernel
theorem dX0_ringedByLane_7 : decode cX0_ringedByLane 7 = .ok (.iload_n 2, 1) := by decide +kernel
theorem dX0_ringedByLane_8 : decode cX0_ringedByLane 8 = .ok (.iload_n 3, 1) := by decide +kernel
theorem dX0_ringedByLane_9 : decode cX0_ringedByLane 9 = .ok (.invokevirtual 89, 3) := by decide +kernel
theorem dX0_ringedByLane_12 : decode cX0_ringedByLane 12 = .ok (.iconst 0, 1) := by decide +kernel
theorem dX0_ringedByLane_13 : decode cX0_ringedByLane 13 = .ok (.istore 5, 2) := by decide +kernel
theorem dX0_ringedByLane_15 : decode cX0_ringedByLane 15 = .ok (.iload 5, 2) := by decide +kernel
theorem dX0_ringedByLane_17 : decode cX0_ringedByLane 17 = .ok (.iload 4, 2) := by decide +kernel
theorem dX0_ringedByLane_19 : decode cX0_ringedByLane 19 = .ok (.if_icmp .ge 52, 3) := by decide +kernel
theorem dX0_ringedByLane_22 : decode cX0_ringedByLane 22 = .ok (.aload_n 0, 1) := by decide +kernel
theorem dX0_ringedByLane_23 : decode cX0_ringedByLane 23 = .ok (.getfield 19, 3) := by decide +kernel
theorem dX0_ringedByLane_26 : decode cX0_ringedByLane 26 = .ok (.iload 5, 2) := by decide +kernel
theorem dX0_ringedByLane_28 : decode cX0_ringedByLane 28 = .ok (.iaload, 1) := by decide +kernel
theorem dX0_ringedByLane_29 : decode cX0_ringedByLane 29 = .ok (.istore 6, 2) := by decide +kernel
theorem dX0_ringedByLane_31 : decode cX0_ringedByLane 31 = .ok (.aload_n 1, 1) := by decide +kernel
theorem dX0_ringedByLane_32 : decode cX0_ringedByLane 32 = .ok (.aload_n 0, 1) := by decide +kernel
theorem dX0_ringedByLane_33 : decode cX0_ringedByLane 33 = .ok (.getfield 15, 3) := by decide +kernel
theorem dX0_ringedByLane_36 : decode cX0_ringedByLane 36 = .ok (.iload 6, 2) := by decide +kernel
theorem dX0_ringedByLane_38 : decode cX0_ringedByLane 38 = .ok (.iaload, 1) := by decide +kernel
theorem dX0_ringedByLane_39 : decode cX0_ringedByLane 39 = .ok (.iconst 0, 1) := by decide +kernel
theorem dX0_ringedByLane_40 : decode cX0_ringedByLane 40 = .ok (.invokevirtual 55, 3) := by decide +kernel
theorem dX0_ringedByLane_43 : decode cX0_ringedByLane 43 = .ok (.aload_n 1, 1) := by decide +kernel
theorem dX0_ringedByLane_44 : decode cX0_ringedByLane 44 = .ok (.getfield 59, 3) := by decide +kernel
theorem dX0_ringedByLane_47 : decode cX0_ringedByLane 47 = .ok (.ishr, 1) := by decide +kernel
theorem dX0_ringedByLane_48 : decode cX0_ringedByLane 48 = .ok (.iconst 1, 1) := by decide +kernel
theorem dX0_ringedByLane_49 : decode cX0_ringedByLane 49 = .ok (.iand, 1) := by decide +kernel
theorem dX0_ringedByLane_50 : decode cX0_ringedByLane 50 = .ok (.ifCond .eq 15, 3) := by decide +kernel
theorem dX0_ringedByLane_53 : decode cX0_ringedByLane 53 = .ok (.aload_n 0, 1) := by decide +kernel
theorem dX0_ringedByLane_54 : decode cX0_ringedByLane 54 = .ok (.aload_n 1, 1) := by decide +kernel
theorem dX0_ringedByLane_55 : decode cX0_ringedByLane 55 = .ok (.iload 6, 2) := by decide +kernel
theorem dX0_ringedByLane_57 : decode cX0_ringedByLane 57 = .ok (.aload_n 1, 1) := by decide +kernel
theorem dX0_ringedByLane_58 : decode cX0_ringedByLane 58 = .ok (.getfield 59, 3) := by decide +kernel
theorem dX0_ringedByLane_61 : decode cX0_ringedByLane 61 = .ok (.iconst 0, 1) := by decide +kernel
theorem dX0_ringedByLane_62 : decode cX0_ringedByLane 62 = .ok (.invokevirtual 62, 3) := by decide +kernel
theorem dX0_ringedByLane_65 : decode cX0_ringedByLane 65 = .ok (.iinc 5 1, 3) := by decide +kernel
theorem dX0_ringedByLane_68 : decode cX0_ringedByLane 68 = .ok (.goto (-53), 3) := by decide +kernel
theorem dX0_ringedByLane_71 : decode cX0_ringedByLane 71 = .ok (.aload_n 1, 1) := by decide +kernel
theorem dX0_ringedByLane_72 : decode cX0_ringedByLane 72 = .ok (.iload_n 2, 1) := by decide +kernel
theorem dX0_ringedByLane_73 : decode cX0_ringedByLane 73 = .ok (.iload_n 3, 1) := by decide +kernel
theorem dX0_ringedByLane_74 : decode cX0_ringedByLane 74 = .ok (.invokevirtual 93, 3) := by decide +kernel
theorem dX0_ringedByLane_77 : decode cX0_ringedByLane 77 = .ok (.aload_n 0, 1) := by decide +kernel
theorem dX0_ringedByLane_78 : decode cX0_ringedByLane 78 = .ok (.aload_n 1, 1) := by decide +kernel
theorem dX0_ringedByLane_79 : decode cX0_ringedByLane 79 = .ok (.iload 4, 2) := by decide +kernel
theorem dX0_ringedByLane_81 : decode cX0_ringedByLane 81 = .ok (.sipush 512, 3) := by decide +kernel
theorem dX0_ringedByLane_84 : decode cX0_ringedByLane 84 = .ok (.iconst 0, 1) := by decide +kernel
theorem dX0_ringedByLane_85 : decode cX0_ringedByLane 85 = .ok (.invokevirtual 43, 3) := by decide +kernel
theorem dX0_ringedByLane_88 : decode cX0_ringedByLane 88 = .ok (.aload_n 0, 1) := by decide +kernel
theorem dX0_ringedByLane_89 : decode cX0_ringedByLane 89 = .ok (.iload 4, 2) := by decide +kernel
theorem dX0_ringedByLane_91 : decode cX0_ringedByLane 91 = .ok (.iconst 0, 1) := by decide +kernel
theorem dX0_ringedByLane_92 : decode cX0_ringedByLane 92 = .ok (.invokevirtual 86, 3) := by decide +kernel
theorem dX0_ringedByLane_95 : decode cX0_ringedByLane 95 = .ok (.istore 5, 2) := by decide +kernel
theorem dX0_ringedByLane_97 : decode cX0_ringedByLane 97 = .ok (.aload_n 0, 1) := by decide +kernel
theorem dX0_ringedByLane_98 : decode cX0_ringedByLane 98 = .ok (.iload 4, 2) := by decide +kernel
theorem dX0_ringedByLane_100 : decode cX0_ringedByLane 100 = .ok (.invokevirtual 25, 3) := by decide +kernel
theorem dX0_ringedByLane_103 : decode cX0_ringedByLane 103 = .ok (.iload 5, 2) := by decide +kernel
theorem dX0_ringedByLane_105 : decode cX0_ringedByLane 105 = .ok (.ireturn, 1) := by decide +kernel
theorem dX0_leastTwo_0 : decode cX0_leastTwo 0 = .ok (.iconst 1, 1) := by decide +kernel
theorem dX0_leastTwo_1 : decode cX0_leastTwo 1 = .ok (.iload_n 3, 1) := by decide +kernel
theorem dX0_leastTwo_2 : decode cX0_leastTwo 2 = .ok (.bipush 12, 2) := by decide +kernel
theorem dX0_leastTwo_4 : decode cX0_leastTwo 4 = .ok (.invokestatic 96, 3) := by decide +kernel
theorem dX0_leastTwo_7 : decode cX0_leastTwo 7 = .ok (.ishl, 1) := by decide +kernel
theorem dX0_leastTwo_8 : decode cX0_leastTwo 8 = .ok (.istore 4, 2) := by decide +kernel
theorem dX0_leastTwo_10 : decode cX0_leastTwo 10 = .ok (.aload_n 0, 1) := by decide +kernel
theorem dX0_leastTwo_11 : decode cX0_leastTwo 11 = .ok (.iload_n 2, 1) := by decide +kernel
theorem dX0_leastTwo_12 : decode cX0_leastTwo 12 = .ok (.iload 4, 2) := by decide +kernel
theorem dX0_leastTwo_14 : decode cX0_leastTwo 14 = .ok (.invokevirtual 98, 3) := by decide +kernel
theorem dX0_leastTwo_17 : decode cX0_leastTwo 17 = .ok (.ldc 101, 2) := by decide +kernel
theorem dX0_leastTwo_19 : decode cX0_leastTwo 19 = .ok (.istore 5, 2) := by decide +kernel
theorem dX0_leastTwo_21 : decode cX0_leastTwo 21 = .ok (.iconst 0, 1) := by decide +kernel
theorem dX0_leastTwo_22 : decode cX0_leastTwo 22 = .ok (.istore 6, 2) := by decide +kernel
theorem dX0_leastTwo_24 : decode cX0_leastTwo 24 = .ok (.iload 6, 2) := by decide +kernel
theorem dX0_leastTwo_26 : decode cX0_leastTwo 26 = .ok (.aload_n 0, 1) := by decide +kernel
theorem dX0_leastTwo_27 : decode cX0_leastTwo 27 = .ok (.getfield 40, 3) := by decide +kernel
theorem dX0_leastTwo_30 : decode cX0_leastTwo 30 = .ok (.if_icmp .ge 71, 3) := by decide +kernel
theorem dX0_leastTwo_33 : decode cX0_leastTwo 33 = .ok (.aload_n 0, 1) := by decide +kernel
theorem dX0_leastTwo_34 : decode cX0_leastTwo 34 = .ok (.getfield 19, 3) := by decide +kernel
theorem dX0_leastTwo_37 : decode cX0_leastTwo 37 = .ok (.iload 6, 2) := by decide +kernel
theorem dX0_leastTwo_39 : decode cX0_leastTwo 39 = .ok (.iaload, 1) := by decide +kernel
theorem dX0_leastTwo_40 : decode cX0_leastTwo 40 = .ok (.istore 7, 2) := by decide +kernel
theorem dX0_leastTwo_42 : decode cX0_leastTwo 42 = .ok (.aload_n 0, 1) := by decide +kernel
theorem dX0_leastTwo_43 : decode cX0_leastTwo 43 = .ok (.iload 7, 2) := by decide +kernel
theorem dX0_leastTwo_45 : decode cX0_leastTwo 45 = .ok (.iload_n 1, 1) := by decide +kernel
theorem dX0_leastTwo_46 : decode cX0_leastTwo 46 = .ok (.invokevirtual 47, 3) := by decide +kernel
theorem dX0_leastTwo_49 : decode cX0_leastTwo 49 = .ok (.ifCond .ne 6, 3) := by decide +kernel
theorem dX0_leastTwo_52 : decode cX0_leastTwo 52 = .ok (.goto 43, 3) := by decide +kernel
theorem dX0_leastTwo_55 : decode cX0_leastTwo 55 = .ok (.iload 4, 2) := by decide +kernel
theorem dX0_leastTwo_57 : decode cX0_leastTwo 57 = .ok (.iconst 1, 1) := by decide +kernel
theorem dX0_leastTwo_58 : decode cX0_leastTwo 58 = .ok (.isub, 1) := by decide +kernel
theorem dX0_leastTwo_59 : decode cX0_leastTwo 59 = .ok (.aload_n 0, 1) := by decide +kernel
theorem dX0_leastTwo_60 : decode cX0_leastTwo 60 = .ok (.getfield 15, 3) := by decide +kernel
theorem dX0_leastTwo_63 : decode cX0_leastTwo 63 = .ok (.iload 7, 2) := by decide +kernel
theorem dX0_leastTwo_65 : decode cX0_leastTwo 65 = .ok (.iaload, 1) := by decide +kernel
theorem dX0_leastTwo_66 : decode cX0_leastTwo 66 = .ok (.invokestatic 102, 3) := by decide +kernel
theorem dX0_leastTwo_69 : decode cX0_leastTwo 69 = .ok (.iconst (-1), 1) := by decide +kernel
theorem dX0_leastTwo_70 : decode cX0_leastTwo 70 = .ok (.ixor, 1) := by decide +kernel
theorem dX0_leastTwo_71 : decode cX0_leastTwo 71 = .ok (.iand, 1) := by decide +kernel
theorem dX0_leastTwo_72 : decode cX0_leastTwo 72 = .ok (.istore 8, 2) := by decide +kernel
theorem dX0_leastTwo_74 : decode cX0_leastTwo 74 = .ok (.iload 5, 2) := by decide +kernel
theorem dX0_leastTwo_76 : decode cX0_leastTwo 76 = .ok (.aload_n 0, 1) := by decide +kernel
theorem dX0_leastTwo_77 : decode cX0_leastTwo 77 = .ok (.iload 7, 2) := by decide +kernel
theorem dX0_leastTwo_79 : decode cX0_leastTwo 79 = .ok (.invokevirtual 105, 3) := by decide +kernel
theorem dX0_leastTwo_82 : decode cX0_leastTwo 82 = .ok (.aload_n 0, 1) := by decide +kernel
theorem dX0_leastTwo_83 : decode cX0_leastTwo 83 = .ok (.getfield 22, 3) := by decide +kernel
theorem dX0_leastTwo_86 : decode cX0_leastTwo 86 = .ok (.iload 8, 2) := by decide +kernel
theorem dX0_leastTwo_88 : decode cX0_leastTwo 88 = .ok (.iaload, 1) := by decide +kernel
theorem dX0_leastTwo_89 : decode cX0_leastTwo 89 = .ok (.iadd, 1) := by decide +kernel
theorem dX0_leastTwo_90 : decode cX0_leastTwo 90 = .ok (.invokestatic 96, 3) := by decide +kernel
theorem dX0_leastTwo_93 : decode cX0_leastTwo 93 = .ok (.istore 5, 2) := by decide +kernel
theorem dX0_leastTwo_95 : decode cX0_leastTwo 95 = .ok (.iinc 6 1, 3) := by decide +kernel
theorem dX0_leastTwo_98 : decode cX0_leastTwo 98 = .ok (.goto (-74), 3) := by decide +kernel
theorem dX0_leastTwo_101 : decode cX0_leastTwo 101 = .ok (.iload 5, 2) := by decide +kernel
theorem dX0_leastTwo_103 : decode cX0_leastTwo 103 = .ok (.ldc 101, 2) := by decide +kernel
theorem dX0_leastTwo_105 : decode cX0_leastTwo 105 = .ok (.if_icmp .lt 7, 3) := by decide +kernel
theorem dX0_leastTwo_108 : decode cX0_leastTwo 108 = .ok (.iconst (-1), 1) := by decide +kernel
theorem dX0_leastTwo_109 : decode cX0_leastTwo 109 = .ok (.goto 5, 3) := by decide +kernel
theorem dX0_leastTwo_112 : decode cX0_leastTwo 112 = .ok (.iload 5, 2) := by decide +kernel
theorem dX0_leastTwo_114 : decode cX0_leastTwo 114 = .ok (.ireturn, 1) := by decide +kernel
theorem dX0_fillFewest_0 : decode cX0_fillFewest 0 = .ok (.iconst 0, 1) := by decide +kernel
theorem dX0_fillFewest_1 : decode cX0_fillFewest 1 = .ok (.istore_n 3, 1) := by decide +kernel
theorem dX0_fillFewest_2 : decode cX0_fillFewest 2 = .ok (.iload_n 3, 1) := by decide +kernel
theorem dX0_fillFewest_3 : decode cX0_fillFewest 3 = .ok (.iload_n 2, 1) := by decide +kernel
theorem dX0_fillFewest_4 : decode cX0_fillFewest 4 = .ok (.if_icmp .ge 55, 3) := by decide +kernel
theorem dX0_fillFewest_7 : decode cX0_fillFewest 7 = .ok (.aload_n 0, 1) := by decide +kernel
theorem dX0_fillFewest_8 : decode cX0_fillFewest 8 = .ok (.getfield 15, 3) := by decide +kernel
theorem dX0_fillFewest_11 : decode cX0_fillFewest 11 = .ok (.iload_n 3, 1) := by decide +kernel
theorem dX0_fillFewest_12 : decode cX0_fillFewest 12 = .ok (.iaload, 1) := by decide +kernel
theorem dX0_fillFewest_13 : decode cX0_fillFewest 13 = .ok (.ifCond .eq 16, 3) := by decide +kernel
theorem dX0_fillFewest_16 : decode cX0_fillFewest 16 = .ok (.aload_n 0, 1) := by decide +kernel
theorem dX0_fillFewest_17 : decode cX0_fillFewest 17 = .ok (.iload_n 3, 1) := by decide +kernel
theorem dX0_fillFewest_18 : decode cX0_fillFewest 18 = .ok (.iload_n 1, 1) := by decide +kernel
theorem dX0_fillFewest_19 : decode cX0_fillFewest 19 = .ok (.invokevirtual 47, 3) := by decide +kernel
theorem dX0_fillFewest_22 : decode cX0_fillFewest 22 = .ok (.ifCond .eq 7, 3) := by decide +kernel
theorem dX0_fillFewest_25 : decode cX0_fillFewest 25 = .ok (.iconst 1, 1) := by decide +kernel
theorem dX0_fillFewest_26 : decode cX0_fillFewest 26 = .ok (.goto 4, 3) := by decide +kernel
theorem dX0_fillFewest_29 : decode cX0_fillFewest 29 = .ok (.iconst 0, 1) := by decide +kernel
theorem dX0_fillFewest_30 : decode cX0_fillFewest 30 = .ok (.istore 4, 2) := by decide +kernel
theorem dX0_fillFewest_32 : decode cX0_fillFewest 32 = .ok (.aload_n 0, 1) := by decide +kernel
theorem dX0_fillFewest_33 : decode cX0_fillFewest 33 = .ok (.getfield 22, 3) := by decide +kernel
theorem dX0_fillFewest_36 : decode cX0_fillFewest 36 = .ok (.iload_n 3, 1) := by decide +kernel
theorem dX0_fillFewest_37 : decode cX0_fillFewest 37 = .ok (.iload 4, 2) := by decide +kernel
theorem dX0_fillFewest_39 : decode cX0_fillFewest 39 = .ok (.ifCond .eq 11, 3) := by decide +kernel
theorem dX0_fillFewest_42 : decode cX0_fillFewest 42 = .ok (.aload_n 0, 1) := by decide +kernel
theorem dX0_fillFewest_43 : decode cX0_fillFewest 43 = .ok (.iload_n 3, 1) := by decide +kernel
theorem dX0_fillFewest_44 : decode cX0_fillFewest 44 = .ok (.invokevirtual 105, 3) := by decide +kernel
theorem dX0_fillFewest_47 : decode cX0_fillFewest 47 = .ok (.goto 5, 3) := by decide +kernel
theorem dX0_fillFewest_50 : decode cX0_fillFewest 50 = .ok (.ldc 101, 2) := by decide +kernel
theorem dX0_fillFewest_52 : decode cX0_fillFewest 52 = .ok (.iastore, 1) := by decide +kernel
theorem dX0_fillFewest_53 : decode cX0_fillFewest 53 = .ok (.iinc 3 1, 3) := by decide +kernel
theorem dX0_fillFewest_56 : decode cX0_fillFewest 56 = .ok (.goto (-54), 3) := by decide +kernel
theorem dX0_fillFewest_59 : decode cX0_fillFewest 59 = .ok (.iconst 1, 1) := by decide +kernel
theorem dX0_fillFewest_60 : decode cX0_fillFewest 60 = .ok (.istore_n 3, 1) := by decide +kernel
theorem dX0_fillFewest_61 : decode cX0_fillFewest 61 = .ok (.iload_n 3, 1) := by decide +kernel
theorem dX0_fillFewest_62 : decode cX0_fillFewest 62 = .ok (.iload_n 2, 1) := by decide +kernel
theorem dX0_fillFewest_63 : decode cX0_fillFewest 63 = .ok (.if_icmp .ge 58, 3) := by decide +kernel
theorem dX0_fillFewest_66 : decode cX0_fillFewest 66 = .ok (.iconst 0, 1) := by decide +kernel
theorem dX0_fillFewest_67 : decode cX0_fillFewest 67 = .ok (.istore 4, 2) := by decide +kernel
theorem dX0_fillFewest_69 : decode cX0_fillFewest 69 = .ok (.iload 4, 2) := by decide +kernel
theorem dX0_fillFewest_71 : decode cX0_fillFewest 71 = .ok (.iload_n 2, 1) := by decide +kernel
theorem dX0_fillFewest_72 : decode cX0_fillFewest 72 = .ok (.if_icmp .ge 42, 3) := by decide +kernel
theorem dX0_fillFewest_75 : decode cX0_fillFewest 75 = .ok (.iload 4, 2) := by decide +kernel
theorem dX0_fillFewest_77 : decode cX0_fillFewest 77 = .ok (.iload_n 3, 1) := by decide +kernel
theorem dX0_fillFewest_78 : decode cX0_fillFewest 78 = .ok (.iand, 1) := by decide +kernel
theorem dX0_fillFewest_79 : decode cX0_fillFewest 79 = .ok (.ifCond .eq 29, 3) := by decide +kernel
theorem dX0_fillFewest_82 : decode cX0_fillFewest 82 = .ok (.aload_n 0, 1) := by decide +kernel
theorem dX0_fillFewest_83 : decode cX0_fillFewest 83 = .ok (.getfield 22, 3) := by decide +kernel
theorem dX0_fillFewest_86 : decode cX0_fillFewest 86 = .ok (.iload 4, 2) := by decide +kernel
theorem dX0_fillFewest_88 : decode cX0_fillFewest 88 = .ok (.aload_n 0, 1) := by decide +kernel
theorem dX0_fillFewest_89 : decode cX0_fillFewest 89 = .ok (.getfield 22, 3) := by decide +kernel
theorem dX0_fillFewest_92 : decode cX0_fillFewest 92 = .ok (.iload 4, 2) := by decide +kernel
theorem dX0_fillFewest_94 : decode cX0_fillFewest 94 = .ok (.iaload, 1) := by decide +kernel
theorem dX0_fillFewest_95 : decode cX0_fillFewest 95 = .ok (.aload_n 0, 1) := by decide +kernel
theorem dX0_fillFewest_96 : decode cX0_fillFewest 96 = .ok (.getfield 22, 3) := by decide +kernel
theorem dX0_fillFewest_99 : decode cX0_fillFewest 99 = .ok (.iload 4, 2) := by decide +kernel
theorem dX0_fillFewest_101 : decode cX0_fillFewest 101 = .ok (.iload_n 3, 1) := by decide +kernel
theorem dX0_fillFewest_102 : decode cX0_fillFewest 102 = .ok (.ixor, 1) := by decide +kernel
theorem dX0_fillFewest_103 : decode cX0_fillFewest 103 = .ok (.iaload, 1) := by decide +kernel
theorem dX0_fillFewest_104 : decode cX0_fillFewest 104 = .ok (.invokestatic 96, 3) := by decide +kernel
theorem dX0_fillFewest_107 : decode cX0_fillFewest 107 = .ok (.iastore, 1) := by decide +kernel
theorem dX0_fillFewest_108 : decode cX0_fillFewest 108 = .ok (.iinc 4 1, 3) := by decide +kernel
theorem dX0_fillFewest_111 : decode cX0_fillFewest 111 = .ok (.goto (-42), 3) := by decide +kernel
theorem dX0_fillFewest_114 : decode cX0_fillFewest 114 = .ok (.iload_n 3, 1) := by decide +kernel
theorem dX0_fillFewest_115 : decode cX0_fillFewest 115 = .ok (.iconst 1, 1) := by decide +kernel
theorem dX0_fillFewest_116 : decode cX0_fillFewest 116 = .ok (.ishl, 1) := by decide +kernel
theorem dX0_fillFewest_117 : decode cX0_fillFewest 117 = .ok (.istore_n 3, 1) := by decide +kernel
theorem dX0_fillFewest_118 : decode cX0_fillFewest 118 = .ok (.goto (-57), 3) := by decide +kernel
theorem dX0_fillFewest_121 : decode cX0_fillFewest 121 = .ok (.return_, 1) := by decide +kernel
theorem dX1_init_0 : decode cX1_init 0 = .ok (.aload_n 0, 1) := by decide +kernel
theorem dX1_init_1 : decode cX1_init 1 = .ok (.invokespecial 1, 3) := by decide +kernel
theorem dX1_init_4 : decode cX1_init 4 = .ok (.return_, 1) := by decide +kernel
theorem dX1_take_0 : decode cX1_take 0 = .ok (.aload_n 0, 1) := by decide +kernel
theorem dX1_take_1 : decode cX1_take 1 = .ok (.aload_n 1, 1) := by decide +kernel
theorem dX1_take_2 : decode cX1_take 2 = .ok (.getfield 7, 3) := by decide +kernel
theorem dX1_take_5 : decode cX1_take 5 = .ok (.putfield 7, 3) := by decide +kernel
theorem dX1_take_8 : decode cX1_take 8 = .ok (.aload_n 0, 1) := by decide +kernel
theorem dX1_take_9 : decode cX1_take 9 = .ok (.aload_n 1, 1) := by decide +kernel
theorem dX1_take_10 : decode cX1_take 10 = .ok (.getfield 13, 3) := by decide +kernel
theorem dX1_take_13 : decode cX1_take 13 = .ok (.putfield 13, 3) := by decide +kernel
theorem dX1_take_16 : decode cX1_take 16 = .ok (.aload_n 0, 1) := by decide +kernel
theorem dX1_take_17 : decode cX1_take 17 = .ok (.aload_n 1, 1) := by decide +kernel
theorem dX1_take_18 : decode cX1_take 18 = .ok (.getfield 16, 3) := by decide +kernel
theorem dX1_take_21 : decode cX1_take 21 = .ok (.putfield 16, 3) := by decide +kernel
theorem dX1_take_24 : decode cX1_take 24 = .ok (.aload_n 0, 1) := by decide +kernel
theorem dX1_take_25 : decode cX1_take 25 = .ok (.aload_n 1, 1) := by decide +kernel
theorem dX1_take_26 : decode cX1_take 26 = .ok (.getfield 19, 3) := by decide +kernel
theorem dX1_take_29 : decode cX1_take 29 = .ok (.putfield 19, 3) := by decide +kernel
theorem dX1_take_32 : decode cX1_take 32 = .ok (.aload_n 0, 1) := by decide +kernel
theorem dX1_take_33 : decode cX1_take 33 = .ok (.aload_n 1, 1) := by decide +kernel
theorem dX1_take_34 : decode cX1_take 34 = .ok (.getfield 22, 3) := by decide +kernel
theorem dX1_take_37 : decode cX1_take 37 = .ok (.putfield 22, 3) := by decide +kernel
theorem dX1_take_40 : decode cX1_take 40 = .ok (.aload_n 0, 1) := by decide +kernel
theorem dX1_take_41 : decode cX1_take 41 = .ok (.aload_n 1, 1) := by decide +kernel
theorem dX1_take_42 : decode cX1_take 42 = .ok (.getfield 25, 3) := by decide +kernel
theorem dX1_take_45 : decode cX1_take 45 = .ok (.putfield 25, 3) := by decide +kernel
theorem dX1_take_48 : decode cX1_take 48 = .ok (.return_, 1) := by decide +kernel
theorem dX2_init_0 : decode cX2_init 0 = .ok (.aload_n 0, 1) := by decide +kernel
theorem dX2_init_1 : decode cX2_init 1 = .ok (.invokespecial 3, 3) := by decide +kernel
theorem dX2_init_4 : decode cX2_init 4 = .ok (.aload_n 0, 1) := by decide +kernel
theorem dX2_init_5 : decode cX2_init 5 = .ok (.bipush 40, 2) := by decide +kernel
theorem dX2_init_7 : decode cX2_init 7 = .ok (.newarray .int, 2) := by decide +kernel
theorem dX2_init_9 : decode cX2_init 9 = .ok (.putfield 9, 3) := by decide +kernel
theorem dX2_init_12 : decode cX2_init 12 = .ok (.aload_n 0, 1) := by decide +kernel
theorem dX2_init_13 : decode cX2_init 13 = .ok (.iconst (-1), 1) := by decide +kernel
theorem dX2_init_14 : decode cX2_init 14 = .ok (.putfield 15, 3) := by decide +kernel
theorem dX2_init_17 : decode cX2_init 17 = .ok (.return_, 1) := by decide +kernel
theorem dX2_isMissing_0 : decode cX2_isMissing 0 = .ok (.aload_n 0, 1) := by decide +kernel
theorem dX2_isMissing_1 : decode cX2_isMissing 1 = .ok (.getfield 15, 3) := by decide +kernel
theorem dX2_isMissing_4 : decode cX2_isMissing 4 = .ok (.ifCond .ge 7, 3) := by decide +kernel
theorem dX2_isMissing_7 : decode cX2_isMissing 7 = .ok (.iconst 1, 1) := by decide +kernel
theorem dX2_isMissing_8 : decode cX2_isMissing 8 = .ok (.goto 4, 3) := by decide +kernel
theorem dX2_isMissing_11 : decode cX2_isMissing 11 = .ok (.iconst 0, 1) := by decide +kernel
theorem dX2_isMissing_12 : decode cX2_isMissing 12 = .ok (.ireturn, 1) := by decide +kernel
theorem dX2_become_0 : decode cX2_become 0 = .ok (.aload_n 0, 1) := by decide +kernel
theorem dX2_become_1 : decode cX2_become 1 = .ok (.iload_n 1, 1) := by decide +kernel
theorem dX2_become_2 : decode cX2_become 2 = .ok (.putfield 15, 3) := by decide +kernel
theorem dX2_become_5 : decode cX2_become 5 = .ok (.aload_n 0, 1) := by decide +kernel
theorem dX2_become_6 : decode cX2_become 6 = .ok (.iconst 0, 1) := by decide +kernel
theorem dX2_become_7 : decode cX2_become 7 = .ok (.bipush 40, 2) := by decide +kernel
theorem dX2_become_9 : decode cX2_become 9 = .ok (.iload_n 2, 1) := by decide +kernel
theorem dX2_become_10 : decode cX2_become 10 = .ok (.invokestatic 19, 3) := by decide +kernel
theorem dX2_become_13 : decode cX2_become 13 = .ok (.invokestatic 25, 3) := by decide +kernel
theorem dX2_become_16 : decode cX2_become 16 = .ok (.putfield 28, 3) := by decide +kernel
theorem dX2_become_19 : decode cX2_become 19 = .ok (.aload_n 0, 1) := by decide +kernel
theorem dX2_become_20 : decode cX2_become 20 = .ok (.getfield 9, 3) := by decide +kernel
theorem dX2_become_23 : decode cX2_become 23 = .ok (.iconst 0, 1) := by decide +kernel
theorem dX2_become_24 : decode cX2_become 24 = .ok (.invokestatic 31, 3) := by decide +kernel
theorem dX2_become_27 : decode cX2_become 27 = .ok (.return_, 1) := by decide +kernel
theorem dX2_put_0 : decode cX2_put 0 = .ok (.iload_n 1, 1) := by decide +kernel
theorem dX2_put_1 : decode cX2_put 1 = .ok (.ifCond .lt 11, 3) := by decide +kernel
theorem dX2_put_4 : decode cX2_put 4 = .ok (.iload_n 1, 1) := by decide +kernel
theorem dX2_put_5 : decode cX2_put 5 = .ok (.aload_n 0, 1) := by decide +kernel
theorem dX2_put_6 : decode cX2_put 6 = .ok (.getfield 28, 3) := by decide +kernel
theorem dX2_put_9 : decode cX2_put 9 = .ok (.if_icmp .lt 4, 3) := by decide +kernel
theorem dX2_put_12 : decode cX2_put 12 = .ok (.return_, 1) := by decide +kernel
theorem dX2_put_13 : decode cX2_put 13 = .ok (.aload_n 0, 1) := by decide +kernel
theorem dX2_put_14 : decode cX2_put 14 = .ok (.getfield 9, 3) := by decide +kernel
theorem dX2_put_17 : decode cX2_put 17 = .ok (.iload_n 1, 1) := by decide +kernel
theorem dX2_put_18 : decode cX2_put 18 = .ok (.aload_n 0, 1) := by decide +kernel
theorem dX2_put_19 : decode cX2_put 19 = .ok (.getfield 15, 3) := by decide +kernel
theorem dX2_put_22 : decode cX2_put 22 = .ok (.ifCond .ne 8, 3) := by decide +kernel
theorem dX2_put_25 : decode cX2_put 25 = .ok (.iload_n 2, 1) := by decide +kernel
theorem dX2_put_26 : decode cX2_put 26 = .ok (.i2b, 1) := by decide +kernel
theorem dX2_put_27 : decode cX2_put 27 = .ok (.goto 17, 3) := by decide +kernel
theorem dX2_put_30 : decode cX2_put 30 = .ok (.aload_n 0, 1) := by decide +kernel
theorem dX2_put_31 : decode cX2_put 31 = .ok (.getfield 15, 3) := by decide +kernel
theorem dX2_put_34 : decode cX2_put 34 = .ok (.iconst 1, 1) := by decide +kernel
theorem dX2_put_35 : decode cX2_put 35 = .ok (.if_icmp .ne 8, 3) := by decide +kernel
theorem dX2_put_38 : decode cX2_put 38 = .ok (.iload_n 2, 1) := by decide +kernel
theorem dX2_put_39 : decode cX2_put 39 = .ok (.i2s, 1) := by decide +kernel
theorem dX2_put_40 : decode cX2_put 40 = .ok (.goto 4, 3) := by decide +kernel
theorem dX2_put_43 : decode cX2_put 43 = .ok (.iload_n 2, 1) := by decide +kernel
theorem dX2_put_44 : decode cX2_put 44 = .ok (.iastore, 1) := by decide +kernel
theorem dX2_put_45 : decode cX2_put 45 = .ok (.return_, 1) := by decide +kernel
theorem dX2_holds_0 : decode cX2_holds 0 = .ok (.iload_n 1, 1) := by decide +kernel
theorem dX2_holds_1 : decode cX2_holds 1 = .ok (.ifCond .lt 21, 3) := by decide +kernel
theorem dX2_holds_4 : decode cX2_holds 4 = .ok (.iload_n 2, 1) := by decide +kernel
theorem dX2_holds_5 : decode cX2_holds 5 = .ok (.ifCond .lt 17, 3) := by decide +kernel
theorem dX2_holds_8 : decode cX2_holds 8 = .ok (.iload_n 1, 1) := by decide +kernel
theorem dX2_holds_9 : decode cX2_holds 9 = .ok (.aload_n 0, 1) := by decide +kernel
theorem dX2_holds_10 : decode cX2_holds 10 = .ok (.getfield 28, 3) := by decide +kernel
theorem dX2_holds_13 : decode cX2_holds 13 = .ok (.iload_n 2, 1) := by decide +kernel
theorem dX2_holds_14 : decode cX2_holds 14 = .ok (.isub, 1) := by decide +kernel
theorem dX2_holds_15 : decode cX2_holds 15 = .ok (.if_icmp .gt 7, 3) := by decide +kernel
theorem dX2_holds_18 : decode cX2_holds 18 = .ok (.iconst 1, 1) := by decide +kernel
theorem dX2_holds_19 : decode cX2_holds 19 = .ok (.goto 4, 3) := by decide +kernel
theorem dX2_holds_22 : decode cX2_holds 22 = .ok (.iconst 0, 1) := by decide +kernel
theorem dX2_holds_23 : decode cX2_holds 23 = .ok (.ireturn, 1) := by decide +kernel
theorem dX3_init_0 : decode cX3_init 0 = .ok (.aload_n 0, 1) := by decide +kernel
theorem dX3_init_1 : decode cX3_init 1 = .ok (.invokespecial 3, 3) := by decide +kernel
theorem dX3_init_4 : decode cX3_init 4 = .ok (.aload_n 0, 1) := by decide +kernel
theorem dX3_init_5 : decode cX3_init 5 = .ok (.bipush 12, 2) := by decide +kernel
theorem dX3_init_7 : decode cX3_init 7 = .ok (.newarray .int, 2) := by decide +kernel
theorem dX3_init_9 : decode cX3_init 9 = .ok (.putfield 9, 3) := by decide +kernel
theorem dX3_init_12 : decode cX3_init 12 = .ok (.aload_n 0, 1) := by decide +kernel
theorem dX3_init_13 : decode cX3_init 13 = .ok (.bipush 12, 2) := by decide +kernel
theorem dX3_init_15 : decode cX3_init 15 = .ok (.newarray .int, 2) := by decide +kernel
theorem dX3_init_17 : decode cX3_init 17 = .ok (.putfield 15, 3) := by decide +kernel
theorem dX3_init_20 : decode cX3_init 20 = .ok (.aload_n 0, 1) := by decide +kernel
theorem dX3_init_21 : decode cX3_init 21 = .ok (.bipush 12, 2) := by decide +kernel
theorem dX3_init_23 : decode cX3_init 23 = .ok (.newarray .int, 2) := by decide +kernel
theorem dX3_init_25 : decode cX3_init 25 = .ok (.putfield 18, 3) := by decide +kernel
theorem dX3_init_28 : decode cX3_init 28 = .ok (.aload_n 0, 1) := by decide +kernel
theorem dX3_init_29 : decode cX3_init 29 = .ok (.bipush 12, 2) := by decide +kernel
theorem dX3_init_31 : decode cX3_init 31 = .ok (.newarray .int, 2) := by decide +kernel
theorem dX3_init_33 : decode cX3_init 33 = .ok (.putfield 21, 3) := by decide +kernel
theorem dX3_init_36 : decode cX3_init 36 = .ok (.aload_n 0, 1) := by decide +kernel
theorem dX3_init_37 : decode cX3_init 37 = .ok (.bipush 12, 2) := by decide +kernel
theorem dX3_init_39 : decode cX3_init 39 = .ok (.newarray .int, 2) := by decide +kernel
theorem dX3_init_41 : decode cX3_init 41 = .ok (.putfield 24, 3) := by decide +kernel
theorem dX3_init_44 : decode cX3_init 44 = .ok (.return_, 1) := by decide +kernel
theorem dX3_put_0 : decode cX3_put 0 = .ok (.iload_n 1, 1) := by decide +kernel
theorem dX3_put_1 : decode cX3_put 1 = .ok (.ifCond .lt 9, 3) := by decide +kernel
theorem dX3_put_4 : decode cX3_put 4 = .ok (.iload_n 1, 1) := by decide +kernel
theorem dX3_put_5 : decode cX3_put 5 = .ok (.bipush 12, 2) := by decide +kernel
theorem dX3_put_7 : decode cX3_put 7 = .ok (.if_icmp .lt 4, 3) := by decide +kernel
theorem dX3_put_10 : decode cX3_put 10 = .ok (.return_, 1) := by decide +kernel
theorem dX3_put_11 : decode cX3_put 11 = .ok (.aload_n 0, 1) := by decide +kernel
theorem dX3_put_12 : decode cX3_put 12 = .ok (.getfield 9, 3) := by decide +kernel
theorem dX3_put_15 : decode cX3_put 15 = .ok (.iload_n 1, 1) := by decide +kernel
theorem dX3_put_16 : decode cX3_put 16 = .ok (.iload_n 2, 1) := by decide +kernel
theorem dX3_put_17 : decode cX3_put 17 = .ok (.iastore, 1) := by decide +kernel
theorem dX3_put_18 : decode cX3_put 18 = .ok (.aload_n 0, 1) := by decide +kernel
theorem dX3_put_19 : decode cX3_put 19 = .ok (.getfield 15, 3) := by decide +kernel
theorem dX3_put_22 : decode cX3_put 22 = .ok (.iload_n 1, 1) := by decide +kernel
theorem dX3_put_23 : decode cX3_put 23 = .ok (.iload_n 3, 1) := by decide +kernel
theorem dX3_put_24 : decode cX3_put 24 = .ok (.iastore, 1) := by decide +kernel
theorem dX3_put_25 : decode cX3_put 25 = .ok (.aload_n 0, 1) := by decide +kernel
theorem dX3_put_26 : decode cX3_put 26 = .ok (.getfield 18, 3) := by decide +kernel
theorem dX3_put_29 : decode cX3_put 29 = .ok (.iload_n 1, 1) := by decide +kernel
theorem dX3_put_30 : decode cX3_put 30 = .ok (.iload 4, 2) := by decide +kernel
theorem dX3_put_32 : decode cX3_put 32 = .ok (.iastore, 1) := by decide +kernel
theorem dX3_put_33 : decode cX3_put 33 = .ok (.aload_n 0, 1) := by decide +kernel
theorem dX3_put_34 : decode cX3_put 34 = .ok (.getfield 21, 3) := by decide +kernel
theorem dX3_put_37 : decode cX3_put 37 = .ok (.iload_n 1, 1) := by decide +kernel
theorem dX3_put_38 : decode cX3_put 38 = .ok (.iload 5, 2) := by decide +kernel
theorem dX3_put_40 : decode cX3_put 40 = .ok (.iastore, 1) := by decide +kernel
theorem dX3_put_41 : decode cX3_put 41 = .ok (.aload_n 0, 1) := by decide +kernel
theorem dX3_put_42 : decode cX3_put 42 = .ok (.getfield 24, 3) := by decide +kernel
theorem dX3_put_45 : decode cX3_put 45 = .ok (.iload_n 1, 1) := by decide +kernel
theorem dX3_put_46 : decode cX3_put 46 = .ok (.iload 6, 2) := by decide +kernel
theorem dX3_put_48 : decode cX3_put 48 = .ok (.iastore, 1) := by decide +kernel
theorem dX3_put_49 : decode cX3_put 49 = .ok (.return_, 1) := by decide +kernel
theorem dX3_endsAt_0 : decode cX3_endsAt 0 = .ok (.aload_n 0, 1) := by decide +kernel
theorem dX3_endsAt_1 : decode cX3_endsAt 1 = .ok (.getfield 15, 3) := by decide +kernel
theorem dX3_endsAt_4 : decode cX3_endsAt 4 = .ok (.iload_n 1, 1) := by decide +kernel
theorem dX3_endsAt_5 : decode cX3_endsAt 5 = .ok (.iaload, 1) := by decide +kernel
theorem dX3_endsAt_6 : decode cX3_endsAt 6 = .ok (.iload_n 2, 1) := by decide +kernel
theorem dX3_endsAt_7 : decode cX3_endsAt 7 = .ok (.if_icmp .eq 13, 3) := by decide +kernel
theorem dX3_endsAt_10 : decode cX3_endsAt 10 = .ok (.aload_n 0, 1) := by decide +kernel
theorem dX3_endsAt_11 : decode cX3_endsAt 11 = .ok (.getfield 18, 3) := by decide +kernel
theorem dX3_endsAt_14 : decode cX3_endsAt 14 = .ok (.iload_n 1, 1) := by decide +kernel
theorem dX3_endsAt_15 : decode cX3_endsAt 15 = .ok (.iaload, 1) := by decide +kernel
theorem dX3_endsAt_16 : decode cX3_endsAt 16 = .ok (.iload_n 2, 1) := by decide +kernel
theorem dX3_endsAt_17 : decode cX3_endsAt 17 = .ok (.if_icmp .ne 7, 3) := by decide +kernel
theorem dX3_endsAt_20 : decode cX3_endsAt 20 = .ok (.iconst 1, 1) := by decide +kernel
theorem dX3_endsAt_21 : decode cX3_endsAt 21 = .ok (.goto 4, 3) := by decide +kernel
theorem dX3_endsAt_24 : decode cX3_endsAt 24 = .ok (.iconst 0, 1) := by decide +kernel
theorem dX3_endsAt_25 : decode cX3_endsAt 25 = .ok (.ireturn, 1) := by decide +kernel
theorem dX3_isA_0 : decode cX3_isA 0 = .ok (.iload_n 2, 1) := by decide +kernel
theorem dX3_isA_1 : decode cX3_isA 1 = .ok (.ifCond .eq 28, 3) := by decide +kernel
theorem dX3_isA_4 : decode cX3_isA 4 = .ok (.aload_n 0, 1) := by decide +kernel
theorem dX3_isA_5 : decode cX3_isA 5 = .ok (.getfield 9, 3) := by decide +kernel
theorem dX3_isA_8 : decode cX3_isA 8 = .ok (.iload_n 1, 1) := by decide +kernel
theorem dX3_isA_9 : decode cX3_isA 9 = .ok (.iaload, 1) := by decide +kernel
theorem dX3_isA_10 : decode cX3_isA 10 = .ok (.iload_n 2, 1) := by decide +kernel
theorem dX3_isA_11 : decode cX3_isA 11 = .ok (.if_icmp .eq 18, 3) := by decide +kernel
theorem dX3_isA_14 : decode cX3_isA 14 = .ok (.iload_n 2, 1) := by decide +kernel
theorem dX3_isA_15 : decode cX3_isA 15 = .ok (.iconst 3, 1) := by decide +kernel
theorem dX3_isA_16 : decode cX3_isA 16 = .ok (.if_icmp .ne 17, 3) := by decide +kernel
theorem dX3_isA_19 : decode cX3_isA 19 = .ok (.aload_n 0, 1) := by decide +kernel
theorem dX3_isA_20 : decode cX3_isA 20 = .ok (.getfield 9, 3) := by decide +kernel
theorem dX3_isA_23 : decode cX3_isA 23 = .ok (.iload_n 1, 1) := by decide +kernel
theorem dX3_isA_24 : decode cX3_isA 24 = .ok (.iaload, 1) := by decide +kernel
theorem dX3_isA_25 : decode cX3_isA 25 = .ok (.iconst 5, 1) := by decide +kernel
theorem dX3_isA_26 : decode cX3_isA 26 = .ok (.if_icmp .ne 7, 3) := by decide +kernel
theorem dX3_isA_29 : decode cX3_isA 29 = .ok (.iconst 1, 1) := by decide +kernel
theorem dX3_isA_30 : decode cX3_isA 30 = .ok (.goto 4, 3) := by decide +kernel
theorem dX3_isA_33 : decode cX3_isA 33 = .ok (.iconst 0, 1) := by decide +kernel
theorem dX3_isA_34 : decode cX3_isA 34 = .ok (.ireturn, 1) := by decide +kernel
theorem dX3_spentBy_0 : decode cX3_spentBy 0 = .ok (.iconst 1, 1) := by decide +kernel
theorem dX3_spentBy_1 : decode cX3_spentBy 1 = .ok (.iload_n 1, 1) := by decide +kernel
theorem dX3_spentBy_2 : decode cX3_spentBy 2 = .ok (.ishl, 1) := by decide +kernel
theorem dX3_spentBy_3 : decode cX3_spentBy 3 = .ok (.istore_n 3, 1) := by decide +kernel
theorem dX3_spentBy_4 : decode cX3_spentBy 4 = .ok (.aload_n 0, 1) := by decide +kernel
theorem dX3_spentBy_5 : decode cX3_spentBy 5 = .ok (.iload_n 1, 1) := by decide +kernel
theorem dX3_spentBy_6 : decode cX3_spentBy 6 = .ok (.iconst 3, 1) := by decide +kernel
theorem dX3_spentBy_7 : decode cX3_spentBy 7 = .ok (.invokevirtual 27, 3) := by decide +kernel
theorem dX3_spentBy_10 : decode cX3_spentBy 10 = .ok (.ifCond .ne 5, 3) := by decide +kernel
theorem dX3_spentBy_13 : decode cX3_spentBy 13 = .ok (.iload_n 3, 1) := by decide +kernel
theorem dX3_spentBy_14 : decode cX3_spentBy 14 = .ok (.ireturn, 1) := by decide +kernel
theorem dX3_spentBy_15 : decode cX3_spentBy 15 = .ok (.iconst 0, 1) := by decide +kernel
theorem dX3_spentBy_16 : decode cX3_spentBy 16 = .ok (.istore 4, 2) := by decide +kernel
theorem dX3_spentBy_18 : decode cX3_spentBy 18 = .ok (.iload 4, 2) := by decide +kernel
theorem dX3_spentBy_20 : decode cX3_spentBy 20 = .ok (.iload_n 2, 1) := by decide +kernel
theorem dX3_spentBy_21 : decode cX3_spentBy 21 = .ok (.if_icmp .ge 42, 3) := by decide +kernel
theorem dX3_spentBy_24 : decode cX3_spentBy 24 = .ok (.aload_n 0, 1) := by decide +kernel
theorem dX3_spentBy_25 : decode cX3_spentBy 25 = .ok (.iload 4, 2) := by decide +kernel
theorem dX3_spentBy_27 : decode cX3_spentBy 27 = .ok (.iconst 3, 1) := by decide +kernel
theorem dX3_spentBy_28 : decode cX3_spentBy 28 = .ok (.invokevirtual 27, 3) := by decide +kernel
theorem dX3_spentBy_31 : decode cX3_spentBy 31 = .ok (.ifCond .eq 26, 3) := by decide +kernel
theorem dX3_spentBy_34 : decode cX3_spentBy 34 = .ok (.aload_n 0, 1) := by decide +kernel
theorem dX3_spentBy_35 : decode cX3_spentBy 35 = .ok (.getfield 24, 3) := by decide +kernel
theorem dX3_spentBy_38 : decode cX3_spentBy 38 = .ok (.iload 4, 2) := by decide +kernel
theorem dX3_spentBy_40 : decode cX3_spentBy 40 = .ok (.iaload, 1) := by decide +kernel
theorem dX3_spentBy_41 : decode cX3_spentBy 41 = .ok (.aload_n 0, 1) := by decide +kernel
theorem dX3_spentBy_42 : decode cX3_spentBy 42 = .ok (.getfield 24, 3) := by decide +kernel
theorem dX3_spentBy_45 : decode cX3_spentBy 45 = .ok (.iload_n 1, 1) := by decide +kernel
theorem dX3_spentBy_46 : decode cX3_spentBy 46 = .ok (.iaload, 1) := by decide +kernel
theorem dX3_spentBy_47 : decode cX3_spentBy 47 = .ok (.if_icmp .ne 10, 3) := by decide +kernel
theorem dX3_spentBy_50 : decode cX3_spentBy 50 = .ok (.iload_n 3, 1) := by decide +kernel
theorem dX3_spentBy_51 : decode cX3_spentBy 51 = .ok (.iconst 1, 1) := by decide +kernel
theorem dX3_spentBy_52 : decode cX3_spentBy 52 = .ok (.iload 4, 2) := by decide +kernel
theorem dX3_spentBy_54 : decode cX3_spentBy 54 = .ok (.ishl, 1) := by decide +kernel
theorem dX3_spentBy_55 : decode cX3_spentBy 55 = .ok (.ior, 1) := by decide +kernel
theorem dX3_spentBy_56 : decode cX3_spentBy 56 = .ok (.istore_n 3, 1) := by decide +kernel
theorem dX3_spentBy_57 : decode cX3_spentBy 57 = .ok (.iinc 4 1, 3) := by decide +kernel
theorem dX3_spentBy_60 : decode cX3_spentBy 60 = .ok (.goto (-42), 3) := by decide +kernel
theorem dX3_spentBy_63 : decode cX3_spentBy 63 = .ok (.iload_n 3, 1) := by decide +kernel
theorem dX3_spentBy_64 : decode cX3_spentBy 64 = .ok (.ireturn, 1) := by decide +kernel
theorem dX3_lets_0 : decode cX3_lets 0 = .ok (.aload_n 0, 1) := by decide +kernel
theorem dX3_lets_1 : decode cX3_lets 1 = .ok (.getfield 9, 3) := by decide +kernel
theorem dX3_lets_4 : decode cX3_lets 4 = .ok (.iload_n 1, 1) := by decide +kernel
theorem dX3_lets_5 : decode cX3_lets 5 = .ok (.iaload, 1) := by decide +kernel
theorem dX3_lets_6 : decode cX3_lets 6 = .ok (.tableswitch 73 1 5 #[34, 50, 73, 73, 60], 34) := by decide +kernel
theorem dX3_lets_40 : decode cX3_lets 40 = .ok (.iload_n 2, 1) := by decide +kernel
theorem dX3_lets_41 : decode cX3_lets 41 = .ok (.aload_n 0, 1) := by decide +kernel
theorem dX3_lets_42 : decode cX3_lets 42 = .ok (.getfield 15, 3) := by decide +kernel
theorem dX3_lets_45 : decode cX3_lets 45 = .ok (.iload_n 1, 1) := by decide +kernel
theorem dX3_lets_46 : decode cX3_lets 46 = .ok (.iaload, 1) := by decide +kernel
theorem dX3_lets_47 : decode cX3_lets 47 = .ok (.if_icmp .ne 7, 3) := by decide +kernel
theorem dX3_lets_50 : decode cX3_lets 50 = .ok (.iconst 1, 1) := by decide +kernel
theorem dX3_lets_51 : decode cX3_lets 51 = .ok (.goto 4, 3) := by decide +kernel
theorem dX3_lets_54 : decode cX3_lets 54 = .ok (.iconst 0, 1) := by decide +kernel
theorem dX3_lets_55 : decode cX3_lets 55 = .ok (.ireturn, 1) := by decide +kernel
theorem dX3_lets_56 : decode cX3_lets 56 = .ok (.iload_n 3, 1) := by decide +kernel
theorem dX3_lets_57 : decode cX3_lets 57 = .ok (.ifCond .ne 7, 3) := by decide +kernel
theorem dX3_lets_60 : decode cX3_lets 60 = .ok (.iconst 1, 1) := by decide +kernel
theorem dX3_lets_61 : decode cX3_lets 61 = .ok (.goto 4, 3) := by decide +kernel
theorem dX3_lets_64 : decode cX3_lets 64 = .ok (.iconst 0, 1) := by decide +kernel
theorem dX3_lets_65 : decode cX3_lets 65 = .ok (.ireturn, 1) := by decide +kernel
theorem dX3_lets_66 : decode cX3_lets 66 = .ok (.iload 4, 2) := by decide +kernel
theorem dX3_lets_68 : decode cX3_lets 68 = .ok (.bipush 12, 2) := by decide +kernel
theorem dX3_lets_70 : decode cX3_lets 70 = .ok (.if_icmp .ge 7, 3) := by decide +kernel
theorem dX3_lets_73 : decode cX3_lets 73 = .ok (.iconst 1, 1) := by decide +kernel
theorem dX3_lets_74 : decode cX3_lets 74 = .ok (.goto 4, 3) := by decide +kernel
theorem dX3_lets_77 : decode cX3_lets 77 = .ok (.iconst 0, 1) := by decide +kernel
theorem dX3_lets_78 : decode cX3_lets 78 = .ok (.ireturn, 1) := by decide +kernel
theorem dX3_lets_79 : decode cX3_lets 79 = .ok (.iconst 1, 1) := by decide +kernel
theorem dX3_lets_80 : decode cX3_lets 80 = .ok (.ireturn, 1) := by decide +kernel
theorem dX3_lasts_0 : decode cX3_lasts 0 = .ok (.iconst 1, 1) := by decide +kernel
theorem dX3_lasts_1 : decode cX3_lasts 1 = .ok (.bipush 99, 2) := by decide +kernel
theorem dX3_lasts_3 : decode cX3_lasts 3 = .ok (.iload_n 3, 1) := by decide +kernel
theorem dX3_lasts_4 : decode cX3_lasts 4 = .ok (.invokestatic 31, 3) := by decide +kernel
theorem dX3_lasts_7 : decode cX3_lasts 7 = .ok (.invokestatic 37, 3) := by decide +kernel
theorem dX3_lasts_10 : decode cX3_lasts 10 = .ok (.istore 5, 2) := by decide +kernel
theorem dX3_lasts_12 : decode cX3_lasts 12 = .ok (.aload_n 0, 1) := by decide +kernel
theorem dX3_lasts_13 : decode cX3_lasts 13 = .ok (.getfield 9, 3) := by decide +kernel
theorem dX3_lasts_16 : decode cX3_lasts 16 = .ok (.iload_n 1, 1) := by decide +kernel
theorem dX3_lasts_17 : decode cX3_lasts 17 = .ok (.iaload, 1) := by decide +kernel
theorem dX3_lasts_18 : decode cX3_lasts 18 = .ok (.iconst 2, 1) := by decide +kernel
theorem dX3_lasts_19 : decode cX3_lasts 19 = .ok (.if_icmp .ne 19, 3) := by decide +kernel
theorem dX3_lasts_22 : decode cX3_lasts 22 = .ok (.iload_n 2, 1) := by decide +kernel
theorem dX3_lasts_23 : decode cX3_lasts 23 = .ok (.aload_n 0, 1) := by decide +kernel
theorem dX3_lasts_24 : decode cX3_lasts 24 = .ok (.getfield 18, 3) := by decide +kernel
theorem dX3_lasts_27 : decode cX3_lasts 27 = .ok (.iload_n 1, 1) := by decide +kernel
theorem dX3_lasts_28 : decode cX3_lasts 28 = .ok (.iaload, 1) := by decide +kernel
theorem dX3_lasts_29 : decode cX3_lasts 29 = .ok (.if_icmp .ne 9, 3) := by decide +kernel
theorem dX3_lasts_32 : decode cX3_lasts 32 = .ok (.iload 5, 2) := by decide +kernel
theorem dX3_lasts_34 : decode cX3_lasts 34 = .ok (.iconst 2, 1) := by decide +kernel
theorem dX3_lasts_35 : decode cX3_lasts 35 = .ok (.imul, 1) := by decide +kernel
theorem dX3_lasts_36 : decode cX3_lasts 36 = .ok (.istore 5, 2) := by decide +kernel
theorem dX3_lasts_38 : decode cX3_lasts 38 = .ok (.aload_n 0, 1) := by decide +kernel
theorem dX3_lasts_39 : decode cX3_lasts 39 = .ok (.getfield 9, 3) := by decide +kernel
theorem dX3_lasts_42 : decode cX3_lasts 42 = .ok (.iload_n 1, 1) := by decide +kernel
theorem dX3_lasts_43 : decode cX3_lasts 43 = .ok (.iaload, 1) := by decide +kernel
theorem dX3_lasts_44 : decode cX3_lasts 44 = .ok (.iconst 4, 1) := by decide +kernel
theorem dX3_lasts_45 : decode cX3_lasts 45 = .ok (.if_icmp .ne 21, 3) := by decide +kernel
theorem dX3_lasts_48 : decode cX3_lasts 48 = .ok (.iload 4, 2) := by decide +kernel
theorem dX3_lasts_50 : decode cX3_lasts 50 = .ok (.bipush 12, 2) := by decide +kernel
theorem dX3_lasts_52 : decode cX3_lasts 52 = .ok (.if_icmp .lt 14, 3) := by decide +kernel
theorem dX3_lasts_55 : decode cX3_lasts 55 = .ok (.iload 5, 2) := by decide +kernel
theorem dX3_lasts_57 : decode cX3_lasts 57 = .ok (.aload_n 0, 1) := by decide +kernel
theorem dX3_lasts_58 : decode cX3_lasts 58 = .ok (.getfield 24, 3) := by decide +kernel
theorem dX3_lasts_61 : decode cX3_lasts 61 = .ok (.iload_n 1, 1) := by decide +kernel
theorem dX3_lasts_62 : decode cX3_lasts 62 = .ok (.iaload, 1) := by decide +kernel
theorem dX3_lasts_63 : decode cX3_lasts 63 = .ok (.iadd, 1) := by decide +kernel
theorem dX3_lasts_64 : decode cX3_lasts 64 = .ok (.istore 5, 2) := by decide +kernel
theorem dX3_lasts_66 : decode cX3_lasts 66 = .ok (.bipush 99, 2) := by decide +kernel
theorem dX3_lasts_68 : decode cX3_lasts 68 = .ok (.iload 5, 2) := by decide +kernel
theorem dX3_lasts_70 : decode cX3_lasts 70 = .ok (.invokestatic 31, 3) := by decide +kernel
theorem dX3_lasts_73 : decode cX3_lasts 73 = .ok (.ireturn, 1) := by decide +kernel
theorem dX3_built_0 : decode cX3_built 0 = .ok (.iconst 0, 1) := by decide +kernel
theorem dX3_built_1 : decode cX3_built 1 = .ok (.istore_n 2, 1) := by decide +kernel
theorem dX3_built_2 : decode cX3_built 2 = .ok (.iconst 0, 1) := by decide +kernel
theorem dX3_built_3 : decode cX3_built 3 = .ok (.istore_n 3, 1) := by decide +kernel
theorem dX3_built_4 : decode cX3_built 4 = .ok (.iload_n 3, 1) := by decide +kernel
theorem dX3_built_5 : decode cX3_built 5 = .ok (.iload_n 1, 1) := by decide +kernel
theorem dX3_built_6 : decode cX3_built 6 = .ok (.if_icmp .ge 29, 3) := by decide +kernel
theorem dX3_built_9 : decode cX3_built 9 = .ok (.iload_n 2, 1) := by decide +kernel
theorem dX3_built_10 : decode cX3_built 10 = .ok (.iconst 1, 1) := by decide +kernel
theorem dX3_built_11 : decode cX3_built 11 = .ok (.aload_n 0, 1) := by decide +kernel
theorem dX3_built_12 : decode cX3_built 12 = .ok (.getfield 15, 3) := by decide +kernel
theorem dX3_built_15 : decode cX3_built 15 = .ok (.iload_n 3, 1) := by decide +kernel
theorem dX3_built_16 : decode cX3_built 16 = .ok (.iaload, 1) := by decide +kernel
theorem dX3_built_17 : decode cX3_built 17 = .ok (.ishl, 1) := by decide +kernel
theorem dX3_built_18 : decode cX3_built 18 = .ok (.iconst 1, 1) := by decide +kernel
theorem dX3_built_19 : decode cX3_built 19 = .ok (.aload_n 0, 1) := by decide +kernel
theorem dX3_built_20 : decode cX3_built 20 = .ok (.getfield 18, 3) := by decide +kernel
theorem dX3_built_23 : decode cX3_built 23 = .ok (.iload_n 3, 1) := by decide +kernel
theorem dX3_built_24 : decode cX3_built 24 = .ok (.iaload, 1) := by decide +kernel
theorem dX3_built_25 : decode cX3_built 25 = .ok (.ishl, 1) := by decide +kernel
theorem dX3_built_26 : decode cX3_built 26 = .ok (.ior, 1) := by decide +kernel
theorem dX3_built_27 : decode cX3_built 27 = .ok (.ior, 1) := by decide +kernel
theorem dX3_built_28 : decode cX3_built 28 = .ok (.istore_n 2, 1) := by decide +kernel
theorem dX3_built_29 : decode cX3_built 29 = .ok (.iinc 3 1, 3) := by decide +kernel
theorem dX3_built_32 : decode cX3_built 32 = .ok (.goto (-28), 3) := by decide +kernel
theorem dX3_built_35 : decode cX3_built 35 = .ok (.iload_n 2, 1) := by decide +kernel
theorem dX3_built_36 : decode cX3_built 36 = .ok (.ireturn, 1) := by decide +kernel
theorem dX3_ending_0 : decode cX3_ending 0 = .ok (.iconst 0, 1) := by decide +kernel
theorem dX3_ending_1 : decode cX3_ending 1 = .ok (.istore 4, 2) := by decide +kernel
theorem dX3_ending_3 : decode cX3_ending 3 = .ok (.iconst 0, 1) := by decide +kernel
theorem dX3_ending_4 : decode cX3_ending 4 = .ok (.istore 5, 2) := by decide +kernel
theorem dX3_ending_6 : decode cX3_ending 6 = .ok (.iload 5, 2) := by decide +kernel
theorem dX3_ending_8 : decode cX3_ending 8 = .ok (.iload_n 3, 1) := by decide +kernel
theorem dX3_ending_9 : decode cX3_ending 9 = .ok (.if_icmp .ge 57, 3) := by decide +kernel
theorem dX3_ending_12 : decode cX3_ending 12 = .ok (.iload_n 1, 1) := by decide +kernel
theorem dX3_ending_13 : decode cX3_ending 13 = .ok (.aload_n 0, 1) := by decide +kernel
theorem dX3_ending_14 : decode cX3_ending 14 = .ok (.getfield 15, 3) := by decide +kernel
theorem dX3_ending_17 : decode cX3_ending 17 = .ok (.iload 5, 2) := by decide +kernel
theorem dX3_ending_19 : decode cX3_ending 19 = .ok (.iaload, 1) := by decide +kernel
theorem dX3_ending_20 : decode cX3_ending 20 = .ok (.ishr, 1) := by decide +kernel
theorem dX3_ending_21 : decode cX3_ending 21 = .ok (.iload_n 1, 1) := by decide +kernel
theorem dX3_ending_22 : decode cX3_ending 22 = .ok (.aload_n 0, 1) := by decide +kernel
theorem dX3_ending_23 : decode cX3_ending 23 = .ok (.getfield 18, 3) := by decide +kernel
theorem dX3_ending_26 : decode cX3_ending 26 = .ok (.iload 5, 2) := by decide +kernel
theorem dX3_ending_28 : decode cX3_ending 28 = .ok (.iaload, 1) := by decide +kernel
theorem dX3_ending_29 : decode cX3_ending 29 = .ok (.ishr, 1) := by decide +kernel
theorem dX3_ending_30 : decode cX3_ending 30 = .ok (.ior, 1) := by decide +kernel
theorem dX3_ending_31 : decode cX3_ending 31 = .ok (.iconst 1, 1) := by decide +kernel
theorem dX3_ending_32 : decode cX3_ending 32 = .ok (.iand, 1) := by decide +kernel
theorem dX3_ending_33 : decode cX3_ending 33 = .ok (.ifCond .eq 7, 3) := by decide +kernel
theorem dX3_ending_36 : decode cX3_ending 36 = .ok (.iconst 1, 1) := by decide +kernel
theorem dX3_ending_37 : decode cX3_ending 37 = .ok (.goto 4, 3) := by decide +kernel
theorem dX3_ending_40 : decode cX3_ending 40 = .ok (.iconst 0, 1) := by decide +kernel
theorem dX3_ending_41 : decode cX3_ending 41 = .ok (.istore 6, 2) := by decide +kernel
theorem dX3_ending_43 : decode cX3_ending 43 = .ok (.iload 6, 2) := by decide +kernel
theorem dX3_ending_45 : decode cX3_ending 45 = .ok (.ifCond .eq 15, 3) := by decide +kernel
theorem dX3_ending_48 : decode cX3_ending 48 = .ok (.iload_n 2, 1) := by decide +kernel
theorem dX3_ending_49 : decode cX3_ending 49 = .ok (.iload 5, 2) := by decide +kernel
theorem dX3_ending_51 : decode cX3_ending 51 = .ok (.ishr, 1) := by decide +kernel
theorem dX3_ending_52 : decode cX3_ending 52 = .ok (.iconst 1, 1) := by decide +kernel
theorem dX3_ending_53 : decode cX3_ending 53 = .ok (.iand, 1) := by decide +kernel
theorem dX3_ending_54 : decode cX3_ending 54 = .ok (.ifCond .eq 6, 3) := by decide +kernel
theorem dX3_ending_57 : decode cX3_ending 57 = .ok (.iinc 4 1, 3) := by decide +kernel
theorem dX3_ending_60 : decode cX3_ending 60 = .ok (.iinc 5 1, 3) := by decide +kernel
theorem dX3_ending_63 : decode cX3_ending 63 = .ok (.goto (-57), 3) := by decide +kernel
theorem dX3_ending_66 : decode cX3_ending 66 = .ok (.iload 4, 2) := by decide +kernel
theorem dX3_ending_68 : decode cX3_ending 68 = .ok (.ireturn, 1) := by decide +kernel
theorem dX3_joined_0 : decode cX3_joined 0 = .ok (.iload_n 1, 1) := by decide +kernel
theorem dX3_joined_1 : decode cX3_joined 1 = .ok (.istore 4, 2) := by decide +kernel
theorem dX3_joined_3 : decode cX3_joined 3 = .ok (.iconst 1, 1) := by decide +kernel
theorem dX3_joined_4 : decode cX3_joined 4 = .ok (.istore 5, 2) := by decide +kernel
theorem dX3_joined_6 : decode cX3_joined 6 = .ok (.iload 5, 2) := by decide +kernel
theorem dX3_joined_8 : decode cX3_joined 8 = .ok (.bipush 9, 2) := by decide +kernel
theorem dX3_joined_10 : decode cX3_joined 10 = .ok (.if_icmp .ge 95, 3) := by decide +kernel
theorem dX3_joined_13 : decode cX3_joined 13 = .ok (.iconst 0, 1) := by decide +kernel
theorem dX3_joined_14 : decode cX3_joined 14 = .ok (.istore 6, 2) := by decide +kernel
theorem dX3_joined_16 : decode cX3_joined 16 = .ok (.iload 6, 2) := by decide +kernel
theorem dX3_joined_18 : decode cX3_joined 18 = .ok (.iload_n 3, 1) := by decide +kernel
theorem dX3_joined_19 : decode cX3_joined 19 = .ok (.if_icmp .ge 80, 3) := by decide +kernel
theorem dX3_joined_22 : decode cX3_joined 22 = .ok (.iload 4, 2) := by decide +kernel
theorem dX3_joined_24 : decode cX3_joined 24 = .ok (.aload_n 0, 1) := by decide +kernel
theorem dX3_joined_25 : decode cX3_joined 25 = .ok (.getfield 15, 3) := by decide +kernel
theorem dX3_joined_28 : decode cX3_joined 28 = .ok (.iload 6, 2) := by decide +kernel
theorem dX3_joined_30 : decode cX3_joined 30 = .ok (.iaload, 1) := by decide +kernel
theorem dX3_joined_31 : decode cX3_joined 31 = .ok (.ishr, 1) := by decide +kernel
theorem dX3_joined_32 : decode cX3_joined 32 = .ok (.iload 4, 2) := by decide +kernel
theorem dX3_joined_34 : decode cX3_joined 34 = .ok (.aload_n 0, 1) := by decide +kernel
theorem dX3_joined_35 : decode cX3_joined 35 = .ok (.getfield 18, 3) := by decide +kernel
theorem dX3_joined_38 : decode cX3_joined 38 = .ok (.iload 6, 2) := by decide +kernel
theorem dX3_joined_40 : decode cX3_joined 40 = .ok (.iaload, 1) := by decide +kernel
theorem dX3_joined_41 : decode cX3_joined 41 = .ok (.ishr, 1) := by decide +kernel
theorem dX3_joined_42 : decode cX3_joined 42 = .ok (.ior, 1) := by decide +kernel
theorem dX3_joined_43 : decode cX3_joined 43 = .ok (.iconst 1, 1) := by decide +kernel
theorem dX3_joined_44 : decode cX3_joined 44 = .ok (.iand, 1) := by decide +kernel
theorem dX3_joined_45 : decode cX3_joined 45 = .ok (.ifCond .eq 7, 3) := by decide +kernel
theorem dX3_joined_48 : decode cX3_joined 48 = .ok (.iconst 1, 1) := by decide +kernel
theorem dX3_joined_49 : decode cX3_joined 49 = .ok (.goto 4, 3) := by decide +kernel
theorem dX3_joined_52 : decode cX3_joined 52 = .ok (.iconst 0, 1) := by decide +kernel
theorem dX3_joined_53 : decode cX3_joined 53 = .ok (.istore 7, 2) := by decide +kernel
theorem dX3_joined_55 : decode cX3_joined 55 = .ok (.iload 7, 2) := by decide +kernel
theorem dX3_joined_57 : decode cX3_joined 57 = .ok (.ifCond .eq 36, 3) := by decide +kernel
theorem dX3_joined_60 : decode cX3_joined 60 = .ok (.iload_n 2, 1) := by decide +kernel
theorem dX3_joined_61 : decode cX3_joined 61 = .ok (.iload 6, 2) := by decide +kernel
theorem dX3_joined_63 : decode cX3_joined 63 = .ok (.ishr, 1) := by decide +kernel
theorem dX3_joined_64 : decode cX3_joined 64 = .ok (.iconst 1, 1) := by decide +kernel
theorem dX3_joined_65 : decode cX3_joined 65 = .ok (.iand, 1) := by decide +kernel
theorem dX3_joined_66 : decode cX3_joined 66 = .ok (.ifCond .eq 27, 3) := by decide +kernel
theorem dX3_joined_69 : decode cX3_joined 69 = .ok (.iload 4, 2) := by decide +kernel
theorem dX3_joined_71 : decode cX3_joined 71 = .ok (.iconst 1, 1) := by decide +kernel
theorem dX3_joined_72 : decode cX3_joined 72 = .ok (.aload_n 0, 1) := by decide +kernel
theorem dX3_joined_73 : decode cX3_joined 73 = .ok (.getfield 15, 3) := by decide +kernel
theorem dX3_joined_76 : decode cX3_joined 76 = .ok (.iload 6, 2) := by decide +kernel
theorem dX3_joined_78 : decode cX3_joined 78 = .ok (.iaload, 1) := by decide +kernel
theorem dX3_joined_79 : decode cX3_joined 79 = .ok (.ishl, 1) := by decide +kernel
theorem dX3_joined_80 : decode cX3_joined 80 = .ok (.iconst 1, 1) := by decide +kernel
theorem dX3_joined_81 : decode cX3_joined 81 = .ok (.aload_n 0, 1) := by decide +kernel
theorem dX3_joined_82 : decode cX3_joined 82 = .ok (.getfield 18, 3) := by decide +kernel
theorem dX3_joined_85 : decode cX3_joined 85 = .ok (.iload 6, 2) := by decide +kernel
theorem dX3_joined_87 : decode cX3_joined 87 = .ok (.iaload, 1) := by decide +kernel
theorem dX3_joined_88 : decode cX3_joined 88 = .ok (.ishl, 1) := by decide +kernel
theorem dX3_joined_89 : decode cX3_joined 89 = .ok (.ior, 1) := by decide +kernel
theorem dX3_joined_90 : decode cX3_joined 90 = .ok (.ior, 1) := by decide +kernel
theorem dX3_joined_91 : decode cX3_joined 91 = .ok (.istore 4, 2) := by decide +kernel
theorem dX3_joined_93 : decode cX3_joined 93 = .ok (.iinc 6 1, 3) := by decide +kernel
theorem dX3_joined_96 : decode cX3_joined 96 = .ok (.goto (-80), 3) := by decide +kernel
theorem dX3_joined_99 : decode cX3_joined 99 = .ok (.iinc 5 1, 3) := by decide +kernel
theorem dX3_joined_102 : decode cX3_joined 102 = .ok (.goto (-96), 3) := by decide +kernel
theorem dX3_joined_105 : decode cX3_joined 105 = .ok (.iload 4, 2) := by decide +kernel
theorem dX3_joined_107 : decode cX3_joined 107 = .ok (.ireturn, 1) := by decide +kernel
theorem dX3_bonds_0 : decode cX3_bonds 0 = .ok (.iconst 0, 1) := by decide +kernel
theorem dX3_bonds_1 : decode cX3_bonds 1 = .ok (.istore_n 2, 1) := by decide +kernel
theorem dX3_bonds_2 : decode cX3_bonds 2 = .ok (.iconst 0, 1) := by decide +kernel
theorem dX3_bonds_3 : decode cX3_bonds 3 = .ok (.istore_n 3, 1) := by decide +kernel
theorem dX3_bonds_4 : decode cX3_bonds 4 = .ok (.iload_n 3, 1) := by decide +kernel
theorem dX3_bonds_5 : decode cX3_bonds 5 = .ok (.iload_n 1, 1) := by decide +kernel
theorem dX3_bonds_6 : decode cX3_bonds 6 = .ok (.if_icmp .ge 49, 3) := by decide +kernel
theorem dX3_bonds_9 : decode cX3_bonds 9 = .ok (.aload_n 0, 1) := by decide +kernel
theorem dX3_bonds_10 : decode cX3_bonds 10 = .ok (.iconst 1, 1) := by decide +kernel
theorem dX3_bonds_11 : decode cX3_bonds 11 = .ok (.aload_n 0, 1) := by decide +kernel
theorem dX3_bonds_12 : decode cX3_bonds 12 = .ok (.getfield 15, 3) := by decide +kernel
theorem dX3_bonds_15 : decode cX3_bonds 15 = .ok (.iload_n 3, 1) := by decide +kernel
theorem dX3_bonds_16 : decode cX3_bonds 16 = .ok (.iaload, 1) := by decide +kernel
theorem dX3_bonds_17 : decode cX3_bonds 17 = .ok (.ishl, 1) := by decide +kernel
theorem dX3_bonds_18 : decode cX3_bonds 18 = .ok (.iconst 1, 1) := by decide +kernel
theorem dX3_bonds_19 : decode cX3_bonds 19 = .ok (.iload_n 3, 1) := by decide +kernel
theorem dX3_bonds_20 : decode cX3_bonds 20 = .ok (.ishl, 1) := by decide +kernel
theorem dX3_bonds_21 : decode cX3_bonds 21 = .ok (.iconst (-1), 1) := by decide +kernel
theorem dX3_bonds_22 : decode cX3_bonds 22 = .ok (.ixor, 1) := by decide +kernel
theorem dX3_bonds_23 : decode cX3_bonds 23 = .ok (.iload_n 1, 1) := by decide +kernel
theorem dX3_bonds_24 : decode cX3_bonds 24 = .ok (.invokevirtual 40, 3) := by decide +kernel
theorem dX3_bonds_27 : decode cX3_bonds 27 = .ok (.istore 4, 2) := by decide +kernel
theorem dX3_bonds_29 : decode cX3_bonds 29 = .ok (.iload 4, 2) := by decide +kernel
theorem dX3_bonds_31 : decode cX3_bonds 31 = .ok (.aload_n 0, 1) := by decide +kernel
theorem dX3_bonds_32 : decode cX3_bonds 32 = .ok (.getfield 18, 3) := by decide +kernel
theorem dX3_bonds_35 : decode cX3_bonds 35 = .ok (.iload_n 3, 1) := by decide +kernel
theorem dX3_bonds_36 : decode cX3_bonds 36 = .ok (.iaload, 1) := by decide +kernel
theorem dX3_bonds_37 : decode cX3_bonds 37 = .ok (.ishr, 1) := by decide +kernel
theorem dX3_bonds_38 : decode cX3_bonds 38 = .ok (.iconst 1, 1) := by decide +kernel
theorem dX3_bonds_39 : decode cX3_bonds 39 = .ok (.iand, 1) := by decide +kernel
theorem dX3_bonds_40 : decode cX3_bonds 40 = .ok (.ifCond .ne 9, 3) := by decide +kernel
theorem dX3_bonds_43 : decode cX3_bonds 43 = .ok (.iload_n 2, 1) := by decide +kernel
theorem dX3_bonds_44 : decode cX3_bonds 44 = .ok (.iconst 1, 1) := by decide +kernel
theorem dX3_bonds_45 : decode cX3_bonds 45 = .ok (.iload_n 3, 1) := by decide +kernel
theorem dX3_bonds_46 : decode cX3_bonds 46 = .ok (.ishl, 1) := by decide +kernel
theorem dX3_bonds_47 : decode cX3_bonds 47 = .ok (.ior, 1) := by decide +kernel
theorem dX3_bonds_48 : decode cX3_bonds 48 = .ok (.istore_n 2, 1) := by decide +kernel
theorem dX3_bonds_49 : decode cX3_bonds 49 = .ok (.iinc 3 1, 3) := by decide +kernel
theorem dX3_bonds_52 : decode cX3_bonds 52 = .ok (.goto (-48), 3) := by decide +kernel
theorem dX3_bonds_55 : decode cX3_bonds 55 = .ok (.iload_n 2, 1) := by decide +kernel
theorem dX3_bonds_56 : decode cX3_bonds 56 = .ok (.ireturn, 1) := by decide +kernel
theorem dX4_init_0 : decode cX4_init 0 = .ok (.aload_n 0, 1) := by decide +kernel
theorem dX4_init_1 : decode cX4_init 1 = .ok (.invokespecial 1, 3) := by decide +kernel
theorem dX4_init_4 : decode cX4_init 4 = .ok (.return_, 1) := by decide +kernel
theorem dX4_begin_0 : decode cX4_begin 0 = .ok (.aload_n 0, 1) := by decide +kernel
theorem dX4_begin_1 : decode cX4_begin 1 = .ok (.aload_n 1, 1) := by decide +kernel
theorem dX4_begin_2 : decode cX4_begin 2 = .ok (.invokevirtual 7, 3) := by decide +kernel
theorem dX4_begin_5 : decode cX4_begin 5 = .ok (.putfield 13, 3) := by decide +kernel
theorem dX4_begin_8 : decode cX4_begin 8 = .ok (.aload_n 0, 1) := by decide +kernel
theorem dX4_begin_9 : decode cX4_begin 9 = .ok (.iconst 0, 1) := by decide +kernel
theorem dX4_begin_10 : decode cX4_begin 10 = .ok (.putfield 19, 3) := by decide +kernel
theorem dX4_begin_13 : decode cX4_begin 13 = .ok (.aload_n 0, 1) := by decide +kernel
theorem dX4_begin_14 : decode cX4_begin 14 = .ok (.iconst 0, 1) := by decide +kernel
theorem dX4_begin_15 : decode cX4_begin 15 = .ok (.putfield 22, 3) := by decide +kernel
theorem dX4_begin_18 : decode cX4_begin 18 = .ok (.return_, 1) := by decide +kernel
theorem dX4_go_0 : decode cX4_go 0 = .ok (.aload_n 0, 1) := by decide +kernel
theorem dX4_go_1 : decode cX4_go 1 = .ok (.dup, 1) := by decide +kernel
theorem dX4_go_2 : decode cX4_go 2 = .ok (.getfield 19, 3) := by decide +kernel
theorem dX4_go_5 : decode cX4_go 5 = .ok (.aload_n 1, 1) := by decide +kernel
theorem dX4_go_6 : decode cX4_go 6 = .ok (.iload_n 2, 1) := by decide +kernel
theorem dX4_go_7 : decode cX4_go 7 = .ok (.aload_n 0, 1) := by decide +kernel
theorem dX4_go_8 : decode cX4_go 8 = .ok (.invokevirtual 25, 3) := by decide +kernel
theorem dX4_go_11 : decode cX4_go 11 = .ok (.iconst 0, 1) := by decide +kernel
theorem dX4_go_12 : decode cX4_go 12 = .ok (.invokevirtual 28, 3) := by decide +kernel
theorem dX4_go_15 : decode cX4_go 15 = .ok (.iadd, 1) := by decide +kernel
theorem dX4_go_16 : decode cX4_go 16 = .ok (.putfield 19, 3) := by decide +kernel
theorem dX4_go_19 : decode cX4_go 19 = .ok (.aload_n 0, 1) := by decide +kernel
theorem dX4_go_20 : decode cX4_go 20 = .ok (.aload_n 1, 1) := by decide +kernel
theorem dX4_go_21 : decode cX4_go 21 = .ok (.aload_n 0, 1) := by decide +kernel
theorem dX4_go_22 : decode cX4_go 22 = .ok (.getfield 13, 3) := by decide +kernel
theorem dX4_go_25 : decode cX4_go 25 = .ok (.iload_n 2, 1) := by decide +kernel
theorem dX4_go_26 : decode cX4_go 26 = .ok (.invokevirtual 31, 3) := by decide +kernel
theorem dX4_go_29 : decode cX4_go 29 = .ok (.putfield 13, 3) := by decide +kernel
theorem dX4_go_32 : decode cX4_go 32 = .ok (.aload_n 0, 1) := by decide +kernel
theorem dX4_go_33 : decode cX4_go 33 = .ok (.dup, 1) := by decide +kernel
theorem dX4_go_34 : decode cX4_go 34 = .ok (.getfield 22, 3) := by decide +kernel
theorem dX4_go_37 : decode cX4_go 37 = .ok (.iconst 1, 1) := by decide +kernel
theorem dX4_go_38 : decode cX4_go 38 = .ok (.iadd, 1) := by decide +kernel
theorem dX4_go_39 : decode cX4_go 39 = .ok (.putfield 22, 3) := by decide +kernel
theorem dX4_go_42 : decode cX4_go 42 = .ok (.return_, 1) := by decide +kernel
theorem dX4_corner_0 : decode cX4_corner 0 = .ok (.aload_n 0, 1) := by decide +kernel
theorem dX4_corner_1 : decode cX4_corner 1 = .ok (.getfield 13, 3) := by decide +kernel
theorem dX4_corner_4 : decode cX4_corner 4 = .ok (.invokestatic 35, 3) := by decide +kernel
theorem dX4_corner_7 : decode cX4_corner 7 = .ok (.ireturn, 1) := by decide +kernel
theorem dX5_init_0 : decode cX5_init 0 = .ok (.aload_n 0, 1) := by decide +kernel
theorem dX5_init_1 : decode cX5_init 1 = .ok (.invokespecial 3, 3) := by decide +kernel
theorem dX5_init_4 : decode cX5_init 4 = .ok (.aload_n 0, 1) := by decide +kernel
theorem dX5_init_5 : decode cX5_init 5 = .ok (.sipush 160, 3) := by decide +kernel
theorem dX5_init_8 : decode cX5_init 8 = .ok (.newarray .int, 2) := by decide +kernel
theorem dX5_init_10 : decode cX5_init 10 = .ok (.putfield 9, 3) := by decide +kernel
theorem dX5_init_13 : decode cX5_init 13 = .ok (.aload_n 0, 1) := by decide +kernel
theorem dX5_init_14 : decode cX5_init 14 = .ok (.sipush 160, 3) := by decide +kernel
theorem dX5_init_17 : decode cX5_init 17 = .ok (.newarray .int, 2) := by decide +kernel
theorem dX5_init_19 : decode cX5_init 19 = .ok (.putfield 15, 3) := by decide +kernel
theorem dX5_init_22 : decode cX5_init 22 = .ok (.aload_n 0, 1) := by decide +kernel
theorem dX5_init_23 : decode cX5_init 23 = .ok (.iconst 3, 1) := by decide +kernel
theorem dX5_init_24 : decode cX5_init 24 = .ok (.newarray .int, 2) := by decide +kernel
theorem dX5_init_26 : decode cX5_init 26 = .ok (.putfield 18, 3) := by decide +kernel
theorem dX5_init_29 : decode cX5_init 29 = .ok (.return_, 1) := by decide +kernel
theorem dX5_put_0 : decode cX5_put 0 = .ok (.aload_n 0, 1) := by decide +kernel
theorem dX5_put_1 : decode cX5_put 1 = .ok (.getfield 21, 3) := by decide +kernel
theorem dX5_put_4 : decode cX5_put 4 = .ok (.sipush 160, 3) := by decide +kernel
theorem dX5_put_7 : decode cX5_put 7 = .ok (.if_icmp .ge 20, 3) := by decide +kernel
theorem dX5_put_10 : decode cX5_put 10 = .ok (.aload_n 0, 1) := by decide +kernel
theorem dX5_put_11 : decode cX5_put 11 = .ok (.getfield 9, 3) := by decide +kernel
theorem dX5_put_14 : decode cX5_put 14 = .ok (.aload_n 0, 1) := by decide +kernel
theorem dX5_put_15 : decode cX5_put 15 = .ok (.dup, 1) := by decide +kernel
theorem dX5_put_16 : decode cX5_put 16 = .ok (.getfield 21, 3) := by decide +kernel
theorem dX5_put_19 : decode cX5_put 19 = .ok (.dup_x1, 1) := by decide +kernel
theorem dX5_put_20 : decode cX5_put 20 = .ok (.iconst 1, 1) := by decide +kernel
theorem dX5_put_21 : decode cX5_put 21 = .ok (.iadd, 1) := by decide +kernel
theorem dX5_put_22 : decode cX5_put 22 = .ok (.putfield 21, 3) := by decide +kernel
theorem dX5_put_25 : decode cX5_put 25 = .ok (.iload_n 1, 1) := by decide +kernel
theorem dX5_put_26 : decode cX5_put 26 = .ok (.iastore, 1) := by decide +kernel
theorem dX5_put_27 : decode cX5_put 27 = .ok (.return_, 1) := by decide +kernel
theorem dX5_read_0 : decode cX5_read 0 = .ok (.aload_n 0, 1) := by decide +kernel
theorem dX5_read_1 : decode cX5_read 1 = .ok (.iconst 0, 1) := by decide +kernel
theorem dX5_read_2 : decode cX5_read 2 = .ok (.putfield 25, 3) := by decide +kernel
theorem dX5_read_5 : decode cX5_read 5 = .ok (.aload_n 0, 1) := by decide +kernel
theorem dX5_read_6 : decode cX5_read 6 = .ok (.iconst 0, 1) := by decide +kernel
theorem dX5_read_7 : decode cX5_read 7 = .ok (.putfield 28, 3) := by decide +kernel
theorem dX5_read_10 : decode cX5_read 10 = .ok (.aload_n 0, 1) := by decide +kernel
theorem dX5_read_11 : decode cX5_read 11 = .ok (.iconst (-1), 1) := by decide +kernel
theorem dX5_read_12 : decode cX5_read 12 = .ok (.putfield 31, 3) := by decide +kernel
theorem dX5_read_15 : decode cX5_read 15 = .ok (.aload_n 0, 1) := by decide +kernel
theorem dX5_read_16 : decode cX5_read 16 = .ok (.invokevirtual 34, 3) := by decide +kernel
theorem dX5_read_19 : decode cX5_read 19 = .ok (.iconst 0, 1) := by decide +kernel
theorem dX5_read_20 : decode cX5_read 20 = .ok (.istore_n 1, 1) := by decide +kernel
theorem dX5_read_21 : decode cX5_read 21 = .ok (.iload_n 1, 1) := by decide +kernel
theorem dX5_read_22 : decode cX5_read 22 = .ok (.iconst 2, 1) := by decide +kernel
theorem dX5_read_23 : decode cX5_read 23 = .ok (.if_icmp .gt 39, 3) := by decide +kernel
theorem dX5_read_26 : decode cX5_read 26 = .ok (.aload_n 0, 1) := by decide +kernel
theorem dX5_read_27 : decode cX5_read 27 = .ok (.sipush 256, 3) := by decide +kernel
theorem dX5_read_30 : decode cX5_read 30 = .ok (.iload_n 1, 1) := by decide +kernel
theorem dX5_read_31 : decode cX5_read 31 = .ok (.iadd, 1) := by decide +kernel
theorem dX5_read_32 : decode cX5_read 32 = .ok (.invokevirtual 37, 3) := by decide +kernel
theorem dX5_read_35 : decode cX5_read 35 = .ok (.aload_n 0, 1) := by decide +kernel
theorem dX5_read_36 : decode cX5_read 36 = .ok (.iconst 0, 1) := by decide +kernel
theorem dX5_read_37 : decode cX5_read 37 = .ok (.invokevirtual 41, 3) := by decide +kernel
theorem dX5_read_40 : decode cX5_read 40 = .ok (.aload_n 0, 1) := by decide +kernel
theorem dX5_read_41 : decode cX5_read 41 = .ok (.bipush 59, 2) := by decide +kernel
theorem dX5_read_43 : decode cX5_read 43 = .ok (.invokevirtual 37, 3) := by decide +kernel
theorem dX5_read_46 : decode cX5_read 46 = .ok (.aload_n 0, 1) := by decide +kernel
theorem dX5_read_47 : decode cX5_read 47 = .ok (.getfield 18, 3) := by decide +kernel
theorem dX5_read_50 : decode cX5_read 50 = .ok (.iload_n 1, 1) := by decide +kernel
theorem dX5_read_51 : decode cX5_read 51 = .ok (.aload_n 0, 1) := by decide +kernel
theorem dX5_read_52 : decode cX5_read 52 = .ok (.getfield 25, 3) := by decide +kernel
theorem dX5_read_55 : decode cX5_read 55 = .ok (.iastore, 1) := by decide +kernel
theorem dX5_read_56 : decode cX5_read 56 = .ok (.iinc 1 1, 3) := by decide +kernel
theorem dX5_read_59 : decode cX5_read 59 = .ok (.goto (-38), 3) := by decide +kernel
theorem dX5_read_62 : decode cX5_read 62 = .ok (.aload_n 0, 1) := by decide +kernel
theorem dX5_read_63 : decode cX5_read 63 = .ok (.getfield 44, 3) := by decide +kernel
theorem dX5_read_66 : decode cX5_read 66 = .ok (.ifCond .eq 7, 3) := by decide +kernel
theorem dX5_read_69 : decode cX5_read 69 = .ok (.aload_n 0, 1) := by decide +kernel
theorem dX5_read_70 : decode cX5_read 70 = .ok (.invokevirtual 47, 3) := by decide +kernel
theorem dX5_read_73 : decode cX5_read 73 = .ok (.aload_n 0, 1) := by decide +kernel
theorem dX5_read_74 : decode cX5_read 74 = .ok (.getfield 31, 3) := by decide +kernel
theorem dX5_read_77 : decode cX5_read 77 = .ok (.ireturn, 1) := by decide +kernel
theorem dX5_refuse_0 : decode cX5_refuse 0 = .ok (.aload_n 0, 1) := by decide +kernel
theorem dX5_refuse_1 : decode cX5_refuse 1 = .ok (.getfield 31, 3) := by decide +kernel
theorem dX5_refuse_4 : decode cX5_refuse 4 = .ok (.ifCond .ge 11, 3) := by decide +kernel
theorem dX5_refuse_7 : decode cX5_refuse 7 = .ok (.aload_n 0, 1) := by decide +kernel
theorem dX5_refuse_8 : decode cX5_refuse 8 = .ok (.aload_n 0, 1) := by decide +kernel
theorem dX5_refuse_9 : decode cX5_refuse 9 = .ok (.getfield 50, 3) := by decide +kernel
theorem dX5_refuse_12 : decode cX5_refuse 12 = .ok (.putfield 31, 3) := by decide +kernel
theorem dX5_refuse_15 : decode cX5_refuse 15 = .ok (.aload_n 0, 1) := by decide +kernel
theorem dX5_refuse_16 : decode cX5_refuse 16 = .ok (.iconst 1, 1) := by decide +kernel
theorem dX5_refuse_17 : decode cX5_refuse 17 = .ok (.putfield 44, 3) := by decide +kernel
theorem dX5_refuse_20 : decode cX5_refuse 20 = .ok (.return_, 1) := by decide +kernel
theorem dX5_expect_0 : decode cX5_expect 0 = .ok (.aload_n 0, 1) := by decide +kernel
theorem dX5_expect_1 : decode cX5_expect 1 = .ok (.getfield 44, 3) := by decide +kernel
theorem dX5_expect_4 : decode cX5_expect 4 = .ok (.iload_n 1, 1) := by decide +kernel
theorem dX5_expect_5 : decode cX5_expect 5 = .ok (.if_icmp .ne 10, 3) := by decide +kernel
theorem dX5_expect_8 : decode cX5_expect 8 = .ok (.aload_n 0, 1) := by decide +kernel
theorem dX5_expect_9 : decode cX5_expect 9 = .ok (.invokevirtual 34, 3) := by decide +kernel
theorem dX5_expect_12 : decode cX5_expect 12 = .ok (.goto 7, 3) := by decide +kernel
theorem dX5_expect_15 : decode cX5_expect 15 = .ok (.aload_n 0, 1) := by decide +kernel
theorem dX5_expect_16 : decode cX5_expect 16 = .ok (.invokevirtual 47, 3) := by decide +kernel
theorem dX5_expect_19 : decode cX5_expect 19 = .ok (.return_, 1) := by decide +kernel
theorem dX5_emit_0 : decode cX5_emit 0 = .ok (.aload_n 0, 1) := by decide +kernel
theorem dX5_emit_1 : decode cX5_emit 1 = .ok (.getfield 25, 3) := by decide +kernel
theorem dX5_emit_4 : decode cX5_emit 4 = .ok (.sipush 160, 3) := by decide +kernel
theorem dX5_emit_7 : decode cX5_emit 7 = .ok (.if_icmp .ge 20, 3) := by decide +kernel
theorem dX5_emit_10 : decode cX5_emit 10 = .ok (.aload_n 0, 1) := by decide +kernel
theorem dX5_emit_11 : decode cX5_emit 11 = .ok (.getfield 15, 3) := by decide +kernel
theorem dX5_emit_14 : decode cX5_emit 14 = .ok (.aload_n 0, 1) := by decide +kernel
theorem dX5_emit_15 : decode cX5_emit 15 = .ok (.dup, 1) := by decide +kernel
theorem dX5_emit_16 : decode cX5_emit 16 = .ok (.getfield 25, 3) := by decide +kernel
theorem dX5_emit_19 : decode cX5_emit 19 = .ok (.dup_x1, 1) := by decide +kernel
theorem dX5_emit_20 : decode cX5_emit 20 = .ok (.iconst 1, 1) := by decide +kernel
theorem dX5_emit_21 : decode cX5_emit 21 = .ok (.iadd, 1) := by decide +kernel
theorem dX5_emit_22 : decode cX5_emit 22 = .ok (.putfield 25, 3) := by decide +kernel
theorem dX5_emit_25 : decode cX5_emit 25 = .ok (.iload_n 1, 1) := by decide +kernel
theorem dX5_emit_26 : decode cX5_emit 26 = .ok (.iastore, 1) := by decide +kernel
theorem dX5_emit_27 : decode cX5_emit 27 = .ok (.return_, 1) := by decide +kernel
theorem dX5_at_0 : decode cX5_at 0 = .ok (.iload_n 1, 1) := by decide +kernel
theorem dX5_at_1 : decode cX5_at 1 = .ok (.ifCond .lt 20, 3) := by decide +kernel
theorem dX5_at_4 : decode cX5_at 4 = .ok (.iload_n 1, 1) := by decide +kernel
theorem dX5_at_5 : decode cX5_at 5 = .ok (.aload_n 0, 1) := by decide +kernel
theorem dX5_at_6 : decode cX5_at 6 = .ok (.getfield 21, 3) := by decide +kernel
theorem dX5_at_9 : decode cX5_at 9 = .ok (.if_icmp .ge 12, 3) := by decide +kernel
theorem dX5_at_12 : decode cX5_at 12 = .ok (.aload_n 0, 1) := by decide +kernel
theorem dX5_at_13 : decode cX5_at 13 = .ok (.getfield 9, 3) := by decide +kernel
theorem dX5_at_16 : decode cX5_at 16 = .ok (.iload_n 1, 1) := by decide +kernel
theorem dX5_at_17 : decode cX5_at 17 = .ok (.iaload, 1) := by decide +kernel
theorem dX5_at_18 : decode cX5_at 18 = .ok (.goto 4, 3) := by decide +kernel
theorem dX5_at_21 : decode cX5_at 21 = .ok (.iconst (-1), 1) := by decide +kernel
theorem dX5_at_22 : decode cX5_at 22 = .ok (.ireturn, 1) := by decide +kernel
theorem dX5_isLetter_0 : decode cX5_isLetter 0 = .ok (.aload_n 0, 1) := by decide +kernel
theorem dX5_isLetter_1 : decode cX5_isLetter 1 = .ok (.iload_n 1, 1) := by decide +kernel
theorem dX5_isLetter_2 : decode cX5_isLetter 2 = .ok (.invokevirtual 53, 3) := by decide +kernel
theorem dX5_isLetter_5 : decode cX5_isLetter 5 = .ok (.bipush 97, 2) := by decide +kernel
theorem dX5_isLetter_7 : decode cX5_isLetter 7 = .ok (.if_icmp .lt 17, 3) := by decide +kernel
theorem dX5_isLetter_10 : decode cX5_isLetter 10 = .ok (.aload_n 0, 1) := by decide +kernel
theorem dX5_isLetter_11 : decode cX5_isLetter 11 = .ok (.iload_n 1, 1) := by decide +kernel
theorem dX5_isLetter_12 : decode cX5_isLetter 12 = .ok (.invokevirtual 53, 3) := by decide +kernel
theorem dX5_isLetter_15 : decode cX5_isLetter 15 = .ok (.bipush 122, 2) := by decide +kernel
theorem dX5_isLetter_17 : decode cX5_isLetter 17 = .ok (.if_icmp .gt 7, 3) := by decide +kernel
theorem dX5_isLetter_20 : decode cX5_isLetter 20 = .ok (.iconst 1, 1) := by decide +kernel
theorem dX5_isLetter_21 : decode cX5_isLetter 21 = .ok (.goto 4, 3) := by decide +kernel
theorem dX5_isLetter_24 : decode cX5_isLetter 24 = .ok (.iconst 0, 1) := by decide +kernel
theorem dX5_isLetter_25 : decode cX5_isLetter 25 = .ok (.ireturn, 1) := by decide +kernel
theorem dX5_isDigit_0 : decode cX5_isDigit 0 = .ok (.aload_n 0, 1) := by decide +kernel
theorem dX5_isDigit_1 : decode cX5_isDigit 1 = .ok (.iload_n 1, 1) := by decide +kernel
theorem dX5_isDigit_2 : decode cX5_isDigit 2 = .ok (.invokevirtual 53, 3) := by decide +kernel
theorem dX5_isDigit_5 : decode cX5_isDigit 5 = .ok (.bipush 48, 2) := by decide +kernel
theorem dX5_isDigit_7 : decode cX5_isDigit 7 = .ok (.if_icmp .lt 17, 3) := by decide +kernel
theorem dX5_isDigit_10 : decode cX5_isDigit 10 = .ok (.aload_n 0, 1) := by decide +kernel
theorem dX5_isDigit_11 : decode cX5_isDigit 11 = .ok (.iload_n 1, 1) := by decide +kernel
theorem dX5_isDigit_12 : decode cX5_isDigit 12 = .ok (.invokevirtual 53, 3) := by decide +kernel
theorem dX5_isDigit_15 : decode cX5_isDigit 15 = .ok (.bipush 57, 2) := by decide +kernel
theorem dX5_isDigit_17 : decode cX5_isDigit 17 = .ok (.if_icmp .gt 7, 3) := by decide +kernel
theorem dX5_isDigit_20 : decode cX5_isDigit 20 = .ok (.iconst 1, 1) := by decide +kernel
theorem dX5_isDigit_21 : decode cX5_isDigit 21 = .ok (.goto 4, 3) := by decide +kernel
theorem dX5_isDigit_24 : decode cX5_isDigit 24 = .ok (.iconst 0, 1) := by decide +kernel
theorem dX5_isDigit_25 : decode cX5_isDigit 25 = .ok (.ireturn, 1) := by decide +kernel
theorem dX5_advance_0 : decode cX5_advance 0 = .ok (.aload_n 0, 1) := by decide +kernel
theorem dX5_advance_1 : decode cX5_advance 1 = .ok (.getfield 31, 3) := by decide +kernel
theorem dX5_advance_4 : decode cX5_advance 4 = .ok (.ifCond .lt 4, 3) := by decide +kernel
theorem dX5_advance_7 : decode cX5_advance 7 = .ok (.return_, 1) := by decide +kernel
theorem dX5_advance_8 : decode cX5_advance 8 = .ok (.aload_n 0, 1) := by decide +kernel
theorem dX5_advance_9 : decode cX5_advance 9 = .ok (.aload_n 0, 1) := by decide +kernel
theorem dX5_advance_10 : decode cX5_advance 10 = .ok (.getfield 28, 3) := by decide +kernel
theorem dX5_advance_13 : decode cX5_advance 13 = .ok (.putfield 50, 3) := by decide +kernel
theorem dX5_advance_16 : decode cX5_advance 16 = .ok (.aload_n 0, 1) := by decide +kernel
theorem dX5_advance_17 : decode cX5_advance 17 = .ok (.getfield 50, 3) := by decide +kernel
theorem dX5_advance_20 : decode cX5_advance 20 = .ok (.aload_n 0, 1) := by decide +kernel
theorem dX5_advance_21 : decode cX5_advance 21 = .ok (.getfield 21, 3) := by decide +kernel
theorem dX5_advance_24 : decode cX5_advance 24 = .ok (.if_icmp .ge 42, 3) := by decide +kernel
theorem dX5_advance_27 : decode cX5_advance 27 = .ok (.aload_n 0, 1) := by decide +kernel
theorem dX5_advance_28 : decode cX5_advance 28 = .ok (.aload_n 0, 1) := by decide +kernel
theorem dX5_advance_29 : decode cX5_advance 29 = .ok (.getfield 50, 3) := by decide +kernel
theorem dX5_advance_32 : decode cX5_advance 32 = .ok (.invokevirtual 53, 3) := by decide +kernel
theorem dX5_advance_35 : decode cX5_advance 35 = .ok (.bipush 32, 2) := by decide +kernel
theorem dX5_advance_37 : decode cX5_advance 37 = .ok (.if_icmp .eq 16, 3) := by decide +kernel
theorem dX5_advance_40 : decode cX5_advance 40 = .ok (.aload_n 0, 1) := by decide +kernel
theorem dX5_advance_41 : decode cX5_advance 41 = .ok (.aload_n 0, 1) := by decide +kernel
theorem dX5_advance_42 : decode cX5_advance 42 = .ok (.getfield 50, 3) := by decide +kernel
theorem dX5_advance_45 : decode cX5_advance 45 = .ok (.invokevirtual 53, 3) := by decide +kernel
theorem dX5_advance_48 : decode cX5_advance 48 = .ok (.bipush 10, 2) := by decide +kernel
theorem dX5_advance_50 : decode cX5_advance 50 = .ok (.if_icmp .ne 16, 3) := by decide +kernel
theorem dX5_advance_53 : decode cX5_advance 53 = .ok (.aload_n 0, 1) := by decide +kernel
theorem dX5_advance_54 : decode cX5_advance 54 = .ok (.dup, 1) := by decide +kernel
theorem dX5_advance_55 : decode cX5_advance 55 = .ok (.getfield 50, 3) := by decide +kernel
theorem dX5_advance_58 : decode cX5_advance 58 = .ok (.iconst 1, 1) := by decide +kernel
theorem dX5_advance_59 : decode cX5_advance 59 = .ok (.iadd, 1) := by decide +kernel
theorem dX5_advance_60 : decode cX5_advance 60 = .ok (.putfield 50, 3) := by decide +kernel
theorem dX5_advance_63 : decode cX5_advance 63 = .ok (.goto (-47), 3) := by decide +kernel
theorem dX5_advance_66 : decode cX5_advance 66 = .ok (.aload_n 0, 1) := by decide +kernel
theorem dX5_advance_67 : decode cX5_advance 67 = .ok (.aload_n 0, 1) := by decide +kernel
theorem dX5_advance_68 : decode cX5_advance 68 = .ok (.getfield 50, 3) := by decide +kernel
theorem dX5_advance_71 : decode cX5_advance 71 = .ok (.putfield 28, 3) := by decide +kernel
theorem dX5_advance_74 : decode cX5_advance 74 = .ok (.aload_n 0, 1) := by decide +kernel
theorem dX5_advance_75 : decode cX5_advance 75 = .ok (.getfield 50, 3) := by decide +kernel
theorem dX5_advance_78 : decode cX5_advance 78 = .ok (.aload_n 0, 1) := by decide +kernel
theorem dX5_advance_79 : decode cX5_advance 79 = .ok (.getfield 21, 3) := by decide +kernel
theorem dX5_advance_82 : decode cX5_advance 82 = .ok (.if_icmp .lt 11, 3) := by decide +kernel
theorem dX5_advance_85 : decode cX5_advance 85 = .ok (.aload_n 0, 1) := by decide +kernel
theorem dX5_advance_86 : decode cX5_advance 86 = .ok (.iconst 0, 1) := by decide +kernel
theorem dX5_advance_87 : decode cX5_advance 87 = .ok (.putfield 44, 3) := by decide +kernel
theorem dX5_advance_90 : decode cX5_advance 90 = .ok (.goto 55, 3) := by decide +kernel
theorem dX5_advance_93 : decode cX5_advance 93 = .ok (.aload_n 0, 1) := by decide +kernel
theorem dX5_advance_94 : decode cX5_advance 94 = .ok (.aload_n 0, 1) := by decide +kernel
theorem dX5_advance_95 : decode cX5_advance 95 = .ok (.getfield 50, 3) := by decide +kernel
theorem dX5_advance_98 : decode cX5_advance 98 = .ok (.invokevirtual 57, 3) := by decide +kernel
theorem dX5_advance_101 : decode cX5_advance 101 = .ok (.ifCond .eq 14, 3) := by decide +kernel
theorem dX5_advance_104 : decode cX5_advance 104 = .ok (.aload_n 0, 1) := by decide +kernel
theorem dX5_advance_105 : decode cX5_advance 105 = .ok (.aload_n 0, 1) := by decide +kernel
theorem dX5_advance_106 : decode cX5_advance 106 = .ok (.invokevirtual 61, 3) := by decide +kernel
theorem dX5_advance_109 : decode cX5_advance 109 = .ok (.putfield 44, 3) := by decide +kernel
theorem dX5_advance_112 : decode cX5_advance 112 = .ok (.goto 33, 3) := by decide +kernel
theorem dX5_advance_115 : decode cX5_advance 115 = .ok (.aload_n 0, 1) := by decide +kernel
theorem dX5_advance_116 : decode cX5_advance 116 = .ok (.aload_n 0, 1) := by decide +kernel
theorem dX5_advance_117 : decode cX5_advance 117 = .ok (.getfield 50, 3) := by decide +kernel
theorem dX5_advance_120 : decode cX5_advance 120 = .ok (.invokevirtual 65, 3) := by decide +kernel
theorem dX5_advance_123 : decode cX5_advance 123 = .ok (.ifCond .eq 14, 3) := by decide +kernel
theorem dX5_advance_126 : decode cX5_advance 126 = .ok (.aload_n 0, 1) := by decide +kernel
theorem dX5_advance_127 : decode cX5_advance 127 = .ok (.aload_n 0, 1) := by decide +kernel
theorem dX5_advance_128 : decode cX5_advance 128 = .ok (.invokevirtual 68, 3) := by decide +kernel
theorem dX5_advance_131 : decode cX5_advance 131 = .ok (.putfield 44, 3) := by decide +kernel
theorem dX5_advance_134 : decode cX5_advance 134 = .ok (.goto 11, 3) := by decide +kernel
theorem dX5_advance_137 : decode cX5_advance 137 = .ok (.aload_n 0, 1) := by decide +kernel
theorem dX5_advance_138 : decode cX5_advance 138 = .ok (.aload_n 0, 1) := by decide +kernel
theorem dX5_advance_139 : decode cX5_advance 139 = .ok (.invokevirtual 71, 3) := by decide +kernel
theorem dX5_advance_142 : decode cX5_advance 142 = .ok (.putfield 44, 3) := by decide +kernel
theorem dX5_advance_145 : decode cX5_advance 145 = .ok (.return_, 1) := by decide +kernel
theorem dX5_wordToken_0 : decode cX5_wordToken 0 = .ok (.aload_n 0, 1) := by decide +kernel
theorem dX5_wordToken_1 : decode cX5_wordToken 1 = .ok (.getfield 28, 3) := by decide +kernel
theorem dX5_wordToken_4 : decode cX5_wordToken 4 = .ok (.aload_n 0, 1) := by decide +kernel
theorem dX5_wordToken_5 : decode cX5_wordToken 5 = .ok (.getfield 21, 3) := by decide +kernel
theorem dX5_wordToken_8 : decode cX5_wordToken 8 = .ok (.if_icmp .ge 27, 3) := by decide +kernel
theorem dX5_wordToken_11 : decode cX5_wordToken 11 = .ok (.aload_n 0, 1) := by decide +kernel
theorem dX5_wordToken_12 : decode cX5_wordToken 12 = .ok (.aload_n 0, 1) := by decide +kernel
theorem dX5_wordToken_13 : decode cX5_wordToken 13 = .ok (.getfield 28, 3) := by decide +kernel
theorem dX5_wordToken_16 : decode cX5_wordToken 16 = .ok (.invokevirtual 57, 3) := by decide +kernel
theorem dX5_wordToken_19 : decode cX5_wordToken 19 = .ok (.ifCond .eq 16, 3) := by decide +kernel
theorem dX5_wordToken_22 : decode cX5_wordToken 22 = .ok (.aload_n 0, 1) := by decide +kernel
theorem dX5_wordToken_23 : decode cX5_wordToken 23 = .ok (.dup, 1) := by decide +kernel
theorem dX5_wordToken_24 : decode cX5_wordToken 24 = .ok (.getfield 28, 3) := by decide +kernel
theorem dX5_wordToken_27 : decode cX5_wordToken 27 = .ok (.iconst 1, 1) := by decide +kernel
theorem dX5_wordToken_28 : decode cX5_wordToken 28 = .ok (.iadd, 1) := by decide +kernel
theorem dX5_wordToken_29 : decode cX5_wordToken 29 = .ok (.putfield 28, 3) := by decide +kernel
theorem dX5_wordToken_32 : decode cX5_wordToken 32 = .ok (.goto (-32), 3) := by decide +kernel
theorem dX5_wordToken_35 : decode cX5_wordToken 35 = .ok (.sipush 256, 3) := by decide +kernel
theorem dX5_wordToken_38 : decode cX5_wordToken 38 = .ok (.istore_n 1, 1) := by decide +kernel
theorem dX5_wordToken_39 : decode cX5_wordToken 39 = .ok (.iconst 0, 1) := by decide +kernel
theorem dX5_wordToken_40 : decode cX5_wordToken 40 = .ok (.istore_n 2, 1) := by decide +kernel
theorem dX5_wordToken_41 : decode cX5_wordToken 41 = .ok (.iload_n 2, 1) := by decide +kernel
theorem dX5_wordToken_42 : decode cX5_wordToken 42 = .ok (.ldc 74, 2) := by decide +kernel
theorem dX5_wordToken_44 : decode cX5_wordToken 44 = .ok (.invokevirtual 76, 3) := by decide +kernel
theorem dX5_wordToken_47 : decode cX5_wordToken 47 = .ok (.iconst 1, 1) := by decide +kernel
theorem dX5_wordToken_48 : decode cX5_wordToken 48 = .ok (.isub, 1) := by decide +kernel
theorem dX5_wordToken_49 : decode cX5_wordToken 49 = .ok (.if_icmp .ge 38, 3) := by decide +kernel
theorem dX5_wordToken_52 : decode cX5_wordToken 52 = .ok (.ldc 74, 2) := by decide +kernel
theorem dX5_wordToken_54 : decode cX5_wordToken 54 = .ok (.iload_n 2, 1) := by decide +kernel
theorem dX5_wordToken_55 : decode cX5_wordToken 55 = .ok (.invokevirtual 80, 3) := by decide +kernel
theorem dX5_wordToken_58 : decode cX5_wordToken 58 = .ok (.bipush 32, 2) := by decide +kernel
theorem dX5_wordToken_60 : decode cX5_wordToken 60 = .ok (.if_icmp .eq 6, 3) := by decide +kernel
theorem dX5_wordToken_63 : decode cX5_wordToken 63 = .ok (.goto 18, 3) := by decide +kernel
theorem dX5_wordToken_66 : decode cX5_wordToken 66 = .ok (.aload_n 0, 1) := by decide +kernel
theorem dX5_wordToken_67 : decode cX5_wordToken 67 = .ok (.iload_n 2, 1) := by decide +kernel
theorem dX5_wordToken_68 : decode cX5_wordToken 68 = .ok (.iconst 1, 1) := by decide +kernel
theorem dX5_wordToken_69 : decode cX5_wordToken 69 = .ok (.iadd, 1) := by decide +kernel
theorem dX5_wordToken_70 : decode cX5_wordToken 70 = .ok (.invokevirtual 84, 3) := by decide +kernel
theorem dX5_wordToken_73 : decode cX5_wordToken 73 = .ok (.ifCond .eq 5, 3) := by decide +kernel
theorem dX5_wordToken_76 : decode cX5_wordToken 76 = .ok (.iload_n 1, 1) := by decide +kernel
theorem dX5_wordToken_77 : decode cX5_wordToken 77 = .ok (.ireturn, 1) := by decide +kernel
theorem dX5_wordToken_78 : decode cX5_wordToken 78 = .ok (.iinc 1 1, 3) := by decide +kernel
theorem dX5_wordToken_81 : decode cX5_wordToken 81 = .ok (.iinc 2 1, 3) := by decide +kernel
theorem dX5_wordToken_84 : decode cX5_wordToken 84 = .ok (.goto (-43), 3) := by decide +kernel
theorem dX5_wordToken_87 : decode cX5_wordToken 87 = .ok (.iconst 1, 1) := by decide +kernel
theorem dX5_wordToken_88 : decode cX5_wordToken 88 = .ok (.ireturn, 1) := by decide +kernel
theorem dX5_isWord_0 : decode cX5_isWord 0 = .ok (.iload_n 1, 1) := by decide +kernel
theorem dX5_isWord_1 : decode cX5_isWord 1 = .ok (.aload_n 0, 1) := by decide +kernel
theorem dX5_isWord_2 : decode cX5_isWord 2 = .ok (.getfield 28, 3) := by decide +kernel
theorem dX5_isWord_5 : decode cX5_isWord 5 = .ok (.iadd, 1) := by decide +kernel
theorem dX5_isWord_6 : decode cX5_isWord 6 = .ok (.aload_n 0, 1) := by decide +kernel
theorem dX5_isWord_7 : decode cX5_isWord 7 = .ok (.getfield 50, 3) := by decide +kernel
theorem dX5_isWord_10 : decode cX5_isWord 10 = .ok (.isub, 1) := by decide +kernel
theorem dX5_isWord_11 : decode cX5_isWord 11 = .ok (.istore_n 2, 1) := by decide +kernel
theorem dX5_isWord_12 : decode cX5_isWord 12 = .ok (.iload_n 2, 1) := by decide +kernel
theorem dX5_isWord_13 : decode cX5_isWord 13 = .ok (.ldc 74, 2) := by decide +kernel
theorem dX5_isWord_15 : decode cX5_isWord 15 = .ok (.invokevirtual 76, 3) := by decide +kernel
theorem dX5_isWord_18 : decode cX5_isWord 18 = .ok (.if_icmp .ge 14, 3) := by decide +kernel
theorem dX5_isWord_21 : decode cX5_isWord 21 = .ok (.ldc 74, 2) := by decide +kernel
theorem dX5_isWord_23 : decode cX5_isWord 23 = .ok (.iload_n 2, 1) := by decide +kernel
theorem dX5_isWord_24 : decode cX5_isWord 24 = .ok (.invokevirtual 80, 3) := by decide +kernel
theorem dX5_isWord_27 : decode cX5_isWord 27 = .ok (.bipush 32, 2) := by decide +kernel
theorem dX5_isWord_29 : decode cX5_isWord 29 = .ok (.if_icmp .eq 5, 3) := by decide +kernel
theorem dX5_isWord_32 : decode cX5_isWord 32 = .ok (.iconst 0, 1) := by decide +kernel
theorem dX5_isWord_33 : decode cX5_isWord 33 = .ok (.ireturn, 1) := by decide +kernel
theorem dX5_isWord_34 : decode cX5_isWord 34 = .ok (.iload_n 1, 1) := by decide +kernel
theorem dX5_isWord_35 : decode cX5_isWord 35 = .ok (.istore_n 3, 1) := by decide +kernel
theorem dX5_isWord_36 : decode cX5_isWord 36 = .ok (.iload_n 3, 1) := by decide +kernel
theorem dX5_isWord_37 : decode cX5_isWord 37 = .ok (.iload_n 2, 1) := by decide +kernel
theorem dX5_isWord_38 : decode cX5_isWord 38 = .ok (.if_icmp .ge 32, 3) := by decide +kernel
theorem dX5_isWord_41 : decode cX5_isWord 41 = .ok (.ldc 74, 2) := by decide +kernel
theorem dX5_isWord_43 : decode cX5_isWord 43 = .ok (.iload_n 3, 1) := by decide +kernel
theorem dX5_isWord_44 : decode cX5_isWord 44 = .ok (.invokevirtual 80, 3) := by decide +kernel
theorem dX5_isWord_47 : decode cX5_isWord 47 = .ok (.aload_n 0, 1) := by decide +kernel
theorem dX5_isWord_48 : decode cX5_isWord 48 = .ok (.aload_n 0, 1) := by decide +kernel
theorem dX5_isWord_49 : decode cX5_isWord 49 = .ok (.getfield 50, 3) := by decide +kernel
theorem dX5_isWord_52 : decode cX5_isWord 52 = .ok (.iload_n 3, 1) := by decide +kernel
theorem dX5_isWord_53 : decode cX5_isWord 53 = .ok (.iadd, 1) := by decide +kernel
theorem dX5_isWord_54 : decode cX5_isWord 54 = .ok (.iload_n 1, 1) := by decide +kernel
theorem dX5_isWord_55 : decode cX5_isWord 55 = .ok (.isub, 1) := by decide +kernel
theorem dX5_isWord_56 : decode cX5_isWord 56 = .ok (.invokevirtual 53, 3) := by decide +kernel
theorem dX5_isWord_59 : decode cX5_isWord 59 = .ok (.if_icmp .eq 5, 3) := by decide +kernel
theorem dX5_isWord_62 : decode cX5_isWord 62 = .ok (.iconst 0, 1) := by decide +kernel
theorem dX5_isWord_63 : decode cX5_isWord 63 = .ok (.ireturn, 1) := by decide +kernel
theorem dX5_isWord_64 : decode cX5_isWord 64 = .ok (.iinc 3 1, 3) := by decide +kernel
theorem dX5_isWord_67 : decode cX5_isWord 67 = .ok (.goto (-31), 3) := by decide +kernel
theorem dX5_isWord_70 : decode cX5_isWord 70 = .ok (.iconst 1, 1) := by decide +kernel
theorem dX5_isWord_71 : decode cX5_isWord 71 = .ok (.ireturn, 1) := by decide +kernel
theorem dX5_numberToken_0 : decode cX5_numberToken 0 = .ok (.aload_n 0, 1) := by decide +kernel
theorem dX5_numberToken_1 : decode cX5_numberToken 1 = .ok (.iconst 0, 1) := by decide +kernel
theorem dX5_numberToken_2 : decode cX5_numberToken 2 = .ok (.putfield 87, 3) := by decide +kernel
theorem dX5_numberToken_5 : decode cX5_numberToken 5 = .ok (.aload_n 0, 1) := by decide +kernel
theorem dX5_numberToken_6 : decode cX5_numberToken 6 = .ok (.getfield 28, 3) := by decide +kernel
theorem dX5_numberToken_9 : decode cX5_numberToken 9 = .ok (.aload_n 0, 1) := by decide +kernel
theorem dX5_numberToken_10 : decode cX5_numberToken 10 = .ok (.getfield 21, 3) := by decide +kernel
theorem dX5_numberToken_13 : decode cX5_numberToken 13 = .ok (.if_icmp .ge 50, 3) := by decide +kernel
theorem dX5_numberToken_16 : decode cX5_numberToken 16 = .ok (.aload_n 0, 1) := by decide +kernel
theorem dX5_numberToken_17 : decode cX5_numberToken 17 = .ok (.aload_n 0, 1) := by decide +kernel
theorem dX5_numberToken_18 : decode cX5_numberToken 18 = .ok (.getfield 28, 3) := by decide +kernel
theorem dX5_numberToken_21 : decode cX5_numberToken 21 = .ok (.invokevirtual 65, 3) := by decide +kernel
theorem dX5_numberToken_24 : decode cX5_numberToken 24 = .ok (.ifCond .eq 39, 3) := by decide +kernel
theorem dX5_numberToken_27 : decode cX5_numberToken 27 = .ok (.aload_n 0, 1) := by decide +kernel
theorem dX5_numberToken_28 : decode cX5_numberToken 28 = .ok (.aload_n 0, 1) := by decide +kernel
theorem dX5_numberToken_29 : decode cX5_numberToken 29 = .ok (.getfield 87, 3) := by decide +kernel
theorem dX5_numberToken_32 : decode cX5_numberToken 32 = .ok (.bipush 10, 2) := by decide +kernel
theorem dX5_numberToken_34 : decode cX5_numberToken 34 = .ok (.imul, 1) := by decide +kernel
theorem dX5_numberToken_35 : decode cX5_numberToken 35 = .ok (.aload_n 0, 1) := by decide +kernel
theorem dX5_numberToken_36 : decode cX5_numberToken 36 = .ok (.aload_n 0, 1) := by decide +kernel
theorem dX5_numberToken_37 : decode cX5_numberToken 37 = .ok (.getfield 28, 3) := by decide +kernel
theorem dX5_numberToken_40 : decode cX5_numberToken 40 = .ok (.invokevirtual 53, 3) := by decide +kernel
theorem dX5_numberToken_43 : decode cX5_numberToken 43 = .ok (.iadd, 1) := by decide +kernel
theorem dX5_numberToken_44 : decode cX5_numberToken 44 = .ok (.bipush 48, 2) := by decide +kernel
theorem dX5_numberToken_46 : decode cX5_numberToken 46 = .ok (.isub, 1) := by decide +kernel
theorem dX5_numberToken_47 : decode cX5_numberToken 47 = .ok (.putfield 87, 3) := by decide +kernel
theorem dX5_numberToken_50 : decode cX5_numberToken 50 = .ok (.aload_n 0, 1) := by decide +kernel
theorem dX5_numberToken_51 : decode cX5_numberToken 51 = .ok (.dup, 1) := by decide +kernel
theorem dX5_numberToken_52 : decode cX5_numberToken 52 = .ok (.getfield 28, 3) := by decide +kernel
theorem dX5_numberToken_55 : decode cX5_numberToken 55 = .ok (.iconst 1, 1) := by decide +kernel
theorem dX5_numberToken_56 : decode cX5_numberToken 56 = .ok (.iadd, 1) := by decide +kernel
theorem dX5_numberToken_57 : decode cX5_numberToken 57 = .ok (.putfield 28, 3) := by decide +kernel
theorem dX5_numberToken_60 : decode cX5_numberToken 60 = .ok (.goto (-55), 3) := by decide +kernel
theorem dX5_numberToken_63 : decode cX5_numberToken 63 = .ok (.aload_n 0, 1) := by decide +kernel
theorem dX5_numberToken_64 : decode cX5_numberToken 64 = .ok (.getfield 28, 3) := by decide +kernel
theorem dX5_numberToken_67 : decode cX5_numberToken 67 = .ok (.aload_n 0, 1) := by decide +kernel
theorem dX5_numberToken_68 : decode cX5_numberToken 68 = .ok (.getfield 50, 3) := by decide +kernel
theorem dX5_numberToken_71 : decode cX5_numberToken 71 = .ok (.isub, 1) := by decide +kernel
theorem dX5_numberToken_72 : decode cX5_numberToken 72 = .ok (.iconst 4, 1) := by decide +kernel
theorem dX5_numberToken_73 : decode cX5_numberToken 73 = .ok (.if_icmp .le 7, 3) := by decide +kernel
theorem dX5_numberToken_76 : decode cX5_numberToken 76 = .ok (.iconst 1, 1) := by decide +kernel
theorem dX5_numberToken_77 : decode cX5_numberToken 77 = .ok (.goto 4, 3) := by decide +kernel
theorem dX5_numberToken_80 : decode cX5_numberToken 80 = .ok (.iconst 2, 1) := by decide +kernel
theorem dX5_numberToken_81 : decode cX5_numberToken 81 = .ok (.ireturn, 1) := by decide +kernel
theorem dX5_signToken_0 : decode cX5_signToken 0 = .ok (.aload_n 0, 1) := by decide +kernel
theorem dX5_signToken_1 : decode cX5_signToken 1 = .ok (.dup, 1) := by decide +kernel
theorem dX5_signToken_2 : decode cX5_signToken 2 = .ok (.getfield 28, 3) := by decide +kernel
theorem dX5_signToken_5 : decode cX5_signToken 5 = .ok (.iconst 1, 1) := by decide +kernel
theorem dX5_signToken_6 : decode cX5_signToken 6 = .ok (.iadd, 1) := by decide +kernel
theorem dX5_signToken_7 : decode cX5_signToken 7 = .ok (.putfield 28, 3) := by decide +kernel
theorem dX5_signToken_10 : decode cX5_signToken 10 = .ok (.iconst 0, 1) := by decide +kernel
theorem dX5_signToken_11 : decode cX5_signToken 11 = .ok (.istore_n 1, 1) := by decide +kernel
theorem dX5_signToken_12 : decode cX5_signToken 12 = .ok (.iload_n 1, 1) := by decide +kernel
theorem dX5_signToken_13 : decode cX5_signToken 13 = .ok (.ldc 90, 2) := by decide +kernel
theorem dX5_signToken_15 : decode cX5_signToken 15 = .ok (.invokevirtual 76, 3) := by decide +kernel
theorem dX5_signToken_18 : decode cX5_signToken 18 = .ok (.if_icmp .ge 35, 3) := by decide +kernel
theorem dX5_signToken_21 : decode cX5_signToken 21 = .ok (.ldc 90, 2) := by decide +kernel
theorem dX5_signToken_23 : decode cX5_signToken 23 = .ok (.iload_n 1, 1) := by decide +kernel
theorem dX5_signToken_24 : decode cX5_signToken 24 = .ok (.invokevirtual 80, 3) := by decide +kernel
theorem dX5_signToken_27 : decode cX5_signToken 27 = .ok (.aload_n 0, 1) := by decide +kernel
theorem dX5_signToken_28 : decode cX5_signToken 28 = .ok (.aload_n 0, 1) := by decide +kernel
theorem dX5_signToken_29 : decode cX5_signToken 29 = .ok (.getfield 50, 3) := by decide +kernel
theorem dX5_signToken_32 : decode cX5_signToken 32 = .ok (.invokevirtual 53, 3) := by decide +kernel
theorem dX5_signToken_35 : decode cX5_signToken 35 = .ok (.if_icmp .ne 12, 3) := by decide +kernel
theorem dX5_signToken_38 : decode cX5_signToken 38 = .ok (.aload_n 0, 1) := by decide +kernel
theorem dX5_signToken_39 : decode cX5_signToken 39 = .ok (.aload_n 0, 1) := by decide +kernel
theorem dX5_signToken_40 : decode cX5_signToken 40 = .ok (.getfield 50, 3) := by decide +kernel
theorem dX5_signToken_43 : decode cX5_signToken 43 = .ok (.invokevirtual 53, 3) := by decide +kernel
theorem dX5_signToken_46 : decode cX5_signToken 46 = .ok (.ireturn, 1) := by decide +kernel
theorem dX5_signToken_47 : decode cX5_signToken 47 = .ok (.iinc 1 1, 3) := by decide +kernel
theorem dX5_signToken_50 : decode cX5_signToken 50 = .ok (.goto (-38), 3) := by decide +kernel
theorem dX5_signToken_53 : decode cX5_signToken 53 = .ok (.iconst 1, 1) := by decide +kernel
theorem dX5_signToken_54 : decode cX5_signToken 54 = .ok (.ireturn, 1) := by decide +kernel
theorem dX5_either_0 : decode cX5_either 0 = .ok (.aload_n 0, 1) := by decide +kernel
theorem dX5_either_1 : decode cX5_either 1 = .ok (.iload_n 1, 1) := by decide +kernel
theorem dX5_either_2 : decode cX5_either 2 = .ok (.invokevirtual 92, 3) := by decide +kernel
theorem dX5_either_5 : decode cX5_either 5 = .ok (.iconst 0, 1) := by decide +kernel
theorem dX5_either_6 : decode cX5_either 6 = .ok (.istore_n 2, 1) := by decide +kernel
theorem dX5_either_7 : decode cX5_either 7 = .ok (.iload_n 2, 1) := by decide +kernel
theorem dX5_either_8 : decode cX5_either 8 = .ok (.sipush 160, 3) := by decide +kernel
theorem dX5_either_11 : decode cX5_either 11 = .ok (.if_icmp .ge 35, 3) := by decide +kernel
theorem dX5_either_14 : decode cX5_either 14 = .ok (.aload_n 0, 1) := by decide +kernel
theorem dX5_either_15 : decode cX5_either 15 = .ok (.getfield 44, 3) := by decide +kernel
theorem dX5_either_18 : decode cX5_either 18 = .ok (.sipush 259, 3) := by decide +kernel
theorem dX5_either_21 : decode cX5_either 21 = .ok (.if_icmp .ne 25, 3) := by decide +kernel
theorem dX5_either_24 : decode cX5_either 24 = .ok (.aload_n 0, 1) := by decide +kernel
theorem dX5_either_25 : decode cX5_either 25 = .ok (.invokevirtual 34, 3) := by decide +kernel
theorem dX5_either_28 : decode cX5_either 28 = .ok (.aload_n 0, 1) := by decide +kernel
theorem dX5_either_29 : decode cX5_either 29 = .ok (.iload_n 1, 1) := by decide +kernel
theorem dX5_either_30 : decode cX5_either 30 = .ok (.invokevirtual 92, 3) := by decide +kernel
theorem dX5_either_33 : decode cX5_either 33 = .ok (.aload_n 0, 1) := by decide +kernel
theorem dX5_either_34 : decode cX5_either 34 = .ok (.sipush (-259), 3) := by decide +kernel
theorem dX5_either_37 : decode cX5_either 37 = .ok (.invokevirtual 95, 3) := by decide +kernel
theorem dX5_either_40 : decode cX5_either 40 = .ok (.iinc 2 1, 3) := by decide +kernel
theorem dX5_either_43 : decode cX5_either 43 = .ok (.goto (-36), 3) := by decide +kernel
theorem dX5_either_46 : decode cX5_either 46 = .ok (.return_, 1) := by decide +kernel
theorem dX5_both_0 : decode cX5_both 0 = .ok (.aload_n 0, 1) := by decide +kernel
theorem dX5_both_1 : decode cX5_both 1 = .ok (.iload_n 1, 1) := by decide +kernel
theorem dX5_both_2 : decode cX5_both 2 = .ok (.invokevirtual 98, 3) := by decide +kernel
theorem dX5_both_5 : decode cX5_both 5 = .ok (.iconst 0, 1) := by decide +kernel
theorem dX5_both_6 : decode cX5_both 6 = .ok (.istore_n 2, 1) := by decide +kernel
theorem dX5_both_7 : decode cX5_both 7 = .ok (.iload_n 2, 1) := by decide +kernel
theorem dX5_both_8 : decode cX5_both 8 = .ok (.sipush 160, 3) := by decide +kernel
theorem dX5_both_11 : decode cX5_both 11 = .ok (.if_icmp .ge 35, 3) := by decide +kernel
theorem dX5_both_14 : decode cX5_both 14 = .ok (.aload_n 0, 1) := by decide +kernel
theorem dX5_both_15 : decode cX5_both 15 = .ok (.getfield 44, 3) := by decide +kernel
theorem dX5_both_18 : decode cX5_both 18 = .ok (.sipush 260, 3) := by decide +kernel
theorem dX5_both_21 : decode cX5_both 21 = .ok (.if_icmp .ne 25, 3) := by decide +kernel
theorem dX5_both_24 : decode cX5_both 24 = .ok (.aload_n 0, 1) := by decide +kernel
theorem dX5_both_25 : decode cX5_both 25 = .ok (.invokevirtual 34, 3) := by decide +kernel
theorem dX5_both_28 : decode cX5_both 28 = .ok (.aload_n 0, 1) := by decide +kernel
theorem dX5_both_29 : decode cX5_both 29 = .ok (.iload_n 1, 1) := by decide +kernel
theorem dX5_both_30 : decode cX5_both 30 = .ok (.invokevirtual 98, 3) := by decide +kernel
theorem dX5_both_33 : decode cX5_both 33 = .ok (.aload_n 0, 1) := by decide +kernel
theorem dX5_both_34 : decode cX5_both 34 = .ok (.sipush (-260), 3) := by decide +kernel
theorem dX5_both_37 : decode cX5_both 37 = .ok (.invokevirtual 95, 3) := by decide +kernel
theorem dX5_both_40 : decode cX5_both 40 = .ok (.iinc 2 1, 3) := by decide +kernel
theorem dX5_both_43 : decode cX5_both 43 = .ok (.goto (-36), 3) := by decide +kernel
theorem dX5_both_46 : decode cX5_both 46 = .ok (.return_, 1) := by decide +kernel
theorem dX5_denied_0 : decode cX5_denied 0 = .ok (.aload_n 0, 1) := by decide +kernel
theorem dX5_denied_1 : decode cX5_denied 1 = .ok (.sipush 261, 3) := by decide +kernel
theorem dX5_denied_4 : decode cX5_denied 4 = .ok (.iload_n 1, 1) := by decide +kernel
theorem dX5_denied_5 : decode cX5_denied 5 = .ok (.invokevirtual 101, 3) := by decide +kernel
theorem dX5_denied_8 : decode cX5_denied 8 = .ok (.istore_n 2, 1) := by decide +kernel
theorem dX5_denied_9 : decode cX5_denied 9 = .ok (.aload_n 0, 1) := by decide +kernel
theorem dX5_denied_10 : decode cX5_denied 10 = .ok (.iload_n 1, 1) := by decide +kernel
theorem dX5_denied_11 : decode cX5_denied 11 = .ok (.iload_n 2, 1) := by decide +kernel
theorem dX5_denied_12 : decode cX5_denied 12 = .ok (.iadd, 1) := by decide +kernel
theorem dX5_denied_13 : decode cX5_denied 13 = .ok (.invokevirtual 105, 3) := by decide +kernel
theorem dX5_denied_16 : decode cX5_denied 16 = .ok (.iconst 0, 1) := by decide +kernel
theorem dX5_denied_17 : decode cX5_denied 17 = .ok (.istore_n 3, 1) := by decide +kernel
theorem dX5_denied_18 : decode cX5_denied 18 = .ok (.iload_n 3, 1) := by decide +kernel
theorem dX5_denied_19 : decode cX5_denied 19 = .ok (.iload_n 2, 1) := by decide +kernel
theorem dX5_denied_20 : decode cX5_denied 20 = .ok (.if_icmp .ge 16, 3) := by decide +kernel
theorem dX5_denied_23 : decode cX5_denied 23 = .ok (.aload_n 0, 1) := by decide +kernel
theorem dX5_denied_24 : decode cX5_denied 24 = .ok (.sipush (-261), 3) := by decide +kernel
theorem dX5_denied_27 : decode cX5_denied 27 = .ok (.invokevirtual 95, 3) := by decide +kernel
theorem dX5_denied_30 : decode cX5_denied 30 = .ok (.iinc 3 1, 3) := by decide +kernel
theorem dX5_denied_33 : decode cX5_denied 33 = .ok (.goto (-15), 3) := by decide +kernel
theorem dX5_denied_36 : decode cX5_denied 36 = .ok (.return_, 1) := by decide +kernel
theorem dX5_openers_0 : decode cX5_openers 0 = .ok (.iconst 0, 1) := by decide +kernel
theorem dX5_openers_1 : decode cX5_openers 1 = .ok (.istore_n 3, 1) := by decide +kernel
theorem dX5_openers_2 : decode cX5_openers 2 = .ok (.aload_n 0, 1) := by decide +kernel
theorem dX5_openers_3 : decode cX5_openers 3 = .ok (.getfield 44, 3) := by decide +kernel
theorem dX5_openers_6 : decode cX5_openers 6 = .ok (.iload_n 1, 1) := by decide +kernel
theorem dX5_openers_7 : decode cX5_openers 7 = .ok (.if_icmp .ne 20, 3) := by decide +kernel
theorem dX5_openers_10 : decode cX5_openers 10 = .ok (.iload_n 2, 1) := by decide +kernel
theorem dX5_openers_11 : decode cX5_openers 11 = .ok (.iload_n 3, 1) := by decide +kernel
theorem dX5_openers_12 : decode cX5_openers 12 = .ok (.iadd, 1) := by decide +kernel
theorem dX5_openers_13 : decode cX5_openers 13 = .ok (.iconst 5, 1) := by decide +kernel
theorem dX5_openers_14 : decode cX5_openers 14 = .ok (.if_icmp .ge 13, 3) := by decide +kernel
theorem dX5_openers_17 : decode cX5_openers 17 = .ok (.aload_n 0, 1) := by decide +kernel
theorem dX5_openers_18 : decode cX5_openers 18 = .ok (.invokevirtual 34, 3) := by decide +kernel
theorem dX5_openers_21 : decode cX5_openers 21 = .ok (.iinc 3 1, 3) := by decide +kernel
theorem dX5_openers_24 : decode cX5_openers 24 = .ok (.goto (-22), 3) := by decide +kernel
theorem dX5_openers_27 : decode cX5_openers 27 = .ok (.iload_n 3, 1) := by decide +kernel
theorem dX5_openers_28 : decode cX5_openers 28 = .ok (.ireturn, 1) := by decide +kernel
theorem dX5_compared_0 : decode cX5_compared 0 = .ok (.aload_n 0, 1) := by decide +kernel
theorem dX5_compared_1 : decode cX5_compared 1 = .ok (.iload_n 1, 1) := by decide +kernel
theorem dX5_compared_2 : decode cX5_compared 2 = .ok (.invokevirtual 108, 3) := by decide +kernel
theorem dX5_compared_5 : decode cX5_compared 5 = .ok (.aload_n 0, 1) := by decide +kernel
theorem dX5_compared_6 : decode cX5_compared 6 = .ok (.getfield 44, 3) := by decide +kernel
theorem dX5_compared_9 : decode cX5_compared 9 = .ok (.bipush 60, 2) := by decide +kernel
theorem dX5_compared_11 : decode cX5_compared 11 = .ok (.if_icmp .eq 13, 3) := by decide +kernel
theorem dX5_compared_14 : decode cX5_compared 14 = .ok (.aload_n 0, 1) := by decide +kernel
theorem dX5_compared_15 : decode cX5_compared 15 = .ok (.getfield 44, 3) := by decide +kernel
theorem dX5_compared_18 : decode cX5_compared 18 = .ok (.bipush 61, 2) := by decide +kernel
theorem dX5_compared_20 : decode cX5_compared 20 = .ok (.if_icmp .eq 4, 3) := by decide +kernel
theorem dX5_compared_23 : decode cX5_compared 23 = .ok (.return_, 1) := by decide +kernel
theorem dX5_compared_24 : decode cX5_compared 24 = .ok (.aload_n 0, 1) := by decide +kernel
theorem dX5_compared_25 : decode cX5_compared 25 = .ok (.getfield 44, 3) := by decide +kernel
theorem dX5_compared_28 : decode cX5_compared 28 = .ok (.istore_n 2, 1) := by decide +kernel
theorem dX5_compared_29 : decode cX5_compared 29 = .ok (.aload_n 0, 1) := by decide +kernel
theorem dX5_compared_30 : decode cX5_compared 30 = .ok (.invokevirtual 34, 3) := by decide +kernel
theorem dX5_compared_33 : decode cX5_compared 33 = .ok (.aload_n 0, 1) := by decide +kernel
theorem dX5_compared_34 : decode cX5_compared 34 = .ok (.iload_n 1, 1) := by decide +kernel
theorem dX5_compared_35 : decode cX5_compared 35 = .ok (.invokevirtual 108, 3) := by decide +kernel
theorem dX5_compared_38 : decode cX5_compared 38 = .ok (.aload_n 0, 1) := by decide +kernel
theorem dX5_compared_39 : decode cX5_compared 39 = .ok (.iload_n 2, 1) := by decide +kernel
theorem dX5_compared_40 : decode cX5_compared 40 = .ok (.ineg, 1) := by decide +kernel
theorem dX5_compared_41 : decode cX5_compared 41 = .ok (.invokevirtual 95, 3) := by decide +kernel
theorem dX5_compared_44 : decode cX5_compared 44 = .ok (.return_, 1) := by decide +kernel
theorem dX5_sum_0 : decode cX5_sum 0 = .ok (.aload_n 0, 1) := by decide +kernel
theorem dX5_sum_1 : decode cX5_sum 1 = .ok (.iload_n 1, 1) := by decide +kernel
theorem dX5_sum_2 : decode cX5_sum 2 = .ok (.invokevirtual 111, 3) := by decide +kernel
theorem dX5_sum_5 : decode cX5_sum 5 = .ok (.iconst 0, 1) := by decide +kernel
theorem dX5_sum_6 : decode cX5_sum 6 = .ok (.istore_n 2, 1) := by decide +kernel
theorem dX5_sum_7 : decode cX5_sum 7 = .ok (.iload_n 2, 1) := by decide +kernel
theorem dX5_sum_8 : decode cX5_sum 8 = .ok (.sipush 160, 3) := by decide +kernel
theorem dX5_sum_11 : decode cX5_sum 11 = .ok (.if_icmp .ge 47, 3) := by decide +kernel
theorem dX5_sum_14 : decode cX5_sum 14 = .ok (.aload_n 0, 1) := by decide +kernel
theorem dX5_sum_15 : decode cX5_sum 15 = .ok (.getfield 44, 3) := by decide +kernel
theorem dX5_sum_18 : decode cX5_sum 18 = .ok (.bipush 43, 2) := by decide +kernel
theorem dX5_sum_20 : decode cX5_sum 20 = .ok (.if_icmp .eq 12, 3) := by decide +kernel
theorem dX5_sum_23 : decode cX5_sum 23 = .ok (.aload_n 0, 1) := by decide +kernel
theorem dX5_sum_24 : decode cX5_sum 24 = .ok (.getfield 44, 3) := by decide +kernel
theorem dX5_sum_27 : decode cX5_sum 27 = .ok (.bipush 45, 2) := by decide +kernel
theorem dX5_sum_29 : decode cX5_sum 29 = .ok (.if_icmp .ne 29, 3) := by decide +kernel
theorem dX5_sum_32 : decode cX5_sum 32 = .ok (.aload_n 0, 1) := by decide +kernel
theorem dX5_sum_33 : decode cX5_sum 33 = .ok (.getfield 44, 3) := by decide +kernel
theorem dX5_sum_36 : decode cX5_sum 36 = .ok (.istore_n 3, 1) := by decide +kernel
theorem dX5_sum_37 : decode cX5_sum 37 = .ok (.aload_n 0, 1) := by decide +kernel
theorem dX5_sum_38 : decode cX5_sum 38 = .ok (.invokevirtual 34, 3) := by decide +kernel
theorem dX5_sum_41 : decode cX5_sum 41 = .ok (.aload_n 0, 1) := by decide +kernel
theorem dX5_sum_42 : decode cX5_sum 42 = .ok (.iload_n 1, 1) := by decide +kernel
theorem dX5_sum_43 : decode cX5_sum 43 = .ok (.invokevirtual 111, 3) := by decide +kernel
theorem dX5_sum_46 : decode cX5_sum 46 = .ok (.aload_n 0, 1) := by decide +kernel
theorem dX5_sum_47 : decode cX5_sum 47 = .ok (.iload_n 3, 1) := by decide +kernel
theorem dX5_sum_48 : decode cX5_sum 48 = .ok (.ineg, 1) := by decide +kernel
theorem dX5_sum_49 : decode cX5_sum 49 = .ok (.invokevirtual 95, 3) := by decide +kernel
theorem dX5_sum_52 : decode cX5_sum 52 = .ok (.iinc 2 1, 3) := by decide +kernel
theorem dX5_sum_55 : decode cX5_sum 55 = .ok (.goto (-48), 3) := by decide +kernel
theorem dX5_sum_58 : decode cX5_sum 58 = .ok (.return_, 1) := by decide +kernel
theorem dX5_product_0 : decode cX5_product 0 = .ok (.aload_n 0, 1) := by decide +kernel
theorem dX5_product_1 : decode cX5_product 1 = .ok (.iload_n 1, 1) := by decide +kernel
theorem dX5_product_2 : decode cX5_product 2 = .ok (.invokevirtual 114, 3) := by decide +kernel
theorem dX5_product_5 : decode cX5_product 5 = .ok (.iconst 0, 1) := by decide +kernel
theorem dX5_product_6 : decode cX5_product 6 = .ok (.istore_n 2, 1) := by decide +kernel
theorem dX5_product_7 : decode cX5_product 7 = .ok (.iload_n 2, 1) := by decide +kernel
theorem dX5_product_8 : decode cX5_product 8 = .ok (.sipush 160, 3) := by decide +kernel
theorem dX5_product_11 : decode cX5_product 11 = .ok (.if_icmp .ge 33, 3) := by decide +kernel
theorem dX5_product_14 : decode cX5_product 14 = .ok (.aload_n 0, 1) := by decide +kernel
theorem dX5_product_15 : decode cX5_product 15 = .ok (.getfield 44, 3) := by decide +kernel
theorem dX5_product_18 : decode cX5_product 18 = .ok (.bipush 42, 2) := by decide +kernel
theorem dX5_product_20 : decode cX5_product 20 = .ok (.if_icmp .ne 24, 3) := by decide +kernel
theorem dX5_product_23 : decode cX5_product 23 = .ok (.aload_n 0, 1) := by decide +kernel
theorem dX5_product_24 : decode cX5_product 24 = .ok (.invokevirtual 34, 3) := by decide +kernel
theorem dX5_product_27 : decode cX5_product 27 = .ok (.aload_n 0, 1) := by decide +kernel
theorem dX5_product_28 : decode cX5_product 28 = .ok (.iload_n 1, 1) := by decide +kernel
theorem dX5_product_29 : decode cX5_product 29 = .ok (.invokevirtual 114, 3) := by decide +kernel
theorem dX5_product_32 : decode cX5_product 32 = .ok (.aload_n 0, 1) := by decide +kernel
theorem dX5_product_33 : decode cX5_product 33 = .ok (.bipush (-42), 2) := by decide +kernel
theorem dX5_product_35 : decode cX5_product 35 = .ok (.invokevirtual 95, 3) := by decide +kernel
theorem dX5_product_38 : decode cX5_product 38 = .ok (.iinc 2 1, 3) := by decide +kernel
theorem dX5_product_41 : decode cX5_product 41 = .ok (.goto (-34), 3) := by decide +kernel
theorem dX5_product_44 : decode cX5_product 44 = .ok (.return_, 1) := by decide +kernel
theorem dX5_signed_0 : decode cX5_signed 0 = .ok (.aload_n 0, 1) := by decide +kernel
theorem dX5_signed_1 : decode cX5_signed 1 = .ok (.bipush 45, 2) := by decide +kernel
theorem dX5_signed_3 : decode cX5_signed 3 = .ok (.iload_n 1, 1) := by decide +kernel
theorem dX5_signed_4 : decode cX5_signed 4 = .ok (.invokevirtual 101, 3) := by decide +kernel
theorem dX5_signed_7 : decode cX5_signed 7 = .ok (.istore_n 2, 1) := by decide +kernel
theorem dX5_signed_8 : decode cX5_signed 8 = .ok (.aload_n 0, 1) := by decide +kernel
theorem dX5_signed_9 : decode cX5_signed 9 = .ok (.iload_n 1, 1) := by decide +kernel
theorem dX5_signed_10 : decode cX5_signed 10 = .ok (.iload_n 2, 1) := by decide +kernel
theorem dX5_signed_11 : decode cX5_signed 11 = .ok (.iadd, 1) := by decide +kernel
theorem dX5_signed_12 : decode cX5_signed 12 = .ok (.invokevirtual 117, 3) := by decide +kernel
theorem dX5_signed_15 : decode cX5_signed 15 = .ok (.iconst 0, 1) := by decide +kernel
theorem dX5_signed_16 : decode cX5_signed 16 = .ok (.istore_n 3, 1) := by decide +kernel
theorem dX5_signed_17 : decode cX5_signed 17 = .ok (.iload_n 3, 1) := by decide +kernel
theorem dX5_signed_18 : decode cX5_signed 18 = .ok (.iload_n 2, 1) := by decide +kernel
theorem dX5_signed_19 : decode cX5_signed 19 = .ok (.if_icmp .ge 15, 3) := by decide +kernel
theorem dX5_signed_22 : decode cX5_signed 22 = .ok (.aload_n 0, 1) := by decide +kernel
theorem dX5_signed_23 : decode cX5_signed 23 = .ok (.bipush (-3), 2) := by decide +kernel
theorem dX5_signed_25 : decode cX5_signed 25 = .ok (.invokevirtual 95, 3) := by decide +kernel
theorem dX5_signed_28 : decode cX5_signed 28 = .ok (.iinc 3 1, 3) := by decide +kernel
theorem dX5_signed_31 : decode cX5_signed 31 = .ok (.goto (-14), 3) := by decide +kernel
theorem dX5_signed_34 : decode cX5_signed 34 = .ok (.return_, 1) := by decide +kernel
theorem dX5_single_0 : decode cX5_single 0 = .ok (.aload_n 0, 1) := by decide +kernel
theorem dX5_single_1 : decode cX5_single 1 = .ok (.getfield 44, 3) := by decide +kernel
theorem dX5_single_4 : decode cX5_single 4 = .ok (.iconst 2, 1) := by decide +kernel
theorem dX5_single_5 : decode cX5_single 5 = .ok (.if_icmp .ne 18, 3) := by decide +kernel
theorem dX5_single_8 : decode cX5_single 8 = .ok (.aload_n 0, 1) := by decide +kernel
theorem dX5_single_9 : decode cX5_single 9 = .ok (.aload_n 0, 1) := by decide +kernel
theorem dX5_single_10 : decode cX5_single 10 = .ok (.getfield 87, 3) := by decide +kernel
theorem dX5_single_13 : decode cX5_single 13 = .ok (.invokevirtual 95, 3) := by decide +kernel
theorem dX5_single_16 : decode cX5_single 16 = .ok (.aload_n 0, 1) := by decide +kernel
theorem dX5_single_17 : decode cX5_single 17 = .ok (.invokevirtual 34, 3) := by decide +kernel
theorem dX5_single_20 : decode cX5_single 20 = .ok (.goto 77, 3) := by decide +kernel
theorem dX5_single_23 : decode cX5_single 23 = .ok (.aload_n 0, 1) := by decide +kernel
theorem dX5_single_24 : decode cX5_single 24 = .ok (.getfield 44, 3) := by decide +kernel
theorem dX5_single_27 : decode cX5_single 27 = .ok (.sipush 262, 3) := by decide +kernel
theorem dX5_single_30 : decode cX5_single 30 = .ok (.if_icmp .lt 29, 3) := by decide +kernel
theorem dX5_single_33 : decode cX5_single 33 = .ok (.aload_n 0, 1) := by decide +kernel
theorem dX5_single_34 : decode cX5_single 34 = .ok (.getfield 44, 3) := by decide +kernel
theorem dX5_single_37 : decode cX5_single 37 = .ok (.sipush 267, 3) := by decide +kernel
theorem dX5_single_40 : decode cX5_single 40 = .ok (.if_icmp .gt 19, 3) := by decide +kernel
theorem dX5_single_43 : decode cX5_single 43 = .ok (.aload_n 0, 1) := by decide +kernel
theorem dX5_single_44 : decode cX5_single 44 = .ok (.aload_n 0, 1) := by decide +kernel
theorem dX5_single_45 : decode cX5_single 45 = .ok (.getfield 44, 3) := by decide +kernel
theorem dX5_single_48 : decode cX5_single 48 = .ok (.ineg, 1) := by decide +kernel
theorem dX5_single_49 : decode cX5_single 49 = .ok (.invokevirtual 95, 3) := by decide +kernel
theorem dX5_single_52 : decode cX5_single 52 = .ok (.aload_n 0, 1) := by decide +kernel
theorem dX5_single_53 : decode cX5_single 53 = .ok (.invokevirtual 34, 3) := by decide +kernel
theorem dX5_single_56 : decode cX5_single 56 = .ok (.goto 41, 3) := by decide +kernel
theorem dX5_single_59 : decode cX5_single 59 = .ok (.aload_n 0, 1) := by decide +kernel
theorem dX5_single_60 : decode cX5_single 60 = .ok (.getfield 44, 3) := by decide +kernel
theorem dX5_single_63 : decode cX5_single 63 = .ok (.bipush 40, 2) := by decide +kernel
theorem dX5_single_65 : decode cX5_single 65 = .ok (.if_icmp .ne 28, 3) := by decide +kernel
theorem dX5_single_68 : decode cX5_single 68 = .ok (.iload_n 1, 1) := by decide +kernel
theorem dX5_single_69 : decode cX5_single 69 = .ok (.iconst 5, 1) := by decide +kernel
theorem dX5_single_70 : decode cX5_single 70 = .ok (.if_icmp .ge 23, 3) := by decide +kernel
theorem dX5_single_73 : decode cX5_single 73 = .ok (.aload_n 0, 1) := by decide +kernel
theorem dX5_single_74 : decode cX5_single 74 = .ok (.invokevirtual 34, 3) := by decide +kernel
theorem dX5_single_77 : decode cX5_single 77 = .ok (.aload_n 0, 1) := by decide +kernel
theorem dX5_single_78 : decode cX5_single 78 = .ok (.iload_n 1, 1) := by decide +kernel
theorem dX5_single_79 : decode cX5_single 79 = .ok (.iconst 1, 1) := by decide +kernel
theorem dX5_single_80 : decode cX5_single 80 = .ok (.iadd, 1) := by decide +kernel
theorem dX5_single_81 : decode cX5_single 81 = .ok (.invokevirtual 41, 3) := by decide +kernel
theorem dX5_single_84 : decode cX5_single 84 = .ok (.aload_n 0, 1) := by decide +kernel
theorem dX5_single_85 : decode cX5_single 85 = .ok (.bipush 41, 2) := by decide +kernel
theorem dX5_single_87 : decode cX5_single 87 = .ok (.invokevirtual 37, 3) := by decide +kernel
theorem dX5_single_90 : decode cX5_single 90 = .ok (.goto 7, 3) := by decide +kernel
theorem dX5_single_93 : decode cX5_single 93 = .ok (.aload_n 0, 1) := by decide +kernel
theorem dX5_single_94 : decode cX5_single 94 = .ok (.invokevirtual 47, 3) := by decide +kernel
theorem dX5_single_97 : decode cX5_single 97 = .ok (.return_, 1) := by decide +kernel
theorem dX6_init_0 : decode cX6_init 0 = .ok (.aload_n 0, 1) := by decide +kernel
theorem dX6_init_1 : decode cX6_init 1 = .ok (.invokespecial 3, 3) := by decide +kernel
theorem dX6_init_4 : decode cX6_init 4 = .ok (.aload_n 0, 1) := by decide +kernel
theorem dX6_init_5 : decode cX6_init 5 = .ok (.bipush 6, 2) := by decide +kernel
theorem dX6_init_7 : decode cX6_init 7 = .ok (.sipush 160, 3) := by decide +kernel
theorem dX6_init_10 : decode cX6_init 10 = .ok (.multianewarray 9 2, 4) := by decide +kernel
theorem dX6_init_14 : decode cX6_init 14 = .ok (.putfield 11, 3) := by decide +kernel
theorem dX6_init_17 : decode cX6_init 17 = .ok (.aload_n 0, 1) := by decide +kernel
theorem dX6_init_18 : decode cX6_init 18 = .ok (.bipush 6, 2) := by decide +kernel
theorem dX6_init_20 : decode cX6_init 20 = .ok (.iconst 3, 1) := by decide +kernel
theorem dX6_init_21 : decode cX6_init 21 = .ok (.multianewarray 9 2, 4) := by decide +kernel
theorem dX6_init_25 : decode cX6_init 25 = .ok (.putfield 16, 3) := by decide +kernel
theorem dX6_init_28 : decode cX6_init 28 = .ok (.aload_n 0, 1) := by decide +kernel
theorem dX6_init_29 : decode cX6_init 29 = .ok (.sipush 160, 3) := by decide +kernel
theorem dX6_init_32 : decode cX6_init 32 = .ok (.newarray .int, 2) := by decide +kernel
theorem dX6_init_34 : decode cX6_init 34 = .ok (.putfield 19, 3) := by decide +kernel
theorem dX6_init_37 : decode cX6_init 37 = .ok (.aload_n 0, 1) := by decide +kernel
theorem dX6_init_38 : decode cX6_init 38 = .ok (.bipush 6, 2) := by decide +kernel
theorem dX6_init_40 : decode cX6_init 40 = .ok (.newarray .int, 2) := by decide +kernel
theorem dX6_init_42 : decode cX6_init 42 = .ok (.putfield 25, 3) := by decide +kernel
theorem dX6_init_45 : decode cX6_init 45 = .ok (.return_, 1) := by decide +kernel
theorem dX6_add_0 : decode cX6_add 0 = .ok (.aload_n 0, 1) := by decide +kernel
theorem dX6_add_1 : decode cX6_add 1 = .ok (.getfield 28, 3) := by decide +kernel
theorem dX6_add_4 : decode cX6_add 4 = .ok (.bipush 6, 2) := by decide +kernel
theorem dX6_add_6 : decode cX6_add 6 = .ok (.if_icmp .lt 6, 3) := by decide +kernel
theorem dX6_add_9 : decode cX6_add 9 = .ok (.bipush (-4), 2) := by decide +kernel
theorem dX6_add_11 : decode cX6_add 11 = .ok (.ireturn, 1) := by decide +kernel
theorem dX6_add_12 : decode cX6_add 12 = .ok (.aload_n 1, 1) := by decide +kernel
theorem dX6_add_13 : decode cX6_add 13 = .ok (.getfield 32, 3) := by decide +kernel
theorem dX6_add_16 : decode cX6_add 16 = .ok (.iconst 0, 1) := by decide +kernel
theorem dX6_add_17 : decode cX6_add 17 = .ok (.aload_n 0, 1) := by decide +kernel
theorem dX6_add_18 : decode cX6_add 18 = .ok (.getfield 11, 3) := by decide +kernel
theorem dX6_add_21 : decode cX6_add 21 = .ok (.aload_n 0, 1) := by decide +kernel
theorem dX6_add_22 : decode cX6_add 22 = .ok (.getfield 28, 3) := by decide +kernel
theorem dX6_add_25 : decode cX6_add 25 = .ok (.aaload, 1) := by decide +kernel
theorem dX6_add_26 : decode cX6_add 26 = .ok (.iconst 0, 1) := by decide +kernel
theorem dX6_add_27 : decode cX6_add 27 = .ok (.sipush 160, 3) := by decide +kernel
theorem dX6_add_30 : decode cX6_add 30 = .ok (.invokestatic 34, 3) := by decide +kernel
theorem dX6_add_33 : decode cX6_add 33 = .ok (.aload_n 1, 1) := by decide +kernel
theorem dX6_add_34 : decode cX6_add 34 = .ok (.getfield 40, 3) := by decide +kernel
theorem dX6_add_37 : decode cX6_add 37 = .ok (.iconst 0, 1) := by decide +kernel
theorem dX6_add_38 : decode cX6_add 38 = .ok (.aload_n 0, 1) := by decide +kernel
theorem dX6_add_39 : decode cX6_add 39 = .ok (.getfield 16, 3) := by decide +kernel
theorem dX6_add_42 : decode cX6_add 42 = .ok (.aload_n 0, 1) := by decide +kernel
theorem dX6_add_43 : decode cX6_add 43 = .ok (.getfield 28, 3) := by decide +kernel
theorem dX6_add_46 : decode cX6_add 46 = .ok (.aaload, 1) := by decide +kernel
theorem dX6_add_47 : decode cX6_add 47 = .ok (.iconst 0, 1) := by decide +kernel
theorem dX6_add_48 : decode cX6_add 48 = .ok (.iconst 3, 1) := by decide +kernel
theorem dX6_add_49 : decode cX6_add 49 = .ok (.invokestatic 34, 3) := by decide +kernel
theorem dX6_add_52 : decode cX6_add 52 = .ok (.aload_n 0, 1) := by decide +kernel
theorem dX6_add_53 : decode cX6_add 53 = .ok (.dup, 1) := by decide +kernel
theorem dX6_add_54 : decode cX6_add 54 = .ok (.getfield 28, 3) := by decide +kernel
theorem dX6_add_57 : decode cX6_add 57 = .ok (.dup_x1, 1) := by decide +kernel
theorem dX6_add_58 : decode cX6_add 58 = .ok (.iconst 1, 1) := by decide +kernel
theorem dX6_add_59 : decode cX6_add 59 = .ok (.iadd, 1) := by decide +kernel
theorem dX6_add_60 : decode cX6_add 60 = .ok (.putfield 28, 3) := by decide +kernel
theorem dX6_add_63 : decode cX6_add 63 = .ok (.ireturn, 1) := by decide +kernel
theorem dX6_names_0 : decode cX6_names 0 = .ok (.iload_n 1, 1) := by decide +kernel
theorem dX6_names_1 : decode cX6_names 1 = .ok (.ifCond .lt 11, 3) := by decide +kernel
theorem dX6_names_4 : decode cX6_names 4 = .ok (.iload_n 1, 1) := by decide +kernel
theorem dX6_names_5 : decode cX6_names 5 = .ok (.aload_n 0, 1) := by decide +kernel
theorem dX6_names_6 : decode cX6_names 6 = .ok (.getfield 28, 3) := by decide +kernel
theorem dX6_names_9 : decode cX6_names 9 = .ok (.if_icmp .lt 5, 3) := by decide +kernel
theorem dX6_names_12 : decode cX6_names 12 = .ok (.iconst 0, 1) := by decide +kernel
theorem dX6_names_13 : decode cX6_names 13 = .ok (.ireturn, 1) := by decide +kernel
theorem dX6_names_14 : decode cX6_names 14 = .ok (.iconst 0, 1) := by decide +kernel
theorem dX6_names_15 : decode cX6_names 15 = .ok (.istore_n 3, 1) := by decide +kernel
theorem dX6_names_16 : decode cX6_names 16 = .ok (.iload_n 3, 1) := by decide +kernel
theorem dX6_names_17 : decode cX6_names 17 = .ok (.aload_n 0, 1) := by decide +kernel
theorem dX6_names_18 : decode cX6_names 18 = .ok (.getfield 16, 3) := by decide +kernel
theorem dX6_names_21 : decode cX6_names 21 = .ok (.iload_n 1, 1) := by decide +kernel
theorem dX6_names_22 : decode cX6_names 22 = .ok (.aaload, 1) := by decide +kernel
theorem dX6_names_23 : decode cX6_names 23 = .ok (.iconst 2, 1) := by decide +kernel
theorem dX6_names_24 : decode cX6_names 24 = .ok (.iaload, 1) := by decide +kernel
theorem dX6_names_25 : decode cX6_names 25 = .ok (.if_icmp .ge 24, 3) := by decide +kernel
theorem dX6_names_28 : decode cX6_names 28 = .ok (.aload_n 0, 1) := by decide +kernel
theorem dX6_names_29 : decode cX6_names 29 = .ok (.getfield 11, 3) := by decide +kernel
theorem dX6_names_32 : decode cX6_names 32 = .ok (.iload_n 1, 1) := by decide +kernel
theorem dX6_names_33 : decode cX6_names 33 = .ok (.aaload, 1) := by decide +kernel
theorem dX6_names_34 : decode cX6_names 34 = .ok (.iload_n 3, 1) := by decide +kernel
theorem dX6_names_35 : decode cX6_names 35 = .ok (.iaload, 1) := by decide +kernel
theorem dX6_names_36 : decode cX6_names 36 = .ok (.iload_n 2, 1) := by decide +kernel
theorem dX6_names_37 : decode cX6_names 37 = .ok (.ineg, 1) := by decide +kernel
theorem dX6_names_38 : decode cX6_names 38 = .ok (.if_icmp .ne 5, 3) := by decide +kernel
theorem dX6_names_41 : decode cX6_names 41 = .ok (.iconst 1, 1) := by decide +kernel
theorem dX6_names_42 : decode cX6_names 42 = .ok (.ireturn, 1) := by decide +kernel
theorem dX6_names_43 : decode cX6_names 43 = .ok (.iinc 3 1, 3) := by decide +kernel
theorem dX6_names_46 : decode cX6_names 46 = .ok (.goto (-30), 3) := by decide +kernel
theorem dX6_names_49 : decode cX6_names 49 = .ok (.iconst 0, 1) := by decide +kernel
theorem dX6_names_50 : decode cX6_names 50 = .ok (.ireturn, 1) := by decide +kernel
theorem dX6_name_0 : decode cX6_name 0 = .ok (.aload_n 0, 1) := by decide +kernel
theorem dX6_name_1 : decode cX6_name 1 = .ok (.getfield 25, 3) := by decide +kernel
theorem dX6_name_4 : decode cX6_name 4 = .ok (.iconst 0, 1) := by decide +kernel
theorem dX6_name_5 : decode cX6_name 5 = .ok (.iload_n 1, 1) := by decide +kernel
theorem dX6_name_6 : decode cX6_name 6 = .ok (.iastore, 1) := by decide +kernel
theorem dX6_name_7 : decode cX6_name 7 = .ok (.aload_n 0, 1) := by decide +kernel
theorem dX6_name_8 : decode cX6_name 8 = .ok (.getfield 25, 3) := by decide +kernel
theorem dX6_name_11 : decode cX6_name 11 = .ok (.iconst 1, 1) := by decide +kernel
theorem dX6_name_12 : decode cX6_name 12 = .ok (.iload_n 2, 1) := by decide +kernel
theorem dX6_name_13 : decode cX6_name 13 = .ok (.iastore, 1) := by decide +kernel
theorem dX6_name_14 : decode cX6_name 14 = .ok (.aload_n 0, 1) := by decide +kernel
theorem dX6_name_15 : decode cX6_name 15 = .ok (.getfield 25, 3) := by decide +kernel
theorem dX6_name_18 : decode cX6_name 18 = .ok (.iconst 2, 1) := by decide +kernel
theorem dX6_name_19 : decode cX6_name 19 = .ok (.iload_n 3, 1) := by decide +kernel
theorem dX6_name_20 : decode cX6_name 20 = .ok (.iastore, 1) := by decide +kernel
theorem dX6_name_21 : decode cX6_name 21 = .ok (.aload_n 0, 1) := by decide +kernel
theorem dX6_name_22 : decode cX6_name 22 = .ok (.getfield 25, 3) := by decide +kernel
theorem dX6_name_25 : decode cX6_name 25 = .ok (.iconst 3, 1) := by decide +kernel
theorem dX6_name_26 : decode cX6_name 26 = .ok (.iload 4, 2) := by decide +kernel
theorem dX6_name_28 : decode cX6_name 28 = .ok (.iastore, 1) := by decide +kernel
theorem dX6_name_29 : decode cX6_name 29 = .ok (.aload_n 0, 1) := by decide +kernel
theorem dX6_name_30 : decode cX6_name 30 = .ok (.getfield 25, 3) := by decide +kernel
theorem dX6_name_33 : decode cX6_name 33 = .ok (.iconst 4, 1) := by decide +kernel
theorem dX6_name_34 : decode cX6_name 34 = .ok (.iload 5, 2) := by decide +kernel
theorem dX6_name_36 : decode cX6_name 36 = .ok (.iastore, 1) := by decide +kernel
theorem dX6_name_37 : decode cX6_name 37 = .ok (.aload_n 0, 1) := by decide +kernel
theorem dX6_name_38 : decode cX6_name 38 = .ok (.getfield 25, 3) := by decide +kernel
theorem dX6_name_41 : decode cX6_name 41 = .ok (.iconst 5, 1) := by decide +kernel
theorem dX6_name_42 : decode cX6_name 42 = .ok (.iload 6, 2) := by decide +kernel
theorem dX6_name_44 : decode cX6_name 44 = .ok (.iastore, 1) := by decide +kernel
theorem dX6_name_45 : decode cX6_name 45 = .ok (.return_, 1) := by decide +kernel
theorem dX6_value_0 : decode cX6_value 0 = .ok (.iload_n 1, 1) := by decide +kernel
theorem dX6_value_1 : decode cX6_value 1 = .ok (.ifCond .lt 20, 3) := by decide +kernel
theorem dX6_value_4 : decode cX6_value 4 = .ok (.iload_n 1, 1) := by decide +kernel
theorem dX6_value_5 : decode cX6_value 5 = .ok (.aload_n 0, 1) := by decide +kernel
theorem dX6_value_6 : decode cX6_value 6 = .ok (.getfield 28, 3) := by decide +kernel
theorem dX6_value_9 : decode cX6_value 9 = .ok (.if_icmp .ge 12, 3) := by decide +kernel
theorem dX6_value_12 : decode cX6_value 12 = .ok (.iload_n 2, 1) := by decide +kernel
theorem dX6_value_13 : decode cX6_value 13 = .ok (.ifCond .lt 8, 3) := by decide +kernel
theorem dX6_value_16 : decode cX6_value 16 = .ok (.iload_n 2, 1) := by decide +kernel
theorem dX6_value_17 : decode cX6_value 17 = .ok (.iconst 2, 1) := by decide +kernel
theorem dX6_value_18 : decode cX6_value 18 = .ok (.if_icmp .le 5, 3) := by decide +kernel
theorem dX6_value_21 : decode cX6_value 21 = .ok (.iconst 0, 1) := by decide +kernel
theorem dX6_value_22 : decode cX6_value 22 = .ok (.ireturn, 1) := by decide +kernel
theorem dX6_value_23 : decode cX6_value 23 = .ok (.iconst 0, 1) := by decide +kernel
theorem dX6_value_24 : decode cX6_value 24 = .ok (.istore_n 3, 1) := by decide +kernel
theorem dX6_value_25 : decode cX6_value 25 = .ok (.iload_n 2, 1) := by decide +kernel
theorem dX6_value_26 : decode cX6_value 26 = .ok (.ifCond .ne 7, 3) := by decide +kernel
theorem dX6_value_29 : decode cX6_value 29 = .ok (.iconst 0, 1) := by decide +kernel
theorem dX6_value_30 : decode cX6_value 30 = .ok (.goto 13, 3) := by decide +kernel
theorem dX6_value_33 : decode cX6_value 33 = .ok (.aload_n 0, 1) := by decide +kernel
theorem dX6_value_34 : decode cX6_value 34 = .ok (.getfield 16, 3) := by decide +kernel
theorem dX6_value_37 : decode cX6_value 37 = .ok (.iload_n 1, 1) := by decide +kernel
theorem dX6_value_38 : decode cX6_value 38 = .ok (.aaload, 1) := by decide +kernel
theorem dX6_value_39 : decode cX6_value 39 = .ok (.iload_n 2, 1) := by decide +kernel
theorem dX6_value_40 : decode cX6_value 40 = .ok (.iconst 1, 1) := by decide +kernel
theorem dX6_value_41 : decode cX6_value 41 = .ok (.isub, 1) := by decide +kernel
theorem dX6_value_42 : decode cX6_value 42 = .ok (.iaload, 1) := by decide +kernel
theorem dX6_value_43 : decode cX6_value 43 = .ok (.istore 4, 2) := by decide +kernel
theorem dX6_value_45 : decode cX6_value 45 = .ok (.iload 4, 2) := by decide +kernel
theorem dX6_value_47 : decode cX6_value 47 = .ok (.aload_n 0, 1) := by decide +kernel
theorem dX6_value_48 : decode cX6_value 48 = .ok (.getfield 16, 3) := by decide +kernel
theorem dX6_value_51 : decode cX6_value 51 = .ok (.iload_n 1, 1) := by decide +kernel
theorem dX6_value_52 : decode cX6_value 52 = .ok (.aaload, 1) := by decide +kernel
theorem dX6_value_53 : decode cX6_value 53 = .ok (.iload_n 2, 1) := by decide +kernel
theorem dX6_value_54 : decode cX6_value 54 = .ok (.iaload, 1) := by decide +kernel
theorem dX6_value_55 : decode cX6_value 55 = .ok (.if_icmp .ge 125, 3) := by decide +kernel
theorem dX6_value_58 : decode cX6_value 58 = .ok (.aload_n 0, 1) := by decide +kernel
theorem dX6_value_59 : decode cX6_value 59 = .ok (.getfield 11, 3) := by decide +kernel
theorem dX6_value_62 : decode cX6_value 62 = .ok (.iload_n 1, 1) := by decide +kernel
theorem dX6_value_63 : decode cX6_value 63 = .ok (.aaload, 1) := by decide +kernel
theorem dX6_value_64 : decode cX6_value 64 = .ok (.iload 4, 2) := by decide +kernel
theorem dX6_value_66 : decode cX6_value 66 = .ok (.iaload, 1) := by decide +kernel
theorem dX6_value_67 : decode cX6_value 67 = .ok (.ineg, 1) := by decide +kernel
theorem dX6_value_68 : decode cX6_value 68 = .ok (.istore 5, 2) := by decide +kernel
theorem dX6_value_70 : decode cX6_value 70 = .ok (.iload 5, 2) := by decide +kernel
theorem dX6_value_72 : decode cX6_value 72 = .ok (.invokestatic 42, 3) := by decide +kernel
theorem dX6_value_75 : decode cX6_value 75 = .ok (.istore 6, 2) := by decide +kernel
theorem dX6_value_77 : decode cX6_value 77 = .ok (.iload_n 3, 1) := by decide +kernel
theorem dX6_value_78 : decode cX6_value 78 = .ok (.iload 6, 2) := by decide +kernel
theorem dX6_value_80 : decode cX6_value 80 = .ok (.isub, 1) := by decide +kernel
theorem dX6_value_81 : decode cX6_value 81 = .ok (.istore 7, 2) := by decide +kernel
theorem dX6_value_83 : decode cX6_value 83 = .ok (.iload 7, 2) := by decide +kernel
theorem dX6_value_85 : decode cX6_value 85 = .ok (.ifCond .lt 11, 3) := by decide +kernel
theorem dX6_value_88 : decode cX6_value 88 = .ok (.iload 7, 2) := by decide +kernel
theorem dX6_value_90 : decode cX6_value 90 = .ok (.sipush 160, 3) := by decide +kernel
theorem dX6_value_93 : decode cX6_value 93 = .ok (.if_icmp .lt 5, 3) := by decide +kernel
theorem dX6_value_96 : decode cX6_value 96 = .ok (.iconst 0, 1) := by decide +kernel
theorem dX6_value_97 : decode cX6_value 97 = .ok (.ireturn, 1) := by decide +kernel
theorem dX6_value_98 : decode cX6_value 98 = .ok (.iload 5, 2) := by decide +kernel
theorem dX6_value_100 : decode cX6_value 100 = .ok (.ifCond .gt 16, 3) := by decide +kernel
theorem dX6_value_103 : decode cX6_value 103 = .ok (.aload_n 0, 1) := by decide +kernel
theorem dX6_value_104 : decode cX6_value 104 = .ok (.getfield 19, 3) := by decide +kernel
theorem dX6_value_107 : decode cX6_value 107 = .ok (.iload 7, 2) := by decide +kernel
theorem dX6_value_109 : decode cX6_value 109 = .ok (.iload 5, 2) := by decide +kernel
theorem dX6_value_111 : decode cX6_value 111 = .ok (.ineg, 1) := by decide +kernel
theorem dX6_value_112 : decode cX6_value 112 = .ok (.iastore, 1) := by decide +kernel
theorem dX6_value_113 : decode cX6_value 113 = .ok (.goto 56, 3) := by decide +kernel
theorem dX6_value_116 : decode cX6_value 116 = .ok (.iload 6, 2) := by decide +kernel
theorem dX6_value_118 : decode cX6_value 118 = .ok (.ifCond .ne 24, 3) := by decide +kernel
theorem dX6_value_121 : decode cX6_value 121 = .ok (.aload_n 0, 1) := by decide +kernel
theorem dX6_value_122 : decode cX6_value 122 = .ok (.getfield 19, 3) := by decide +kernel
theorem dX6_value_125 : decode cX6_value 125 = .ok (.iload 7, 2) := by decide +kernel
theorem dX6_value_127 : decode cX6_value 127 = .ok (.aload_n 0, 1) := by decide +kernel
theorem dX6_value_128 : decode cX6_value 128 = .ok (.getfield 25, 3) := by decide +kernel
theorem dX6_value_131 : decode cX6_value 131 = .ok (.iload 5, 2) := by decide +kernel
theorem dX6_value_133 : decode cX6_value 133 = .ok (.sipush 262, 3) := by decide +kernel
theorem dX6_value_136 : decode cX6_value 136 = .ok (.isub, 1) := by decide +kernel
theorem dX6_value_137 : decode cX6_value 137 = .ok (.iaload, 1) := by decide +kernel
theorem dX6_value_138 : decode cX6_value 138 = .ok (.iastore, 1) := by decide +kernel
theorem dX6_value_139 : decode cX6_value 139 = .ok (.goto 30, 3) := by decide +kernel
theorem dX6_value_142 : decode cX6_value 142 = .ok (.aload_n 0, 1) := by decide +kernel
theorem dX6_value_143 : decode cX6_value 143 = .ok (.getfield 19, 3) := by decide +kernel
theorem dX6_value_146 : decode cX6_value 146 = .ok (.iload 7, 2) := by decide +kernel
theorem dX6_value_148 : decode cX6_value 148 = .ok (.iload 5, 2) := by decide +kernel
theorem dX6_value_150 : decode cX6_value 150 = .ok (.aload_n 0, 1) := by decide +kernel
theorem dX6_value_151 : decode cX6_value 151 = .ok (.getfield 19, 3) := by decide +kernel
theorem dX6_value_154 : decode cX6_value 154 = .ok (.iload 7, 2) := by decide +kernel
theorem dX6_value_156 : decode cX6_value 156 = .ok (.iaload, 1) := by decide +kernel
theorem dX6_value_157 : decode cX6_value 157 = .ok (.aload_n 0, 1) := by decide +kernel
theorem dX6_value_158 : decode cX6_value 158 = .ok (.getfield 19, 3) := by decide +kernel
theorem dX6_value_161 : decode cX6_value 161 = .ok (.iload_n 3, 1) := by decide +kernel
theorem dX6_value_162 : decode cX6_value 162 = .ok (.iconst 1, 1) := by decide +kernel
theorem dX6_value_163 : decode cX6_value 163 = .ok (.isub, 1) := by decide +kernel
theorem dX6_value_164 : decode cX6_value 164 = .ok (.iaload, 1) := by decide +kernel
theorem dX6_value_165 : decode cX6_value 165 = .ok (.invokestatic 46, 3) := by decide +kernel
theorem dX6_value_168 : decode cX6_value 168 = .ok (.iastore, 1) := by decide +kernel
theorem dX6_value_169 : decode cX6_value 169 = .ok (.iload 7, 2) := by decide +kernel
theorem dX6_value_171 : decode cX6_value 171 = .ok (.iconst 1, 1) := by decide +kernel
theorem dX6_value_172 : decode cX6_value 172 = .ok (.iadd, 1) := by decide +kernel
theorem dX6_value_173 : decode cX6_value 173 = .ok (.istore_n 3, 1) := by decide +kernel
theorem dX6_value_174 : decode cX6_value 174 = .ok (.iinc 4 1, 3) := by decide +kernel
theorem dX6_value_177 : decode cX6_value 177 = .ok (.goto (-132), 3) := by decide +kernel
theorem dX6_value_180 : decode cX6_value 180 = .ok (.aload_n 0, 1) := by decide +kernel
theorem dX6_value_181 : decode cX6_value 181 = .ok (.getfield 19, 3) := by decide +kernel
theorem dX6_value_184 : decode cX6_value 184 = .ok (.iconst 0, 1) := by decide +kernel
theorem dX6_value_185 : decode cX6_value 185 = .ok (.iaload, 1) := by decide +kernel
theorem dX6_value_186 : decode cX6_value 186 = .ok (.ireturn, 1) := by decide +kernel
theorem dX6_operands_0 : decode cX6_operands 0 = .ok (.iload_n 0, 1) := by decide +kernel
theorem dX6_operands_1 : decode cX6_operands 1 = .ok (.ifCond .le 17, 3) := by decide +kernel
theorem dX6_operands_4 : decode cX6_operands 4 = .ok (.iload_n 0, 1) := by decide +kernel
theorem dX6_operands_5 : decode cX6_operands 5 = .ok (.sipush 262, 3) := by decide +kernel
theorem dX6_operands_8 : decode cX6_operands 8 = .ok (.if_icmp .lt 12, 3) := by decide +kernel
theorem dX6_operands_11 : decode cX6_operands 11 = .ok (.iload_n 0, 1) := by decide +kernel
theorem dX6_operands_12 : decode cX6_operands 12 = .ok (.sipush 267, 3) := by decide +kernel
theorem dX6_operands_15 : decode cX6_operands 15 = .ok (.if_icmp .gt 5, 3) := by decide +kernel
theorem dX6_operands_18 : decode cX6_operands 18 = .ok (.iconst 0, 1) := by decide +kernel
theorem dX6_operands_19 : decode cX6_operands 19 = .ok (.ireturn, 1) := by decide +kernel
theorem dX6_operands_20 : decode cX6_operands 20 = .ok (.iload_n 0, 1) := by decide +kernel
theorem dX6_operands_21 : decode cX6_operands 21 = .ok (.sipush 261, 3) := by decide +kernel
theorem dX6_operands_24 : decode cX6_operands 24 = .ok (.if_icmp .eq 8, 3) := by decide +kernel
theorem dX6_operands_27 : decode cX6_operands 27 = .ok (.iload_n 0, 1) := by decide +kernel
theorem dX6_operands_28 : decode cX6_operands 28 = .ok (.iconst 3, 1) := by decide +kernel
theorem dX6_operands_29 : decode cX6_operands 29 = .ok (.if_icmp .ne 7, 3) := by decide +kernel
theorem dX6_operands_32 : decode cX6_operands 32 = .ok (.iconst 1, 1) := by decide +kernel
theorem dX6_operands_33 : decode cX6_operands 33 = .ok (.goto 4, 3) := by decide +kernel
theorem dX6_operands_36 : decode cX6_operands 36 = .ok (.iconst 2, 1) := by decide +kernel
theorem dX6_operands_37 : decode cX6_operands 37 = .ok (.ireturn, 1) := by decide +kernel
theorem dX6_applied_0 : decode cX6_applied 0 = .ok (.iload_n 0, 1) := by decide +kernel
theorem dX6_applied_1 : decode cX6_applied 1 = .ok (.lookupswitch 147 #[(42, 143), (43, 135), (45, 139), (60, 113), (61, 124), (259, 75), (260, 89), (261, 103)], 75) := by decide +kernel
theorem dX6_applied_76 : decode cX6_applied 76 = .ok (.iload_n 1, 1) := by decide +kernel
theorem dX6_applied_77 : decode cX6_applied 77 = .ok (.ifCond .ne 7, 3) := by decide +kernel
theorem dX6_applied_80 : decode cX6_applied 80 = .ok (.iload_n 2, 1) := by decide +kernel
theorem dX6_applied_81 : decode cX6_applied 81 = .ok (.ifCond .eq 7, 3) := by decide +kernel
theorem dX6_applied_84 : decode cX6_applied 84 = .ok (.iconst 1, 1) := by decide +kernel
theorem dX6_applied_85 : decode cX6_applied 85 = .ok (.goto 4, 3) := by decide +kernel
theorem dX6_applied_88 : decode cX6_applied 88 = .ok (.iconst 0, 1) := by decide +kernel
theorem dX6_applied_89 : decode cX6_applied 89 = .ok (.ireturn, 1) := by decide +kernel
theorem dX6_applied_90 : decode cX6_applied 90 = .ok (.iload_n 1, 1) := by decide +kernel
theorem dX6_applied_91 : decode cX6_applied 91 = .ok (.ifCond .eq 11, 3) := by decide +kernel
theorem dX6_applied_94 : decode cX6_applied 94 = .ok (.iload_n 2, 1) := by decide +kernel
theorem dX6_applied_95 : decode cX6_applied 95 = .ok (.ifCond .eq 7, 3) := by decide +kernel
theorem dX6_applied_98 : decode cX6_applied 98 = .ok (.iconst 1, 1) := by decide +kernel
theorem dX6_applied_99 : decode cX6_applied 99 = .ok (.goto 4, 3) := by decide +kernel
theorem dX6_applied_102 : decode cX6_applied 102 = .ok (.iconst 0, 1) := by decide +kernel
theorem dX6_applied_103 : decode cX6_applied 103 = .ok (.ireturn, 1) := by decide +kernel
theorem dX6_applied_104 : decode cX6_applied 104 = .ok (.iload_n 1, 1) := by decide +kernel
theorem dX6_applied_105 : decode cX6_applied 105 = .ok (.ifCond .ne 7, 3) := by decide +kernel
theorem dX6_applied_108 : decode cX6_applied 108 = .ok (.iconst 1, 1) := by decide +kernel
theorem dX6_applied_109 : decode cX6_applied 109 = .ok (.goto 4, 3) := by decide +kernel
theorem dX6_applied_112 : decode cX6_applied 112 = .ok (.iconst 0, 1) := by decide +kernel
theorem dX6_applied_113 : decode cX6_applied 113 = .ok (.ireturn, 1) := by decide +kernel
theorem dX6_applied_114 : decode cX6_applied 114 = .ok (.iload_n 1, 1) := by decide +kernel
theorem dX6_applied_115 : decode cX6_applied 115 = .ok (.iload_n 2, 1) := by decide +kernel
theorem dX6_applied_116 : decode cX6_applied 116 = .ok (.if_icmp .ge 7, 3) := by decide +kernel
theorem dX6_applied_119 : decode cX6_applied 119 = .ok (.iconst 1, 1) := by decide +kernel
theorem dX6_applied_120 : decode cX6_applied 120 = .ok (.goto 4, 3) := by decide +kernel
theorem dX6_applied_123 : decode cX6_applied 123 = .ok (.iconst 0, 1) := by decide +kernel
theorem dX6_applied_124 : decode cX6_applied 124 = .ok (.ireturn, 1) := by decide +kernel
theorem dX6_applied_125 : decode cX6_applied 125 = .ok (.iload_n 1, 1) := by decide +kernel
theorem dX6_applied_126 : decode cX6_applied 126 = .ok (.iload_n 2, 1) := by decide +kernel
theorem dX6_applied_127 : decode cX6_applied 127 = .ok (.if_icmp .ne 7, 3) := by decide +kernel
theorem dX6_applied_130 : decode cX6_applied 130 = .ok (.iconst 1, 1) := by decide +kernel
theorem dX6_applied_131 : decode cX6_applied 131 = .ok (.goto 4, 3) := by decide +kernel
theorem dX6_applied_134 : decode cX6_applied 134 = .ok (.iconst 0, 1) := by decide +kernel
theorem dX6_applied_135 : decode cX6_applied 135 = .ok (.ireturn, 1) := by decide +kernel
theorem dX6_applied_136 : decode cX6_applied 136 = .ok (.iload_n 1, 1) := by decide +kernel
theorem dX6_applied_137 : decode cX6_applied 137 = .ok (.iload_n 2, 1) := by decide +kernel
theorem dX6_applied_138 : decode cX6_applied 138 = .ok (.iadd, 1) := by decide +kernel
theorem dX6_applied_139 : decode cX6_applied 139 = .ok (.ireturn, 1) := by decide +kernel
theorem dX6_applied_140 : decode cX6_applied 140 = .ok (.iload_n 1, 1) := by decide +kernel
theorem dX6_applied_141 : decode cX6_applied 141 = .ok (.iload_n 2, 1) := by decide +kernel
theorem dX6_applied_142 : decode cX6_applied 142 = .ok (.isub, 1) := by decide +kernel
theorem dX6_applied_143 : decode cX6_applied 143 = .ok (.ireturn, 1) := by decide +kernel
theorem dX6_applied_144 : decode cX6_applied 144 = .ok (.iload_n 1, 1) := by decide +kernel
theorem dX6_applied_145 : decode cX6_applied 145 = .ok (.iload_n 2, 1) := by decide +kernel
theorem dX6_applied_146 : decode cX6_applied 146 = .ok (.imul, 1) := by decide +kernel
theorem dX6_applied_147 : decode cX6_applied 147 = .ok (.ireturn, 1) := by decide +kernel
theorem dX6_applied_148 : decode cX6_applied 148 = .ok (.iload_n 1, 1) := by decide +kernel
theorem dX6_applied_149 : decode cX6_applied 149 = .ok (.ineg, 1) := by decide +kernel
theorem dX6_applied_150 : decode cX6_applied 150 = .ok (.ireturn, 1) := by decide +kernel
theorem dX7_init_0 : decode cX7_init 0 = .ok (.aload_n 0, 1) := by decide +kernel
theorem dX7_init_1 : decode cX7_init 1 = .ok (.invokespecial 3, 3) := by decide +kernel
theorem dX7_init_4 : decode cX7_init 4 = .ok (.aload_n 0, 1) := by decide +kernel
theorem dX7_init_5 : decode cX7_init 5 = .ok (.bipush 13, 2) := by decide +kernel
theorem dX7_init_7 : decode cX7_init 7 = .ok (.newarray .int, 2) := by decide +kernel
theorem dX7_init_9 : decode cX7_init 9 = .ok (.putfield 9, 3) := by decide +kernel
theorem dX7_init_12 : decode cX7_init 12 = .ok (.aload_n 0, 1) := by decide +kernel
theorem dX7_init_13 : decode cX7_init 13 = .ok (.bipush 13, 2) := by decide +kernel
theorem dX7_init_15 : decode cX7_init 15 = .ok (.newarray .int, 2) := by decide +kernel
theorem dX7_init_17 : decode cX7_init 17 = .ok (.putfield 15, 3) := by decide +kernel
theorem dX7_init_20 : decode cX7_init 20 = .ok (.aload_n 0, 1) := by decide +kernel
theorem dX7_init_21 : decode cX7_init 21 = .ok (.bipush 13, 2) := by decide +kernel
theorem dX7_init_23 : decode cX7_init 23 = .ok (.newarray .int, 2) := by decide +kernel
theorem dX7_init_25 : decode cX7_init 25 = .ok (.putfield 18, 3) := by decide +kernel
theorem dX7_init_28 : decode cX7_init 28 = .ok (.aload_n 0, 1) := by decide +kernel
theorem dX7_init_29 : decode cX7_init 29 = .ok (.bipush 32, 2) := by decide +kernel
theorem dX7_init_31 : decode cX7_init 31 = .ok (.newarray .int, 2) := by decide +kernel
theorem dX7_init_33 : decode cX7_init 33 = .ok (.putfield 21, 3) := by decide +kernel
theorem dX7_init_36 : decode cX7_init 36 = .ok (.aload_n 0, 1) := by decide +kernel
theorem dX7_init_37 : decode cX7_init 37 = .ok (.sipush 416, 3) := by decide +kernel
theorem dX7_init_40 : decode cX7_init 40 = .ok (.newarray .int, 2) := by decide +kernel
theorem dX7_init_42 : decode cX7_init 42 = .ok (.putfield 24, 3) := by decide +kernel
theorem dX7_init_45 : decode cX7_init 45 = .ok (.return_, 1) := by decide +kernel
theorem dX7_at_0 : decode cX7_at 0 = .ok (.iload_n 0, 1) := by decide +kernel
theorem dX7_at_1 : decode cX7_at 1 = .ok (.bipush 15, 2) := by decide +kernel
theorem dX7_at_3 : decode cX7_at 3 = .ok (.iand, 1) := by decide +kernel
theorem dX7_at_4 : decode cX7_at 4 = .ok (.ireturn, 1) := by decide +kernel
theorem dX7_passed_0 : decode cX7_passed 0 = .ok (.iload_n 0, 1) := by decide +kernel
theorem dX7_passed_1 : decode cX7_passed 1 = .ok (.iconst 4, 1) := by decide +kernel
theorem dX7_passed_2 : decode cX7_passed 2 = .ok (.ishr, 1) := by decide +kernel
theorem dX7_passed_3 : decode cX7_passed 3 = .ok (.sipush 511, 3) := by decide +kernel
theorem dX7_passed_6 : decode cX7_passed 6 = .ok (.iand, 1) := by decide +kernel
theorem dX7_passed_7 : decode cX7_passed 7 = .ok (.ireturn, 1) := by decide +kernel
theorem dX7_spent_0 : decode cX7_spent 0 = .ok (.iload_n 0, 1) := by decide +kernel
theorem dX7_spent_1 : decode cX7_spent 1 = .ok (.bipush 13, 2) := by decide +kernel
theorem dX7_spent_3 : decode cX7_spent 3 = .ok (.ishr, 1) := by decide +kernel
theorem dX7_spent_4 : decode cX7_spent 4 = .ok (.ireturn, 1) := by decide +kernel
theorem dX7_lay_0 : decode cX7_lay 0 = .ok (.aload_n 0, 1) := by decide +kernel
theorem dX7_lay_1 : decode cX7_lay 1 = .ok (.aload_n 1, 1) := by decide +kernel
theorem dX7_lay_2 : decode cX7_lay 2 = .ok (.getfield 27, 3) := by decide +kernel
theorem dX7_lay_5 : decode cX7_lay 5 = .ok (.putfield 33, 3) := by decide +kernel
theorem dX7_lay_8 : decode cX7_lay 8 = .ok (.aload_n 0, 1) := by decide +kernel
theorem dX7_lay_9 : decode cX7_lay 9 = .ok (.aload_n 1, 1) := by decide +kernel
theorem dX7_lay_10 : decode cX7_lay 10 = .ok (.getfield 34, 3) := by decide +kernel
theorem dX7_lay_13 : decode cX7_lay 13 = .ok (.putfield 37, 3) := by decide +kernel
theorem dX7_lay_16 : decode cX7_lay 16 = .ok (.aload_n 0, 1) := by decide +kernel
theorem dX7_lay_17 : decode cX7_lay 17 = .ok (.aload_n 1, 1) := by decide +kernel
theorem dX7_lay_18 : decode cX7_lay 18 = .ok (.getfield 38, 3) := by decide +kernel
theorem dX7_lay_21 : decode cX7_lay 21 = .ok (.putfield 41, 3) := by decide +kernel
theorem dX7_lay_24 : decode cX7_lay 24 = .ok (.aload_n 0, 1) := by decide +kernel
theorem dX7_lay_25 : decode cX7_lay 25 = .ok (.aload_n 1, 1) := by decide +kernel
theorem dX7_lay_26 : decode cX7_lay 26 = .ok (.getfield 42, 3) := by decide +kernel
theorem dX7_lay_29 : decode cX7_lay 29 = .ok (.bipush 12, 2) := by decide +kernel
theorem dX7_lay_31 : decode cX7_lay 31 = .ok (.invokestatic 45, 3) := by decide +kernel
theorem dX7_lay_34 : decode cX7_lay 34 = .ok (.putfield 51, 3) := by decide +kernel
theorem dX7_lay_37 : decode cX7_lay 37 = .ok (.aload_n 0, 1) := by decide +kernel
theorem dX7_lay_38 : decode cX7_lay 38 = .ok (.getfield 21, 3) := by decide +kernel
theorem dX7_lay_41 : decode cX7_lay 41 = .ok (.iconst 0, 1) := by decide +kernel
theorem dX7_lay_42 : decode cX7_lay 42 = .ok (.invokestatic 54, 3) := by decide +kernel
theorem dX7_lay_45 : decode cX7_lay 45 = .ok (.iconst 0, 1) := by decide +kernel
theorem dX7_lay_46 : decode cX7_lay 46 = .ok (.istore 4, 2) := by decide +kernel
theorem dX7_lay_48 : decode cX7_lay 48 = .ok (.iload 4, 2) := by decide +kernel
theorem dX7_lay_50 : decode cX7_lay 50 = .ok (.aload_n 0, 1) := by decide +kernel
theorem dX7_lay_51 : decode cX7_lay 51 = .ok (.getfield 51, 3) := by decide +kernel
theorem dX7_lay_54 : decode cX7_lay 54 = .ok (.if_icmp .ge 86, 3) := by decide +kernel
theorem dX7_lay_57 : decode cX7_lay 57 = .ok (.aload_n 0, 1) := by decide +kernel
theorem dX7_lay_58 : decode cX7_lay 58 = .ok (.getfield 9, 3) := by decide +kernel
theorem dX7_lay_61 : decode cX7_lay 61 = .ok (.iload 4, 2) := by decide +kernel
theorem dX7_lay_63 : decode cX7_lay 63 = .ok (.aload_n 2, 1) := by decide +kernel
theorem dX7_lay_64 : decode cX7_lay 64 = .ok (.getfield 60, 3) := by decide +kernel
theorem dX7_lay_67 : decode cX7_lay 67 = .ok (.iload 4, 2) := by decide +kernel
theorem dX7_lay_69 : decode cX7_lay 69 = .ok (.iaload, 1) := by decide +kernel
theorem dX7_lay_70 : decode cX7_lay 70 = .ok (.iastore, 1) := by decide +kernel
theorem dX7_lay_71 : decode cX7_lay 71 = .ok (.aload_n 0, 1) := by decide +kernel
theorem dX7_lay_72 : decode cX7_lay 72 = .ok (.getfield 15, 3) := by decide +kernel
theorem dX7_lay_75 : decode cX7_lay 75 = .ok (.iload 4, 2) := by decide +kernel
theorem dX7_lay_77 : decode cX7_lay 77 = .ok (.aload_n 2, 1) := by decide +kernel
theorem dX7_lay_78 : decode cX7_lay 78 = .ok (.getfield 63, 3) := by decide +kernel
theorem dX7_lay_81 : decode cX7_lay 81 = .ok (.iload 4, 2) := by decide +kernel
theorem dX7_lay_83 : decode cX7_lay 83 = .ok (.iaload, 1) := by decide +kernel
theorem dX7_lay_84 : decode cX7_lay 84 = .ok (.iastore, 1) := by decide +kernel
theorem dX7_lay_85 : decode cX7_lay 85 = .ok (.aload_n 0, 1) := by decide +kernel
theorem dX7_lay_86 : decode cX7_lay 86 = .ok (.getfield 18, 3) := by decide +kernel
theorem dX7_lay_89 : decode cX7_lay 89 = .ok (.iload 4, 2) := by decide +kernel
theorem dX7_lay_91 : decode cX7_lay 91 = .ok (.aload_n 2, 1) := by decide +kernel
theorem dX7_lay_92 : decode cX7_lay 92 = .ok (.iload 4, 2) := by decide +kernel
theorem dX7_lay_94 : decode cX7_lay 94 = .ok (.aload_n 0, 1) := by decide +kernel
theorem dX7_lay_95 : decode cX7_lay 95 = .ok (.getfield 51, 3) := by decide +kernel
theorem dX7_lay_98 : decode cX7_lay 98 = .ok (.invokevirtual 64, 3) := by decide +kernel
theorem dX7_lay_101 : decode cX7_lay 101 = .ok (.iastore, 1) := by decide +kernel
theorem dX7_lay_102 : decode cX7_lay 102 = .ok (.aload_n 0, 1) := by decide +kernel
theorem dX7_lay_103 : decode cX7_lay 103 = .ok (.iload 4, 2) := by decide +kernel
theorem dX7_lay_105 : decode cX7_lay 105 = .ok (.aload_n 0, 1) := by decide +kernel
theorem dX7_lay_106 : decode cX7_lay 106 = .ok (.getfield 9, 3) := by decide +kernel
theorem dX7_lay_109 : decode cX7_lay 109 = .ok (.iload 4, 2) := by decide +kernel
theorem dX7_lay_111 : decode cX7_lay 111 = .ok (.iaload, 1) := by decide +kernel
theorem dX7_lay_112 : decode cX7_lay 112 = .ok (.aload_n 1, 1) := by decide +kernel
theorem dX7_lay_113 : decode cX7_lay 113 = .ok (.aload_n 2, 1) := by decide +kernel
theorem dX7_lay_114 : decode cX7_lay 114 = .ok (.aload_n 3, 1) := by decide +kernel
theorem dX7_lay_115 : decode cX7_lay 115 = .ok (.invokevirtual 67, 3) := by decide +kernel
theorem dX7_lay_118 : decode cX7_lay 118 = .ok (.aload_n 0, 1) := by decide +kernel
theorem dX7_lay_119 : decode cX7_lay 119 = .ok (.iload 4, 2) := by decide +kernel
theorem dX7_lay_121 : decode cX7_lay 121 = .ok (.aload_n 0, 1) := by decide +kernel
theorem dX7_lay_122 : decode cX7_lay 122 = .ok (.getfield 15, 3) := by decide +kernel
theorem dX7_lay_125 : decode cX7_lay 125 = .ok (.iload 4, 2) := by decide +kernel
theorem dX7_lay_127 : decode cX7_lay 127 = .ok (.iaload, 1) := by decide +kernel
theorem dX7_lay_128 : decode cX7_lay 128 = .ok (.aload_n 1, 1) := by decide +kernel
theorem dX7_lay_129 : decode cX7_lay 129 = .ok (.aload_n 2, 1) := by decide +kernel
theorem dX7_lay_130 : decode cX7_lay 130 = .ok (.aload_n 3, 1) := by decide +kernel
theorem dX7_lay_131 : decode cX7_lay 131 = .ok (.invokevirtual 67, 3) := by decide +kernel
theorem dX7_lay_134 : decode cX7_lay 134 = .ok (.iinc 4 1, 3) := by decide +kernel
theorem dX7_lay_137 : decode cX7_lay 137 = .ok (.goto (-89), 3) := by decide +kernel
theorem dX7_lay_140 : decode cX7_lay 140 = .ok (.return_, 1) := by decide +kernel
theorem dX7_price_0 : decode cX7_price 0 = .ok (.aload 5, 2) := by decide +kernel
theorem dX7_price_2 : decode cX7_price 2 = .ok (.aload 4, 2) := by decide +kernel
theorem dX7_price_4 : decode cX7_price 4 = .ok (.getfield 71, 3) := by decide +kernel
theorem dX7_price_7 : decode cX7_price 7 = .ok (.iload_n 1, 1) := by decide +kernel
theorem dX7_price_8 : decode cX7_price 8 = .ok (.iaload, 1) := by decide +kernel
theorem dX7_price_9 : decode cX7_price 9 = .ok (.aload 4, 2) := by decide +kernel
theorem dX7_price_11 : decode cX7_price 11 = .ok (.getfield 74, 3) := by decide +kernel
theorem dX7_price_14 : decode cX7_price 14 = .ok (.iload_n 1, 1) := by decide +kernel
theorem dX7_price_15 : decode cX7_price 15 = .ok (.iaload, 1) := by decide +kernel
theorem dX7_price_16 : decode cX7_price 16 = .ok (.aload_n 3, 1) := by decide +kernel
theorem dX7_price_17 : decode cX7_price 17 = .ok (.getfield 77, 3) := by decide +kernel
theorem dX7_price_20 : decode cX7_price 20 = .ok (.iload_n 2, 1) := by decide +kernel
theorem dX7_price_21 : decode cX7_price 21 = .ok (.aload_n 0, 1) := by decide +kernel
theorem dX7_price_22 : decode cX7_price 22 = .ok (.iload_n 1, 1) := by decide +kernel
theorem dX7_price_23 : decode cX7_price 23 = .ok (.iload_n 2, 1) := by decide +kernel
theorem dX7_price_24 : decode cX7_price 24 = .ok (.invokevirtual 80, 3) := by decide +kernel
theorem dX7_price_27 : decode cX7_price 27 = .ok (.iload_n 1, 1) := by decide +kernel
theorem dX7_price_28 : decode cX7_price 28 = .ok (.invokevirtual 83, 3) := by decide +kernel
theorem dX7_price_31 : decode cX7_price 31 = .ok (.aload 5, 2) := by decide +kernel
theorem dX7_price_33 : decode cX7_price 33 = .ok (.aload_n 3, 1) := by decide +kernel
theorem dX7_price_34 : decode cX7_price 34 = .ok (.getfield 89, 3) := by decide +kernel
theorem dX7_price_37 : decode cX7_price 37 = .ok (.iconst 2, 1) := by decide +kernel
theorem dX7_price_38 : decode cX7_price 38 = .ok (.invokevirtual 92, 3) := by decide +kernel
theorem dX7_price_41 : decode cX7_price 41 = .ok (.ifCond .eq 7, 3) := by decide +kernel
theorem dX7_price_44 : decode cX7_price 44 = .ok (.iconst 1, 1) := by decide +kernel
theorem dX7_price_45 : decode cX7_price 45 = .ok (.goto 4, 3) := by decide +kernel
theorem dX7_price_48 : decode cX7_price 48 = .ok (.iconst 0, 1) := by decide +kernel
theorem dX7_price_49 : decode cX7_price 49 = .ok (.istore 6, 2) := by decide +kernel
theorem dX7_price_51 : decode cX7_price 51 = .ok (.iconst 0, 1) := by decide +kernel
theorem dX7_price_52 : decode cX7_price 52 = .ok (.istore 7, 2) := by decide +kernel
theorem dX7_price_54 : decode cX7_price 54 = .ok (.iload 7, 2) := by decide +kernel
theorem dX7_price_56 : decode cX7_price 56 = .ok (.iconst 2, 1) := by decide +kernel
theorem dX7_price_57 : decode cX7_price 57 = .ok (.if_icmp .ge 99, 3) := by decide +kernel
theorem dX7_price_60 : decode cX7_price 60 = .ok (.iload 7, 2) := by decide +kernel
theorem dX7_price_62 : decode cX7_price 62 = .ok (.iconst 4, 1) := by decide +kernel
theorem dX7_price_63 : decode cX7_price 63 = .ok (.ishl, 1) := by decide +kernel
theorem dX7_price_64 : decode cX7_price 64 = .ok (.iload_n 2, 1) := by decide +kernel
theorem dX7_price_65 : decode cX7_price 65 = .ok (.bipush 15, 2) := by decide +kernel
theorem dX7_price_67 : decode cX7_price 67 = .ok (.iand, 1) := by decide +kernel
theorem dX7_price_68 : decode cX7_price 68 = .ok (.ior, 1) := by decide +kernel
theorem dX7_price_69 : decode cX7_price 69 = .ok (.istore 8, 2) := by decide +kernel
theorem dX7_price_71 : decode cX7_price 71 = .ok (.iload 6, 2) := by decide +kernel
theorem dX7_price_73 : decode cX7_price 73 = .ok (.ifCond .eq 32, 3) := by decide +kernel
theorem dX7_price_76 : decode cX7_price 76 = .ok (.aload 4, 2) := by decide +kernel
theorem dX7_price_78 : decode cX7_price 78 = .ok (.iload_n 1, 1) := by decide +kernel
theorem dX7_price_79 : decode cX7_price 79 = .ok (.iload_n 2, 1) := by decide +kernel
theorem dX7_price_80 : decode cX7_price 80 = .ok (.iload 7, 2) := by decide +kernel
theorem dX7_price_82 : decode cX7_price 82 = .ok (.aload_n 3, 1) := by decide +kernel
theorem dX7_price_83 : decode cX7_price 83 = .ok (.getfield 77, 3) := by decide +kernel
theorem dX7_price_86 : decode cX7_price 86 = .ok (.invokevirtual 95, 3) := by decide +kernel
theorem dX7_price_89 : decode cX7_price 89 = .ok (.ifCond .eq 16, 3) := by decide +kernel
theorem dX7_price_92 : decode cX7_price 92 = .ok (.aload_n 0, 1) := by decide +kernel
theorem dX7_price_93 : decode cX7_price 93 = .ok (.getfield 21, 3) := by decide +kernel
theorem dX7_price_96 : decode cX7_price 96 = .ok (.iload 8, 2) := by decide +kernel
theorem dX7_price_98 : decode cX7_price 98 = .ok (.dup2, 1) := by decide +kernel
theorem dX7_price_99 : decode cX7_price 99 = .ok (.iaload, 1) := by decide +kernel
theorem dX7_price_100 : decode cX7_price 100 = .ok (.iconst 1, 1) := by decide +kernel
theorem dX7_price_101 : decode cX7_price 101 = .ok (.iload_n 1, 1) := by decide +kernel
theorem dX7_price_102 : decode cX7_price 102 = .ok (.ishl, 1) := by decide +kernel
theorem dX7_price_103 : decode cX7_price 103 = .ok (.ior, 1) := by decide +kernel
theorem dX7_price_104 : decode cX7_price 104 = .ok (.iastore, 1) := by decide +kernel
theorem dX7_price_105 : decode cX7_price 105 = .ok (.aload 5, 2) := by decide +kernel
theorem dX7_price_107 : decode cX7_price 107 = .ok (.aload_n 3, 1) := by decide +kernel
theorem dX7_price_108 : decode cX7_price 108 = .ok (.getfield 89, 3) := by decide +kernel
theorem dX7_price_111 : decode cX7_price 111 = .ok (.iload 7, 2) := by decide +kernel
theorem dX7_price_113 : decode cX7_price 113 = .ok (.ifCond .ne 7, 3) := by decide +kernel
theorem dX7_price_116 : decode cX7_price 116 = .ok (.iconst 0, 1) := by decide +kernel
theorem dX7_price_117 : decode cX7_price 117 = .ok (.goto 4, 3) := by decide +kernel
theorem dX7_price_120 : decode cX7_price 120 = .ok (.iconst 1, 1) := by decide +kernel
theorem dX7_price_121 : decode cX7_price 121 = .ok (.invokevirtual 92, 3) := by decide +kernel
theorem dX7_price_124 : decode cX7_price 124 = .ok (.istore 9, 2) := by decide +kernel
theorem dX7_price_126 : decode cX7_price 126 = .ok (.aload_n 0, 1) := by decide +kernel
theorem dX7_price_127 : decode cX7_price 127 = .ok (.getfield 24, 3) := by decide +kernel
theorem dX7_price_130 : decode cX7_price 130 = .ok (.iload_n 1, 1) := by decide +kernel
theorem dX7_price_131 : decode cX7_price 131 = .ok (.iconst 5, 1) := by decide +kernel
theorem dX7_price_132 : decode cX7_price 132 = .ok (.ishl, 1) := by decide +kernel
theorem dX7_price_133 : decode cX7_price 133 = .ok (.iload 8, 2) := by decide +kernel
theorem dX7_price_135 : decode cX7_price 135 = .ok (.ior, 1) := by decide +kernel
theorem dX7_price_136 : decode cX7_price 136 = .ok (.aload 4, 2) := by decide +kernel
theorem dX7_price_138 : decode cX7_price 138 = .ok (.iload_n 1, 1) := by decide +kernel
theorem dX7_price_139 : decode cX7_price 139 = .ok (.iload_n 2, 1) := by decide +kernel
theorem dX7_price_140 : decode cX7_price 140 = .ok (.iload 9, 2) := by decide +kernel
theorem dX7_price_142 : decode cX7_price 142 = .ok (.aload_n 3, 1) := by decide +kernel
theorem dX7_price_143 : decode cX7_price 143 = .ok (.getfield 77, 3) := by decide +kernel
theorem dX7_price_146 : decode cX7_price 146 = .ok (.invokevirtual 99, 3) := by decide +kernel
theorem dX7_price_149 : decode cX7_price 149 = .ok (.iastore, 1) := by decide +kernel
theorem dX7_price_150 : decode cX7_price 150 = .ok (.iinc 7 1, 3) := by decide +kernel
theorem dX7_price_153 : decode cX7_price 153 = .ok (.goto (-99), 3) := by decide +kernel
theorem dX7_price_156 : decode cX7_price 156 = .ok (.return_, 1) := by decide +kernel
theorem dX7_across_0 : decode cX7_across 0 = .ok (.iload_n 2, 1) := by decide +kernel
theorem dX7_across_1 : decode cX7_across 1 = .ok (.aload_n 0, 1) := by decide +kernel
theorem dX7_across_2 : decode cX7_across 2 = .ok (.getfield 9, 3) := by decide +kernel
theorem dX7_across_5 : decode cX7_across 5 = .ok (.iload_n 1, 1) := by decide +kernel
theorem dX7_across_6 : decode cX7_across 6 = .ok (.iaload, 1) := by decide +kernel
theorem dX7_across_7 : decode cX7_across 7 = .ok (.if_icmp .ne 12, 3) := by decide +kernel
theorem dX7_across_10 : decode cX7_across 10 = .ok (.aload_n 0, 1) := by decide +kernel
theorem dX7_across_11 : decode cX7_across 11 = .ok (.getfield 15, 3) := by decide +kernel
theorem dX7_across_14 : decode cX7_across 14 = .ok (.iload_n 1, 1) := by decide +kernel
theorem dX7_across_15 : decode cX7_across 15 = .ok (.iaload, 1) := by decide +kernel
theorem dX7_across_16 : decode cX7_across 16 = .ok (.goto 9, 3) := by decide +kernel
theorem dX7_across_19 : decode cX7_across 19 = .ok (.aload_n 0, 1) := by decide +kernel
theorem dX7_across_20 : decode cX7_across 20 = .ok (.getfield 9, 3) := by decide +kernel
theorem dX7_across_23 : decode cX7_across 23 = .ok (.iload_n 1, 1) := by decide +kernel
theorem dX7_across_24 : decode cX7_across 24 = .ok (.iaload, 1) := by decide +kernel
theorem dX7_across_25 : decode cX7_across 25 = .ok (.ireturn, 1) := by decide +kernel
theorem dX7_open_0 : decode cX7_open 0 = .ok (.aload_n 0, 1) := by decide +kernel
theorem dX7_open_1 : decode cX7_open 1 = .ok (.getfield 21, 3) := by decide +kernel
theorem dX7_open_4 : decode cX7_open 4 = .ok (.iload_n 2, 1) := by decide +kernel
theorem dX7_open_5 : decode cX7_open 5 = .ok (.iconst 4, 1) := by decide +kernel
theorem dX7_open_6 : decode cX7_open 6 = .ok (.ishl, 1) := by decide +kernel
theorem dX7_open_7 : decode cX7_open 7 = .ok (.iload_n 1, 1) := by decide +kernel
theorem dX7_open_8 : decode cX7_open 8 = .ok (.bipush 15, 2) := by decide +kernel
theorem dX7_open_10 : decode cX7_open 10 = .ok (.iand, 1) := by decide +kernel
theorem dX7_open_11 : decode cX7_open 11 = .ok (.ior, 1) := by decide +kernel
theorem dX7_open_12 : decode cX7_open 12 = .ok (.iaload, 1) := by decide +kernel
theorem dX7_open_13 : decode cX7_open 13 = .ok (.ireturn, 1) := by decide +kernel
theorem dX7_minutes_0 : decode cX7_minutes 0 = .ok (.aload_n 0, 1) := by decide +kernel
theorem dX7_minutes_1 : decode cX7_minutes 1 = .ok (.getfield 24, 3) := by decide +kernel
theorem dX7_minutes_4 : decode cX7_minutes 4 = .ok (.iload_n 1, 1) := by decide +kernel
theorem dX7_minutes_5 : decode cX7_minutes 5 = .ok (.iconst 5, 1) := by decide +kernel
theorem dX7_minutes_6 : decode cX7_minutes 6 = .ok (.ishl, 1) := by decide +kernel
theorem dX7_minutes_7 : decode cX7_minutes 7 = .ok (.iload_n 3, 1) := by decide +kernel
theorem dX7_minutes_8 : decode cX7_minutes 8 = .ok (.iconst 4, 1) := by decide +kernel
theorem dX7_minutes_9 : decode cX7_minutes 9 = .ok (.ishl, 1) := by decide +kernel
theorem dX7_minutes_10 : decode cX7_minutes 10 = .ok (.ior, 1) := by decide +kernel
theorem dX7_minutes_11 : decode cX7_minutes 11 = .ok (.iload_n 2, 1) := by decide +kernel
theorem dX7_minutes_12 : decode cX7_minutes 12 = .ok (.bipush 15, 2) := by decide +kernel
theorem dX7_minutes_14 : decode cX7_minutes 14 = .ok (.iand, 1) := by decide +kernel
theorem dX7_minutes_15 : decode cX7_minutes 15 = .ok (.ior, 1) := by decide +kernel
theorem dX7_minutes_16 : decode cX7_minutes 16 = .ok (.iaload, 1) := by decide +kernel
theorem dX7_minutes_17 : decode cX7_minutes 17 = .ok (.ireturn, 1) := by decide +kernel
theorem dX7_start_0 : decode cX7_start 0 = .ok (.aload_n 0, 1) := by decide +kernel
theorem dX7_start_1 : decode cX7_start 1 = .ok (.getfield 33, 3) := by decide +kernel
theorem dX7_start_4 : decode cX7_start 4 = .ok (.iconst 1, 1) := by decide +kernel
theorem dX7_start_5 : decode cX7_start 5 = .ok (.aload_n 0, 1) := by decide +kernel
theorem dX7_start_6 : decode cX7_start 6 = .ok (.getfield 33, 3) := by decide +kernel
theorem dX7_start_9 : decode cX7_start 9 = .ok (.iconst 4, 1) := by decide +kernel
theorem dX7_start_10 : decode cX7_start 10 = .ok (.iadd, 1) := by decide +kernel
theorem dX7_start_11 : decode cX7_start 11 = .ok (.ishl, 1) := by decide +kernel
theorem dX7_start_12 : decode cX7_start 12 = .ok (.ior, 1) := by decide +kernel
theorem dX7_start_13 : decode cX7_start 13 = .ok (.aload_n 0, 1) := by decide +kernel
theorem dX7_start_14 : decode cX7_start 14 = .ok (.getfield 37, 3) := by decide +kernel
theorem dX7_start_17 : decode cX7_start 17 = .ok (.bipush 13, 2) := by decide +kernel
theorem dX7_start_19 : decode cX7_start 19 = .ok (.ishl, 1) := by decide +kernel
theorem dX7_start_20 : decode cX7_start 20 = .ok (.ior, 1) := by decide +kernel
theorem dX7_start_21 : decode cX7_start 21 = .ok (.ireturn, 1) := by decide +kernel
theorem dX7_after_0 : decode cX7_after 0 = .ok (.aload_n 0, 1) := by decide +kernel
theorem dX7_after_1 : decode cX7_after 1 = .ok (.getfield 9, 3) := by decide +kernel
theorem dX7_after_4 : decode cX7_after 4 = .ok (.iload_n 2, 1) := by decide +kernel
theorem dX7_after_5 : decode cX7_after 5 = .ok (.iaload, 1) := by decide +kernel
theorem dX7_after_6 : decode cX7_after 6 = .ok (.aload_n 0, 1) := by decide +kernel
theorem dX7_after_7 : decode cX7_after 7 = .ok (.getfield 15, 3) := by decide +kernel
theorem dX7_after_10 : decode cX7_after 10 = .ok (.iload_n 2, 1) := by decide +kernel
theorem dX7_after_11 : decode cX7_after 11 = .ok (.iaload, 1) := by decide +kernel
theorem dX7_after_12 : decode cX7_after 12 = .ok (.iadd, 1) := by decide +kernel
theorem dX7_after_13 : decode cX7_after 13 = .ok (.iload_n 1, 1) := by decide +kernel
theorem dX7_after_14 : decode cX7_after 14 = .ok (.bipush 15, 2) := by decide +kernel
theorem dX7_after_16 : decode cX7_after 16 = .ok (.iand, 1) := by decide +kernel
theorem dX7_after_17 : decode cX7_after 17 = .ok (.isub, 1) := by decide +kernel
theorem dX7_after_18 : decode cX7_after 18 = .ok (.istore_n 3, 1) := by decide +kernel
theorem dX7_after_19 : decode cX7_after 19 = .ok (.iload_n 1, 1) := by decide +kernel
theorem dX7_after_20 : decode cX7_after 20 = .ok (.bipush (-16), 2) := by decide +kernel
theorem dX7_after_22 : decode cX7_after 22 = .ok (.iand, 1) := by decide +kernel
theorem dX7_after_23 : decode cX7_after 23 = .ok (.iload_n 3, 1) := by decide +kernel
theorem dX7_after_24 : decode cX7_after 24 = .ok (.ior, 1) := by decide +kernel
theorem dX7_after_25 : decode cX7_after 25 = .ok (.iconst 1, 1) := by decide +kernel
theorem dX7_after_26 : decode cX7_after 26 = .ok (.iload_n 3, 1) := by decide +kernel
theorem dX7_after_27 : decode cX7_after 27 = .ok (.iconst 4, 1) := by decide +kernel
theorem dX7_after_28 : decode cX7_after 28 = .ok (.iadd, 1) := by decide +kernel
theorem dX7_after_29 : decode cX7_after 29 = .ok (.ishl, 1) := by decide +kernel
theorem dX7_after_30 : decode cX7_after 30 = .ok (.ior, 1) := by decide +kernel
theorem dX7_after_31 : decode cX7_after 31 = .ok (.aload_n 0, 1) := by decide +kernel
theorem dX7_after_32 : decode cX7_after 32 = .ok (.getfield 18, 3) := by decide +kernel
theorem dX7_after_35 : decode cX7_after 35 = .ok (.iload_n 2, 1) := by decide +kernel
theorem dX7_after_36 : decode cX7_after 36 = .ok (.iaload, 1) := by decide +kernel
theorem dX7_after_37 : decode cX7_after 37 = .ok (.bipush 13, 2) := by decide +kernel
theorem dX7_after_39 : decode cX7_after 39 = .ok (.ishl, 1) := by decide +kernel
theorem dX7_after_40 : decode cX7_after 40 = .ok (.ior, 1) := by decide +kernel
theorem dX7_after_41 : decode cX7_after 41 = .ok (.ireturn, 1) := by decide +kernel
theorem dX7_next_0 : decode cX7_next 0 = .ok (.iload_n 1, 1) := by decide +kernel
theorem dX7_next_1 : decode cX7_next 1 = .ok (.invokestatic 103, 3) := by decide +kernel
theorem dX7_next_4 : decode cX7_next 4 = .ok (.istore_n 3, 1) := by decide +kernel
theorem dX7_next_5 : decode cX7_next 5 = .ok (.iload_n 1, 1) := by decide +kernel
theorem dX7_next_6 : decode cX7_next 6 = .ok (.invokestatic 107, 3) := by decide +kernel
theorem dX7_next_9 : decode cX7_next 9 = .ok (.istore 4, 2) := by decide +kernel
theorem dX7_next_11 : decode cX7_next 11 = .ok (.aload_n 0, 1) := by decide +kernel
theorem dX7_next_12 : decode cX7_next 12 = .ok (.iload_n 3, 1) := by decide +kernel
theorem dX7_next_13 : decode cX7_next 13 = .ok (.iload_n 2, 1) := by decide +kernel
theorem dX7_next_14 : decode cX7_next 14 = .ok (.invokevirtual 110, 3) := by decide +kernel
theorem dX7_next_17 : decode cX7_next 17 = .ok (.iload_n 1, 1) := by decide +kernel
theorem dX7_next_18 : decode cX7_next 18 = .ok (.invokestatic 113, 3) := by decide +kernel
theorem dX7_next_21 : decode cX7_next 21 = .ok (.iconst (-1), 1) := by decide +kernel
theorem dX7_next_22 : decode cX7_next 22 = .ok (.ixor, 1) := by decide +kernel
theorem dX7_next_23 : decode cX7_next 23 = .ok (.iand, 1) := by decide +kernel
theorem dX7_next_24 : decode cX7_next 24 = .ok (.istore 5, 2) := by decide +kernel
theorem dX7_next_26 : decode cX7_next 26 = .ok (.aload_n 0, 1) := by decide +kernel
theorem dX7_next_27 : decode cX7_next 27 = .ok (.getfield 41, 3) := by decide +kernel
theorem dX7_next_30 : decode cX7_next 30 = .ok (.ifCond .ne 6, 3) := by decide +kernel
theorem dX7_next_33 : decode cX7_next 33 = .ok (.iload 5, 2) := by decide +kernel
theorem dX7_next_35 : decode cX7_next 35 = .ok (.ireturn, 1) := by decide +kernel
theorem dX7_next_36 : decode cX7_next 36 = .ok (.iload_n 3, 1) := by decide +kernel
theorem dX7_next_37 : decode cX7_next 37 = .ok (.aload_n 0, 1) := by decide +kernel
theorem dX7_next_38 : decode cX7_next 38 = .ok (.getfield 33, 3) := by decide +kernel
theorem dX7_next_41 : decode cX7_next 41 = .ok (.if_icmp .ne 16, 3) := by decide +kernel
theorem dX7_next_44 : decode cX7_next 44 = .ok (.iload 4, 2) := by decide +kernel
theorem dX7_next_46 : decode cX7_next 46 = .ok (.iconst 1, 1) := by decide +kernel
theorem dX7_next_47 : decode cX7_next 47 = .ok (.aload_n 0, 1) := by decide +kernel
theorem dX7_next_48 : decode cX7_next 48 = .ok (.getfield 33, 3) := by decide +kernel
theorem dX7_next_51 : decode cX7_next 51 = .ok (.ishl, 1) := by decide +kernel
theorem dX7_next_52 : decode cX7_next 52 = .ok (.if_icmp .eq 5, 3) := by decide +kernel
theorem dX7_next_55 : decode cX7_next 55 = .ok (.iconst 0, 1) := by decide +kernel
theorem dX7_next_56 : decode cX7_next 56 = .ok (.ireturn, 1) := by decide +kernel
theorem dX7_next_57 : decode cX7_next 57 = .ok (.iconst 0, 1) := by decide +kernel
theorem dX7_next_58 : decode cX7_next 58 = .ok (.istore 6, 2) := by decide +kernel
theorem dX7_next_60 : decode cX7_next 60 = .ok (.iload 6, 2) := by decide +kernel
theorem dX7_next_62 : decode cX7_next 62 = .ok (.aload_n 0, 1) := by decide +kernel
theorem dX7_next_63 : decode cX7_next 63 = .ok (.getfield 51, 3) := by decide +kernel
theorem dX7_next_66 : decode cX7_next 66 = .ok (.if_icmp .gt 48, 3) := by decide +kernel
theorem dX7_next_69 : decode cX7_next 69 = .ok (.aload_n 0, 1) := by decide +kernel
theorem dX7_next_70 : decode cX7_next 70 = .ok (.iload 6, 2) := by decide +kernel
theorem dX7_next_72 : decode cX7_next 72 = .ok (.iload_n 3, 1) := by decide +kernel
theorem dX7_next_73 : decode cX7_next 73 = .ok (.invokevirtual 80, 3) := by decide +kernel
theorem dX7_next_76 : decode cX7_next 76 = .ok (.istore 7, 2) := by decide +kernel
theorem dX7_next_78 : decode cX7_next 78 = .ok (.iload 7, 2) := by decide +kernel
theorem dX7_next_80 : decode cX7_next 80 = .ok (.aload_n 0, 1) := by decide +kernel
theorem dX7_next_81 : decode cX7_next 81 = .ok (.getfield 33, 3) := by decide +kernel
theorem dX7_next_84 : decode cX7_next 84 = .ok (.if_icmp .eq 24, 3) := by decide +kernel
theorem dX7_next_87 : decode cX7_next 87 = .ok (.iload 4, 2) := by decide +kernel
theorem dX7_next_89 : decode cX7_next 89 = .ok (.iload 7, 2) := by decide +kernel
theorem dX7_next_91 : decode cX7_next 91 = .ok (.ishr, 1) := by decide +kernel
theorem dX7_next_92 : decode cX7_next 92 = .ok (.iconst 1, 1) := by decide +kernel
theorem dX7_next_93 : decode cX7_next 93 = .ok (.iand, 1) := by decide +kernel
theorem dX7_next_94 : decode cX7_next 94 = .ok (.ifCond .eq 14, 3) := by decide +kernel
theorem dX7_next_97 : decode cX7_next 97 = .ok (.iload 5, 2) := by decide +kernel
theorem dX7_next_99 : decode cX7_next 99 = .ok (.iconst 1, 1) := by decide +kernel
theorem dX7_next_100 : decode cX7_next 100 = .ok (.iload 6, 2) := by decide +kernel
theorem dX7_next_102 : decode cX7_next 102 = .ok (.ishl, 1) := by decide +kernel
theorem dX7_next_103 : decode cX7_next 103 = .ok (.iconst (-1), 1) := by decide +kernel
theorem dX7_next_104 : decode cX7_next 104 = .ok (.ixor, 1) := by decide +kernel
theorem dX7_next_105 : decode cX7_next 105 = .ok (.iand, 1) := by decide +kernel
theorem dX7_next_106 : decode cX7_next 106 = .ok (.istore 5, 2) := by decide +kernel
theorem dX7_next_108 : decode cX7_next 108 = .ok (.iinc 6 1, 3) := by decide +kernel
theorem dX7_next_111 : decode cX7_next 111 = .ok (.goto (-51), 3) := by decide +kernel
theorem dX7_next_114 : decode cX7_next 114 = .ok (.iload 5, 2) := by decide +kernel
theorem dX7_next_116 : decode cX7_next 116 = .ok (.ireturn, 1) := by decide +kernel
theorem dX7_ends_0 : decode cX7_ends 0 = .ok (.aload_n 0, 1) := by decide +kernel
theorem dX7_ends_1 : decode cX7_ends 1 = .ok (.getfield 41, 3) := by decide +kernel
theorem dX7_ends_4 : decode cX7_ends 4 = .ok (.ifCond .eq 23, 3) := by decide +kernel
theorem dX7_ends_7 : decode cX7_ends 7 = .ok (.aload_n 0, 1) := by decide +kernel
theorem dX7_ends_8 : decode cX7_ends 8 = .ok (.iload_n 2, 1) := by decide +kernel
theorem dX7_ends_9 : decode cX7_ends 9 = .ok (.iload_n 1, 1) := by decide +kernel
theorem dX7_ends_10 : decode cX7_ends 10 = .ok (.invokestatic 103, 3) := by decide +kernel
theorem dX7_ends_13 : decode cX7_ends 13 = .ok (.invokevirtual 80, 3) := by decide +kernel
theorem dX7_ends_16 : decode cX7_ends 16 = .ok (.aload_n 0, 1) := by decide +kernel
theorem dX7_ends_17 : decode cX7_ends 17 = .ok (.getfield 33, 3) := by decide +kernel
theorem dX7_ends_20 : decode cX7_ends 20 = .ok (.if_icmp .ne 7, 3) := by decide +kernel
theorem dX7_ends_23 : decode cX7_ends 23 = .ok (.iconst 1, 1) := by decide +kernel
theorem dX7_ends_24 : decode cX7_ends 24 = .ok (.goto 4, 3) := by decide +kernel
theorem dX7_ends_27 : decode cX7_ends 27 = .ok (.iconst 0, 1) := by decide +kernel
theorem dX7_ends_28 : decode cX7_ends 28 = .ok (.ireturn, 1) := by decide +kernel
theorem dX7_reached_0 : decode cX7_reached 0 = .ok (.iconst 1, 1) := by decide +kernel
theorem dX7_reached_1 : decode cX7_reached 1 = .ok (.aload_n 0, 1) := by decide +kernel
theorem dX7_reached_2 : decode cX7_reached 2 = .ok (.getfield 33, 3) := by decide +kernel
theorem dX7_reached_5 : decode cX7_reached 5 = .ok (.ishl, 1) := by decide +kernel
theorem dX7_reached_6 : decode cX7_reached 6 = .ok (.istore_n 1, 1) := by decide +kernel
theorem dX7_reached_7 : decode cX7_reached 7 = .ok (.iconst 1, 1) := by decide +kernel
theorem dX7_reached_8 : decode cX7_reached 8 = .ok (.istore_n 2, 1) := by decide +kernel
theorem dX7_reached_9 : decode cX7_reached 9 = .ok (.iload_n 2, 1) := by decide +kernel
theorem dX7_reached_10 : decode cX7_reached 10 = .ok (.bipush 9, 2) := by decide +kernel
theorem dX7_reached_12 : decode cX7_reached 12 = .ok (.if_icmp .ge 67, 3) := by decide +kernel
theorem dX7_reached_15 : decode cX7_reached 15 = .ok (.iconst 0, 1) := by decide +kernel
theorem dX7_reached_16 : decode cX7_reached 16 = .ok (.istore_n 3, 1) := by decide +kernel
theorem dX7_reached_17 : decode cX7_reached 17 = .ok (.iload_n 3, 1) := by decide +kernel
theorem dX7_reached_18 : decode cX7_reached 18 = .ok (.aload_n 0, 1) := by decide +kernel
theorem dX7_reached_19 : decode cX7_reached 19 = .ok (.getfield 51, 3) := by decide +kernel
theorem dX7_reached_22 : decode cX7_reached 22 = .ok (.if_icmp .ge 51, 3) := by decide +kernel
theorem dX7_reached_25 : decode cX7_reached 25 = .ok (.aload_n 0, 1) := by decide +kernel
theorem dX7_reached_26 : decode cX7_reached 26 = .ok (.getfield 37, 3) := by decide +kernel
theorem dX7_reached_29 : decode cX7_reached 29 = .ok (.iload_n 3, 1) := by decide +kernel
theorem dX7_reached_30 : decode cX7_reached 30 = .ok (.ishr, 1) := by decide +kernel
theorem dX7_reached_31 : decode cX7_reached 31 = .ok (.iconst 1, 1) := by decide +kernel
theorem dX7_reached_32 : decode cX7_reached 32 = .ok (.iand, 1) := by decide +kernel
theorem dX7_reached_33 : decode cX7_reached 33 = .ok (.ifCond .eq 6, 3) := by decide +kernel
theorem dX7_reached_36 : decode cX7_reached 36 = .ok (.goto 31, 3) := by decide +kernel
theorem dX7_reached_39 : decode cX7_reached 39 = .ok (.iload_n 1, 1) := by decide +kernel
theorem dX7_reached_40 : decode cX7_reached 40 = .ok (.aload_n 0, 1) := by decide +kernel
theorem dX7_reached_41 : decode cX7_reached 41 = .ok (.iload_n 3, 1) := by decide +kernel
theorem dX7_reached_42 : decode cX7_reached 42 = .ok (.aload_n 0, 1) := by decide +kernel
theorem dX7_reached_43 : decode cX7_reached 43 = .ok (.getfield 9, 3) := by decide +kernel
theorem dX7_reached_46 : decode cX7_reached 46 = .ok (.iload_n 3, 1) := by decide +kernel
theorem dX7_reached_47 : decode cX7_reached 47 = .ok (.iaload, 1) := by decide +kernel
theorem dX7_reached_48 : decode cX7_reached 48 = .ok (.iload_n 1, 1) := by decide +kernel
theorem dX7_reached_49 : decode cX7_reached 49 = .ok (.invokevirtual 116, 3) := by decide +kernel
theorem dX7_reached_52 : decode cX7_reached 52 = .ok (.aload_n 0, 1) := by decide +kernel
theorem dX7_reached_53 : decode cX7_reached 53 = .ok (.iload_n 3, 1) := by decide +kernel
theorem dX7_reached_54 : decode cX7_reached 54 = .ok (.aload_n 0, 1) := by decide +kernel
theorem dX7_reached_55 : decode cX7_reached 55 = .ok (.getfield 15, 3) := by decide +kernel
theorem dX7_reached_58 : decode cX7_reached 58 = .ok (.iload_n 3, 1) := by decide +kernel
theorem dX7_reached_59 : decode cX7_reached 59 = .ok (.iaload, 1) := by decide +kernel
theorem dX7_reached_60 : decode cX7_reached 60 = .ok (.iload_n 1, 1) := by decide +kernel
theorem dX7_reached_61 : decode cX7_reached 61 = .ok (.invokevirtual 116, 3) := by decide +kernel
theorem dX7_reached_64 : decode cX7_reached 64 = .ok (.ior, 1) := by decide +kernel
theorem dX7_reached_65 : decode cX7_reached 65 = .ok (.ior, 1) := by decide +kernel
theorem dX7_reached_66 : decode cX7_reached 66 = .ok (.istore_n 1, 1) := by decide +kernel
theorem dX7_reached_67 : decode cX7_reached 67 = .ok (.iinc 3 1, 3) := by decide +kernel
theorem dX7_reached_70 : decode cX7_reached 70 = .ok (.goto (-53), 3) := by decide +kernel
theorem dX7_reached_73 : decode cX7_reached 73 = .ok (.iinc 2 1, 3) := by decide +kernel
theorem dX7_reached_76 : decode cX7_reached 76 = .ok (.goto (-67), 3) := by decide +kernel
theorem dX7_reached_79 : decode cX7_reached 79 = .ok (.iload_n 1, 1) := by decide +kernel
theorem dX7_reached_80 : decode cX7_reached 80 = .ok (.ireturn, 1) := by decide +kernel
theorem dX7_over_0 : decode cX7_over 0 = .ok (.iload_n 3, 1) := by decide +kernel
theorem dX7_over_1 : decode cX7_over 1 = .ok (.iload_n 2, 1) := by decide +kernel
theorem dX7_over_2 : decode cX7_over 2 = .ok (.ishr, 1) := by decide +kernel
theorem dX7_over_3 : decode cX7_over 3 = .ok (.iconst 1, 1) := by decide +kernel
theorem dX7_over_4 : decode cX7_over 4 = .ok (.iand, 1) := by decide +kernel
theorem dX7_over_5 : decode cX7_over 5 = .ok (.ifCond .eq 20, 3) := by decide +kernel
theorem dX7_over_8 : decode cX7_over 8 = .ok (.aload_n 0, 1) := by decide +kernel
theorem dX7_over_9 : decode cX7_over 9 = .ok (.iload_n 2, 1) := by decide +kernel
theorem dX7_over_10 : decode cX7_over 10 = .ok (.iconst 0, 1) := by decide +kernel
theorem dX7_over_11 : decode cX7_over 11 = .ok (.invokevirtual 110, 3) := by decide +kernel
theorem dX7_over_14 : decode cX7_over 14 = .ok (.iload_n 1, 1) := by decide +kernel
theorem dX7_over_15 : decode cX7_over 15 = .ok (.ishr, 1) := by decide +kernel
theorem dX7_over_16 : decode cX7_over 16 = .ok (.iconst 1, 1) := by decide +kernel
theorem dX7_over_17 : decode cX7_over 17 = .ok (.iand, 1) := by decide +kernel
theorem dX7_over_18 : decode cX7_over 18 = .ok (.ifCond .eq 7, 3) := by decide +kernel
theorem dX7_over_21 : decode cX7_over 21 = .ok (.iconst 1, 1) := by decide +kernel
theorem dX7_over_22 : decode cX7_over 22 = .ok (.goto 4, 3) := by decide +kernel
theorem dX7_over_25 : decode cX7_over 25 = .ok (.iconst 0, 1) := by decide +kernel
theorem dX7_over_26 : decode cX7_over 26 = .ok (.istore 4, 2) := by decide +kernel
theorem dX7_over_28 : decode cX7_over 28 = .ok (.iload 4, 2) := by decide +kernel
theorem dX7_over_30 : decode cX7_over 30 = .ok (.ifCond .eq 14, 3) := by decide +kernel
theorem dX7_over_33 : decode cX7_over 33 = .ok (.iconst 1, 1) := by decide +kernel
theorem dX7_over_34 : decode cX7_over 34 = .ok (.aload_n 0, 1) := by decide +kernel
theorem dX7_over_35 : decode cX7_over 35 = .ok (.iload_n 1, 1) := by decide +kernel
theorem dX7_over_36 : decode cX7_over 36 = .ok (.iload_n 2, 1) := by decide +kernel
theorem dX7_over_37 : decode cX7_over 37 = .ok (.invokevirtual 80, 3) := by decide +kernel
theorem dX7_over_40 : decode cX7_over 40 = .ok (.ishl, 1) := by decide +kernel
theorem dX7_over_41 : decode cX7_over 41 = .ok (.goto 4, 3) := by decide +kernel
theorem dX7_over_44 : decode cX7_over 44 = .ok (.iconst 0, 1) := by decide +kernel
theorem dX7_over_45 : decode cX7_over 45 = .ok (.ireturn, 1) := by decide +kernel
theorem dX7_openLane_0 : decode cX7_openLane 0 = .ok (.aload_n 0, 1) := by decide +kernel
theorem dX7_openLane_1 : decode cX7_openLane 1 = .ok (.getfield 9, 3) := by decide +kernel
theorem dX7_openLane_4 : decode cX7_openLane 4 = .ok (.aload_n 0, 1) := by decide +kernel
theorem dX7_openLane_5 : decode cX7_openLane 5 = .ok (.getfield 51, 3) := by decide +kernel
theorem dX7_openLane_8 : decode cX7_openLane 8 = .ok (.iload_n 1, 1) := by decide +kernel
theorem dX7_openLane_9 : decode cX7_openLane 9 = .ok (.iastore, 1) := by decide +kernel
theorem dX7_openLane_10 : decode cX7_openLane 10 = .ok (.aload_n 0, 1) := by decide +kernel
theorem dX7_openLane_11 : decode cX7_openLane 11 = .ok (.getfield 15, 3) := by decide +kernel
theorem dX7_openLane_14 : decode cX7_openLane 14 = .ok (.aload_n 0, 1) := by decide +kernel
theorem dX7_openLane_15 : decode cX7_openLane 15 = .ok (.getfield 51, 3) := by decide +kernel
theorem dX7_openLane_18 : decode cX7_openLane 18 = .ok (.iload_n 2, 1) := by decide +kernel
theorem dX7_openLane_19 : decode cX7_openLane 19 = .ok (.iastore, 1) := by decide +kernel
theorem dX7_openLane_20 : decode cX7_openLane 20 = .ok (.aload_n 0, 1) := by decide +kernel
theorem dX7_openLane_21 : decode cX7_openLane 21 = .ok (.getfield 18, 3) := by decide +kernel
theorem dX7_openLane_24 : decode cX7_openLane 24 = .ok (.aload_n 0, 1) := by decide +kernel
theorem dX7_openLane_25 : decode cX7_openLane 25 = .ok (.getfield 51, 3) := by decide +kernel
theorem dX7_openLane_28 : decode cX7_openLane 28 = .ok (.iconst 1, 1) := by decide +kernel
theorem dX7_openLane_29 : decode cX7_openLane 29 = .ok (.aload_n 0, 1) := by decide +kernel
theorem dX7_openLane_30 : decode cX7_openLane 30 = .ok (.getfield 51, 3) := by decide +kernel
theorem dX7_openLane_33 : decode cX7_openLane 33 = .ok (.ishl, 1) := by decide +kernel
theorem dX7_openLane_34 : decode cX7_openLane 34 = .ok (.iastore, 1) := by decide +kernel
theorem dX7_openLane_35 : decode cX7_openLane 35 = .ok (.aload_n 0, 1) := by decide +kernel
theorem dX7_openLane_36 : decode cX7_openLane 36 = .ok (.getfield 21, 3) := by decide +kernel
theorem dX7_openLane_39 : decode cX7_openLane 39 = .ok (.iload_n 1, 1) := by decide +kernel
theorem dX7_openLane_40 : decode cX7_openLane 40 = .ok (.bipush 15, 2) := by decide +kernel
theorem dX7_openLane_42 : decode cX7_openLane 42 = .ok (.iand, 1) := by decide +kernel
theorem dX7_openLane_43 : decode cX7_openLane 43 = .ok (.dup2, 1) := by decide +kernel
theorem dX7_openLane_44 : decode cX7_openLane 44 = .ok (.iaload, 1) := by decide +kernel
theorem dX7_openLane_45 : decode cX7_openLane 45 = .ok (.iconst 1, 1) := by decide +kernel
theorem dX7_openLane_46 : decode cX7_openLane 46 = .ok (.aload_n 0, 1) := by decide +kernel
theorem dX7_openLane_47 : decode cX7_openLane 47 = .ok (.getfield 51, 3) := by decide +kernel
theorem dX7_openLane_50 : decode cX7_openLane 50 = .ok (.ishl, 1) := by decide +kernel
theorem dX7_openLane_51 : decode cX7_openLane 51 = .ok (.ior, 1) := by decide +kernel
theorem dX7_openLane_52 : decode cX7_openLane 52 = .ok (.iastore, 1) := by decide +kernel
theorem dX7_openLane_53 : decode cX7_openLane 53 = .ok (.aload_n 0, 1) := by decide +kernel
theorem dX7_openLane_54 : decode cX7_openLane 54 = .ok (.getfield 21, 3) := by decide +kernel
theorem dX7_openLane_57 : decode cX7_openLane 57 = .ok (.iload_n 2, 1) := by decide +kernel
theorem dX7_openLane_58 : decode cX7_openLane 58 = .ok (.bipush 15, 2) := by decide +kernel
theorem dX7_openLane_60 : decode cX7_openLane 60 = .ok (.iand, 1) := by decide +kernel
theorem dX7_openLane_61 : decode cX7_openLane 61 = .ok (.dup2, 1) := by decide +kernel
theorem dX7_openLane_62 : decode cX7_openLane 62 = .ok (.iaload, 1) := by decide +kernel
theorem dX7_openLane_63 : decode cX7_openLane 63 = .ok (.iconst 1, 1) := by decide +kernel
theorem dX7_openLane_64 : decode cX7_openLane 64 = .ok (.aload_n 0, 1) := by decide +kernel
theorem dX7_openLane_65 : decode cX7_openLane 65 = .ok (.getfield 51, 3) := by decide +kernel
theorem dX7_openLane_68 : decode cX7_openLane 68 = .ok (.ishl, 1) := by decide +kernel
theorem dX7_openLane_69 : decode cX7_openLane 69 = .ok (.ior, 1) := by decide +kernel
theorem dX7_openLane_70 : decode cX7_openLane 70 = .ok (.iastore, 1) := by decide +kernel
theorem dX7_openLane_71 : decode cX7_openLane 71 = .ok (.return_, 1) := by decide +kernel
theorem dX7_closeLane_0 : decode cX7_closeLane 0 = .ok (.aload_n 0, 1) := by decide +kernel
theorem dX7_closeLane_1 : decode cX7_closeLane 1 = .ok (.getfield 21, 3) := by decide +kernel
theorem dX7_closeLane_4 : decode cX7_closeLane 4 = .ok (.iload_n 1, 1) := by decide +kernel
theorem dX7_closeLane_5 : decode cX7_closeLane 5 = .ok (.bipush 15, 2) := by decide +kernel
theorem dX7_closeLane_7 : decode cX7_closeLane 7 = .ok (.iand, 1) := by decide +kernel
theorem dX7_closeLane_8 : decode cX7_closeLane 8 = .ok (.dup2, 1) := by decide +kernel
theorem dX7_closeLane_9 : decode cX7_closeLane 9 = .ok (.iaload, 1) := by decide +kernel
theorem dX7_closeLane_10 : decode cX7_closeLane 10 = .ok (.iconst 1, 1) := by decide +kernel
theorem dX7_closeLane_11 : decode cX7_closeLane 11 = .ok (.aload_n 0, 1) := by decide +kernel
theorem dX7_closeLane_12 : decode cX7_closeLane 12 = .ok (.getfield 51, 3) := by decide +kernel
theorem dX7_closeLane_15 : decode cX7_closeLane 15 = .ok (.ishl, 1) := by decide +kernel
theorem dX7_closeLane_16 : decode cX7_closeLane 16 = .ok (.iconst (-1), 1) := by decide +kernel
theorem dX7_closeLane_17 : decode cX7_closeLane 17 = .ok (.ixor, 1) := by decide +kernel
theorem dX7_closeLane_18 : decode cX7_closeLane 18 = .ok (.iand, 1) := by decide +kernel
theorem dX7_closeLane_19 : decode cX7_closeLane 19 = .ok (.iastore, 1) := by decide +kernel
theorem dX7_closeLane_20 : decode cX7_closeLane 20 = .ok (.aload_n 0, 1) := by decide +kernel
theorem dX7_closeLane_21 : decode cX7_closeLane 21 = .ok (.getfield 21, 3) := by decide +kernel
theorem dX7_closeLane_24 : decode cX7_closeLane 24 = .ok (.iload_n 2, 1) := by decide +kernel
theorem dX7_closeLane_25 : decode cX7_closeLane 25 = .ok (.bipush 15, 2) := by decide +kernel
theorem dX7_closeLane_27 : decode cX7_closeLane 27 = .ok (.iand, 1) := by decide +kernel
theorem dX7_closeLane_28 : decode cX7_closeLane 28 = .ok (.dup2, 1) := by decide +kernel
theorem dX7_closeLane_29 : decode cX7_closeLane 29 = .ok (.iaload, 1) := by decide +kernel
theorem dX7_closeLane_30 : decode cX7_closeLane 30 = .ok (.iconst 1, 1) := by decide +kernel
theorem dX7_closeLane_31 : decode cX7_closeLane 31 = .ok (.aload_n 0, 1) := by decide +kernel
theorem dX7_closeLane_32 : decode cX7_closeLane 32 = .ok (.getfield 51, 3) := by decide +kernel
theorem dX7_closeLane_35 : decode cX7_closeLane 35 = .ok (.ishl, 1) := by decide +kernel
theorem dX7_closeLane_36 : decode cX7_closeLane 36 = .ok (.iconst (-1), 1) := by decide +kernel
theorem dX7_closeLane_37 : decode cX7_closeLane 37 = .ok (.ixor, 1) := by decide +kernel
theorem dX7_closeLane_38 : decode cX7_closeLane 38 = .ok (.iand, 1) := by decide +kernel
theorem dX7_closeLane_39 : decode cX7_closeLane 39 = .ok (.iastore, 1) := by decide +kernel
theorem dX7_closeLane_40 : decode cX7_closeLane 40 = .ok (.return_, 1) := by decide +kernel
