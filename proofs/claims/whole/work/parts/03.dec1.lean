theorem dJ0_length_8abf5_0 : decode cJ0_length_8abf5 0 = .ok (.aload_n 0, 1) := by decide +kernel
theorem dJ0_length_8abf5_1 : decode cJ0_length_8abf5 1 = .ok (.getfield 9, 3) := by decide +kernel
theorem dJ0_length_8abf5_4 : decode cJ0_length_8abf5 4 = .ok (.arraylength, 1) := by decide +kernel
theorem dJ0_length_8abf5_5 : decode cJ0_length_8abf5 5 = .ok (.aload_n 0, 1) := by decide +kernel
theorem dJ0_length_8abf5_6 : decode cJ0_length_8abf5 6 = .ok (.invokevirtual 335, 3) := by decide +kernel
theorem dJ0_length_8abf5_9 : decode cJ0_length_8abf5 9 = .ok (.ishr, 1) := by decide +kernel
theorem dJ0_length_8abf5_10 : decode cJ0_length_8abf5 10 = .ok (.ireturn, 1) := by decide +kernel
theorem dJ0_charAt_5068e_0 : decode cJ0_charAt_5068e 0 = .ok (.aload_n 0, 1) := by decide +kernel
theorem dJ0_charAt_5068e_1 : decode cJ0_charAt_5068e 1 = .ok (.invokevirtual 492, 3) := by decide +kernel
theorem dJ0_charAt_5068e_4 : decode cJ0_charAt_5068e 4 = .ok (.ifCond .eq 12, 3) := by decide +kernel
theorem dJ0_charAt_5068e_7 : decode cJ0_charAt_5068e 7 = .ok (.aload_n 0, 1) := by decide +kernel
theorem dJ0_charAt_5068e_8 : decode cJ0_charAt_5068e 8 = .ok (.getfield 9, 3) := by decide +kernel
theorem dJ0_charAt_5068e_11 : decode cJ0_charAt_5068e 11 = .ok (.iload_n 1, 1) := by decide +kernel
theorem dJ0_charAt_5068e_12 : decode cJ0_charAt_5068e 12 = .ok (.invokestatic 495, 3) := by decide +kernel
theorem dJ0_charAt_5068e_15 : decode cJ0_charAt_5068e 15 = .ok (.ireturn, 1) := by decide +kernel
theorem dJ0_charAt_5068e_16 : decode cJ0_charAt_5068e 16 = .ok (.aload_n 0, 1) := by decide +kernel
theorem dJ0_charAt_5068e_17 : decode cJ0_charAt_5068e 17 = .ok (.getfield 9, 3) := by decide +kernel
theorem dJ0_charAt_5068e_20 : decode cJ0_charAt_5068e 20 = .ok (.iload_n 1, 1) := by decide +kernel
theorem dJ0_charAt_5068e_21 : decode cJ0_charAt_5068e 21 = .ok (.invokestatic 498, 3) := by decide +kernel
theorem dJ0_charAt_5068e_24 : decode cJ0_charAt_5068e 24 = .ok (.ireturn, 1) := by decide +kernel
theorem dJ0_coder_7d493_0 : decode cJ0_coder_7d493 0 = .ok (.getstatic 38, 3) := by decide +kernel
theorem dJ0_coder_7d493_3 : decode cJ0_coder_7d493 3 = .ok (.ifCond .eq 10, 3) := by decide +kernel
theorem dJ0_coder_7d493_6 : decode cJ0_coder_7d493 6 = .ok (.aload_n 0, 1) := by decide +kernel
theorem dJ0_coder_7d493_7 : decode cJ0_coder_7d493 7 = .ok (.getfield 15, 3) := by decide +kernel
theorem dJ0_coder_7d493_10 : decode cJ0_coder_7d493 10 = .ok (.goto 4, 3) := by decide +kernel
theorem dJ0_coder_7d493_13 : decode cJ0_coder_7d493 13 = .ok (.iconst 1, 1) := by decide +kernel
theorem dJ0_coder_7d493_14 : decode cJ0_coder_7d493 14 = .ok (.ireturn, 1) := by decide +kernel
theorem dJ0_isLatin1_aae02_0 : decode cJ0_isLatin1_aae02 0 = .ok (.getstatic 38, 3) := by decide +kernel
theorem dJ0_isLatin1_aae02_3 : decode cJ0_isLatin1_aae02 3 = .ok (.ifCond .eq 14, 3) := by decide +kernel
theorem dJ0_isLatin1_aae02_6 : decode cJ0_isLatin1_aae02 6 = .ok (.aload_n 0, 1) := by decide +kernel
theorem dJ0_isLatin1_aae02_7 : decode cJ0_isLatin1_aae02 7 = .ok (.getfield 15, 3) := by decide +kernel
theorem dJ0_isLatin1_aae02_10 : decode cJ0_isLatin1_aae02 10 = .ok (.ifCond .ne 7, 3) := by decide +kernel
theorem dJ0_isLatin1_aae02_13 : decode cJ0_isLatin1_aae02 13 = .ok (.iconst 1, 1) := by decide +kernel
theorem dJ0_isLatin1_aae02_14 : decode cJ0_isLatin1_aae02 14 = .ok (.goto 4, 3) := by decide +kernel
theorem dJ0_isLatin1_aae02_17 : decode cJ0_isLatin1_aae02 17 = .ok (.iconst 0, 1) := by decide +kernel
theorem dJ0_isLatin1_aae02_18 : decode cJ0_isLatin1_aae02 18 = .ok (.ireturn, 1) := by decide +kernel
theorem dJ0_checkIndex_df160_0 : decode cJ0_checkIndex_df160 0 = .ok (.iload_n 0, 1) := by decide +kernel
theorem dJ0_checkIndex_df160_1 : decode cJ0_checkIndex_df160 1 = .ok (.iload_n 1, 1) := by decide +kernel
theorem dJ0_checkIndex_df160_2 : decode cJ0_checkIndex_df160 2 = .ok (.getstatic 1053, 3) := by decide +kernel
theorem dJ0_checkIndex_df160_5 : decode cJ0_checkIndex_df160 5 = .ok (.invokestatic 1059, 3) := by decide +kernel
theorem dJ0_checkIndex_df160_8 : decode cJ0_checkIndex_df160 8 = .ok (.pop, 1) := by decide +kernel
theorem dJ0_checkIndex_df160_9 : decode cJ0_checkIndex_df160 9 = .ok (.return_, 1) := by decide +kernel
theorem dJ1_charAt_3b067_0 : decode cJ1_charAt_3b067 0 = .ok (.iload_n 1, 1) := by decide +kernel
theorem dJ1_charAt_3b067_1 : decode cJ1_charAt_3b067 1 = .ok (.aload_n 0, 1) := by decide +kernel
theorem dJ1_charAt_3b067_2 : decode cJ1_charAt_3b067 2 = .ok (.arraylength, 1) := by decide +kernel
theorem dJ1_charAt_3b067_3 : decode cJ1_charAt_3b067 3 = .ok (.invokestatic 9, 3) := by decide +kernel
theorem dJ1_charAt_3b067_6 : decode cJ1_charAt_3b067 6 = .ok (.aload_n 0, 1) := by decide +kernel
theorem dJ1_charAt_3b067_7 : decode cJ1_charAt_3b067 7 = .ok (.iload_n 1, 1) := by decide +kernel
theorem dJ1_charAt_3b067_8 : decode cJ1_charAt_3b067 8 = .ok (.baload, 1) := by decide +kernel
theorem dJ1_charAt_3b067_9 : decode cJ1_charAt_3b067 9 = .ok (.sipush 255, 3) := by decide +kernel
theorem dJ1_charAt_3b067_12 : decode cJ1_charAt_3b067 12 = .ok (.iand, 1) := by decide +kernel
theorem dJ1_charAt_3b067_13 : decode cJ1_charAt_3b067 13 = .ok (.i2c, 1) := by decide +kernel
theorem dJ1_charAt_3b067_14 : decode cJ1_charAt_3b067 14 = .ok (.ireturn, 1) := by decide +kernel
theorem dJ2_getChar_3b067_0 : decode cJ2_getChar_3b067 0 = .ok (.getstatic 44, 3) := by decide +kernel
theorem dJ2_getChar_3b067_3 : decode cJ2_getChar_3b067 3 = .ok (.ifCond .ne 25, 3) := by decide +kernel
theorem dJ2_getChar_3b067_6 : decode cJ2_getChar_3b067 6 = .ok (.iload_n 1, 1) := by decide +kernel
theorem dJ2_getChar_3b067_7 : decode cJ2_getChar_3b067 7 = .ok (.ifCond .lt 11, 3) := by decide +kernel
theorem dJ2_getChar_3b067_10 : decode cJ2_getChar_3b067 10 = .ok (.iload_n 1, 1) := by decide +kernel
theorem dJ2_getChar_3b067_11 : decode cJ2_getChar_3b067 11 = .ok (.aload_n 0, 1) := by decide +kernel
theorem dJ2_getChar_3b067_12 : decode cJ2_getChar_3b067 12 = .ok (.invokestatic 48, 3) := by decide +kernel
theorem dJ2_getChar_3b067_15 : decode cJ2_getChar_3b067 15 = .ok (.if_icmp .lt 13, 3) := by decide +kernel
theorem dJ2_getChar_3b067_18 : decode cJ2_getChar_3b067 18 = .ok (.new 52, 3) := by decide +kernel
theorem dJ2_getChar_3b067_21 : decode cJ2_getChar_3b067 21 = .ok (.dup, 1) := by decide +kernel
theorem dJ2_getChar_3b067_22 : decode cJ2_getChar_3b067 22 = .ok (.ldc 54, 2) := by decide +kernel
theorem dJ2_getChar_3b067_24 : decode cJ2_getChar_3b067 24 = .ok (.invokespecial 56, 3) := by decide +kernel
theorem dJ2_getChar_3b067_27 : decode cJ2_getChar_3b067 27 = .ok (.athrow, 1) := by decide +kernel
theorem dJ2_getChar_3b067_28 : decode cJ2_getChar_3b067 28 = .ok (.iload_n 1, 1) := by decide +kernel
theorem dJ2_getChar_3b067_29 : decode cJ2_getChar_3b067 29 = .ok (.iconst 1, 1) := by decide +kernel
theorem dJ2_getChar_3b067_30 : decode cJ2_getChar_3b067 30 = .ok (.ishl, 1) := by decide +kernel
theorem dJ2_getChar_3b067_31 : decode cJ2_getChar_3b067 31 = .ok (.istore_n 1, 1) := by decide +kernel
theorem dJ2_getChar_3b067_32 : decode cJ2_getChar_3b067 32 = .ok (.aload_n 0, 1) := by decide +kernel
theorem dJ2_getChar_3b067_33 : decode cJ2_getChar_3b067 33 = .ok (.iload_n 1, 1) := by decide +kernel
theorem dJ2_getChar_3b067_34 : decode cJ2_getChar_3b067 34 = .ok (.iinc 1 1, 3) := by decide +kernel
theorem dJ2_getChar_3b067_37 : decode cJ2_getChar_3b067 37 = .ok (.baload, 1) := by decide +kernel
theorem dJ2_getChar_3b067_38 : decode cJ2_getChar_3b067 38 = .ok (.sipush 255, 3) := by decide +kernel
theorem dJ2_getChar_3b067_41 : decode cJ2_getChar_3b067 41 = .ok (.iand, 1) := by decide +kernel
theorem dJ2_getChar_3b067_42 : decode cJ2_getChar_3b067 42 = .ok (.getstatic 59, 3) := by decide +kernel
theorem dJ2_getChar_3b067_45 : decode cJ2_getChar_3b067 45 = .ok (.ishl, 1) := by decide +kernel
theorem dJ2_getChar_3b067_46 : decode cJ2_getChar_3b067 46 = .ok (.aload_n 0, 1) := by decide +kernel
theorem dJ2_getChar_3b067_47 : decode cJ2_getChar_3b067 47 = .ok (.iload_n 1, 1) := by decide +kernel
theorem dJ2_getChar_3b067_48 : decode cJ2_getChar_3b067 48 = .ok (.baload, 1) := by decide +kernel
theorem dJ2_getChar_3b067_49 : decode cJ2_getChar_3b067 49 = .ok (.sipush 255, 3) := by decide +kernel
theorem dJ2_getChar_3b067_52 : decode cJ2_getChar_3b067 52 = .ok (.iand, 1) := by decide +kernel
theorem dJ2_getChar_3b067_53 : decode cJ2_getChar_3b067 53 = .ok (.getstatic 63, 3) := by decide +kernel
theorem dJ2_getChar_3b067_56 : decode cJ2_getChar_3b067 56 = .ok (.ishl, 1) := by decide +kernel
theorem dJ2_getChar_3b067_57 : decode cJ2_getChar_3b067 57 = .ok (.ior, 1) := by decide +kernel
theorem dJ2_getChar_3b067_58 : decode cJ2_getChar_3b067 58 = .ok (.i2c, 1) := by decide +kernel
theorem dJ2_getChar_3b067_59 : decode cJ2_getChar_3b067 59 = .ok (.ireturn, 1) := by decide +kernel
theorem dJ2_length_9d52b_0 : decode cJ2_length_9d52b 0 = .ok (.aload_n 0, 1) := by decide +kernel
theorem dJ2_length_9d52b_1 : decode cJ2_length_9d52b 1 = .ok (.arraylength, 1) := by decide +kernel
theorem dJ2_length_9d52b_2 : decode cJ2_length_9d52b 2 = .ok (.iconst 1, 1) := by decide +kernel
theorem dJ2_length_9d52b_3 : decode cJ2_length_9d52b 3 = .ok (.ishr, 1) := by decide +kernel
theorem dJ2_length_9d52b_4 : decode cJ2_length_9d52b 4 = .ok (.ireturn, 1) := by decide +kernel
theorem dJ2_charAt_3b067_0 : decode cJ2_charAt_3b067 0 = .ok (.iload_n 1, 1) := by decide +kernel
theorem dJ2_charAt_3b067_1 : decode cJ2_charAt_3b067 1 = .ok (.aload_n 0, 1) := by decide +kernel
theorem dJ2_charAt_3b067_2 : decode cJ2_charAt_3b067 2 = .ok (.invokestatic 67, 3) := by decide +kernel
theorem dJ2_charAt_3b067_5 : decode cJ2_charAt_3b067 5 = .ok (.aload_n 0, 1) := by decide +kernel
theorem dJ2_charAt_3b067_6 : decode cJ2_charAt_3b067 6 = .ok (.iload_n 1, 1) := by decide +kernel
theorem dJ2_charAt_3b067_7 : decode cJ2_charAt_3b067 7 = .ok (.invokestatic 71, 3) := by decide +kernel
theorem dJ2_charAt_3b067_10 : decode cJ2_charAt_3b067 10 = .ok (.ireturn, 1) := by decide +kernel
theorem dJ2_checkIndex_2214a_0 : decode cJ2_checkIndex_2214a 0 = .ok (.iload_n 0, 1) := by decide +kernel
theorem dJ2_checkIndex_2214a_1 : decode cJ2_checkIndex_2214a 1 = .ok (.aload_n 1, 1) := by decide +kernel
theorem dJ2_checkIndex_2214a_2 : decode cJ2_checkIndex_2214a 2 = .ok (.invokestatic 48, 3) := by decide +kernel
theorem dJ2_checkIndex_2214a_5 : decode cJ2_checkIndex_2214a 5 = .ok (.invokestatic 414, 3) := by decide +kernel
theorem dJ2_checkIndex_2214a_8 : decode cJ2_checkIndex_2214a 8 = .ok (.return_, 1) := by decide +kernel
theorem dJ3_checkIndex_8e157_0 : decode cJ3_checkIndex_8e157 0 = .ok (.iload_n 0, 1) := by decide +kernel
theorem dJ3_checkIndex_8e157_1 : decode cJ3_checkIndex_8e157 1 = .ok (.ifCond .lt 8, 3) := by decide +kernel
theorem dJ3_checkIndex_8e157_4 : decode cJ3_checkIndex_8e157 4 = .ok (.iload_n 0, 1) := by decide +kernel
theorem dJ3_checkIndex_8e157_5 : decode cJ3_checkIndex_8e157 5 = .ok (.iload_n 1, 1) := by decide +kernel
theorem dJ3_checkIndex_8e157_6 : decode cJ3_checkIndex_8e157 6 = .ok (.if_icmp .lt 10, 3) := by decide +kernel
theorem dJ3_checkIndex_8e157_9 : decode cJ3_checkIndex_8e157 9 = .ok (.aload_n 2, 1) := by decide +kernel
theorem dJ3_checkIndex_8e157_10 : decode cJ3_checkIndex_8e157 10 = .ok (.iload_n 0, 1) := by decide +kernel
theorem dJ3_checkIndex_8e157_11 : decode cJ3_checkIndex_8e157 11 = .ok (.iload_n 1, 1) := by decide +kernel
theorem dJ3_checkIndex_8e157_12 : decode cJ3_checkIndex_8e157 12 = .ok (.invokestatic 95, 3) := by decide +kernel
theorem dJ3_checkIndex_8e157_15 : decode cJ3_checkIndex_8e157 15 = .ok (.athrow, 1) := by decide +kernel
theorem dJ3_checkIndex_8e157_16 : decode cJ3_checkIndex_8e157 16 = .ok (.iload_n 0, 1) := by decide +kernel
theorem dJ3_checkIndex_8e157_17 : decode cJ3_checkIndex_8e157 17 = .ok (.ireturn, 1) := by decide +kernel
theorem dJ6_bitCount_0f7a4_0 : decode cJ6_bitCount_0f7a4 0 = .ok (.iload_n 0, 1) := by decide +kernel
theorem dJ6_bitCount_0f7a4_1 : decode cJ6_bitCount_0f7a4 1 = .ok (.iload_n 0, 1) := by decide +kernel
theorem dJ6_bitCount_0f7a4_2 : decode cJ6_bitCount_0f7a4 2 = .ok (.iconst 1, 1) := by decide +kernel
theorem dJ6_bitCount_0f7a4_3 : decode cJ6_bitCount_0f7a4 3 = .ok (.iushr, 1) := by decide +kernel
theorem dJ6_bitCount_0f7a4_4 : decode cJ6_bitCount_0f7a4 4 = .ok (.ldc_w 265, 3) := by decide +kernel
theorem dJ6_bitCount_0f7a4_7 : decode cJ6_bitCount_0f7a4 7 = .ok (.iand, 1) := by decide +kernel
theorem dJ6_bitCount_0f7a4_8 : decode cJ6_bitCount_0f7a4 8 = .ok (.isub, 1) := by decide +kernel
theorem dJ6_bitCount_0f7a4_9 : decode cJ6_bitCount_0f7a4 9 = .ok (.istore_n 0, 1) := by decide +kernel
theorem dJ6_bitCount_0f7a4_10 : decode cJ6_bitCount_0f7a4 10 = .ok (.iload_n 0, 1) := by decide +kernel
theorem dJ6_bitCount_0f7a4_11 : decode cJ6_bitCount_0f7a4 11 = .ok (.ldc_w 266, 3) := by decide +kernel
theorem dJ6_bitCount_0f7a4_14 : decode cJ6_bitCount_0f7a4 14 = .ok (.iand, 1) := by decide +kernel
theorem dJ6_bitCount_0f7a4_15 : decode cJ6_bitCount_0f7a4 15 = .ok (.iload_n 0, 1) := by decide +kernel
theorem dJ6_bitCount_0f7a4_16 : decode cJ6_bitCount_0f7a4 16 = .ok (.iconst 2, 1) := by decide +kernel
theorem dJ6_bitCount_0f7a4_17 : decode cJ6_bitCount_0f7a4 17 = .ok (.iushr, 1) := by decide +kernel
theorem dJ6_bitCount_0f7a4_18 : decode cJ6_bitCount_0f7a4 18 = .ok (.ldc_w 266, 3) := by decide +kernel
theorem dJ6_bitCount_0f7a4_21 : decode cJ6_bitCount_0f7a4 21 = .ok (.iand, 1) := by decide +kernel
theorem dJ6_bitCount_0f7a4_22 : decode cJ6_bitCount_0f7a4 22 = .ok (.iadd, 1) := by decide +kernel
theorem dJ6_bitCount_0f7a4_23 : decode cJ6_bitCount_0f7a4 23 = .ok (.istore_n 0, 1) := by decide +kernel
theorem dJ6_bitCount_0f7a4_24 : decode cJ6_bitCount_0f7a4 24 = .ok (.iload_n 0, 1) := by decide +kernel
theorem dJ6_bitCount_0f7a4_25 : decode cJ6_bitCount_0f7a4 25 = .ok (.iload_n 0, 1) := by decide +kernel
theorem dJ6_bitCount_0f7a4_26 : decode cJ6_bitCount_0f7a4 26 = .ok (.iconst 4, 1) := by decide +kernel
theorem dJ6_bitCount_0f7a4_27 : decode cJ6_bitCount_0f7a4 27 = .ok (.iushr, 1) := by decide +kernel
theorem dJ6_bitCount_0f7a4_28 : decode cJ6_bitCount_0f7a4 28 = .ok (.iadd, 1) := by decide +kernel
theorem dJ6_bitCount_0f7a4_29 : decode cJ6_bitCount_0f7a4 29 = .ok (.ldc_w 267, 3) := by decide +kernel
theorem dJ6_bitCount_0f7a4_32 : decode cJ6_bitCount_0f7a4 32 = .ok (.iand, 1) := by decide +kernel
theorem dJ6_bitCount_0f7a4_33 : decode cJ6_bitCount_0f7a4 33 = .ok (.istore_n 0, 1) := by decide +kernel
theorem dJ6_bitCount_0f7a4_34 : decode cJ6_bitCount_0f7a4 34 = .ok (.iload_n 0, 1) := by decide +kernel
theorem dJ6_bitCount_0f7a4_35 : decode cJ6_bitCount_0f7a4 35 = .ok (.iload_n 0, 1) := by decide +kernel
theorem dJ6_bitCount_0f7a4_36 : decode cJ6_bitCount_0f7a4 36 = .ok (.bipush 8, 2) := by decide +kernel
theorem dJ6_bitCount_0f7a4_38 : decode cJ6_bitCount_0f7a4 38 = .ok (.iushr, 1) := by decide +kernel
theorem dJ6_bitCount_0f7a4_39 : decode cJ6_bitCount_0f7a4 39 = .ok (.iadd, 1) := by decide +kernel
theorem dJ6_bitCount_0f7a4_40 : decode cJ6_bitCount_0f7a4 40 = .ok (.istore_n 0, 1) := by decide +kernel
theorem dJ6_bitCount_0f7a4_41 : decode cJ6_bitCount_0f7a4 41 = .ok (.iload_n 0, 1) := by decide +kernel
theorem dJ6_bitCount_0f7a4_42 : decode cJ6_bitCount_0f7a4 42 = .ok (.iload_n 0, 1) := by decide +kernel
theorem dJ6_bitCount_0f7a4_43 : decode cJ6_bitCount_0f7a4 43 = .ok (.bipush 16, 2) := by decide +kernel
theorem dJ6_bitCount_0f7a4_45 : decode cJ6_bitCount_0f7a4 45 = .ok (.iushr, 1) := by decide +kernel
theorem dJ6_bitCount_0f7a4_46 : decode cJ6_bitCount_0f7a4 46 = .ok (.iadd, 1) := by decide +kernel
theorem dJ6_bitCount_0f7a4_47 : decode cJ6_bitCount_0f7a4 47 = .ok (.istore_n 0, 1) := by decide +kernel
theorem dJ6_bitCount_0f7a4_48 : decode cJ6_bitCount_0f7a4 48 = .ok (.iload_n 0, 1) := by decide +kernel
theorem dJ6_bitCount_0f7a4_49 : decode cJ6_bitCount_0f7a4 49 = .ok (.bipush 63, 2) := by decide +kernel
theorem dJ6_bitCount_0f7a4_51 : decode cJ6_bitCount_0f7a4 51 = .ok (.iand, 1) := by decide +kernel
theorem dJ6_bitCount_0f7a4_52 : decode cJ6_bitCount_0f7a4 52 = .ok (.ireturn, 1) := by decide +kernel
theorem dJ9_floorMod_7cf53_0 : decode cJ9_floorMod_7cf53 0 = .ok (.iload_n 0, 1) := by decide +kernel
theorem dJ9_floorMod_7cf53_1 : decode cJ9_floorMod_7cf53 1 = .ok (.iload_n 1, 1) := by decide +kernel
theorem dJ9_floorMod_7cf53_2 : decode cJ9_floorMod_7cf53 2 = .ok (.irem, 1) := by decide +kernel
theorem dJ9_floorMod_7cf53_3 : decode cJ9_floorMod_7cf53 3 = .ok (.istore_n 2, 1) := by decide +kernel
theorem dJ9_floorMod_7cf53_4 : decode cJ9_floorMod_7cf53 4 = .ok (.iload_n 0, 1) := by decide +kernel
theorem dJ9_floorMod_7cf53_5 : decode cJ9_floorMod_7cf53 5 = .ok (.iload_n 1, 1) := by decide +kernel
theorem dJ9_floorMod_7cf53_6 : decode cJ9_floorMod_7cf53 6 = .ok (.ixor, 1) := by decide +kernel
theorem dJ9_floorMod_7cf53_7 : decode cJ9_floorMod_7cf53 7 = .ok (.ifCond .ge 11, 3) := by decide +kernel
theorem dJ9_floorMod_7cf53_10 : decode cJ9_floorMod_7cf53 10 = .ok (.iload_n 2, 1) := by decide +kernel
theorem dJ9_floorMod_7cf53_11 : decode cJ9_floorMod_7cf53 11 = .ok (.ifCond .eq 7, 3) := by decide +kernel
theorem dJ9_floorMod_7cf53_14 : decode cJ9_floorMod_7cf53 14 = .ok (.iload_n 2, 1) := by decide +kernel
theorem dJ9_floorMod_7cf53_15 : decode cJ9_floorMod_7cf53 15 = .ok (.iload_n 1, 1) := by decide +kernel
theorem dJ9_floorMod_7cf53_16 : decode cJ9_floorMod_7cf53 16 = .ok (.iadd, 1) := by decide +kernel
theorem dJ9_floorMod_7cf53_17 : decode cJ9_floorMod_7cf53 17 = .ok (.ireturn, 1) := by decide +kernel
theorem dJ9_floorMod_7cf53_18 : decode cJ9_floorMod_7cf53 18 = .ok (.iload_n 2, 1) := by decide +kernel
theorem dJ9_floorMod_7cf53_19 : decode cJ9_floorMod_7cf53 19 = .ok (.ireturn, 1) := by decide +kernel
theorem dJ9_max_7cf53_0 : decode cJ9_max_7cf53 0 = .ok (.iload_n 0, 1) := by decide +kernel
theorem dJ9_max_7cf53_1 : decode cJ9_max_7cf53 1 = .ok (.iload_n 1, 1) := by decide +kernel
theorem dJ9_max_7cf53_2 : decode cJ9_max_7cf53 2 = .ok (.if_icmp .lt 7, 3) := by decide +kernel
theorem dJ9_max_7cf53_5 : decode cJ9_max_7cf53 5 = .ok (.iload_n 0, 1) := by decide +kernel
theorem dJ9_max_7cf53_6 : decode cJ9_max_7cf53 6 = .ok (.goto 4, 3) := by decide +kernel
theorem dJ9_max_7cf53_9 : decode cJ9_max_7cf53 9 = .ok (.iload_n 1, 1) := by decide +kernel
theorem dJ9_max_7cf53_10 : decode cJ9_max_7cf53 10 = .ok (.ireturn, 1) := by decide +kernel
theorem dJ9_min_7cf53_0 : decode cJ9_min_7cf53 0 = .ok (.iload_n 0, 1) := by decide +kernel
theorem dJ9_min_7cf53_1 : decode cJ9_min_7cf53 1 = .ok (.iload_n 1, 1) := by decide +kernel
theorem dJ9_min_7cf53_2 : decode cJ9_min_7cf53 2 = .ok (.if_icmp .gt 7, 3) := by decide +kernel
theorem dJ9_min_7cf53_5 : decode cJ9_min_7cf53 5 = .ok (.iload_n 0, 1) := by decide +kernel
theorem dJ9_min_7cf53_6 : decode cJ9_min_7cf53 6 = .ok (.goto 4, 3) := by decide +kernel
theorem dJ9_min_7cf53_9 : decode cJ9_min_7cf53 9 = .ok (.iload_n 1, 1) := by decide +kernel
theorem dJ9_min_7cf53_10 : decode cJ9_min_7cf53 10 = .ok (.ireturn, 1) := by decide +kernel
theorem dL_law_0 : decode cL_law 0 = .ok (.new 7, 3) := by decide +kernel
theorem dL_law_3 : decode cL_law 3 = .ok (.dup, 1) := by decide +kernel
theorem dL_law_4 : decode cL_law 4 = .ok (.invokespecial 9, 3) := by decide +kernel
theorem dL_law_7 : decode cL_law 7 = .ok (.astore_n 1, 1) := by decide +kernel
theorem dL_law_8 : decode cL_law 8 = .ok (.new 10, 3) := by decide +kernel
theorem dL_law_11 : decode cL_law 11 = .ok (.dup, 1) := by decide +kernel
theorem dL_law_12 : decode cL_law 12 = .ok (.invokespecial 12, 3) := by decide +kernel
theorem dL_law_15 : decode cL_law 15 = .ok (.astore_n 2, 1) := by decide +kernel
theorem dL_law_16 : decode cL_law 16 = .ok (.iconst 0, 1) := by decide +kernel
theorem dL_law_17 : decode cL_law 17 = .ok (.istore_n 3, 1) := by decide +kernel
theorem dL_law_18 : decode cL_law 18 = .ok (.iload_n 3, 1) := by decide +kernel
theorem dL_law_19 : decode cL_law 19 = .ok (.aload_n 0, 1) := by decide +kernel
theorem dL_law_20 : decode cL_law 20 = .ok (.arraylength, 1) := by decide +kernel
theorem dL_law_21 : decode cL_law 21 = .ok (.bipush 6, 2) := by decide +kernel
theorem dL_law_23 : decode cL_law 23 = .ok (.isub, 1) := by decide +kernel
theorem dL_law_24 : decode cL_law 24 = .ok (.if_icmp .gt 2359, 3) := by decide +kernel
theorem dL_law_27 : decode cL_law 27 = .ok (.aload_n 0, 1) := by decide +kernel
theorem dL_law_28 : decode cL_law 28 = .ok (.iload_n 3, 1) := by decide +kernel
theorem dL_law_29 : decode cL_law 29 = .ok (.iaload, 1) := by decide +kernel
theorem dL_law_30 : decode cL_law 30 = .ok (.bipush 63, 2) := by decide +kernel
theorem dL_law_32 : decode cL_law 32 = .ok (.iand, 1) := by decide +kernel
theorem dL_law_33 : decode cL_law 33 = .ok (.tableswitch 2344 0 59 #[255, 268, 331, 354, 377, 400, 424, 438, 501, 595, 649, 713, 776, 799, 812, 835, 858, 871, 924, 977, 1001, 1054, 1117, 1140, 1163, 1186, 1199, 1222, 1245, 1258, 1311, 1334, 1357, 1451, 1545, 1638, 1661, 1684, 1717, 1740, 1753, 1766, 1789, 1812, 1845, 1878, 1891, 1914, 1938, 1991, 2054, 2067, 2090, 2113, 2166, 2179, 2232, 2255, 2268, 2321], 255) := by decide +kernel
theorem dL_law_288 : decode cL_law 288 = .ok (.aload_n 1, 1) := by decide +kernel
theorem dL_law_289 : decode cL_law 289 = .ok (.invokevirtual 13, 3) := by decide +kernel
theorem dL_law_292 : decode cL_law 292 = .ok (.aload_n 2, 1) := by decide +kernel
theorem dL_law_293 : decode cL_law 293 = .ok (.invokevirtual 17, 3) := by decide +kernel
theorem dL_law_296 : decode cL_law 296 = .ok (.if_icmp .eq 2081, 3) := by decide +kernel
theorem dL_law_299 : decode cL_law 299 = .ok (.iconst 0, 1) := by decide +kernel
theorem dL_law_300 : decode cL_law 300 = .ok (.ireturn, 1) := by decide +kernel
theorem dL_law_301 : decode cL_law 301 = .ok (.aload_n 1, 1) := by decide +kernel
theorem dL_law_302 : decode cL_law 302 = .ok (.aload_n 0, 1) := by decide +kernel
theorem dL_law_303 : decode cL_law 303 = .ok (.iload_n 3, 1) := by decide +kernel
theorem dL_law_304 : decode cL_law 304 = .ok (.iconst 1, 1) := by decide +kernel
theorem dL_law_305 : decode cL_law 305 = .ok (.iadd, 1) := by decide +kernel
theorem dL_law_306 : decode cL_law 306 = .ok (.iaload, 1) := by decide +kernel
theorem dL_law_307 : decode cL_law 307 = .ok (.aload_n 0, 1) := by decide +kernel
theorem dL_law_308 : decode cL_law 308 = .ok (.iload_n 3, 1) := by decide +kernel
theorem dL_law_309 : decode cL_law 309 = .ok (.iconst 2, 1) := by decide +kernel
theorem dL_law_310 : decode cL_law 310 = .ok (.iadd, 1) := by decide +kernel
theorem dL_law_311 : decode cL_law 311 = .ok (.iaload, 1) := by decide +kernel
theorem dL_law_312 : decode cL_law 312 = .ok (.aload_n 0, 1) := by decide +kernel
theorem dL_law_313 : decode cL_law 313 = .ok (.iload_n 3, 1) := by decide +kernel
theorem dL_law_314 : decode cL_law 314 = .ok (.iconst 3, 1) := by decide +kernel
theorem dL_law_315 : decode cL_law 315 = .ok (.iadd, 1) := by decide +kernel
theorem dL_law_316 : decode cL_law 316 = .ok (.iaload, 1) := by decide +kernel
theorem dL_law_317 : decode cL_law 317 = .ok (.aload_n 0, 1) := by decide +kernel
theorem dL_law_318 : decode cL_law 318 = .ok (.iload_n 3, 1) := by decide +kernel
theorem dL_law_319 : decode cL_law 319 = .ok (.iconst 4, 1) := by decide +kernel
theorem dL_law_320 : decode cL_law 320 = .ok (.iadd, 1) := by decide +kernel
theorem dL_law_321 : decode cL_law 321 = .ok (.iaload, 1) := by decide +kernel
theorem dL_law_322 : decode cL_law 322 = .ok (.aload_n 0, 1) := by decide +kernel
theorem dL_law_323 : decode cL_law 323 = .ok (.iload_n 3, 1) := by decide +kernel
theorem dL_law_324 : decode cL_law 324 = .ok (.iconst 5, 1) := by decide +kernel
theorem dL_law_325 : decode cL_law 325 = .ok (.iadd, 1) := by decide +kernel
theorem dL_law_326 : decode cL_law 326 = .ok (.iaload, 1) := by decide +kernel
theorem dL_law_327 : decode cL_law 327 = .ok (.invokevirtual 18, 3) := by decide +kernel
theorem dL_law_330 : decode cL_law 330 = .ok (.aload_n 2, 1) := by decide +kernel
theorem dL_law_331 : decode cL_law 331 = .ok (.aload_n 0, 1) := by decide +kernel
theorem dL_law_332 : decode cL_law 332 = .ok (.iload_n 3, 1) := by decide +kernel
theorem dL_law_333 : decode cL_law 333 = .ok (.iconst 1, 1) := by decide +kernel
theorem dL_law_334 : decode cL_law 334 = .ok (.iadd, 1) := by decide +kernel
theorem dL_law_335 : decode cL_law 335 = .ok (.iaload, 1) := by decide +kernel
theorem dL_law_336 : decode cL_law 336 = .ok (.aload_n 0, 1) := by decide +kernel
theorem dL_law_337 : decode cL_law 337 = .ok (.iload_n 3, 1) := by decide +kernel
theorem dL_law_338 : decode cL_law 338 = .ok (.iconst 2, 1) := by decide +kernel
theorem dL_law_339 : decode cL_law 339 = .ok (.iadd, 1) := by decide +kernel
theorem dL_law_340 : decode cL_law 340 = .ok (.iaload, 1) := by decide +kernel
theorem dL_law_341 : decode cL_law 341 = .ok (.aload_n 0, 1) := by decide +kernel
theorem dL_law_342 : decode cL_law 342 = .ok (.iload_n 3, 1) := by decide +kernel
theorem dL_law_343 : decode cL_law 343 = .ok (.iconst 3, 1) := by decide +kernel
theorem dL_law_344 : decode cL_law 344 = .ok (.iadd, 1) := by decide +kernel
theorem dL_law_345 : decode cL_law 345 = .ok (.iaload, 1) := by decide +kernel
theorem dL_law_346 : decode cL_law 346 = .ok (.aload_n 0, 1) := by decide +kernel
theorem dL_law_347 : decode cL_law 347 = .ok (.iload_n 3, 1) := by decide +kernel
theorem dL_law_348 : decode cL_law 348 = .ok (.iconst 4, 1) := by decide +kernel
theorem dL_law_349 : decode cL_law 349 = .ok (.iadd, 1) := by decide +kernel
theorem dL_law_350 : decode cL_law 350 = .ok (.iaload, 1) := by decide +kernel
theorem dL_law_351 : decode cL_law 351 = .ok (.aload_n 0, 1) := by decide +kernel
theorem dL_law_352 : decode cL_law 352 = .ok (.iload_n 3, 1) := by decide +kernel
theorem dL_law_353 : decode cL_law 353 = .ok (.iconst 5, 1) := by decide +kernel
theorem dL_law_354 : decode cL_law 354 = .ok (.iadd, 1) := by decide +kernel
theorem dL_law_355 : decode cL_law 355 = .ok (.iaload, 1) := by decide +kernel
theorem dL_law_356 : decode cL_law 356 = .ok (.invokevirtual 22, 3) := by decide +kernel
theorem dL_law_359 : decode cL_law 359 = .ok (.if_icmp .eq 2018, 3) := by decide +kernel
theorem dL_law_362 : decode cL_law 362 = .ok (.iconst 0, 1) := by decide +kernel
theorem dL_law_363 : decode cL_law 363 = .ok (.ireturn, 1) := by decide +kernel
theorem dL_law_364 : decode cL_law 364 = .ok (.aload_n 1, 1) := by decide +kernel
theorem dL_law_365 : decode cL_law 365 = .ok (.aload_n 0, 1) := by decide +kernel
theorem dL_law_366 : decode cL_law 366 = .ok (.iload_n 3, 1) := by decide +kernel
theorem dL_law_367 : decode cL_law 367 = .ok (.iconst 1, 1) := by decide +kernel
theorem dL_law_368 : decode cL_law 368 = .ok (.iadd, 1) := by decide +kernel
theorem dL_law_369 : decode cL_law 369 = .ok (.iaload, 1) := by decide +kernel
theorem dL_law_370 : decode cL_law 370 = .ok (.invokevirtual 23, 3) := by decide +kernel
theorem dL_law_373 : decode cL_law 373 = .ok (.aload_n 2, 1) := by decide +kernel
theorem dL_law_374 : decode cL_law 374 = .ok (.aload_n 0, 1) := by decide +kernel
theorem dL_law_375 : decode cL_law 375 = .ok (.iload_n 3, 1) := by decide +kernel
theorem dL_law_376 : decode cL_law 376 = .ok (.iconst 1, 1) := by decide +kernel
theorem dL_law_377 : decode cL_law 377 = .ok (.iadd, 1) := by decide +kernel
theorem dL_law_378 : decode cL_law 378 = .ok (.iaload, 1) := by decide +kernel
theorem dL_law_379 : decode cL_law 379 = .ok (.invokevirtual 27, 3) := by decide +kernel
theorem dL_law_382 : decode cL_law 382 = .ok (.if_icmp .eq 1995, 3) := by decide +kernel
theorem dL_law_385 : decode cL_law 385 = .ok (.iconst 0, 1) := by decide +kernel
theorem dL_law_386 : decode cL_law 386 = .ok (.ireturn, 1) := by decide +kernel
theorem dL_law_387 : decode cL_law 387 = .ok (.aload_n 1, 1) := by decide +kernel
theorem dL_law_388 : decode cL_law 388 = .ok (.aload_n 0, 1) := by decide +kernel
theorem dL_law_389 : decode cL_law 389 = .ok (.iload_n 3, 1) := by decide +kernel
theorem dL_law_390 : decode cL_law 390 = .ok (.iconst 1, 1) := by decide +kernel
theorem dL_law_391 : decode cL_law 391 = .ok (.iadd, 1) := by decide +kernel
theorem dL_law_392 : decode cL_law 392 = .ok (.iaload, 1) := by decide +kernel
theorem dL_law_393 : decode cL_law 393 = .ok (.invokevirtual 28, 3) := by decide +kernel
theorem dL_law_396 : decode cL_law 396 = .ok (.aload_n 2, 1) := by decide +kernel
theorem dL_law_397 : decode cL_law 397 = .ok (.aload_n 0, 1) := by decide +kernel
theorem dL_law_398 : decode cL_law 398 = .ok (.iload_n 3, 1) := by decide +kernel
theorem dL_law_399 : decode cL_law 399 = .ok (.iconst 1, 1) := by decide +kernel
theorem dL_law_400 : decode cL_law 400 = .ok (.iadd, 1) := by decide +kernel
theorem dL_law_401 : decode cL_law 401 = .ok (.iaload, 1) := by decide +kernel
theorem dL_law_402 : decode cL_law 402 = .ok (.invokevirtual 31, 3) := by decide +kernel
theorem dL_law_405 : decode cL_law 405 = .ok (.if_icmp .eq 1972, 3) := by decide +kernel
theorem dL_law_408 : decode cL_law 408 = .ok (.iconst 0, 1) := by decide +kernel
theorem dL_law_409 : decode cL_law 409 = .ok (.ireturn, 1) := by decide +kernel
theorem dL_law_410 : decode cL_law 410 = .ok (.aload_n 1, 1) := by decide +kernel
theorem dL_law_411 : decode cL_law 411 = .ok (.aload_n 0, 1) := by decide +kernel
theorem dL_law_412 : decode cL_law 412 = .ok (.iload_n 3, 1) := by decide +kernel
theorem dL_law_413 : decode cL_law 413 = .ok (.iconst 1, 1) := by decide +kernel
theorem dL_law_414 : decode cL_law 414 = .ok (.iadd, 1) := by decide +kernel
theorem dL_law_415 : decode cL_law 415 = .ok (.iaload, 1) := by decide +kernel
theorem dL_law_416 : decode cL_law 416 = .ok (.invokevirtual 32, 3) := by decide +kernel
theorem dL_law_419 : decode cL_law 419 = .ok (.aload_n 2, 1) := by decide +kernel
theorem dL_law_420 : decode cL_law 420 = .ok (.aload_n 0, 1) := by decide +kernel
theorem dL_law_421 : decode cL_law 421 = .ok (.iload_n 3, 1) := by decide +kernel
theorem dL_law_422 : decode cL_law 422 = .ok (.iconst 1, 1) := by decide +kernel
theorem dL_law_423 : decode cL_law 423 = .ok (.iadd, 1) := by decide +kernel
theorem dL_law_424 : decode cL_law 424 = .ok (.iaload, 1) := by decide +kernel
theorem dL_law_425 : decode cL_law 425 = .ok (.invokevirtual 35, 3) := by decide +kernel
theorem dL_law_428 : decode cL_law 428 = .ok (.if_icmp .eq 1949, 3) := by decide +kernel
theorem dL_law_431 : decode cL_law 431 = .ok (.iconst 0, 1) := by decide +kernel
theorem dL_law_432 : decode cL_law 432 = .ok (.ireturn, 1) := by decide +kernel
theorem dL_law_433 : decode cL_law 433 = .ok (.aload_n 1, 1) := by decide +kernel
theorem dL_law_434 : decode cL_law 434 = .ok (.aload_n 0, 1) := by decide +kernel
theorem dL_law_435 : decode cL_law 435 = .ok (.iload_n 3, 1) := by decide +kernel
theorem dL_law_436 : decode cL_law 436 = .ok (.iconst 1, 1) := by decide +kernel
theorem dL_law_437 : decode cL_law 437 = .ok (.iadd, 1) := by decide +kernel
theorem dL_law_438 : decode cL_law 438 = .ok (.iaload, 1) := by decide +kernel
theorem dL_law_439 : decode cL_law 439 = .ok (.invokevirtual 36, 3) := by decide +kernel
theorem dL_law_442 : decode cL_law 442 = .ok (.aload_n 2, 1) := by decide +kernel
theorem dL_law_443 : decode cL_law 443 = .ok (.aload_n 0, 1) := by decide +kernel
theorem dL_law_444 : decode cL_law 444 = .ok (.iload_n 3, 1) := by decide +kernel
theorem dL_law_445 : decode cL_law 445 = .ok (.iconst 1, 1) := by decide +kernel
theorem dL_law_446 : decode cL_law 446 = .ok (.iadd, 1) := by decide +kernel
theorem dL_law_447 : decode cL_law 447 = .ok (.iaload, 1) := by decide +kernel
theorem dL_law_448 : decode cL_law 448 = .ok (.invokevirtual 40, 3) := by decide +kernel
theorem dL_law_451 : decode cL_law 451 = .ok (.lcmp, 1) := by decide +kernel
theorem dL_law_452 : decode cL_law 452 = .ok (.ifCond .eq 1925, 3) := by decide +kernel
theorem dL_law_455 : decode cL_law 455 = .ok (.iconst 0, 1) := by decide +kernel
theorem dL_law_456 : decode cL_law 456 = .ok (.ireturn, 1) := by decide +kernel
theorem dL_law_457 : decode cL_law 457 = .ok (.aload_n 1, 1) := by decide +kernel
theorem dL_law_458 : decode cL_law 458 = .ok (.invokevirtual 41, 3) := by decide +kernel
theorem dL_law_461 : decode cL_law 461 = .ok (.aload_n 2, 1) := by decide +kernel
theorem dL_law_462 : decode cL_law 462 = .ok (.invokevirtual 45, 3) := by decide +kernel
theorem dL_law_465 : decode cL_law 465 = .ok (.lcmp, 1) := by decide +kernel
theorem dL_law_466 : decode cL_law 466 = .ok (.ifCond .eq 1911, 3) := by decide +kernel
theorem dL_law_469 : decode cL_law 469 = .ok (.iconst 0, 1) := by decide +kernel
theorem dL_law_470 : decode cL_law 470 = .ok (.ireturn, 1) := by decide +kernel
theorem dL_law_471 : decode cL_law 471 = .ok (.aload_n 1, 1) := by decide +kernel
theorem dL_law_472 : decode cL_law 472 = .ok (.aload_n 0, 1) := by decide +kernel
theorem dL_law_473 : decode cL_law 473 = .ok (.iload_n 3, 1) := by decide +kernel
theorem dL_law_474 : decode cL_law 474 = .ok (.iconst 1, 1) := by decide +kernel
theorem dL_law_475 : decode cL_law 475 = .ok (.iadd, 1) := by decide +kernel
theorem dL_law_476 : decode cL_law 476 = .ok (.iaload, 1) := by decide +kernel
theorem dL_law_477 : decode cL_law 477 = .ok (.i2l, 1) := by decide +kernel
theorem dL_law_478 : decode cL_law 478 = .ok (.bipush 32, 2) := by decide +kernel
theorem dL_law_480 : decode cL_law 480 = .ok (.lshl, 1) := by decide +kernel
theorem dL_law_481 : decode cL_law 481 = .ok (.aload_n 0, 1) := by decide +kernel
theorem dL_law_482 : decode cL_law 482 = .ok (.iload_n 3, 1) := by decide +kernel
theorem dL_law_483 : decode cL_law 483 = .ok (.iconst 2, 1) := by decide +kernel
theorem dL_law_484 : decode cL_law 484 = .ok (.iadd, 1) := by decide +kernel
theorem dL_law_485 : decode cL_law 485 = .ok (.iaload, 1) := by decide +kernel
theorem dL_law_486 : decode cL_law 486 = .ok (.i2l, 1) := by decide +kernel
theorem dL_law_487 : decode cL_law 487 = .ok (.ldc2_w 46, 3) := by decide +kernel
theorem dL_law_490 : decode cL_law 490 = .ok (.land, 1) := by decide +kernel
theorem dL_law_491 : decode cL_law 491 = .ok (.lor, 1) := by decide +kernel
theorem dL_law_492 : decode cL_law 492 = .ok (.aload_n 0, 1) := by decide +kernel
theorem dL_law_493 : decode cL_law 493 = .ok (.iload_n 3, 1) := by decide +kernel
theorem dL_law_494 : decode cL_law 494 = .ok (.iconst 3, 1) := by decide +kernel
theorem dL_law_495 : decode cL_law 495 = .ok (.iadd, 1) := by decide +kernel
theorem dL_law_496 : decode cL_law 496 = .ok (.iaload, 1) := by decide +kernel
theorem dL_law_497 : decode cL_law 497 = .ok (.invokevirtual 48, 3) := by decide +kernel
theorem dL_law_500 : decode cL_law 500 = .ok (.aload_n 2, 1) := by decide +kernel
theorem dL_law_501 : decode cL_law 501 = .ok (.aload_n 0, 1) := by decide +kernel
theorem dL_law_502 : decode cL_law 502 = .ok (.iload_n 3, 1) := by decide +kernel
theorem dL_law_503 : decode cL_law 503 = .ok (.iconst 1, 1) := by decide +kernel
theorem dL_law_504 : decode cL_law 504 = .ok (.iadd, 1) := by decide +kernel
theorem dL_law_505 : decode cL_law 505 = .ok (.iaload, 1) := by decide +kernel
theorem dL_law_506 : decode cL_law 506 = .ok (.i2l, 1) := by decide +kernel
theorem dL_law_507 : decode cL_law 507 = .ok (.bipush 32, 2) := by decide +kernel
theorem dL_law_509 : decode cL_law 509 = .ok (.lshl, 1) := by decide +kernel
theorem dL_law_510 : decode cL_law 510 = .ok (.aload_n 0, 1) := by decide +kernel
theorem dL_law_511 : decode cL_law 511 = .ok (.iload_n 3, 1) := by decide +kernel
theorem dL_law_512 : decode cL_law 512 = .ok (.iconst 2, 1) := by decide +kernel
theorem dL_law_513 : decode cL_law 513 = .ok (.iadd, 1) := by decide +kernel
theorem dL_law_514 : decode cL_law 514 = .ok (.iaload, 1) := by decide +kernel
theorem dL_law_515 : decode cL_law 515 = .ok (.i2l, 1) := by decide +kernel
theorem dL_law_516 : decode cL_law 516 = .ok (.ldc2_w 46, 3) := by decide +kernel
theorem dL_law_519 : decode cL_law 519 = .ok (.land, 1) := by decide +kernel
theorem dL_law_520 : decode cL_law 520 = .ok (.lor, 1) := by decide +kernel
theorem dL_law_521 : decode cL_law 521 = .ok (.aload_n 0, 1) := by decide +kernel
theorem dL_law_522 : decode cL_law 522 = .ok (.iload_n 3, 1) := by decide +kernel
theorem dL_law_523 : decode cL_law 523 = .ok (.iconst 3, 1) := by decide +kernel
theorem dL_law_524 : decode cL_law 524 = .ok (.iadd, 1) := by decide +kernel
theorem dL_law_525 : decode cL_law 525 = .ok (.iaload, 1) := by decide +kernel
theorem dL_law_526 : decode cL_law 526 = .ok (.invokevirtual 52, 3) := by decide +kernel
theorem dL_law_529 : decode cL_law 529 = .ok (.if_icmp .eq 1848, 3) := by decide +kernel
theorem dL_law_532 : decode cL_law 532 = .ok (.iconst 0, 1) := by decide +kernel
theorem dL_law_533 : decode cL_law 533 = .ok (.ireturn, 1) := by decide +kernel
theorem dL_law_534 : decode cL_law 534 = .ok (.aload_n 1, 1) := by decide +kernel
theorem dL_law_535 : decode cL_law 535 = .ok (.aload_n 0, 1) := by decide +kernel
theorem dL_law_536 : decode cL_law 536 = .ok (.iload_n 3, 1) := by decide +kernel
theorem dL_law_537 : decode cL_law 537 = .ok (.iconst 1, 1) := by decide +kernel
theorem dL_law_538 : decode cL_law 538 = .ok (.iadd, 1) := by decide +kernel
theorem dL_law_539 : decode cL_law 539 = .ok (.iaload, 1) := by decide +kernel
theorem dL_law_540 : decode cL_law 540 = .ok (.i2l, 1) := by decide +kernel
theorem dL_law_541 : decode cL_law 541 = .ok (.bipush 32, 2) := by decide +kernel
theorem dL_law_543 : decode cL_law 543 = .ok (.lshl, 1) := by decide +kernel
theorem dL_law_544 : decode cL_law 544 = .ok (.aload_n 0, 1) := by decide +kernel
theorem dL_law_545 : decode cL_law 545 = .ok (.iload_n 3, 1) := by decide +kernel
theorem dL_law_546 : decode cL_law 546 = .ok (.iconst 2, 1) := by decide +kernel
theorem dL_law_547 : decode cL_law 547 = .ok (.iadd, 1) := by decide +kernel
theorem dL_law_548 : decode cL_law 548 = .ok (.iaload, 1) := by decide +kernel
theorem dL_law_549 : decode cL_law 549 = .ok (.i2l, 1) := by decide +kernel
theorem dL_law_550 : decode cL_law 550 = .ok (.ldc2_w 46, 3) := by decide +kernel
theorem dL_law_553 : decode cL_law 553 = .ok (.land, 1) := by decide +kernel
theorem dL_law_554 : decode cL_law 554 = .ok (.lor, 1) := by decide +kernel
theorem dL_law_555 : decode cL_law 555 = .ok (.aload_n 0, 1) := by decide +kernel
theorem dL_law_556 : decode cL_law 556 = .ok (.iload_n 3, 1) := by decide +kernel
theorem dL_law_557 : decode cL_law 557 = .ok (.iconst 3, 1) := by decide +kernel
theorem dL_law_558 : decode cL_law 558 = .ok (.iadd, 1) := by decide +kernel
theorem dL_law_559 : decode cL_law 559 = .ok (.iaload, 1) := by decide +kernel
theorem dL_law_560 : decode cL_law 560 = .ok (.i2l, 1) := by decide +kernel
theorem dL_law_561 : decode cL_law 561 = .ok (.bipush 32, 2) := by decide +kernel
theorem dL_law_563 : decode cL_law 563 = .ok (.lshl, 1) := by decide +kernel
theorem dL_law_564 : decode cL_law 564 = .ok (.aload_n 0, 1) := by decide +kernel
theorem dL_law_565 : decode cL_law 565 = .ok (.iload_n 3, 1) := by decide +kernel
theorem dL_law_566 : decode cL_law 566 = .ok (.iconst 4, 1) := by decide +kernel
theorem dL_law_567 : decode cL_law 567 = .ok (.iadd, 1) := by decide +kernel
theorem dL_law_568 : decode cL_law 568 = .ok (.iaload, 1) := by decide +kernel
theorem dL_law_569 : decode cL_law 569 = .ok (.i2l, 1) := by decide +kernel
theorem dL_law_570 : decode cL_law 570 = .ok (.ldc2_w 46, 3) := by decide +kernel
theorem dL_law_573 : decode cL_law 573 = .ok (.land, 1) := by decide +kernel
theorem dL_law_574 : decode cL_law 574 = .ok (.lor, 1) := by decide +kernel
theorem dL_law_575 : decode cL_law 575 = .ok (.invokevirtual 53, 3) := by decide +kernel
theorem dL_law_578 : decode cL_law 578 = .ok (.aload_n 2, 1) := by decide +kernel
theorem dL_law_579 : decode cL_law 579 = .ok (.aload_n 0, 1) := by decide +kernel
theorem dL_law_580 : decode cL_law 580 = .ok (.iload_n 3, 1) := by decide +kernel
theorem dL_law_581 : decode cL_law 581 = .ok (.iconst 1, 1) := by decide +kernel
theorem dL_law_582 : decode cL_law 582 = .ok (.iadd, 1) := by decide +kernel
theorem dL_law_583 : decode cL_law 583 = .ok (.iaload, 1) := by decide +kernel
theorem dL_law_584 : decode cL_law 584 = .ok (.i2l, 1) := by decide +kernel
theorem dL_law_585 : decode cL_law 585 = .ok (.bipush 32, 2) := by decide +kernel
theorem dL_law_587 : decode cL_law 587 = .ok (.lshl, 1) := by decide +kernel
theorem dL_law_588 : decode cL_law 588 = .ok (.aload_n 0, 1) := by decide +kernel
theorem dL_law_589 : decode cL_law 589 = .ok (.iload_n 3, 1) := by decide +kernel
theorem dL_law_590 : decode cL_law 590 = .ok (.iconst 2, 1) := by decide +kernel
theorem dL_law_591 : decode cL_law 591 = .ok (.iadd, 1) := by decide +kernel
theorem dL_law_592 : decode cL_law 592 = .ok (.iaload, 1) := by decide +kernel
theorem dL_law_593 : decode cL_law 593 = .ok (.i2l, 1) := by decide +kernel
theorem dL_law_594 : decode cL_law 594 = .ok (.ldc2_w 46, 3) := by decide +kernel
theorem dL_law_597 : decode cL_law 597 = .ok (.land, 1) := by decide +kernel
theorem dL_law_598 : decode cL_law 598 = .ok (.lor, 1) := by decide +kernel
theorem dL_law_599 : decode cL_law 599 = .ok (.aload_n 0, 1) := by decide +kernel
theorem dL_law_600 : decode cL_law 600 = .ok (.iload_n 3, 1) := by decide +kernel
theorem dL_law_601 : decode cL_law 601 = .ok (.iconst 3, 1) := by decide +kernel
theorem dL_law_602 : decode cL_law 602 = .ok (.iadd, 1) := by decide +kernel
theorem dL_law_603 : decode cL_law 603 = .ok (.iaload, 1) := by decide +kernel
theorem dL_law_604 : decode cL_law 604 = .ok (.i2l, 1) := by decide +kernel
theorem dL_law_605 : decode cL_law 605 = .ok (.bipush 32, 2) := by decide +kernel
theorem dL_law_607 : decode cL_law 607 = .ok (.lshl, 1) := by decide +kernel
theorem dL_law_608 : decode cL_law 608 = .ok (.aload_n 0, 1) := by decide +kernel
theorem dL_law_609 : decode cL_law 609 = .ok (.iload_n 3, 1) := by decide +kernel
theorem dL_law_610 : decode cL_law 610 = .ok (.iconst 4, 1) := by decide +kernel
theorem dL_law_611 : decode cL_law 611 = .ok (.iadd, 1) := by decide +kernel
theorem dL_law_612 : decode cL_law 612 = .ok (.iaload, 1) := by decide +kernel
theorem dL_law_613 : decode cL_law 613 = .ok (.i2l, 1) := by decide +kernel
theorem dL_law_614 : decode cL_law 614 = .ok (.ldc2_w 46, 3) := by decide +kernel
theorem dL_law_617 : decode cL_law 617 = .ok (.land, 1) := by decide +kernel
theorem dL_law_618 : decode cL_law 618 = .ok (.lor, 1) := by decide +kernel
theorem dL_law_619 : decode cL_law 619 = .ok (.invokevirtual 57, 3) := by decide +kernel
theorem dL_law_622 : decode cL_law 622 = .ok (.lcmp, 1) := by decide +kernel
theorem dL_law_623 : decode cL_law 623 = .ok (.ifCond .eq 1754, 3) := by decide +kernel
theorem dL_law_626 : decode cL_law 626 = .ok (.iconst 0, 1) := by decide +kernel
theorem dL_law_627 : decode cL_law 627 = .ok (.ireturn, 1) := by decide +kernel
theorem dL_law_628 : decode cL_law 628 = .ok (.aload_n 1, 1) := by decide +kernel
theorem dL_law_629 : decode cL_law 629 = .ok (.aload_n 0, 1) := by decide +kernel
theorem dL_law_630 : decode cL_law 630 = .ok (.iload_n 3, 1) := by decide +kernel
theorem dL_law_631 : decode cL_law 631 = .ok (.iconst 1, 1) := by decide +kernel
theorem dL_law_632 : decode cL_law 632 = .ok (.iadd, 1) := by decide +kernel
theorem dL_law_633 : decode cL_law 633 = .ok (.iaload, 1) := by decide +kernel
theorem dL_law_634 : decode cL_law 634 = .ok (.i2l, 1) := by decide +kernel
theorem dL_law_635 : decode cL_law 635 = .ok (.bipush 32, 2) := by decide +kernel
theorem dL_law_637 : decode cL_law 637 = .ok (.lshl, 1) := by decide +kernel
theorem dL_law_638 : decode cL_law 638 = .ok (.aload_n 0, 1) := by decide +kernel
theorem dL_law_639 : decode cL_law 639 = .ok (.iload_n 3, 1) := by decide +kernel
theorem dL_law_640 : decode cL_law 640 = .ok (.iconst 2, 1) := by decide +kernel
theorem dL_law_641 : decode cL_law 641 = .ok (.iadd, 1) := by decide +kernel
theorem dL_law_642 : decode cL_law 642 = .ok (.iaload, 1) := by decide +kernel
theorem dL_law_643 : decode cL_law 643 = .ok (.i2l, 1) := by decide +kernel
theorem dL_law_644 : decode cL_law 644 = .ok (.ldc2_w 46, 3) := by decide +kernel
theorem dL_law_647 : decode cL_law 647 = .ok (.land, 1) := by decide +kernel
theorem dL_law_648 : decode cL_law 648 = .ok (.lor, 1) := by decide +kernel
theorem dL_law_649 : decode cL_law 649 = .ok (.invokevirtual 58, 3) := by decide +kernel
theorem dL_law_652 : decode cL_law 652 = .ok (.aload_n 2, 1) := by decide +kernel
theorem dL_law_653 : decode cL_law 653 = .ok (.aload_n 0, 1) := by decide +kernel
theorem dL_law_654 : decode cL_law 654 = .ok (.iload_n 3, 1) := by decide +kernel
theorem dL_law_655 : decode cL_law 655 = .ok (.iconst 1, 1) := by decide +kernel
theorem dL_law_656 : decode cL_law 656 = .ok (.iadd, 1) := by decide +kernel
theorem dL_law_657 : decode cL_law 657 = .ok (.iaload, 1) := by decide +kernel
theorem dL_law_658 : decode cL_law 658 = .ok (.i2l, 1) := by decide +kernel
theorem dL_law_659 : decode cL_law 659 = .ok (.bipush 32, 2) := by decide +kernel
theorem dL_law_661 : decode cL_law 661 = .ok (.lshl, 1) := by decide +kernel
theorem dL_law_662 : decode cL_law 662 = .ok (.aload_n 0, 1) := by decide +kernel
theorem dL_law_663 : decode cL_law 663 = .ok (.iload_n 3, 1) := by decide +kernel
theorem dL_law_664 : decode cL_law 664 = .ok (.iconst 2, 1) := by decide +kernel
theorem dL_law_665 : decode cL_law 665 = .ok (.iadd, 1) := by decide +kernel
theorem dL_law_666 : decode cL_law 666 = .ok (.iaload, 1) := by decide +kernel
theorem dL_law_667 : decode cL_law 667 = .ok (.i2l, 1) := by decide +kernel
theorem dL_law_668 : decode cL_law 668 = .ok (.ldc2_w 46, 3) := by decide +kernel
theorem dL_law_671 : decode cL_law 671 = .ok (.land, 1) := by decide +kernel
theorem dL_law_672 : decode cL_law 672 = .ok (.lor, 1) := by decide +kernel
theorem dL_law_673 : decode cL_law 673 = .ok (.invokevirtual 62, 3) := by decide +kernel
theorem dL_law_676 : decode cL_law 676 = .ok (.lcmp, 1) := by decide +kernel
theorem dL_law_677 : decode cL_law 677 = .ok (.ifCond .eq 1700, 3) := by decide +kernel
theorem dL_law_680 : decode cL_law 680 = .ok (.iconst 0, 1) := by decide +kernel
theorem dL_law_681 : decode cL_law 681 = .ok (.ireturn, 1) := by decide +kernel
theorem dL_law_682 : decode cL_law 682 = .ok (.aload_n 1, 1) := by decide +kernel
theorem dL_law_683 : decode cL_law 683 = .ok (.aload_n 0, 1) := by decide +kernel
theorem dL_law_684 : decode cL_law 684 = .ok (.iload_n 3, 1) := by decide +kernel
theorem dL_law_685 : decode cL_law 685 = .ok (.iconst 1, 1) := by decide +kernel
theorem dL_law_686 : decode cL_law 686 = .ok (.iadd, 1) := by decide +kernel
theorem dL_law_687 : decode cL_law 687 = .ok (.iaload, 1) := by decide +kernel
theorem dL_law_688 : decode cL_law 688 = .ok (.i2l, 1) := by decide +kernel
theorem dL_law_689 : decode cL_law 689 = .ok (.bipush 32, 2) := by decide +kernel
theorem dL_law_691 : decode cL_law 691 = .ok (.lshl, 1) := by decide +kernel
theorem dL_law_692 : decode cL_law 692 = .ok (.aload_n 0, 1) := by decide +kernel
theorem dL_law_693 : decode cL_law 693 = .ok (.iload_n 3, 1) := by decide +kernel
theorem dL_law_694 : decode cL_law 694 = .ok (.iconst 2, 1) := by decide +kernel
theorem dL_law_695 : decode cL_law 695 = .ok (.iadd, 1) := by decide +kernel
theorem dL_law_696 : decode cL_law 696 = .ok (.iaload, 1) := by decide +kernel
theorem dL_law_697 : decode cL_law 697 = .ok (.i2l, 1) := by decide +kernel
theorem dL_law_698 : decode cL_law 698 = .ok (.ldc2_w 46, 3) := by decide +kernel
theorem dL_law_701 : decode cL_law 701 = .ok (.land, 1) := by decide +kernel
theorem dL_law_702 : decode cL_law 702 = .ok (.lor, 1) := by decide +kernel
theorem dL_law_703 : decode cL_law 703 = .ok (.aload_n 0, 1) := by decide +kernel
theorem dL_law_704 : decode cL_law 704 = .ok (.iload_n 3, 1) := by decide +kernel
theorem dL_law_705 : decode cL_law 705 = .ok (.iconst 3, 1) := by decide +kernel
theorem dL_law_706 : decode cL_law 706 = .ok (.iadd, 1) := by decide +kernel
theorem dL_law_707 : decode cL_law 707 = .ok (.iaload, 1) := by decide +kernel
theorem dL_law_708 : decode cL_law 708 = .ok (.invokevirtual 63, 3) := by decide +kernel
theorem dL_law_711 : decode cL_law 711 = .ok (.aload_n 2, 1) := by decide +kernel
theorem dL_law_712 : decode cL_law 712 = .ok (.aload_n 0, 1) := by decide +kernel
theorem dL_law_713 : decode cL_law 713 = .ok (.iload_n 3, 1) := by decide +kernel
theorem dL_law_714 : decode cL_law 714 = .ok (.iconst 1, 1) := by decide +kernel
theorem dL_law_715 : decode cL_law 715 = .ok (.iadd, 1) := by decide +kernel
theorem dL_law_716 : decode cL_law 716 = .ok (.iaload, 1) := by decide +kernel
theorem dL_law_717 : decode cL_law 717 = .ok (.i2l, 1) := by decide +kernel
theorem dL_law_718 : decode cL_law 718 = .ok (.bipush 32, 2) := by decide +kernel
theorem dL_law_720 : decode cL_law 720 = .ok (.lshl, 1) := by decide +kernel
theorem dL_law_721 : decode cL_law 721 = .ok (.aload_n 0, 1) := by decide +kernel
theorem dL_law_722 : decode cL_law 722 = .ok (.iload_n 3, 1) := by decide +kernel
theorem dL_law_723 : decode cL_law 723 = .ok (.iconst 2, 1) := by decide +kernel
theorem dL_law_724 : decode cL_law 724 = .ok (.iadd, 1) := by decide +kernel
theorem dL_law_725 : decode cL_law 725 = .ok (.iaload, 1) := by decide +kernel
theorem dL_law_726 : decode cL_law 726 = .ok (.i2l, 1) := by decide +kernel
theorem dL_law_727 : decode cL_law 727 = .ok (.ldc2_w 46, 3) := by decide +kernel
theorem dL_law_730 : decode cL_law 730 = .ok (.land, 1) := by decide +kernel
theorem dL_law_731 : decode cL_law 731 = .ok (.lor, 1) := by decide +kernel
theorem dL_law_732 : decode cL_law 732 = .ok (.aload_n 0, 1) := by decide +kernel
theorem dL_law_733 : decode cL_law 733 = .ok (.iload_n 3, 1) := by decide +kernel
theorem dL_law_734 : decode cL_law 734 = .ok (.iconst 3, 1) := by decide +kernel
theorem dL_law_735 : decode cL_law 735 = .ok (.iadd, 1) := by decide +kernel
theorem dL_law_736 : decode cL_law 736 = .ok (.iaload, 1) := by decide +kernel
theorem dL_law_737 : decode cL_law 737 = .ok (.invokevirtual 67, 3) := by decide +kernel
theorem dL_law_740 : decode cL_law 740 = .ok (.lcmp, 1) := by decide +kernel
theorem dL_law_741 : decode cL_law 741 = .ok (.ifCond .eq 1636, 3) := by decide +kernel
theorem dL_law_744 : decode cL_law 744 = .ok (.iconst 0, 1) := by decide +kernel
theorem dL_law_745 : decode cL_law 745 = .ok (.ireturn, 1) := by decide +kernel
theorem dL_law_746 : decode cL_law 746 = .ok (.aload_n 1, 1) := by decide +kernel
theorem dL_law_747 : decode cL_law 747 = .ok (.aload_n 0, 1) := by decide +kernel
theorem dL_law_748 : decode cL_law 748 = .ok (.iload_n 3, 1) := by decide +kernel
theorem dL_law_749 : decode cL_law 749 = .ok (.iconst 1, 1) := by decide +kernel
theorem dL_law_750 : decode cL_law 750 = .ok (.iadd, 1) := by decide +kernel
theorem dL_law_751 : decode cL_law 751 = .ok (.iaload, 1) := by decide +kernel
theorem dL_law_752 : decode cL_law 752 = .ok (.i2l, 1) := by decide +kernel
theorem dL_law_753 : decode cL_law 753 = .ok (.bipush 32, 2) := by decide +kernel
theorem dL_law_755 : decode cL_law 755 = .ok (.lshl, 1) := by decide +kernel
theorem dL_law_756 : decode cL_law 756 = .ok (.aload_n 0, 1) := by decide +kernel
theorem dL_law_757 : decode cL_law 757 = .ok (.iload_n 3, 1) := by decide +kernel
theorem dL_law_758 : decode cL_law 758 = .ok (.iconst 2, 1) := by decide +kernel
theorem dL_law_759 : decode cL_law 759 = .ok (.iadd, 1) := by decide +kernel
theorem dL_law_760 : decode cL_law 760 = .ok (.iaload, 1) := by decide +kernel
theorem dL_law_761 : decode cL_law 761 = .ok (.i2l, 1) := by decide +kernel
theorem dL_law_762 : decode cL_law 762 = .ok (.ldc2_w 46, 3) := by decide +kernel
theorem dL_law_765 : decode cL_law 765 = .ok (.land, 1) := by decide +kernel
theorem dL_law_766 : decode cL_law 766 = .ok (.lor, 1) := by decide +kernel
theorem dL_law_767 : decode cL_law 767 = .ok (.aload_n 0, 1) := by decide +kernel
theorem dL_law_768 : decode cL_law 768 = .ok (.iload_n 3, 1) := by decide +kernel
theorem dL_law_769 : decode cL_law 769 = .ok (.iconst 3, 1) := by decide +kernel
theorem dL_law_770 : decode cL_law 770 = .ok (.iadd, 1) := by decide +kernel
theorem dL_law_771 : decode cL_law 771 = .ok (.iaload, 1) := by decide +kernel
theorem dL_law_772 : decode cL_law 772 = .ok (.invokevirtual 68, 3) := by decide +kernel
theorem dL_law_775 : decode cL_law 775 = .ok (.aload_n 2, 1) := by decide +kernel
theorem dL_law_776 : decode cL_law 776 = .ok (.aload_n 0, 1) := by decide +kernel
theorem dL_law_777 : decode cL_law 777 = .ok (.iload_n 3, 1) := by decide +kernel
theorem dL_law_778 : decode cL_law 778 = .ok (.iconst 1, 1) := by decide +kernel
theorem dL_law_779 : decode cL_law 779 = .ok (.iadd, 1) := by decide +kernel
theorem dL_law_780 : decode cL_law 780 = .ok (.iaload, 1) := by decide +kernel
theorem dL_law_781 : decode cL_law 781 = .ok (.i2l, 1) := by decide +kernel
theorem dL_law_782 : decode cL_law 782 = .ok (.bipush 32, 2) := by decide +kernel
theorem dL_law_784 : decode cL_law 784 = .ok (.lshl, 1) := by decide +kernel
theorem dL_law_785 : decode cL_law 785 = .ok (.aload_n 0, 1) := by decide +kernel
theorem dL_law_786 : decode cL_law 786 = .ok (.iload_n 3, 1) := by decide +kernel
theorem dL_law_787 : decode cL_law 787 = .ok (.iconst 2, 1) := by decide +kernel
theorem dL_law_788 : decode cL_law 788 = .ok (.iadd, 1) := by decide +kernel
theorem dL_law_789 : decode cL_law 789 = .ok (.iaload, 1) := by decide +kernel
theorem dL_law_790 : decode cL_law 790 = .ok (.i2l, 1) := by decide +kernel
theorem dL_law_791 : decode cL_law 791 = .ok (.ldc2_w 46, 3) := by decide +kernel
theorem dL_law_794 : decode cL_law 794 = .ok (.land, 1) := by decide +kernel
theorem dL_law_795 : decode cL_law 795 = .ok (.lor, 1) := by decide +kernel
theorem dL_law_796 : decode cL_law 796 = .ok (.aload_n 0, 1) := by decide +kernel
theorem dL_law_797 : decode cL_law 797 = .ok (.iload_n 3, 1) := by decide +kernel
theorem dL_law_798 : decode cL_law 798 = .ok (.iconst 3, 1) := by decide +kernel
theorem dL_law_799 : decode cL_law 799 = .ok (.iadd, 1) := by decide +kernel
theorem dL_law_800 : decode cL_law 800 = .ok (.iaload, 1) := by decide +kernel
theorem dL_law_801 : decode cL_law 801 = .ok (.invokevirtual 71, 3) := by decide +kernel
theorem dL_law_804 : decode cL_law 804 = .ok (.if_icmp .eq 1573, 3) := by decide +kernel
theorem dL_law_807 : decode cL_law 807 = .ok (.iconst 0, 1) := by decide +kernel
theorem dL_law_808 : decode cL_law 808 = .ok (.ireturn, 1) := by decide +kernel
theorem dL_law_809 : decode cL_law 809 = .ok (.aload_n 1, 1) := by decide +kernel
theorem dL_law_810 : decode cL_law 810 = .ok (.aload_n 0, 1) := by decide +kernel
theorem dL_law_811 : decode cL_law 811 = .ok (.iload_n 3, 1) := by decide +kernel
theorem dL_law_812 : decode cL_law 812 = .ok (.iconst 1, 1) := by decide +kernel
theorem dL_law_813 : decode cL_law 813 = .ok (.iadd, 1) := by decide +kernel
theorem dL_law_814 : decode cL_law 814 = .ok (.iaload, 1) := by decide +kernel
theorem dL_law_815 : decode cL_law 815 = .ok (.invokevirtual 72, 3) := by decide +kernel
theorem dL_law_818 : decode cL_law 818 = .ok (.aload_n 2, 1) := by decide +kernel
theorem dL_law_819 : decode cL_law 819 = .ok (.aload_n 0, 1) := by decide +kernel
theorem dL_law_820 : decode cL_law 820 = .ok (.iload_n 3, 1) := by decide +kernel
theorem dL_law_821 : decode cL_law 821 = .ok (.iconst 1, 1) := by decide +kernel
theorem dL_law_822 : decode cL_law 822 = .ok (.iadd, 1) := by decide +kernel
theorem dL_law_823 : decode cL_law 823 = .ok (.iaload, 1) := by decide +kernel
theorem dL_law_824 : decode cL_law 824 = .ok (.invokevirtual 75, 3) := by decide +kernel
theorem dL_law_827 : decode cL_law 827 = .ok (.if_icmp .eq 1550, 3) := by decide +kernel
theorem dL_law_830 : decode cL_law 830 = .ok (.iconst 0, 1) := by decide +kernel
theorem dL_law_831 : decode cL_law 831 = .ok (.ireturn, 1) := by decide +kernel
theorem dL_law_832 : decode cL_law 832 = .ok (.aload_n 1, 1) := by decide +kernel
theorem dL_law_833 : decode cL_law 833 = .ok (.invokevirtual 76, 3) := by decide +kernel
theorem dL_law_836 : decode cL_law 836 = .ok (.aload_n 2, 1) := by decide +kernel
theorem dL_law_837 : decode cL_law 837 = .ok (.invokevirtual 79, 3) := by decide +kernel
theorem dL_law_840 : decode cL_law 840 = .ok (.if_icmp .eq 1537, 3) := by decide +kernel
theorem dL_law_843 : decode cL_law 843 = .ok (.iconst 0, 1) := by decide +kernel
theorem dL_law_844 : decode cL_law 844 = .ok (.ireturn, 1) := by decide +kernel
theorem dL_law_845 : decode cL_law 845 = .ok (.aload_n 1, 1) := by decide +kernel
theorem dL_law_846 : decode cL_law 846 = .ok (.aload_n 0, 1) := by decide +kernel
theorem dL_law_847 : decode cL_law 847 = .ok (.iload_n 3, 1) := by decide +kernel
theorem dL_law_848 : decode cL_law 848 = .ok (.iconst 1, 1) := by decide +kernel
theorem dL_law_849 : decode cL_law 849 = .ok (.iadd, 1) := by decide +kernel
theorem dL_law_850 : decode cL_law 850 = .ok (.iaload, 1) := by decide +kernel
theorem dL_law_851 : decode cL_law 851 = .ok (.invokevirtual 80, 3) := by decide +kernel
theorem dL_law_854 : decode cL_law 854 = .ok (.aload_n 2, 1) := by decide +kernel
theorem dL_law_855 : decode cL_law 855 = .ok (.aload_n 0, 1) := by decide +kernel
theorem dL_law_856 : decode cL_law 856 = .ok (.iload_n 3, 1) := by decide +kernel
theorem dL_law_857 : decode cL_law 857 = .ok (.iconst 1, 1) := by decide +kernel
theorem dL_law_858 : decode cL_law 858 = .ok (.iadd, 1) := by decide +kernel
theorem dL_law_859 : decode cL_law 859 = .ok (.iaload, 1) := by decide +kernel
theorem dL_law_860 : decode cL_law 860 = .ok (.invokevirtual 83, 3) := by decide +kernel
theorem dL_law_863 : decode cL_law 863 = .ok (.if_icmp .eq 1514, 3) := by decide +kernel
theorem dL_law_866 : decode cL_law 866 = .ok (.iconst 0, 1) := by decide +kernel
theorem dL_law_867 : decode cL_law 867 = .ok (.ireturn, 1) := by decide +kernel
theorem dL_law_868 : decode cL_law 868 = .ok (.aload_n 1, 1) := by decide +kernel
theorem dL_law_869 : decode cL_law 869 = .ok (.aload_n 0, 1) := by decide +kernel
theorem dL_law_870 : decode cL_law 870 = .ok (.iload_n 3, 1) := by decide +kernel
theorem dL_law_871 : decode cL_law 871 = .ok (.iconst 1, 1) := by decide +kernel
theorem dL_law_872 : decode cL_law 872 = .ok (.iadd, 1) := by decide +kernel
theorem dL_law_873 : decode cL_law 873 = .ok (.iaload, 1) := by decide +kernel
theorem dL_law_874 : decode cL_law 874 = .ok (.invokevirtual 84, 3) := by decide +kernel
theorem dL_law_877 : decode cL_law 877 = .ok (.aload_n 2, 1) := by decide +kernel
theorem dL_law_878 : decode cL_law 878 = .ok (.aload_n 0, 1) := by decide +kernel
theorem dL_law_879 : decode cL_law 879 = .ok (.iload_n 3, 1) := by decide +kernel
theorem dL_law_880 : decode cL_law 880 = .ok (.iconst 1, 1) := by decide +kernel
theorem dL_law_881 : decode cL_law 881 = .ok (.iadd, 1) := by decide +kernel
theorem dL_law_882 : decode cL_law 882 = .ok (.iaload, 1) := by decide +kernel
theorem dL_law_883 : decode cL_law 883 = .ok (.invokevirtual 87, 3) := by decide +kernel
theorem dL_law_886 : decode cL_law 886 = .ok (.if_icmp .eq 1491, 3) := by decide +kernel
theorem dL_law_889 : decode cL_law 889 = .ok (.iconst 0, 1) := by decide +kernel
theorem dL_law_890 : decode cL_law 890 = .ok (.ireturn, 1) := by decide +kernel
theorem dL_law_891 : decode cL_law 891 = .ok (.aload_n 1, 1) := by decide +kernel
theorem dL_law_892 : decode cL_law 892 = .ok (.invokevirtual 88, 3) := by decide +kernel
theorem dL_law_895 : decode cL_law 895 = .ok (.aload_n 2, 1) := by decide +kernel
theorem dL_law_896 : decode cL_law 896 = .ok (.invokevirtual 91, 3) := by decide +kernel
theorem dL_law_899 : decode cL_law 899 = .ok (.if_icmp .eq 1478, 3) := by decide +kernel
theorem dL_law_902 : decode cL_law 902 = .ok (.iconst 0, 1) := by decide +kernel
theorem dL_law_903 : decode cL_law 903 = .ok (.ireturn, 1) := by decide +kernel
theorem dL_law_904 : decode cL_law 904 = .ok (.aload_n 1, 1) := by decide +kernel
theorem dL_law_905 : decode cL_law 905 = .ok (.aload_n 0, 1) := by decide +kernel
theorem dL_law_906 : decode cL_law 906 = .ok (.iload_n 3, 1) := by decide +kernel
theorem dL_law_907 : decode cL_law 907 = .ok (.iconst 1, 1) := by decide +kernel
theorem dL_law_908 : decode cL_law 908 = .ok (.iadd, 1) := by decide +kernel
theorem dL_law_909 : decode cL_law 909 = .ok (.iaload, 1) := by decide +kernel
theorem dL_law_910 : decode cL_law 910 = .ok (.i2l, 1) := by decide +kernel
theorem dL_law_911 : decode cL_law 911 = .ok (.bipush 32, 2) := by decide +kernel
theorem dL_law_913 : decode cL_law 913 = .ok (.lshl, 1) := by decide +kernel
theorem dL_law_914 : decode cL_law 914 = .ok (.aload_n 0, 1) := by decide +kernel
theorem dL_law_915 : decode cL_law 915 = .ok (.iload_n 3, 1) := by decide +kernel
theorem dL_law_916 : decode cL_law 916 = .ok (.iconst 2, 1) := by decide +kernel
theorem dL_law_917 : decode cL_law 917 = .ok (.iadd, 1) := by decide +kernel
theorem dL_law_918 : decode cL_law 918 = .ok (.iaload, 1) := by decide +kernel
theorem dL_law_919 : decode cL_law 919 = .ok (.i2l, 1) := by decide +kernel
theorem dL_law_920 : decode cL_law 920 = .ok (.ldc2_w 46, 3) := by decide +kernel
theorem dL_law_923 : decode cL_law 923 = .ok (.land, 1) := by decide +kernel
theorem dL_law_924 : decode cL_law 924 = .ok (.lor, 1) := by decide +kernel
theorem dL_law_925 : decode cL_law 925 = .ok (.invokevirtual 92, 3) := by decide +kernel
theorem dL_law_928 : decode cL_law 928 = .ok (.aload_n 2, 1) := by decide +kernel
theorem dL_law_929 : decode cL_law 929 = .ok (.aload_n 0, 1) := by decide +kernel
theorem dL_law_930 : decode cL_law 930 = .ok (.iload_n 3, 1) := by decide +kernel
theorem dL_law_931 : decode cL_law 931 = .ok (.iconst 1, 1) := by decide +kernel
theorem dL_law_932 : decode cL_law 932 = .ok (.iadd, 1) := by decide +kernel
theorem dL_law_933 : decode cL_law 933 = .ok (.iaload, 1) := by decide +kernel
theorem dL_law_934 : decode cL_law 934 = .ok (.i2l, 1) := by decide +kernel
theorem dL_law_935 : decode cL_law 935 = .ok (.bipush 32, 2) := by decide +kernel
theorem dL_law_937 : decode cL_law 937 = .ok (.lshl, 1) := by decide +kernel
theorem dL_law_938 : decode cL_law 938 = .ok (.aload_n 0, 1) := by decide +kernel
theorem dL_law_939 : decode cL_law 939 = .ok (.iload_n 3, 1) := by decide +kernel
theorem dL_law_940 : decode cL_law 940 = .ok (.iconst 2, 1) := by decide +kernel
theorem dL_law_941 : decode cL_law 941 = .ok (.iadd, 1) := by decide +kernel
theorem dL_law_942 : decode cL_law 942 = .ok (.iaload, 1) := by decide +kernel
theorem dL_law_943 : decode cL_law 943 = .ok (.i2l, 1) := by decide +kernel
theorem dL_law_944 : decode cL_law 944 = .ok (.ldc2_w 46, 3) := by decide +kernel
theorem dL_law_947 : decode cL_law 947 = .ok (.land, 1) := by decide +kernel
theorem dL_law_948 : decode cL_law 948 = .ok (.lor, 1) := by decide +kernel
theorem dL_law_949 : decode cL_law 949 = .ok (.invokevirtual 96, 3) := by decide +kernel
theorem dL_law_952 : decode cL_law 952 = .ok (.if_icmp .eq 1425, 3) := by decide +kernel
theorem dL_law_955 : decode cL_law 955 = .ok (.iconst 0, 1) := by decide +kernel
theorem dL_law_956 : decode cL_law 956 = .ok (.ireturn, 1) := by decide +kernel
theorem dL_law_957 : decode cL_law 957 = .ok (.aload_n 1, 1) := by decide +kernel
theorem dL_law_958 : decode cL_law 958 = .ok (.aload_n 0, 1) := by decide +kernel
theorem dL_law_959 : decode cL_law 959 = .ok (.iload_n 3, 1) := by decide +kernel
theorem dL_law_960 : decode cL_law 960 = .ok (.iconst 1, 1) := by decide +kernel
theorem dL_law_961 : decode cL_law 961 = .ok (.iadd, 1) := by decide +kernel
theorem dL_law_962 : decode cL_law 962 = .ok (.iaload, 1) := by decide +kernel
theorem dL_law_963 : decode cL_law 963 = .ok (.i2l, 1) := by decide +kernel
theorem dL_law_964 : decode cL_law 964 = .ok (.bipush 32, 2) := by decide +kernel
theorem dL_law_966 : decode cL_law 966 = .ok (.lshl, 1) := by decide +kernel
theorem dL_law_967 : decode cL_law 967 = .ok (.aload_n 0, 1) := by decide +kernel
theorem dL_law_968 : decode cL_law 968 = .ok (.iload_n 3, 1) := by decide +kernel
theorem dL_law_969 : decode cL_law 969 = .ok (.iconst 2, 1) := by decide +kernel
theorem dL_law_970 : decode cL_law 970 = .ok (.iadd, 1) := by decide +kernel
theorem dL_law_971 : decode cL_law 971 = .ok (.iaload, 1) := by decide +kernel
theorem dL_law_972 : decode cL_law 972 = .ok (.i2l, 1) := by decide +kernel
theorem dL_law_973 : decode cL_law 973 = .ok (.ldc2_w 46, 3) := by decide +kernel
theorem dL_law_976 : decode cL_law 976 = .ok (.land, 1) := by decide +kernel
theorem dL_law_977 : decode cL_law 977 = .ok (.lor, 1) := by decide +kernel
theorem dL_law_978 : decode cL_law 978 = .ok (.invokevirtual 97, 3) := by decide +kernel
theorem dL_law_981 : decode cL_law 981 = .ok (.aload_n 2, 1) := by decide +kernel
theorem dL_law_982 : decode cL_law 982 = .ok (.aload_n 0, 1) := by decide +kernel
theorem dL_law_983 : decode cL_law 983 = .ok (.iload_n 3, 1) := by decide +kernel
theorem dL_law_984 : decode cL_law 984 = .ok (.iconst 1, 1) := by decide +kernel
theorem dL_law_985 : decode cL_law 985 = .ok (.iadd, 1) := by decide +kernel
theorem dL_law_986 : decode cL_law 986 = .ok (.iaload, 1) := by decide +kernel
theorem dL_law_987 : decode cL_law 987 = .ok (.i2l, 1) := by decide +kernel
theorem dL_law_988 : decode cL_law 988 = .ok (.bipush 32, 2) := by decide +kernel
theorem dL_law_990 : decode cL_law 990 = .ok (.lshl, 1) := by decide +kernel
theorem dL_law_991 : decode cL_law 991 = .ok (.aload_n 0, 1) := by decide +kernel
theorem dL_law_992 : decode cL_law 992 = .ok (.iload_n 3, 1) := by decide +kernel
theorem dL_law_993 : decode cL_law 993 = .ok (.iconst 2, 1) := by decide +kernel
theorem dL_law_994 : decode cL_law 994 = .ok (.iadd, 1) := by decide +kernel
theorem dL_law_995 : decode cL_law 995 = .ok (.iaload, 1) := by decide +kernel
theorem dL_law_996 : decode cL_law 996 = .ok (.i2l, 1) := by decide +kernel
theorem dL_law_997 : decode cL_law 997 = .ok (.ldc2_w 46, 3) := by decide +kernel
theorem dL_law_1000 : decode cL_law 1000 = .ok (.land, 1) := by decide +kernel
theorem dL_law_1001 : decode cL_law 1001 = .ok (.lor, 1) := by decide +kernel
theorem dL_law_1002 : decode cL_law 1002 = .ok (.invokevirtual 100, 3) := by decide +kernel
theorem dL_law_1005 : decode cL_law 1005 = .ok (.if_icmp .eq 1372, 3) := by decide +kernel
theorem dL_law_1008 : decode cL_law 1008 = .ok (.iconst 0, 1) := by decide +kernel
theorem dL_law_1009 : decode cL_law 1009 = .ok (.ireturn, 1) := by decide +kernel
theorem dL_law_1010 : decode cL_law 1010 = .ok (.aload_n 1, 1) := by decide +kernel
theorem dL_law_1011 : decode cL_law 1011 = .ok (.aload_n 0, 1) := by decide +kernel
theorem dL_law_1012 : decode cL_law 1012 = .ok (.iload_n 3, 1) := by decide +kernel
theorem dL_law_1013 : decode cL_law 1013 = .ok (.iconst 1, 1) := by decide +kernel
theorem dL_law_1014 : decode cL_law 1014 = .ok (.iadd, 1) := by decide +kernel
theorem dL_law_1015 : decode cL_law 1015 = .ok (.iaload, 1) := by decide +kernel
theorem dL_law_1016 : decode cL_law 1016 = .ok (.invokevirtual 101, 3) := by decide +kernel
theorem dL_law_1019 : decode cL_law 1019 = .ok (.aload_n 2, 1) := by decide +kernel
theorem dL_law_1020 : decode cL_law 1020 = .ok (.aload_n 0, 1) := by decide +kernel
theorem dL_law_1021 : decode cL_law 1021 = .ok (.iload_n 3, 1) := by decide +kernel
theorem dL_law_1022 : decode cL_law 1022 = .ok (.iconst 1, 1) := by decide +kernel
theorem dL_law_1023 : decode cL_law 1023 = .ok (.iadd, 1) := by decide +kernel
theorem dL_law_1024 : decode cL_law 1024 = .ok (.iaload, 1) := by decide +kernel
theorem dL_law_1025 : decode cL_law 1025 = .ok (.invokevirtual 104, 3) := by decide +kernel
theorem dL_law_1028 : decode cL_law 1028 = .ok (.lcmp, 1) := by decide +kernel
theorem dL_law_1029 : decode cL_law 1029 = .ok (.ifCond .eq 1348, 3) := by decide +kernel
theorem dL_law_1032 : decode cL_law 1032 = .ok (.iconst 0, 1) := by decide +kernel
theorem dL_law_1033 : decode cL_law 1033 = .ok (.ireturn, 1) := by decide +kernel
theorem dL_law_1034 : decode cL_law 1034 = .ok (.aload_n 1, 1) := by decide +kernel
theorem dL_law_1035 : decode cL_law 1035 = .ok (.aload_n 0, 1) := by decide +kernel
theorem dL_law_1036 : decode cL_law 1036 = .ok (.iload_n 3, 1) := by decide +kernel
theorem dL_law_1037 : decode cL_law 1037 = .ok (.iconst 1, 1) := by decide +kernel
theorem dL_law_1038 : decode cL_law 1038 = .ok (.iadd, 1) := by decide +kernel
theorem dL_law_1039 : decode cL_law 1039 = .ok (.iaload, 1) := by decide +kernel
theorem dL_law_1040 : decode cL_law 1040 = .ok (.i2l, 1) := by decide +kernel
theorem dL_law_1041 : decode cL_law 1041 = .ok (.bipush 32, 2) := by decide +kernel
theorem dL_law_1043 : decode cL_law 1043 = .ok (.lshl, 1) := by decide +kernel
theorem dL_law_1044 : decode cL_law 1044 = .ok (.aload_n 0, 1) := by decide +kernel
theorem dL_law_1045 : decode cL_law 1045 = .ok (.iload_n 3, 1) := by decide +kernel
theorem dL_law_1046 : decode cL_law 1046 = .ok (.iconst 2, 1) := by decide +kernel
theorem dL_law_1047 : decode cL_law 1047 = .ok (.iadd, 1) := by decide +kernel
theorem dL_law_1048 : decode cL_law 1048 = .ok (.iaload, 1) := by decide +kernel
theorem dL_law_1049 : decode cL_law 1049 = .ok (.i2l, 1) := by decide +kernel
theorem dL_law_1050 : decode cL_law 1050 = .ok (.ldc2_w 46, 3) := by decide +kernel
theorem dL_law_1053 : decode cL_law 1053 = .ok (.land, 1) := by decide +kernel
theorem dL_law_1054 : decode cL_law 1054 = .ok (.lor, 1) := by decide +kernel
theorem dL_law_1055 : decode cL_law 1055 = .ok (.invokevirtual 105, 3) := by decide +kernel
theorem dL_law_1058 : decode cL_law 1058 = .ok (.aload_n 2, 1) := by decide +kernel
theorem dL_law_1059 : decode cL_law 1059 = .ok (.aload_n 0, 1) := by decide +kernel
theorem dL_law_1060 : decode cL_law 1060 = .ok (.iload_n 3, 1) := by decide +kernel
theorem dL_law_1061 : decode cL_law 1061 = .ok (.iconst 1, 1) := by decide +kernel
theorem dL_law_1062 : decode cL_law 1062 = .ok (.iadd, 1) := by decide +kernel
theorem dL_law_1063 : decode cL_law 1063 = .ok (.iaload, 1) := by decide +kernel
theorem dL_law_1064 : decode cL_law 1064 = .ok (.i2l, 1) := by decide +kernel
theorem dL_law_1065 : decode cL_law 1065 = .ok (.bipush 32, 2) := by decide +kernel
theorem dL_law_1067 : decode cL_law 1067 = .ok (.lshl, 1) := by decide +kernel
theorem dL_law_1068 : decode cL_law 1068 = .ok (.aload_n 0, 1) := by decide +kernel
theorem dL_law_1069 : decode cL_law 1069 = .ok (.iload_n 3, 1) := by decide +kernel
theorem dL_law_1070 : decode cL_law 1070 = .ok (.iconst 2, 1) := by decide +kernel
theorem dL_law_1071 : decode cL_law 1071 = .ok (.iadd, 1) := by decide +kernel
theorem dL_law_1072 : decode cL_law 1072 = .ok (.iaload, 1) := by decide +kernel
theorem dL_law_1073 : decode cL_law 1073 = .ok (.i2l, 1) := by decide +kernel
theorem dL_law_1074 : decode cL_law 1074 = .ok (.ldc2_w 46, 3) := by decide +kernel
theorem dL_law_1077 : decode cL_law 1077 = .ok (.land, 1) := by decide +kernel
theorem dL_law_1078 : decode cL_law 1078 = .ok (.lor, 1) := by decide +kernel
theorem dL_law_1079 : decode cL_law 1079 = .ok (.invokevirtual 108, 3) := by decide +kernel
theorem dL_law_1082 : decode cL_law 1082 = .ok (.if_icmp .eq 1295, 3) := by decide +kernel
theorem dL_law_1085 : decode cL_law 1085 = .ok (.iconst 0, 1) := by decide +kernel
theorem dL_law_1086 : decode cL_law 1086 = .ok (.ireturn, 1) := by decide +kernel
theorem dL_law_1087 : decode cL_law 1087 = .ok (.aload_n 1, 1) := by decide +kernel
theorem dL_law_1088 : decode cL_law 1088 = .ok (.aload_n 0, 1) := by decide +kernel
theorem dL_law_1089 : decode cL_law 1089 = .ok (.iload_n 3, 1) := by decide +kernel
theorem dL_law_1090 : decode cL_law 1090 = .ok (.iconst 1, 1) := by decide +kernel
theorem dL_law_1091 : decode cL_law 1091 = .ok (.iadd, 1) := by decide +kernel
theorem dL_law_1092 : decode cL_law 1092 = .ok (.iaload, 1) := by decide +kernel
theorem dL_law_1093 : decode cL_law 1093 = .ok (.i2l, 1) := by decide +kernel
theorem dL_law_1094 : decode cL_law 1094 = .ok (.bipush 32, 2) := by decide +kernel
theorem dL_law_1096 : decode cL_law 1096 = .ok (.lshl, 1) := by decide +kernel
theorem dL_law_1097 : decode cL_law 1097 = .ok (.aload_n 0, 1) := by decide +kernel
theorem dL_law_1098 : decode cL_law 1098 = .ok (.iload_n 3, 1) := by decide +kernel
theorem dL_law_1099 : decode cL_law 1099 = .ok (.iconst 2, 1) := by decide +kernel
theorem dL_law_1100 : decode cL_law 1100 = .ok (.iadd, 1) := by decide +kernel
theorem dL_law_1101 : decode cL_law 1101 = .ok (.iaload, 1) := by decide +kernel
theorem dL_law_1102 : decode cL_law 1102 = .ok (.i2l, 1) := by decide +kernel
theorem dL_law_1103 : decode cL_law 1103 = .ok (.ldc2_w 46, 3) := by decide +kernel
theorem dL_law_1106 : decode cL_law 1106 = .ok (.land, 1) := by decide +kernel
theorem dL_law_1107 : decode cL_law 1107 = .ok (.lor, 1) := by decide +kernel
theorem dL_law_1108 : decode cL_law 1108 = .ok (.aload_n 0, 1) := by decide +kernel
theorem dL_law_1109 : decode cL_law 1109 = .ok (.iload_n 3, 1) := by decide +kernel
theorem dL_law_1110 : decode cL_law 1110 = .ok (.iconst 3, 1) := by decide +kernel
theorem dL_law_1111 : decode cL_law 1111 = .ok (.iadd, 1) := by decide +kernel
theorem dL_law_1112 : decode cL_law 1112 = .ok (.iaload, 1) := by decide +kernel
theorem dL_law_1113 : decode cL_law 1113 = .ok (.invokevirtual 109, 3) := by decide +kernel
theorem dL_law_1116 : decode cL_law 1116 = .ok (.aload_n 2, 1) := by decide +kernel
theorem dL_law_1117 : decode cL_law 1117 = .ok (.aload_n 0, 1) := by decide +kernel
theorem dL_law_1118 : decode cL_law 1118 = .ok (.iload_n 3, 1) := by decide +kernel
theorem dL_law_1119 : decode cL_law 1119 = .ok (.iconst 1, 1) := by decide +kernel
theorem dL_law_1120 : decode cL_law 1120 = .ok (.iadd, 1) := by decide +kernel
theorem dL_law_1121 : decode cL_law 1121 = .ok (.iaload, 1) := by decide +kernel
theorem dL_law_1122 : decode cL_law 1122 = .ok (.i2l, 1) := by decide +kernel
theorem dL_law_1123 : decode cL_law 1123 = .ok (.bipush 32, 2) := by decide +kernel
theorem dL_law_1125 : decode cL_law 1125 = .ok (.lshl, 1) := by decide +kernel
theorem dL_law_1126 : decode cL_law 1126 = .ok (.aload_n 0, 1) := by decide +kernel
theorem dL_law_1127 : decode cL_law 1127 = .ok (.iload_n 3, 1) := by decide +kernel
theorem dL_law_1128 : decode cL_law 1128 = .ok (.iconst 2, 1) := by decide +kernel
theorem dL_law_1129 : decode cL_law 1129 = .ok (.iadd, 1) := by decide +kernel
theorem dL_law_1130 : decode cL_law 1130 = .ok (.iaload, 1) := by decide +kernel
theorem dL_law_1131 : decode cL_law 1131 = .ok (.i2l, 1) := by decide +kernel
theorem dL_law_1132 : decode cL_law 1132 = .ok (.ldc2_w 46, 3) := by decide +kernel
theorem dL_law_1135 : decode cL_law 1135 = .ok (.land, 1) := by decide +kernel
theorem dL_law_1136 : decode cL_law 1136 = .ok (.lor, 1) := by decide +kernel
theorem dL_law_1137 : decode cL_law 1137 = .ok (.aload_n 0, 1) := by decide +kernel
theorem dL_law_1138 : decode cL_law 1138 = .ok (.iload_n 3, 1) := by decide +kernel
theorem dL_law_1139 : decode cL_law 1139 = .ok (.iconst 3, 1) := by decide +kernel
theorem dL_law_1140 : decode cL_law 1140 = .ok (.iadd, 1) := by decide +kernel
theorem dL_law_1141 : decode cL_law 1141 = .ok (.iaload, 1) := by decide +kernel
theorem dL_law_1142 : decode cL_law 1142 = .ok (.invokevirtual 112, 3) := by decide +kernel
theorem dL_law_1145 : decode cL_law 1145 = .ok (.if_icmp .eq 1232, 3) := by decide +kernel
theorem dL_law_1148 : decode cL_law 1148 = .ok (.iconst 0, 1) := by decide +kernel
theorem dL_law_1149 : decode cL_law 1149 = .ok (.ireturn, 1) := by decide +kernel
theorem dL_law_1150 : decode cL_law 1150 = .ok (.aload_n 1, 1) := by decide +kernel
theorem dL_law_1151 : decode cL_law 1151 = .ok (.aload_n 0, 1) := by decide +kernel
theorem dL_law_1152 : decode cL_law 1152 = .ok (.iload_n 3, 1) := by decide +kernel
theorem dL_law_1153 : decode cL_law 1153 = .ok (.iconst 1, 1) := by decide +kernel
theorem dL_law_1154 : decode cL_law 1154 = .ok (.iadd, 1) := by decide +kernel
theorem dL_law_1155 : decode cL_law 1155 = .ok (.iaload, 1) := by decide +kernel
theorem dL_law_1156 : decode cL_law 1156 = .ok (.invokevirtual 113, 3) := by decide +kernel
theorem dL_law_1159 : decode cL_law 1159 = .ok (.aload_n 2, 1) := by decide +kernel
theorem dL_law_1160 : decode cL_law 1160 = .ok (.aload_n 0, 1) := by decide +kernel
theorem dL_law_1161 : decode cL_law 1161 = .ok (.iload_n 3, 1) := by decide +kernel
theorem dL_law_1162 : decode cL_law 1162 = .ok (.iconst 1, 1) := by decide +kernel
theorem dL_law_1163 : decode cL_law 1163 = .ok (.iadd, 1) := by decide +kernel
theorem dL_law_1164 : decode cL_law 1164 = .ok (.iaload, 1) := by decide +kernel
theorem dL_law_1165 : decode cL_law 1165 = .ok (.invokevirtual 116, 3) := by decide +kernel
theorem dL_law_1168 : decode cL_law 1168 = .ok (.if_icmp .eq 1209, 3) := by decide +kernel
theorem dL_law_1171 : decode cL_law 1171 = .ok (.iconst 0, 1) := by decide +kernel
theorem dL_law_1172 : decode cL_law 1172 = .ok (.ireturn, 1) := by decide +kernel
theorem dL_law_1173 : decode cL_law 1173 = .ok (.aload_n 1, 1) := by decide +kernel
theorem dL_law_1174 : decode cL_law 1174 = .ok (.aload_n 0, 1) := by decide +kernel
theorem dL_law_1175 : decode cL_law 1175 = .ok (.iload_n 3, 1) := by decide +kernel
theorem dL_law_1176 : decode cL_law 1176 = .ok (.iconst 1, 1) := by decide +kernel
theorem dL_law_1177 : decode cL_law 1177 = .ok (.iadd, 1) := by decide +kernel
theorem dL_law_1178 : decode cL_law 1178 = .ok (.iaload, 1) := by decide +kernel
theorem dL_law_1179 : decode cL_law 1179 = .ok (.invokevirtual 117, 3) := by decide +kernel
theorem dL_law_1182 : decode cL_law 1182 = .ok (.aload_n 2, 1) := by decide +kernel
theorem dL_law_1183 : decode cL_law 1183 = .ok (.aload_n 0, 1) := by decide +kernel
theorem dL_law_1184 : decode cL_law 1184 = .ok (.iload_n 3, 1) := by decide +kernel
theorem dL_law_1185 : decode cL_law 1185 = .ok (.iconst 1, 1) := by decide +kernel
theorem dL_law_1186 : decode cL_law 1186 = .ok (.iadd, 1) := by decide +kernel
theorem dL_law_1187 : decode cL_law 1187 = .ok (.iaload, 1) := by decide +kernel
theorem dL_law_1188 : decode cL_law 1188 = .ok (.invokevirtual 120, 3) := by decide +kernel
theorem dL_law_1191 : decode cL_law 1191 = .ok (.if_icmp .eq 1186, 3) := by decide +kernel
theorem dL_law_1194 : decode cL_law 1194 = .ok (.iconst 0, 1) := by decide +kernel
theorem dL_law_1195 : decode cL_law 1195 = .ok (.ireturn, 1) := by decide +kernel
theorem dL_law_1196 : decode cL_law 1196 = .ok (.aload_n 1, 1) := by decide +kernel
theorem dL_law_1197 : decode cL_law 1197 = .ok (.aload_n 0, 1) := by decide +kernel
theorem dL_law_1198 : decode cL_law 1198 = .ok (.iload_n 3, 1) := by decide +kernel
theorem dL_law_1199 : decode cL_law 1199 = .ok (.iconst 1, 1) := by decide +kernel
theorem dL_law_1200 : decode cL_law 1200 = .ok (.iadd, 1) := by decide +kernel
theorem dL_law_1201 : decode cL_law 1201 = .ok (.iaload, 1) := by decide +kernel
theorem dL_law_1202 : decode cL_law 1202 = .ok (.invokevirtual 121, 3) := by decide +kernel
theorem dL_law_1205 : decode cL_law 1205 = .ok (.aload_n 2, 1) := by decide +kernel
theorem dL_law_1206 : decode cL_law 1206 = .ok (.aload_n 0, 1) := by decide +kernel
theorem dL_law_1207 : decode cL_law 1207 = .ok (.iload_n 3, 1) := by decide +kernel
theorem dL_law_1208 : decode cL_law 1208 = .ok (.iconst 1, 1) := by decide +kernel
theorem dL_law_1209 : decode cL_law 1209 = .ok (.iadd, 1) := by decide +kernel
theorem dL_law_1210 : decode cL_law 1210 = .ok (.iaload, 1) := by decide +kernel
theorem dL_law_1211 : decode cL_law 1211 = .ok (.invokevirtual 124, 3) := by decide +kernel
theorem dL_law_1214 : decode cL_law 1214 = .ok (.if_icmp .eq 1163, 3) := by decide +kernel
theorem dL_law_1217 : decode cL_law 1217 = .ok (.iconst 0, 1) := by decide +kernel
theorem dL_law_1218 : decode cL_law 1218 = .ok (.ireturn, 1) := by decide +kernel
theorem dL_law_1219 : decode cL_law 1219 = .ok (.aload_n 1, 1) := by decide +kernel
theorem dL_law_1220 : decode cL_law 1220 = .ok (.invokevirtual 125, 3) := by decide +kernel
theorem dL_law_1223 : decode cL_law 1223 = .ok (.aload_n 2, 1) := by decide +kernel
theorem dL_law_1224 : decode cL_law 1224 = .ok (.invokevirtual 128, 3) := by decide +kernel
theorem dL_law_1227 : decode cL_law 1227 = .ok (.if_icmp .eq 1150, 3) := by decide +kernel
theorem dL_law_1230 : decode cL_law 1230 = .ok (.iconst 0, 1) := by decide +kernel
theorem dL_law_1231 : decode cL_law 1231 = .ok (.ireturn, 1) := by decide +kernel
theorem dL_law_1232 : decode cL_law 1232 = .ok (.aload_n 1, 1) := by decide +kernel
theorem dL_law_1233 : decode cL_law 1233 = .ok (.aload_n 0, 1) := by decide +kernel
theorem dL_law_1234 : decode cL_law 1234 = .ok (.iload_n 3, 1) := by decide +kernel
theorem dL_law_1235 : decode cL_law 1235 = .ok (.iconst 1, 1) := by decide +kernel
theorem dL_law_1236 : decode cL_law 1236 = .ok (.iadd, 1) := by decide +kernel
theorem dL_law_1237 : decode cL_law 1237 = .ok (.iaload, 1) := by decide +kernel
theorem dL_law_1238 : decode cL_law 1238 = .ok (.invokevirtual 129, 3) := by decide +kernel
theorem dL_law_1241 : decode cL_law 1241 = .ok (.aload_n 2, 1) := by decide +kernel
theorem dL_law_1242 : decode cL_law 1242 = .ok (.aload_n 0, 1) := by decide +kernel
theorem dL_law_1243 : decode cL_law 1243 = .ok (.iload_n 3, 1) := by decide +kernel
theorem dL_law_1244 : decode cL_law 1244 = .ok (.iconst 1, 1) := by decide +kernel
theorem dL_law_1245 : decode cL_law 1245 = .ok (.iadd, 1) := by decide +kernel
theorem dL_law_1246 : decode cL_law 1246 = .ok (.iaload, 1) := by decide +kernel
theorem dL_law_1247 : decode cL_law 1247 = .ok (.invokevirtual 132, 3) := by decide +kernel
theorem dL_law_1250 : decode cL_law 1250 = .ok (.if_icmp .eq 1127, 3) := by decide +kernel
theorem dL_law_1253 : decode cL_law 1253 = .ok (.iconst 0, 1) := by decide +kernel
theorem dL_law_1254 : decode cL_law 1254 = .ok (.ireturn, 1) := by decide +kernel
theorem dL_law_1255 : decode cL_law 1255 = .ok (.aload_n 1, 1) := by decide +kernel
theorem dL_law_1256 : decode cL_law 1256 = .ok (.aload_n 0, 1) := by decide +kernel
theorem dL_law_1257 : decode cL_law 1257 = .ok (.iload_n 3, 1) := by decide +kernel
theorem dL_law_1258 : decode cL_law 1258 = .ok (.iconst 1, 1) := by decide +kernel
theorem dL_law_1259 : decode cL_law 1259 = .ok (.iadd, 1) := by decide +kernel
theorem dL_law_1260 : decode cL_law 1260 = .ok (.iaload, 1) := by decide +kernel
theorem dL_law_1261 : decode cL_law 1261 = .ok (.invokevirtual 133, 3) := by decide +kernel
theorem dL_law_1264 : decode cL_law 1264 = .ok (.aload_n 2, 1) := by decide +kernel
theorem dL_law_1265 : decode cL_law 1265 = .ok (.aload_n 0, 1) := by decide +kernel
theorem dL_law_1266 : decode cL_law 1266 = .ok (.iload_n 3, 1) := by decide +kernel
theorem dL_law_1267 : decode cL_law 1267 = .ok (.iconst 1, 1) := by decide +kernel
theorem dL_law_1268 : decode cL_law 1268 = .ok (.iadd, 1) := by decide +kernel
theorem dL_law_1269 : decode cL_law 1269 = .ok (.iaload, 1) := by decide +kernel
theorem dL_law_1270 : decode cL_law 1270 = .ok (.invokevirtual 136, 3) := by decide +kernel
theorem dL_law_1273 : decode cL_law 1273 = .ok (.if_icmp .eq 1104, 3) := by decide +kernel
theorem dL_law_1276 : decode cL_law 1276 = .ok (.iconst 0, 1) := by decide +kernel
theorem dL_law_1277 : decode cL_law 1277 = .ok (.ireturn, 1) := by decide +kernel
theorem dL_law_1278 : decode cL_law 1278 = .ok (.aload_n 1, 1) := by decide +kernel
theorem dL_law_1279 : decode cL_law 1279 = .ok (.invokevirtual 137, 3) := by decide +kernel
theorem dL_law_1282 : decode cL_law 1282 = .ok (.aload_n 2, 1) := by decide +kernel
theorem dL_law_1283 : decode cL_law 1283 = .ok (.invokevirtual 140, 3) := by decide +kernel
theorem dL_law_1286 : decode cL_law 1286 = .ok (.if_icmp .eq 1091, 3) := by decide +kernel
theorem dL_law_1289 : decode cL_law 1289 = .ok (.iconst 0, 1) := by decide +kernel
theorem dL_law_1290 : decode cL_law 1290 = .ok (.ireturn, 1) := by decide +kernel
theorem dL_law_1291 : decode cL_law 1291 = .ok (.aload_n 1, 1) := by decide +kernel
theorem dL_law_1292 : decode cL_law 1292 = .ok (.aload_n 0, 1) := by decide +kernel
theorem dL_law_1293 : decode cL_law 1293 = .ok (.iload_n 3, 1) := by decide +kernel
theorem dL_law_1294 : decode cL_law 1294 = .ok (.iconst 1, 1) := by decide +kernel
theorem dL_law_1295 : decode cL_law 1295 = .ok (.iadd, 1) := by decide +kernel
theorem dL_law_1296 : decode cL_law 1296 = .ok (.iaload, 1) := by decide +kernel
theorem dL_law_1297 : decode cL_law 1297 = .ok (.i2l, 1) := by decide +kernel
theorem dL_law_1298 : decode cL_law 1298 = .ok (.bipush 32, 2) := by decide +kernel
theorem dL_law_1300 : decode cL_law 1300 = .ok (.lshl, 1) := by decide +kernel
theorem dL_law_1301 : decode cL_law 1301 = .ok (.aload_n 0, 1) := by decide +kernel
theorem dL_law_1302 : decode cL_law 1302 = .ok (.iload_n 3, 1) := by decide +kernel
theorem dL_law_1303 : decode cL_law 1303 = .ok (.iconst 2, 1) := by decide +kernel
theorem dL_law_1304 : decode cL_law 1304 = .ok (.iadd, 1) := by decide +kernel
theorem dL_law_1305 : decode cL_law 1305 = .ok (.iaload, 1) := by decide +kernel
theorem dL_law_1306 : decode cL_law 1306 = .ok (.i2l, 1) := by decide +kernel
theorem dL_law_1307 : decode cL_law 1307 = .ok (.ldc2_w 46, 3) := by decide +kernel
theorem dL_law_1310 : decode cL_law 1310 = .ok (.land, 1) := by decide +kernel
theorem dL_law_1311 : decode cL_law 1311 = .ok (.lor, 1) := by decide +kernel
theorem dL_law_1312 : decode cL_law 1312 = .ok (.invokevirtual 141, 3) := by decide +kernel
theorem dL_law_1315 : decode cL_law 1315 = .ok (.aload_n 2, 1) := by decide +kernel
theorem dL_law_1316 : decode cL_law 1316 = .ok (.aload_n 0, 1) := by decide +kernel
theorem dL_law_1317 : decode cL_law 1317 = .ok (.iload_n 3, 1) := by decide +kernel
theorem dL_law_1318 : decode cL_law 1318 = .ok (.iconst 1, 1) := by decide +kernel
theorem dL_law_1319 : decode cL_law 1319 = .ok (.iadd, 1) := by decide +kernel
theorem dL_law_1320 : decode cL_law 1320 = .ok (.iaload, 1) := by decide +kernel
theorem dL_law_1321 : decode cL_law 1321 = .ok (.i2l, 1) := by decide +kernel
theorem dL_law_1322 : decode cL_law 1322 = .ok (.bipush 32, 2) := by decide +kernel
theorem dL_law_1324 : decode cL_law 1324 = .ok (.lshl, 1) := by decide +kernel
theorem dL_law_1325 : decode cL_law 1325 = .ok (.aload_n 0, 1) := by decide +kernel
theorem dL_law_1326 : decode cL_law 1326 = .ok (.iload_n 3, 1) := by decide +kernel
theorem dL_law_1327 : decode cL_law 1327 = .ok (.iconst 2, 1) := by decide +kernel
theorem dL_law_1328 : decode cL_law 1328 = .ok (.iadd, 1) := by decide +kernel
theorem dL_law_1329 : decode cL_law 1329 = .ok (.iaload, 1) := by decide +kernel
theorem dL_law_1330 : decode cL_law 1330 = .ok (.i2l, 1) := by decide +kernel
theorem dL_law_1331 : decode cL_law 1331 = .ok (.ldc2_w 46, 3) := by decide +kernel
theorem dL_law_1334 : decode cL_law 1334 = .ok (.land, 1) := by decide +kernel
theorem dL_law_1335 : decode cL_law 1335 = .ok (.lor, 1) := by decide +kernel
theorem dL_law_1336 : decode cL_law 1336 = .ok (.invokevirtual 144, 3) := by decide +kernel
theorem dL_law_1339 : decode cL_law 1339 = .ok (.if_icmp .eq 1038, 3) := by decide +kernel
theorem dL_law_1342 : decode cL_law 1342 = .ok (.iconst 0, 1) := by decide +kernel
theorem dL_law_1343 : decode cL_law 1343 = .ok (.ireturn, 1) := by decide +kernel
theorem dL_law_1344 : decode cL_law 1344 = .ok (.aload_n 1, 1) := by decide +kernel
theorem dL_law_1345 : decode cL_law 1345 = .ok (.aload_n 0, 1) := by decide +kernel
theorem dL_law_1346 : decode cL_law 1346 = .ok (.iload_n 3, 1) := by decide +kernel
theorem dL_law_1347 : decode cL_law 1347 = .ok (.iconst 1, 1) := by decide +kernel
theorem dL_law_1348 : decode cL_law 1348 = .ok (.iadd, 1) := by decide +kernel
theorem dL_law_1349 : decode cL_law 1349 = .ok (.iaload, 1) := by decide +kernel
theorem dL_law_1350 : decode cL_law 1350 = .ok (.invokevirtual 145, 3) := by decide +kernel
theorem dL_law_1353 : decode cL_law 1353 = .ok (.aload_n 2, 1) := by decide +kernel
theorem dL_law_1354 : decode cL_law 1354 = .ok (.aload_n 0, 1) := by decide +kernel
theorem dL_law_1355 : decode cL_law 1355 = .ok (.iload_n 3, 1) := by decide +kernel
theorem dL_law_1356 : decode cL_law 1356 = .ok (.iconst 1, 1) := by decide +kernel
theorem dL_law_1357 : decode cL_law 1357 = .ok (.iadd, 1) := by decide +kernel
theorem dL_law_1358 : decode cL_law 1358 = .ok (.iaload, 1) := by decide +kernel
theorem dL_law_1359 : decode cL_law 1359 = .ok (.invokevirtual 148, 3) := by decide +kernel
theorem dL_law_1362 : decode cL_law 1362 = .ok (.if_icmp .eq 1015, 3) := by decide +kernel
theorem dL_law_1365 : decode cL_law 1365 = .ok (.iconst 0, 1) := by decide +kernel
theorem dL_law_1366 : decode cL_law 1366 = .ok (.ireturn, 1) := by decide +kernel
theorem dL_law_1367 : decode cL_law 1367 = .ok (.aload_n 1, 1) := by decide +kernel
theorem dL_law_1368 : decode cL_law 1368 = .ok (.aload_n 0, 1) := by decide +kernel
theorem dL_law_1369 : decode cL_law 1369 = .ok (.iload_n 3, 1) := by decide +kernel
theorem dL_law_1370 : decode cL_law 1370 = .ok (.iconst 1, 1) := by decide +kernel
theorem dL_law_1371 : decode cL_law 1371 = .ok (.iadd, 1) := by decide +kernel
theorem dL_law_1372 : decode cL_law 1372 = .ok (.iaload, 1) := by decide +kernel
theorem dL_law_1373 : decode cL_law 1373 = .ok (.invokevirtual 149, 3) := by decide +kernel
theorem dL_law_1376 : decode cL_law 1376 = .ok (.aload_n 2, 1) := by decide +kernel
theorem dL_law_1377 : decode cL_law 1377 = .ok (.aload_n 0, 1) := by decide +kernel
theorem dL_law_1378 : decode cL_law 1378 = .ok (.iload_n 3, 1) := by decide +kernel
theorem dL_law_1379 : decode cL_law 1379 = .ok (.iconst 1, 1) := by decide +kernel
theorem dL_law_1380 : decode cL_law 1380 = .ok (.iadd, 1) := by decide +kernel
theorem dL_law_1381 : decode cL_law 1381 = .ok (.iaload, 1) := by decide +kernel
theorem dL_law_1382 : decode cL_law 1382 = .ok (.invokevirtual 152, 3) := by decide +kernel
theorem dL_law_1385 : decode cL_law 1385 = .ok (.if_icmp .eq 992, 3) := by decide +kernel
theorem dL_law_1388 : decode cL_law 1388 = .ok (.iconst 0, 1) := by decide +kernel
theorem dL_law_1389 : decode cL_law 1389 = .ok (.ireturn, 1) := by decide +kernel
theorem dL_law_1390 : decode cL_law 1390 = .ok (.aload_n 1, 1) := by decide +kernel
theorem dL_law_1391 : decode cL_law 1391 = .ok (.aload_n 0, 1) := by decide +kernel
theorem dL_law_1392 : decode cL_law 1392 = .ok (.iload_n 3, 1) := by decide +kernel
theorem dL_law_1393 : decode cL_law 1393 = .ok (.iconst 1, 1) := by decide +kernel
theorem dL_law_1394 : decode cL_law 1394 = .ok (.iadd, 1) := by decide +kernel
theorem dL_law_1395 : decode cL_law 1395 = .ok (.iaload, 1) := by decide +kernel
theorem dL_law_1396 : decode cL_law 1396 = .ok (.i2l, 1) := by decide +kernel
theorem dL_law_1397 : decode cL_law 1397 = .ok (.bipush 32, 2) := by decide +kernel
theorem dL_law_1399 : decode cL_law 1399 = .ok (.lshl, 1) := by decide +kernel
theorem dL_law_1400 : decode cL_law 1400 = .ok (.aload_n 0, 1) := by decide +kernel
theorem dL_law_1401 : decode cL_law 1401 = .ok (.iload_n 3, 1) := by decide +kernel
theorem dL_law_1402 : decode cL_law 1402 = .ok (.iconst 2, 1) := by decide +kernel
theorem dL_law_1403 : decode cL_law 1403 = .ok (.iadd, 1) := by decide +kernel
theorem dL_law_1404 : decode cL_law 1404 = .ok (.iaload, 1) := by decide +kernel
theorem dL_law_1405 : decode cL_law 1405 = .ok (.i2l, 1) := by decide +kernel
theorem dL_law_1406 : decode cL_law 1406 = .ok (.ldc2_w 46, 3) := by decide +kernel
theorem dL_law_1409 : decode cL_law 1409 = .ok (.land, 1) := by decide +kernel
theorem dL_law_1410 : decode cL_law 1410 = .ok (.lor, 1) := by decide +kernel
theorem dL_law_1411 : decode cL_law 1411 = .ok (.aload_n 0, 1) := by decide +kernel
theorem dL_law_1412 : decode cL_law 1412 = .ok (.iload_n 3, 1) := by decide +kernel
theorem dL_law_1413 : decode cL_law 1413 = .ok (.iconst 3, 1) := by decide +kernel
theorem dL_law_1414 : decode cL_law 1414 = .ok (.iadd, 1) := by decide +kernel
theorem dL_law_1415 : decode cL_law 1415 = .ok (.iaload, 1) := by decide +kernel
theorem dL_law_1416 : decode cL_law 1416 = .ok (.i2l, 1) := by decide +kernel
theorem dL_law_1417 : decode cL_law 1417 = .ok (.bipush 32, 2) := by decide +kernel
theorem dL_law_1419 : decode cL_law 1419 = .ok (.lshl, 1) := by decide +kernel
theorem dL_law_1420 : decode cL_law 1420 = .ok (.aload_n 0, 1) := by decide +kernel
theorem dL_law_1421 : decode cL_law 1421 = .ok (.iload_n 3, 1) := by decide +kernel
theorem dL_law_1422 : decode cL_law 1422 = .ok (.iconst 4, 1) := by decide +kernel
theorem dL_law_1423 : decode cL_law 1423 = .ok (.iadd, 1) := by decide +kernel
theorem dL_law_1424 : decode cL_law 1424 = .ok (.iaload, 1) := by decide +kernel
theorem dL_law_1425 : decode cL_law 1425 = .ok (.i2l, 1) := by decide +kernel
theorem dL_law_1426 : decode cL_law 1426 = .ok (.ldc2_w 46, 3) := by decide +kernel
theorem dL_law_1429 : decode cL_law 1429 = .ok (.land, 1) := by decide +kernel
theorem dL_law_1430 : decode cL_law 1430 = .ok (.lor, 1) := by decide +kernel
theorem dL_law_1431 : decode cL_law 1431 = .ok (.invokevirtual 153, 3) := by decide +kernel
theorem dL_law_1434 : decode cL_law 1434 = .ok (.aload_n 2, 1) := by decide +kernel
theorem dL_law_1435 : decode cL_law 1435 = .ok (.aload_n 0, 1) := by decide +kernel
theorem dL_law_1436 : decode cL_law 1436 = .ok (.iload_n 3, 1) := by decide +kernel
theorem dL_law_1437 : decode cL_law 1437 = .ok (.iconst 1, 1) := by decide +kernel
theorem dL_law_1438 : decode cL_law 1438 = .ok (.iadd, 1) := by decide +kernel
theorem dL_law_1439 : decode cL_law 1439 = .ok (.iaload, 1) := by decide +kernel
theorem dL_law_1440 : decode cL_law 1440 = .ok (.i2l, 1) := by decide +kernel
theorem dL_law_1441 : decode cL_law 1441 = .ok (.bipush 32, 2) := by decide +kernel
theorem dL_law_1443 : decode cL_law 1443 = .ok (.lshl, 1) := by decide +kernel
theorem dL_law_1444 : decode cL_law 1444 = .ok (.aload_n 0, 1) := by decide +kernel
theorem dL_law_1445 : decode cL_law 1445 = .ok (.iload_n 3, 1) := by decide +kernel
theorem dL_law_1446 : decode cL_law 1446 = .ok (.iconst 2, 1) := by decide +kernel
theorem dL_law_1447 : decode cL_law 1447 = .ok (.iadd, 1) := by decide +kernel
theorem dL_law_1448 : decode cL_law 1448 = .ok (.iaload, 1) := by decide +kernel
theorem dL_law_1449 : decode cL_law 1449 = .ok (.i2l, 1) := by decide +kernel
theorem dL_law_1450 : decode cL_law 1450 = .ok (.ldc2_w 46, 3) := by decide +kernel
theorem dL_law_1453 : decode cL_law 1453 = .ok (.land, 1) := by decide +kernel
theorem dL_law_1454 : decode cL_law 1454 = .ok (.lor, 1) := by decide +kernel
theorem dL_law_1455 : decode cL_law 1455 = .ok (.aload_n 0, 1) := by decide +kernel
theorem dL_law_1456 : decode cL_law 1456 = .ok (.iload_n 3, 1) := by decide +kernel
theorem dL_law_1457 : decode cL_law 1457 = .ok (.iconst 3, 1) := by decide +kernel
theorem dL_law_1458 : decode cL_law 1458 = .ok (.iadd, 1) := by decide +kernel
theorem dL_law_1459 : decode cL_law 1459 = .ok (.iaload, 1) := by decide +kernel
theorem dL_law_1460 : decode cL_law 1460 = .ok (.i2l, 1) := by decide +kernel
theorem dL_law_1461 : decode cL_law 1461 = .ok (.bipush 32, 2) := by decide +kernel
theorem dL_law_1463 : decode cL_law 1463 = .ok (.lshl, 1) := by decide +kernel
theorem dL_law_1464 : decode cL_law 1464 = .ok (.aload_n 0, 1) := by decide +kernel
theorem dL_law_1465 : decode cL_law 1465 = .ok (.iload_n 3, 1) := by decide +kernel
theorem dL_law_1466 : decode cL_law 1466 = .ok (.iconst 4, 1) := by decide +kernel
theorem dL_law_1467 : decode cL_law 1467 = .ok (.iadd, 1) := by decide +kernel
theorem dL_law_1468 : decode cL_law 1468 = .ok (.iaload, 1) := by decide +kernel
theorem dL_law_1469 : decode cL_law 1469 = .ok (.i2l, 1) := by decide +kernel
theorem dL_law_1470 : decode cL_law 1470 = .ok (.ldc2_w 46, 3) := by decide +kernel
theorem dL_law_1473 : decode cL_law 1473 = .ok (.land, 1) := by decide +kernel
theorem dL_law_1474 : decode cL_law 1474 = .ok (.lor, 1) := by decide +kernel
theorem dL_law_1475 : decode cL_law 1475 = .ok (.invokevirtual 156, 3) := by decide +kernel
theorem dL_law_1478 : decode cL_law 1478 = .ok (.lcmp, 1) := by decide +kernel
theorem dL_law_1479 : decode cL_law 1479 = .ok (.ifCond .eq 898, 3) := by decide +kernel
theorem dL_law_1482 : decode cL_law 1482 = .ok (.iconst 0, 1) := by decide +kernel
theorem dL_law_1483 : decode cL_law 1483 = .ok (.ireturn, 1) := by decide +kernel
theorem dL_law_1484 : decode cL_law 1484 = .ok (.aload_n 1, 1) := by decide +kernel
theorem dL_law_1485 : decode cL_law 1485 = .ok (.aload_n 0, 1) := by decide +kernel
theorem dL_law_1486 : decode cL_law 1486 = .ok (.iload_n 3, 1) := by decide +kernel
theorem dL_law_1487 : decode cL_law 1487 = .ok (.iconst 1, 1) := by decide +kernel
theorem dL_law_1488 : decode cL_law 1488 = .ok (.iadd, 1) := by decide +kernel
theorem dL_law_1489 : decode cL_law 1489 = .ok (.iaload, 1) := by decide +kernel
theorem dL_law_1490 : decode cL_law 1490 = .ok (.i2l, 1) := by decide +kernel
theorem dL_law_1491 : decode cL_law 1491 = .ok (.bipush 32, 2) := by decide +kernel
theorem dL_law_1493 : decode cL_law 1493 = .ok (.lshl, 1) := by decide +kernel
theorem dL_law_1494 : decode cL_law 1494 = .ok (.aload_n 0, 1) := by decide +kernel
theorem dL_law_1495 : decode cL_law 1495 = .ok (.iload_n 3, 1) := by decide +kernel
theorem dL_law_1496 : decode cL_law 1496 = .ok (.iconst 2, 1) := by decide +kernel
theorem dL_law_1497 : decode cL_law 1497 = .ok (.iadd, 1) := by decide +kernel
theorem dL_law_1498 : decode cL_law 1498 = .ok (.iaload, 1) := by decide +kernel
theorem dL_law_1499 : decode cL_law 1499 = .ok (.i2l, 1) := by decide +kernel
theorem dL_law_1500 : decode cL_law 1500 = .ok (.ldc2_w 46, 3) := by decide +kernel
theorem dL_law_1503 : decode cL_law 1503 = .ok (.land, 1) := by decide +kernel
theorem dL_law_1504 : decode cL_law 1504 = .ok (.lor, 1) := by decide +kernel
theorem dL_law_1505 : decode cL_law 1505 = .ok (.aload_n 0, 1) := by decide +kernel
theorem dL_law_1506 : decode cL_law 1506 = .ok (.iload_n 3, 1) := by decide +kernel
theorem dL_law_1507 : decode cL_law 1507 = .ok (.iconst 3, 1) := by decide +kernel
theorem dL_law_1508 : decode cL_law 1508 = .ok (.iadd, 1) := by decide +kernel
theorem dL_law_1509 : decode cL_law 1509 = .ok (.iaload, 1) := by decide +kernel
theorem dL_law_1510 : decode cL_law 1510 = .ok (.i2l, 1) := by decide +kernel
theorem dL_law_1511 : decode cL_law 1511 = .ok (.bipush 32, 2) := by decide +kernel
theorem dL_law_1513 : decode cL_law 1513 = .ok (.lshl, 1) := by decide +kernel
theorem dL_law_1514 : decode cL_law 1514 = .ok (.aload_n 0, 1) := by decide +kernel
theorem dL_law_1515 : decode cL_law 1515 = .ok (.iload_n 3, 1) := by decide +kernel
theorem dL_law_1516 : decode cL_law 1516 = .ok (.iconst 4, 1) := by decide +kernel
theorem dL_law_1517 : decode cL_law 1517 = .ok (.iadd, 1) := by decide +kernel
theorem dL_law_1518 : decode cL_law 1518 = .ok (.iaload, 1) := by decide +kernel
theorem dL_law_1519 : decode cL_law 1519 = .ok (.i2l, 1) := by decide +kernel
theorem dL_law_1520 : decode cL_law 1520 = .ok (.ldc2_w 46, 3) := by decide +kernel
theorem dL_law_1523 : decode cL_law 1523 = .ok (.land, 1) := by decide +kernel
theorem dL_law_1524 : decode cL_law 1524 = .ok (.lor, 1) := by decide +kernel
theorem dL_law_1525 : decode cL_law 1525 = .ok (.invokevirtual 157, 3) := by decide +kernel
theorem dL_law_1528 : decode cL_law 1528 = .ok (.aload_n 2, 1) := by decide +kernel
theorem dL_law_1529 : decode cL_law 1529 = .ok (.aload_n 0, 1) := by decide +kernel
theorem dL_law_1530 : decode cL_law 1530 = .ok (.iload_n 3, 1) := by decide +kernel
theorem dL_law_1531 : decode cL_law 1531 = .ok (.iconst 1, 1) := by decide +kernel
theorem dL_law_1532 : decode cL_law 1532 = .ok (.iadd, 1) := by decide +kernel
theorem dL_law_1533 : decode cL_law 1533 = .ok (.iaload, 1) := by decide +kernel
theorem dL_law_1534 : decode cL_law 1534 = .ok (.i2l, 1) := by decide +kernel
theorem dL_law_1535 : decode cL_law 1535 = .ok (.bipush 32, 2) := by decide +kernel
theorem dL_law_1537 : decode cL_law 1537 = .ok (.lshl, 1) := by decide +kernel
theorem dL_law_1538 : decode cL_law 1538 = .ok (.aload_n 0, 1) := by decide +kernel
theorem dL_law_1539 : decode cL_law 1539 = .ok (.iload_n 3, 1) := by decide +kernel
theorem dL_law_1540 : decode cL_law 1540 = .ok (.iconst 2, 1) := by decide +kernel
theorem dL_law_1541 : decode cL_law 1541 = .ok (.iadd, 1) := by decide +kernel
theorem dL_law_1542 : decode cL_law 1542 = .ok (.iaload, 1) := by decide +kernel
theorem dL_law_1543 : decode cL_law 1543 = .ok (.i2l, 1) := by decide +kernel
theorem dL_law_1544 : decode cL_law 1544 = .ok (.ldc2_w 46, 3) := by decide +kernel
theorem dL_law_1547 : decode cL_law 1547 = .ok (.land, 1) := by decide +kernel
theorem dL_law_1548 : decode cL_law 1548 = .ok (.lor, 1) := by decide +kernel
theorem dL_law_1549 : decode cL_law 1549 = .ok (.aload_n 0, 1) := by decide +kernel
theorem dL_law_1550 : decode cL_law 1550 = .ok (.iload_n 3, 1) := by decide +kernel
theorem dL_law_1551 : decode cL_law 1551 = .ok (.iconst 3, 1) := by decide +kernel
theorem dL_law_1552 : decode cL_law 1552 = .ok (.iadd, 1) := by decide +kernel
theorem dL_law_1553 : decode cL_law 1553 = .ok (.iaload, 1) := by decide +kernel
theorem dL_law_1554 : decode cL_law 1554 = .ok (.i2l, 1) := by decide +kernel
theorem dL_law_1555 : decode cL_law 1555 = .ok (.bipush 32, 2) := by decide +kernel
theorem dL_law_1557 : decode cL_law 1557 = .ok (.lshl, 1) := by decide +kernel
theorem dL_law_1558 : decode cL_law 1558 = .ok (.aload_n 0, 1) := by decide +kernel
theorem dL_law_1559 : decode cL_law 1559 = .ok (.iload_n 3, 1) := by decide +kernel
theorem dL_law_1560 : decode cL_law 1560 = .ok (.iconst 4, 1) := by decide +kernel
theorem dL_law_1561 : decode cL_law 1561 = .ok (.iadd, 1) := by decide +kernel
theorem dL_law_1562 : decode cL_law 1562 = .ok (.iaload, 1) := by decide +kernel
theorem dL_law_1563 : decode cL_law 1563 = .ok (.i2l, 1) := by decide +kernel
theorem dL_law_1564 : decode cL_law 1564 = .ok (.ldc2_w 46, 3) := by decide +kernel
theorem dL_law_1567 : decode cL_law 1567 = .ok (.land, 1) := by decide +kernel
theorem dL_law_1568 : decode cL_law 1568 = .ok (.lor, 1) := by decide +kernel
theorem dL_law_1569 : decode cL_law 1569 = .ok (.invokevirtual 160, 3) := by decide +kernel
theorem dL_law_1572 : decode cL_law 1572 = .ok (.lcmp, 1) := by decide +kernel
theorem dL_law_1573 : decode cL_law 1573 = .ok (.ifCond .eq 804, 3) := by decide +kernel
theorem dL_law_1576 : decode cL_law 1576 = .ok (.iconst 0, 1) := by decide +kernel
theorem dL_law_1577 : decode cL_law 1577 = .ok (.ireturn, 1) := by decide +kernel
theorem dL_law_1578 : decode cL_law 1578 = .ok (.aload_n 1, 1) := by decide +kernel
theorem dL_law_1579 : decode cL_law 1579 = .ok (.aload_n 0, 1) := by decide +kernel
theorem dL_law_1580 : decode cL_law 1580 = .ok (.iload_n 3, 1) := by decide +kernel
theorem dL_law_1581 : decode cL_law 1581 = .ok (.iconst 1, 1) := by decide +kernel
theorem dL_law_1582 : decode cL_law 1582 = .ok (.iadd, 1) := by decide +kernel
theorem dL_law_1583 : decode cL_law 1583 = .ok (.iaload, 1) := by decide +kernel
theorem dL_law_1584 : decode cL_law 1584 = .ok (.i2l, 1) := by decide +kernel
theorem dL_law_1585 : decode cL_law 1585 = .ok (.bipush 32, 2) := by decide +kernel
theorem dL_law_1587 : decode cL_law 1587 = .ok (.lshl, 1) := by decide +kernel
theorem dL_law_1588 : decode cL_law 1588 = .ok (.aload_n 0, 1) := by decide +kernel
theorem dL_law_1589 : decode cL_law 1589 = .ok (.iload_n 3, 1) := by decide +kernel
theorem dL_law_1590 : decode cL_law 1590 = .ok (.iconst 2, 1) := by decide +kernel
theorem dL_law_1591 : decode cL_law 1591 = .ok (.iadd, 1) := by decide +kernel
theorem dL_law_1592 : decode cL_law 1592 = .ok (.iaload, 1) := by decide +kernel
theorem dL_law_1593 : decode cL_law 1593 = .ok (.i2l, 1) := by decide +kernel
theorem dL_law_1594 : decode cL_law 1594 = .ok (.ldc2_w 46, 3) := by decide +kernel
theorem dL_law_1597 : decode cL_law 1597 = .ok (.land, 1) := by decide +kernel
theorem dL_law_1598 : decode cL_law 1598 = .ok (.lor, 1) := by decide +kernel
theorem dL_law_1599 : decode cL_law 1599 = .ok (.aload_n 0, 1) := by decide +kernel
theorem dL_law_1600 : decode cL_law 1600 = .ok (.iload_n 3, 1) := by decide +kernel
theorem dL_law_1601 : decode cL_law 1601 = .ok (.iconst 3, 1) := by decide +kernel
theorem dL_law_1602 : decode cL_law 1602 = .ok (.iadd, 1) := by decide +kernel
theorem dL_law_1603 : decode cL_law 1603 = .ok (.iaload, 1) := by decide +kernel
theorem dL_law_1604 : decode cL_law 1604 = .ok (.i2l, 1) := by decide +kernel
theorem dL_law_1605 : decode cL_law 1605 = .ok (.bipush 32, 2) := by decide +kernel
theorem dL_law_1607 : decode cL_law 1607 = .ok (.lshl, 1) := by decide +kernel
theorem dL_law_1608 : decode cL_law 1608 = .ok (.aload_n 0, 1) := by decide +kernel
theorem dL_law_1609 : decode cL_law 1609 = .ok (.iload_n 3, 1) := by decide +kernel
theorem dL_law_1610 : decode cL_law 1610 = .ok (.iconst 4, 1) := by decide +kernel
theorem dL_law_1611 : decode cL_law 1611 = .ok (.iadd, 1) := by decide +kernel
theorem dL_law_1612 : decode cL_law 1612 = .ok (.iaload, 1) := by decide +kernel
theorem dL_law_1613 : decode cL_law 1613 = .ok (.i2l, 1) := by decide +kernel
theorem dL_law_1614 : decode cL_law 1614 = .ok (.ldc2_w 46, 3) := by decide +kernel
theorem dL_law_1617 : decode cL_law 1617 = .ok (.land, 1) := by decide +kernel
theorem dL_law_1618 : decode cL_law 1618 = .ok (.lor, 1) := by decide +kernel
theorem dL_law_1619 : decode cL_law 1619 = .ok (.invokevirtual 161, 3) := by decide +kernel
theorem dL_law_1622 : decode cL_law 1622 = .ok (.aload_n 2, 1) := by decide +kernel
theorem dL_law_1623 : decode cL_law 1623 = .ok (.aload_n 0, 1) := by decide +kernel
theorem dL_law_1624 : decode cL_law 1624 = .ok (.iload_n 3, 1) := by decide +kernel
theorem dL_law_1625 : decode cL_law 1625 = .ok (.iconst 1, 1) := by decide +kernel
theorem dL_law_1626 : decode cL_law 1626 = .ok (.iadd, 1) := by decide +kernel
theorem dL_law_1627 : decode cL_law 1627 = .ok (.iaload, 1) := by decide +kernel
theorem dL_law_1628 : decode cL_law 1628 = .ok (.i2l, 1) := by decide +kernel
theorem dL_law_1629 : decode cL_law 1629 = .ok (.bipush 32, 2) := by decide +kernel
theorem dL_law_1631 : decode cL_law 1631 = .ok (.lshl, 1) := by decide +kernel
theorem dL_law_1632 : decode cL_law 1632 = .ok (.aload_n 0, 1) := by decide +kernel
theorem dL_law_1633 : decode cL_law 1633 = .ok (.iload_n 3, 1) := by decide +kernel
theorem dL_law_1634 : decode cL_law 1634 = .ok (.iconst 2, 1) := by decide +kernel
theorem dL_law_1635 : decode cL_law 1635 = .ok (.iadd, 1) := by decide +kernel
theorem dL_law_1636 : decode cL_law 1636 = .ok (.iaload, 1) := by decide +kernel
theorem dL_law_1637 : decode cL_law 1637 = .ok (.i2l, 1) := by decide +kernel
theorem dL_law_1638 : decode cL_law 1638 = .ok (.ldc2_w 46, 3) := by decide +kernel
theorem dL_law_1641 : decode cL_law 1641 = .ok (.land, 1) := by decide +kernel
theorem dL_law_1642 : decode cL_law 1642 = .ok (.lor, 1) := by decide +kernel
theorem dL_law_1643 : decode cL_law 1643 = .ok (.aload_n 0, 1) := by decide +kernel
theorem dL_law_1644 : decode cL_law 1644 = .ok (.iload_n 3, 1) := by decide +kernel
theorem dL_law_1645 : decode cL_law 1645 = .ok (.iconst 3, 1) := by decide +kernel
theorem dL_law_1646 : decode cL_law 1646 = .ok (.iadd, 1) := by decide +kernel
theorem dL_law_1647 : decode cL_law 1647 = .ok (.iaload, 1) := by decide +kernel
theorem dL_law_1648 : decode cL_law 1648 = .ok (.i2l, 1) := by decide +kernel
theorem dL_law_1649 : decode cL_law 1649 = .ok (.bipush 32, 2) := by decide +kernel
theorem dL_law_1651 : decode cL_law 1651 = .ok (.lshl, 1) := by decide +kernel
theorem dL_law_1652 : decode cL_law 1652 = .ok (.aload_n 0, 1) := by decide +kernel
theorem dL_law_1653 : decode cL_law 1653 = .ok (.iload_n 3, 1) := by decide +kernel
theorem dL_law_1654 : decode cL_law 1654 = .ok (.iconst 4, 1) := by decide +kernel
theorem dL_law_1655 : decode cL_law 1655 = .ok (.iadd, 1) := by decide +kernel
theorem dL_law_1656 : decode cL_law 1656 = .ok (.iaload, 1) := by decide +kernel
theorem dL_law_1657 : decode cL_law 1657 = .ok (.i2l, 1) := by decide +kernel
theorem dL_law_1658 : decode cL_law 1658 = .ok (.ldc2_w 46, 3) := by decide +kernel
theorem dL_law_1661 : decode cL_law 1661 = .ok (.land, 1) := by decide +kernel
theorem dL_law_1662 : decode cL_law 1662 = .ok (.lor, 1) := by decide +kernel
theorem dL_law_1663 : decode cL_law 1663 = .ok (.invokevirtual 165, 3) := by decide +kernel
theorem dL_law_1666 : decode cL_law 1666 = .ok (.if_icmp .eq 711, 3) := by decide +kernel
theorem dL_law_1669 : decode cL_law 1669 = .ok (.iconst 0, 1) := by decide +kernel
theorem dL_law_1670 : decode cL_law 1670 = .ok (.ireturn, 1) := by decide +kernel
theorem dL_law_1671 : decode cL_law 1671 = .ok (.aload_n 1, 1) := by decide +kernel
theorem dL_law_1672 : decode cL_law 1672 = .ok (.aload_n 0, 1) := by decide +kernel
theorem dL_law_1673 : decode cL_law 1673 = .ok (.iload_n 3, 1) := by decide +kernel
theorem dL_law_1674 : decode cL_law 1674 = .ok (.iconst 1, 1) := by decide +kernel
theorem dL_law_1675 : decode cL_law 1675 = .ok (.iadd, 1) := by decide +kernel
theorem dL_law_1676 : decode cL_law 1676 = .ok (.iaload, 1) := by decide +kernel
theorem dL_law_1677 : decode cL_law 1677 = .ok (.invokevirtual 166, 3) := by decide +kernel
theorem dL_law_1680 : decode cL_law 1680 = .ok (.aload_n 2, 1) := by decide +kernel
theorem dL_law_1681 : decode cL_law 1681 = .ok (.aload_n 0, 1) := by decide +kernel
theorem dL_law_1682 : decode cL_law 1682 = .ok (.iload_n 3, 1) := by decide +kernel
theorem dL_law_1683 : decode cL_law 1683 = .ok (.iconst 1, 1) := by decide +kernel
theorem dL_law_1684 : decode cL_law 1684 = .ok (.iadd, 1) := by decide +kernel
theorem dL_law_1685 : decode cL_law 1685 = .ok (.iaload, 1) := by decide +kernel
theorem dL_law_1686 : decode cL_law 1686 = .ok (.invokevirtual 169, 3) := by decide +kernel
theorem dL_law_1689 : decode cL_law 1689 = .ok (.if_icmp .eq 688, 3) := by decide +kernel
theorem dL_law_1692 : decode cL_law 1692 = .ok (.iconst 0, 1) := by decide +kernel
theorem dL_law_1693 : decode cL_law 1693 = .ok (.ireturn, 1) := by decide +kernel
theorem dL_law_1694 : decode cL_law 1694 = .ok (.aload_n 1, 1) := by decide +kernel
theorem dL_law_1695 : decode cL_law 1695 = .ok (.aload_n 0, 1) := by decide +kernel
theorem dL_law_1696 : decode cL_law 1696 = .ok (.iload_n 3, 1) := by decide +kernel
theorem dL_law_1697 : decode cL_law 1697 = .ok (.iconst 1, 1) := by decide +kernel
theorem dL_law_1698 : decode cL_law 1698 = .ok (.iadd, 1) := by decide +kernel
theorem dL_law_1699 : decode cL_law 1699 = .ok (.iaload, 1) := by decide +kernel
theorem dL_law_1700 : decode cL_law 1700 = .ok (.invokevirtual 170, 3) := by decide +kernel
theorem dL_law_1703 : decode cL_law 1703 = .ok (.aload_n 2, 1) := by decide +kernel
theorem dL_law_1704 : decode cL_law 1704 = .ok (.aload_n 0, 1) := by decide +kernel
theorem dL_law_1705 : decode cL_law 1705 = .ok (.iload_n 3, 1) := by decide +kernel
theorem dL_law_1706 : decode cL_law 1706 = .ok (.iconst 1, 1) := by decide +kernel
theorem dL_law_1707 : decode cL_law 1707 = .ok (.iadd, 1) := by decide +kernel
theorem dL_law_1708 : decode cL_law 1708 = .ok (.iaload, 1) := by decide +kernel
theorem dL_law_1709 : decode cL_law 1709 = .ok (.invokevirtual 173, 3) := by decide +kernel
theorem dL_law_1712 : decode cL_law 1712 = .ok (.if_icmp .eq 665, 3) := by decide +kernel
theorem dL_law_1715 : decode cL_law 1715 = .ok (.iconst 0, 1) := by decide +kernel
theorem dL_law_1716 : decode cL_law 1716 = .ok (.ireturn, 1) := by decide +kernel
theorem dL_law_1717 : decode cL_law 1717 = .ok (.aload_n 1, 1) := by decide +kernel
theorem dL_law_1718 : decode cL_law 1718 = .ok (.aload_n 0, 1) := by decide +kernel
theorem dL_law_1719 : decode cL_law 1719 = .ok (.iload_n 3, 1) := by decide +kernel
theorem dL_law_1720 : decode cL_law 1720 = .ok (.iconst 1, 1) := by decide +kernel
theorem dL_law_1721 : decode cL_law 1721 = .ok (.iadd, 1) := by decide +kernel
theorem dL_law_1722 : decode cL_law 1722 = .ok (.iaload, 1) := by decide +kernel
theorem dL_law_1723 : decode cL_law 1723 = .ok (.aload_n 0, 1) := by decide +kernel
theorem dL_law_1724 : decode cL_law 1724 = .ok (.iload_n 3, 1) := by decide +kernel
theorem dL_law_1725 : decode cL_law 1725 = .ok (.iconst 2, 1) := by decide +kernel
theorem dL_law_1726 : decode cL_law 1726 = .ok (.iadd, 1) := by decide +kernel
theorem dL_law_1727 : decode cL_law 1727 = .ok (.iaload, 1) := by decide +kernel
theorem dL_law_1728 : decode cL_law 1728 = .ok (.invokevirtual 174, 3) := by decide +kernel
theorem dL_law_1731 : decode cL_law 1731 = .ok (.aload_n 2, 1) := by decide +kernel
theorem dL_law_1732 : decode cL_law 1732 = .ok (.aload_n 0, 1) := by decide +kernel
theorem dL_law_1733 : decode cL_law 1733 = .ok (.iload_n 3, 1) := by decide +kernel
theorem dL_law_1734 : decode cL_law 1734 = .ok (.iconst 1, 1) := by decide +kernel
theorem dL_law_1735 : decode cL_law 1735 = .ok (.iadd, 1) := by decide +kernel
theorem dL_law_1736 : decode cL_law 1736 = .ok (.iaload, 1) := by decide +kernel
theorem dL_law_1737 : decode cL_law 1737 = .ok (.aload_n 0, 1) := by decide +kernel
theorem dL_law_1738 : decode cL_law 1738 = .ok (.iload_n 3, 1) := by decide +kernel
theorem dL_law_1739 : decode cL_law 1739 = .ok (.iconst 2, 1) := by decide +kernel
theorem dL_law_1740 : decode cL_law 1740 = .ok (.iadd, 1) := by decide +kernel
theorem dL_law_1741 : decode cL_law 1741 = .ok (.iaload, 1) := by decide +kernel
theorem dL_law_1742 : decode cL_law 1742 = .ok (.invokevirtual 178, 3) := by decide +kernel
theorem dL_law_1745 : decode cL_law 1745 = .ok (.if_icmp .eq 632, 3) := by decide +kernel
theorem dL_law_1748 : decode cL_law 1748 = .ok (.iconst 0, 1) := by decide +kernel
theorem dL_law_1749 : decode cL_law 1749 = .ok (.ireturn, 1) := by decide +kernel
theorem dL_law_1750 : decode cL_law 1750 = .ok (.aload_n 1, 1) := by decide +kernel
theorem dL_law_1751 : decode cL_law 1751 = .ok (.aload_n 0, 1) := by decide +kernel
theorem dL_law_1752 : decode cL_law 1752 = .ok (.iload_n 3, 1) := by decide +kernel
theorem dL_law_1753 : decode cL_law 1753 = .ok (.iconst 1, 1) := by decide +kernel
theorem dL_law_1754 : decode cL_law 1754 = .ok (.iadd, 1) := by decide +kernel
theorem dL_law_1755 : decode cL_law 1755 = .ok (.iaload, 1) := by decide +kernel
theorem dL_law_1756 : decode cL_law 1756 = .ok (.invokevirtual 179, 3) := by decide +kernel
theorem dL_law_1759 : decode cL_law 1759 = .ok (.aload_n 2, 1) := by decide +kernel
theorem dL_law_1760 : decode cL_law 1760 = .ok (.aload_n 0, 1) := by decide +kernel
theorem dL_law_1761 : decode cL_law 1761 = .ok (.iload_n 3, 1) := by decide +kernel
theorem dL_law_1762 : decode cL_law 1762 = .ok (.iconst 1, 1) := by decide +kernel
theorem dL_law_1763 : decode cL_law 1763 = .ok (.iadd, 1) := by decide +kernel
theorem dL_law_1764 : decode cL_law 1764 = .ok (.iaload, 1) := by decide +kernel
theorem dL_law_1765 : decode cL_law 1765 = .ok (.invokevirtual 182, 3) := by decide +kernel
theorem dL_law_1768 : decode cL_law 1768 = .ok (.if_icmp .eq 609, 3) := by decide +kernel
theorem dL_law_1771 : decode cL_law 1771 = .ok (.iconst 0, 1) := by decide +kernel
theorem dL_law_1772 : decode cL_law 1772 = .ok (.ireturn, 1) := by decide +kernel
theorem dL_law_1773 : decode cL_law 1773 = .ok (.aload_n 1, 1) := by decide +kernel
theorem dL_law_1774 : decode cL_law 1774 = .ok (.invokevirtual 183, 3) := by decide +kernel
theorem dL_law_1777 : decode cL_law 1777 = .ok (.aload_n 2, 1) := by decide +kernel
theorem dL_law_1778 : decode cL_law 1778 = .ok (.invokevirtual 186, 3) := by decide +kernel
theorem dL_law_1781 : decode cL_law 1781 = .ok (.if_icmp .eq 596, 3) := by decide +kernel
theorem dL_law_1784 : decode cL_law 1784 = .ok (.iconst 0, 1) := by decide +kernel
theorem dL_law_1785 : decode cL_law 1785 = .ok (.ireturn, 1) := by decide +kernel
theorem dL_law_1786 : decode cL_law 1786 = .ok (.aload_n 1, 1) := by decide +kernel
theorem dL_law_1787 : decode cL_law 1787 = .ok (.invokevirtual 187, 3) := by decide +kernel
theorem dL_law_1790 : decode cL_law 1790 = .ok (.aload_n 2, 1) := by decide +kernel
theorem dL_law_1791 : decode cL_law 1791 = .ok (.invokevirtual 190, 3) := by decide +kernel
theorem dL_law_1794 : decode cL_law 1794 = .ok (.if_icmp .eq 583, 3) := by decide +kernel
theorem dL_law_1797 : decode cL_law 1797 = .ok (.iconst 0, 1) := by decide +kernel
theorem dL_law_1798 : decode cL_law 1798 = .ok (.ireturn, 1) := by decide +kernel
theorem dL_law_1799 : decode cL_law 1799 = .ok (.aload_n 1, 1) := by decide +kernel
theorem dL_law_1800 : decode cL_law 1800 = .ok (.aload_n 0, 1) := by decide +kernel
theorem dL_law_1801 : decode cL_law 1801 = .ok (.iload_n 3, 1) := by decide +kernel
theorem dL_law_1802 : decode cL_law 1802 = .ok (.iconst 1, 1) := by decide +kernel
theorem dL_law_1803 : decode cL_law 1803 = .ok (.iadd, 1) := by decide +kernel
theorem dL_law_1804 : decode cL_law 1804 = .ok (.iaload, 1) := by decide +kernel
theorem dL_law_1805 : decode cL_law 1805 = .ok (.invokevirtual 191, 3) := by decide +kernel
theorem dL_law_1808 : decode cL_law 1808 = .ok (.aload_n 2, 1) := by decide +kernel
theorem dL_law_1809 : decode cL_law 1809 = .ok (.aload_n 0, 1) := by decide +kernel
theorem dL_law_1810 : decode cL_law 1810 = .ok (.iload_n 3, 1) := by decide +kernel
theorem dL_law_1811 : decode cL_law 1811 = .ok (.iconst 1, 1) := by decide +kernel
theorem dL_law_1812 : decode cL_law 1812 = .ok (.iadd, 1) := by decide +kernel
theorem dL_law_1813 : decode cL_law 1813 = .ok (.iaload, 1) := by decide +kernel
theorem dL_law_1814 : decode cL_law 1814 = .ok (.invokevirtual 194, 3) := by decide +kernel
theorem dL_law_1817 : decode cL_law 1817 = .ok (.if_icmp .eq 560, 3) := by decide +kernel
theorem dL_law_1820 : decode cL_law 1820 = .ok (.iconst 0, 1) := by decide +kernel
theorem dL_law_1821 : decode cL_law 1821 = .ok (.ireturn, 1) := by decide +kernel
theorem dL_law_1822 : decode cL_law 1822 = .ok (.aload_n 1, 1) := by decide +kernel
theorem dL_law_1823 : decode cL_law 1823 = .ok (.aload_n 0, 1) := by decide +kernel
theorem dL_law_1824 : decode cL_law 1824 = .ok (.iload_n 3, 1) := by decide +kernel
theorem dL_law_1825 : decode cL_law 1825 = .ok (.iconst 1, 1) := by decide +kernel
theorem dL_law_1826 : decode cL_law 1826 = .ok (.iadd, 1) := by decide +kernel
theorem dL_law_1827 : decode cL_law 1827 = .ok (.iaload, 1) := by decide +kernel
theorem dL_law_1828 : decode cL_law 1828 = .ok (.invokevirtual 195, 3) := by decide +kernel
theorem dL_law_1831 : decode cL_law 1831 = .ok (.aload_n 2, 1) := by decide +kernel
theorem dL_law_1832 : decode cL_law 1832 = .ok (.aload_n 0, 1) := by decide +kernel
theorem dL_law_1833 : decode cL_law 1833 = .ok (.iload_n 3, 1) := by decide +kernel
theorem dL_law_1834 : decode cL_law 1834 = .ok (.iconst 1, 1) := by decide +kernel
theorem dL_law_1835 : decode cL_law 1835 = .ok (.iadd, 1) := by decide +kernel
theorem dL_law_1836 : decode cL_law 1836 = .ok (.iaload, 1) := by decide +kernel
theorem dL_law_1837 : decode cL_law 1837 = .ok (.invokevirtual 198, 3) := by decide +kernel
theorem dL_law_1840 : decode cL_law 1840 = .ok (.if_icmp .eq 537, 3) := by decide +kernel
theorem dL_law_1843 : decode cL_law 1843 = .ok (.iconst 0, 1) := by decide +kernel
theorem dL_law_1844 : decode cL_law 1844 = .ok (.ireturn, 1) := by decide +kernel
theorem dL_law_1845 : decode cL_law 1845 = .ok (.aload_n 1, 1) := by decide +kernel
theorem dL_law_1846 : decode cL_law 1846 = .ok (.aload_n 0, 1) := by decide +kernel
theorem dL_law_1847 : decode cL_law 1847 = .ok (.iload_n 3, 1) := by decide +kernel
theorem dL_law_1848 : decode cL_law 1848 = .ok (.iconst 1, 1) := by decide +kernel
theorem dL_law_1849 : decode cL_law 1849 = .ok (.iadd, 1) := by decide +kernel
theorem dL_law_1850 : decode cL_law 1850 = .ok (.iaload, 1) := by decide +kernel
theorem dL_law_1851 : decode cL_law 1851 = .ok (.aload_n 0, 1) := by decide +kernel
theorem dL_law_1852 : decode cL_law 1852 = .ok (.iload_n 3, 1) := by decide +kernel
theorem dL_law_1853 : decode cL_law 1853 = .ok (.iconst 2, 1) := by decide +kernel
theorem dL_law_1854 : decode cL_law 1854 = .ok (.iadd, 1) := by decide +kernel
theorem dL_law_1855 : decode cL_law 1855 = .ok (.iaload, 1) := by decide +kernel
theorem dL_law_1856 : decode cL_law 1856 = .ok (.invokevirtual 199, 3) := by decide +kernel
theorem dL_law_1859 : decode cL_law 1859 = .ok (.aload_n 2, 1) := by decide +kernel
theorem dL_law_1860 : decode cL_law 1860 = .ok (.aload_n 0, 1) := by decide +kernel
theorem dL_law_1861 : decode cL_law 1861 = .ok (.iload_n 3, 1) := by decide +kernel
theorem dL_law_1862 : decode cL_law 1862 = .ok (.iconst 1, 1) := by decide +kernel
theorem dL_law_1863 : decode cL_law 1863 = .ok (.iadd, 1) := by decide +kernel
theorem dL_law_1864 : decode cL_law 1864 = .ok (.iaload, 1) := by decide +kernel
theorem dL_law_1865 : decode cL_law 1865 = .ok (.aload_n 0, 1) := by decide +kernel
theorem dL_law_1866 : decode cL_law 1866 = .ok (.iload_n 3, 1) := by decide +kernel
theorem dL_law_1867 : decode cL_law 1867 = .ok (.iconst 2, 1) := by decide +kernel
theorem dL_law_1868 : decode cL_law 1868 = .ok (.iadd, 1) := by decide +kernel
theorem dL_law_1869 : decode cL_law 1869 = .ok (.iaload, 1) := by decide +kernel
theorem dL_law_1870 : decode cL_law 1870 = .ok (.invokevirtual 202, 3) := by decide +kernel
theorem dL_law_1873 : decode cL_law 1873 = .ok (.if_icmp .eq 504, 3) := by decide +kernel
theorem dL_law_1876 : decode cL_law 1876 = .ok (.iconst 0, 1) := by decide +kernel
theorem dL_law_1877 : decode cL_law 1877 = .ok (.ireturn, 1) := by decide +kernel
theorem dL_law_1878 : decode cL_law 1878 = .ok (.aload_n 1, 1) := by decide +kernel
theorem dL_law_1879 : decode cL_law 1879 = .ok (.aload_n 0, 1) := by decide +kernel
theorem dL_law_1880 : decode cL_law 1880 = .ok (.iload_n 3, 1) := by decide +kernel
theorem dL_law_1881 : decode cL_law 1881 = .ok (.iconst 1, 1) := by decide +kernel
theorem dL_law_1882 : decode cL_law 1882 = .ok (.iadd, 1) := by decide +kernel
theorem dL_law_1883 : decode cL_law 1883 = .ok (.iaload, 1) := by decide +kernel
theorem dL_law_1884 : decode cL_law 1884 = .ok (.aload_n 0, 1) := by decide +kernel
theorem dL_law_1885 : decode cL_law 1885 = .ok (.iload_n 3, 1) := by decide +kernel
theorem dL_law_1886 : decode cL_law 1886 = .ok (.iconst 2, 1) := by decide +kernel
theorem dL_law_1887 : decode cL_law 1887 = .ok (.iadd, 1) := by decide +kernel
theorem dL_law_1888 : decode cL_law 1888 = .ok (.iaload, 1) := by decide +kernel
theorem dL_law_1889 : decode cL_law 1889 = .ok (.invokevirtual 203, 3) := by decide +kernel
theorem dL_law_1892 : decode cL_law 1892 = .ok (.aload_n 2, 1) := by decide +kernel
theorem dL_law_1893 : decode cL_law 1893 = .ok (.aload_n 0, 1) := by decide +kernel
theorem dL_law_1894 : decode cL_law 1894 = .ok (.iload_n 3, 1) := by decide +kernel
theorem dL_law_1895 : decode cL_law 1895 = .ok (.iconst 1, 1) := by decide +kernel
theorem dL_law_1896 : decode cL_law 1896 = .ok (.iadd, 1) := by decide +kernel
theorem dL_law_1897 : decode cL_law 1897 = .ok (.iaload, 1) := by decide +kernel
theorem dL_law_1898 : decode cL_law 1898 = .ok (.aload_n 0, 1) := by decide +kernel
theorem dL_law_1899 : decode cL_law 1899 = .ok (.iload_n 3, 1) := by decide +kernel
theorem dL_law_1900 : decode cL_law 1900 = .ok (.iconst 2, 1) := by decide +kernel
theorem dL_law_1901 : decode cL_law 1901 = .ok (.iadd, 1) := by decide +kernel
theorem dL_law_1902 : decode cL_law 1902 = .ok (.iaload, 1) := by decide +kernel
theorem dL_law_1903 : decode cL_law 1903 = .ok (.invokevirtual 206, 3) := by decide +kernel
theorem dL_law_1906 : decode cL_law 1906 = .ok (.if_icmp .eq 471, 3) := by decide +kernel
theorem dL_law_1909 : decode cL_law 1909 = .ok (.iconst 0, 1) := by decide +kernel
theorem dL_law_1910 : decode cL_law 1910 = .ok (.ireturn, 1) := by decide +kernel
theorem dL_law_1911 : decode cL_law 1911 = .ok (.aload_n 1, 1) := by decide +kernel
theorem dL_law_1912 : decode cL_law 1912 = .ok (.invokevirtual 207, 3) := by decide +kernel
theorem dL_law_1915 : decode cL_law 1915 = .ok (.aload_n 2, 1) := by decide +kernel
theorem dL_law_1916 : decode cL_law 1916 = .ok (.invokevirtual 210, 3) := by decide +kernel
theorem dL_law_1919 : decode cL_law 1919 = .ok (.if_icmp .eq 458, 3) := by decide +kernel
theorem dL_law_1922 : decode cL_law 1922 = .ok (.iconst 0, 1) := by decide +kernel
theorem dL_law_1923 : decode cL_law 1923 = .ok (.ireturn, 1) := by decide +kernel
theorem dL_law_1924 : decode cL_law 1924 = .ok (.aload_n 1, 1) := by decide +kernel
theorem dL_law_1925 : decode cL_law 1925 = .ok (.aload_n 0, 1) := by decide +kernel
theorem dL_law_1926 : decode cL_law 1926 = .ok (.iload_n 3, 1) := by decide +kernel
theorem dL_law_1927 : decode cL_law 1927 = .ok (.iconst 1, 1) := by decide +kernel
theorem dL_law_1928 : decode cL_law 1928 = .ok (.iadd, 1) := by decide +kernel
theorem dL_law_1929 : decode cL_law 1929 = .ok (.iaload, 1) := by decide +kernel
theorem dL_law_1930 : decode cL_law 1930 = .ok (.invokevirtual 211, 3) := by decide +kernel
theorem dL_law_1933 : decode cL_law 1933 = .ok (.aload_n 2, 1) := by decide +kernel
theorem dL_law_1934 : decode cL_law 1934 = .ok (.aload_n 0, 1) := by decide +kernel
theorem dL_law_1935 : decode cL_law 1935 = .ok (.iload_n 3, 1) := by decide +kernel
theorem dL_law_1936 : decode cL_law 1936 = .ok (.iconst 1, 1) := by decide +kernel
theorem dL_law_1937 : decode cL_law 1937 = .ok (.iadd, 1) := by decide +kernel
theorem dL_law_1938 : decode cL_law 1938 = .ok (.iaload, 1) := by decide +kernel
theorem dL_law_1939 : decode cL_law 1939 = .ok (.invokevirtual 214, 3) := by decide +kernel
theorem dL_law_1942 : decode cL_law 1942 = .ok (.if_icmp .eq 435, 3) := by decide +kernel
theorem dL_law_1945 : decode cL_law 1945 = .ok (.iconst 0, 1) := by decide +kernel
theorem dL_law_1946 : decode cL_law 1946 = .ok (.ireturn, 1) := by decide +kernel
theorem dL_law_1947 : decode cL_law 1947 = .ok (.aload_n 1, 1) := by decide +kernel
theorem dL_law_1948 : decode cL_law 1948 = .ok (.aload_n 0, 1) := by decide +kernel
theorem dL_law_1949 : decode cL_law 1949 = .ok (.iload_n 3, 1) := by decide +kernel
theorem dL_law_1950 : decode cL_law 1950 = .ok (.iconst 1, 1) := by decide +kernel
theorem dL_law_1951 : decode cL_law 1951 = .ok (.iadd, 1) := by decide +kernel
theorem dL_law_1952 : decode cL_law 1952 = .ok (.iaload, 1) := by decide +kernel
theorem dL_law_1953 : decode cL_law 1953 = .ok (.invokevirtual 215, 3) := by decide +kernel
theorem dL_law_1956 : decode cL_law 1956 = .ok (.aload_n 2, 1) := by decide +kernel
theorem dL_law_1957 : decode cL_law 1957 = .ok (.aload_n 0, 1) := by decide +kernel
theorem dL_law_1958 : decode cL_law 1958 = .ok (.iload_n 3, 1) := by decide +kernel
theorem dL_law_1959 : decode cL_law 1959 = .ok (.iconst 1, 1) := by decide +kernel
theorem dL_law_1960 : decode cL_law 1960 = .ok (.iadd, 1) := by decide +kernel
theorem dL_law_1961 : decode cL_law 1961 = .ok (.iaload, 1) := by decide +kernel
theorem dL_law_1962 : decode cL_law 1962 = .ok (.invokevirtual 218, 3) := by decide +kernel
theorem dL_law_1965 : decode cL_law 1965 = .ok (.lcmp, 1) := by decide +kernel
theorem dL_law_1966 : decode cL_law 1966 = .ok (.ifCond .eq 411, 3) := by decide +kernel
theorem dL_law_1969 : decode cL_law 1969 = .ok (.iconst 0, 1) := by decide +kernel
theorem dL_law_1970 : decode cL_law 1970 = .ok (.ireturn, 1) := by decide +kernel
theorem dL_law_1971 : decode cL_law 1971 = .ok (.aload_n 1, 1) := by decide +kernel
theorem dL_law_1972 : decode cL_law 1972 = .ok (.aload_n 0, 1) := by decide +kernel
theorem dL_law_1973 : decode cL_law 1973 = .ok (.iload_n 3, 1) := by decide +kernel
theorem dL_law_1974 : decode cL_law 1974 = .ok (.iconst 1, 1) := by decide +kernel
theorem dL_law_1975 : decode cL_law 1975 = .ok (.iadd, 1) := by decide +kernel
theorem dL_law_1976 : decode cL_law 1976 = .ok (.iaload, 1) := by decide +kernel
theorem dL_law_1977 : decode cL_law 1977 = .ok (.i2l, 1) := by decide +kernel
theorem dL_law_1978 : decode cL_law 1978 = .ok (.bipush 32, 2) := by decide +kernel
theorem dL_law_1980 : decode cL_law 1980 = .ok (.lshl, 1) := by decide +kernel
theorem dL_law_1981 : decode cL_law 1981 = .ok (.aload_n 0, 1) := by decide +kernel
theorem dL_law_1982 : decode cL_law 1982 = .ok (.iload_n 3, 1) := by decide +kernel
theorem dL_law_1983 : decode cL_law 1983 = .ok (.iconst 2, 1) := by decide +kernel
theorem dL_law_1984 : decode cL_law 1984 = .ok (.iadd, 1) := by decide +kernel
theorem dL_law_1985 : decode cL_law 1985 = .ok (.iaload, 1) := by decide +kernel
theorem dL_law_1986 : decode cL_law 1986 = .ok (.i2l, 1) := by decide +kernel
theorem dL_law_1987 : decode cL_law 1987 = .ok (.ldc2_w 46, 3) := by decide +kernel
theorem dL_law_1990 : decode cL_law 1990 = .ok (.land, 1) := by decide +kernel
theorem dL_law_1991 : decode cL_law 1991 = .ok (.lor, 1) := by decide +kernel
theorem dL_law_1992 : decode cL_law 1992 = .ok (.invokevirtual 219, 3) := by decide +kernel
theorem dL_law_1995 : decode cL_law 1995 = .ok (.aload_n 2, 1) := by decide +kernel
theorem dL_law_1996 : decode cL_law 1996 = .ok (.aload_n 0, 1) := by decide +kernel
theorem dL_law_1997 : decode cL_law 1997 = .ok (.iload_n 3, 1) := by decide +kernel
theorem dL_law_1998 : decode cL_law 1998 = .ok (.iconst 1, 1) := by decide +kernel
theorem dL_law_1999 : decode cL_law 1999 = .ok (.iadd, 1) := by decide +kernel
theorem dL_law_2000 : decode cL_law 2000 = .ok (.iaload, 1) := by decide +kernel
theorem dL_law_2001 : decode cL_law 2001 = .ok (.i2l, 1) := by decide +kernel
theorem dL_law_2002 : decode cL_law 2002 = .ok (.bipush 32, 2) := by decide +kernel
theorem dL_law_2004 : decode cL_law 2004 = .ok (.lshl, 1) := by decide +kernel
theorem dL_law_2005 : decode cL_law 2005 = .ok (.aload_n 0, 1) := by decide +kernel
theorem dL_law_2006 : decode cL_law 2006 = .ok (.iload_n 3, 1) := by decide +kernel
theorem dL_law_2007 : decode cL_law 2007 = .ok (.iconst 2, 1) := by decide +kernel
theorem dL_law_2008 : decode cL_law 2008 = .ok (.iadd, 1) := by decide +kernel
theorem dL_law_2009 : decode cL_law 2009 = .ok (.iaload, 1) := by decide +kernel
theorem dL_law_2010 : decode cL_law 2010 = .ok (.i2l, 1) := by decide +kernel
theorem dL_law_2011 : decode cL_law 2011 = .ok (.ldc2_w 46, 3) := by decide +kernel
theorem dL_law_2014 : decode cL_law 2014 = .ok (.land, 1) := by decide +kernel
theorem dL_law_2015 : decode cL_law 2015 = .ok (.lor, 1) := by decide +kernel
theorem dL_law_2016 : decode cL_law 2016 = .ok (.invokevirtual 222, 3) := by decide +kernel
theorem dL_law_2019 : decode cL_law 2019 = .ok (.if_icmp .eq 358, 3) := by decide +kernel
theorem dL_law_2022 : decode cL_law 2022 = .ok (.iconst 0, 1) := by decide +kernel
theorem dL_law_2023 : decode cL_law 2023 = .ok (.ireturn, 1) := by decide +kernel
theorem dL_law_2024 : decode cL_law 2024 = .ok (.aload_n 1, 1) := by decide +kernel
theorem dL_law_2025 : decode cL_law 2025 = .ok (.aload_n 0, 1) := by decide +kernel
theorem dL_law_2026 : decode cL_law 2026 = .ok (.iload_n 3, 1) := by decide +kernel
theorem dL_law_2027 : decode cL_law 2027 = .ok (.iconst 1, 1) := by decide +kernel
theorem dL_law_2028 : decode cL_law 2028 = .ok (.iadd, 1) := by decide +kernel
theorem dL_law_2029 : decode cL_law 2029 = .ok (.iaload, 1) := by decide +kernel
theorem dL_law_2030 : decode cL_law 2030 = .ok (.i2l, 1) := by decide +kernel
theorem dL_law_2031 : decode cL_law 2031 = .ok (.bipush 32, 2) := by decide +kernel
theorem dL_law_2033 : decode cL_law 2033 = .ok (.lshl, 1) := by decide +kernel
theorem dL_law_2034 : decode cL_law 2034 = .ok (.aload_n 0, 1) := by decide +kernel
theorem dL_law_2035 : decode cL_law 2035 = .ok (.iload_n 3, 1) := by decide +kernel
theorem dL_law_2036 : decode cL_law 2036 = .ok (.iconst 2, 1) := by decide +kernel
theorem dL_law_2037 : decode cL_law 2037 = .ok (.iadd, 1) := by decide +kernel
theorem dL_law_2038 : decode cL_law 2038 = .ok (.iaload, 1) := by decide +kernel
theorem dL_law_2039 : decode cL_law 2039 = .ok (.i2l, 1) := by decide +kernel
theorem dL_law_2040 : decode cL_law 2040 = .ok (.ldc2_w 46, 3) := by decide +kernel
theorem dL_law_2043 : decode cL_law 2043 = .ok (.land, 1) := by decide +kernel
theorem dL_law_2044 : decode cL_law 2044 = .ok (.lor, 1) := by decide +kernel
theorem dL_law_2045 : decode cL_law 2045 = .ok (.aload_n 0, 1) := by decide +kernel
theorem dL_law_2046 : decode cL_law 2046 = .ok (.iload_n 3, 1) := by decide +kernel
theorem dL_law_2047 : decode cL_law 2047 = .ok (.iconst 3, 1) := by decide +kernel
theorem dL_law_2048 : decode cL_law 2048 = .ok (.iadd, 1) := by decide +kernel
theorem dL_law_2049 : decode cL_law 2049 = .ok (.iaload, 1) := by decide +kernel
theorem dL_law_2050 : decode cL_law 2050 = .ok (.invokevirtual 223, 3) := by decide +kernel
theorem dL_law_2053 : decode cL_law 2053 = .ok (.aload_n 2, 1) := by decide +kernel
theorem dL_law_2054 : decode cL_law 2054 = .ok (.aload_n 0, 1) := by decide +kernel
theorem dL_law_2055 : decode cL_law 2055 = .ok (.iload_n 3, 1) := by decide +kernel
theorem dL_law_2056 : decode cL_law 2056 = .ok (.iconst 1, 1) := by decide +kernel
theorem dL_law_2057 : decode cL_law 2057 = .ok (.iadd, 1) := by decide +kernel
theorem dL_law_2058 : decode cL_law 2058 = .ok (.iaload, 1) := by decide +kernel
theorem dL_law_2059 : decode cL_law 2059 = .ok (.i2l, 1) := by decide +kernel
theorem dL_law_2060 : decode cL_law 2060 = .ok (.bipush 32, 2) := by decide +kernel
theorem dL_law_2062 : decode cL_law 2062 = .ok (.lshl, 1) := by decide +kernel
theorem dL_law_2063 : decode cL_law 2063 = .ok (.aload_n 0, 1) := by decide +kernel
theorem dL_law_2064 : decode cL_law 2064 = .ok (.iload_n 3, 1) := by decide +kernel
theorem dL_law_2065 : decode cL_law 2065 = .ok (.iconst 2, 1) := by decide +kernel
theorem dL_law_2066 : decode cL_law 2066 = .ok (.iadd, 1) := by decide +kernel
theorem dL_law_2067 : decode cL_law 2067 = .ok (.iaload, 1) := by decide +kernel
theorem dL_law_2068 : decode cL_law 2068 = .ok (.i2l, 1) := by decide +kernel
theorem dL_law_2069 : decode cL_law 2069 = .ok (.ldc2_w 46, 3) := by decide +kernel
theorem dL_law_2072 : decode cL_law 2072 = .ok (.land, 1) := by decide +kernel
theorem dL_law_2073 : decode cL_law 2073 = .ok (.lor, 1) := by decide +kernel
theorem dL_law_2074 : decode cL_law 2074 = .ok (.aload_n 0, 1) := by decide +kernel
theorem dL_law_2075 : decode cL_law 2075 = .ok (.iload_n 3, 1) := by decide +kernel
theorem dL_law_2076 : decode cL_law 2076 = .ok (.iconst 3, 1) := by decide +kernel
theorem dL_law_2077 : decode cL_law 2077 = .ok (.iadd, 1) := by decide +kernel
theorem dL_law_2078 : decode cL_law 2078 = .ok (.iaload, 1) := by decide +kernel
theorem dL_law_2079 : decode cL_law 2079 = .ok (.invokevirtual 226, 3) := by decide +kernel
theorem dL_law_2082 : decode cL_law 2082 = .ok (.if_icmp .eq 295, 3) := by decide +kernel
theorem dL_law_2085 : decode cL_law 2085 = .ok (.iconst 0, 1) := by decide +kernel
theorem dL_law_2086 : decode cL_law 2086 = .ok (.ireturn, 1) := by decide +kernel
theorem dL_law_2087 : decode cL_law 2087 = .ok (.aload_n 1, 1) := by decide +kernel
theorem dL_law_2088 : decode cL_law 2088 = .ok (.invokevirtual 227, 3) := by decide +kernel
theorem dL_law_2091 : decode cL_law 2091 = .ok (.aload_n 2, 1) := by decide +kernel
theorem dL_law_2092 : decode cL_law 2092 = .ok (.invokevirtual 230, 3) := by decide +kernel
theorem dL_law_2095 : decode cL_law 2095 = .ok (.if_icmp .eq 282, 3) := by decide +kernel
theorem dL_law_2098 : decode cL_law 2098 = .ok (.iconst 0, 1) := by decide +kernel
theorem dL_law_2099 : decode cL_law 2099 = .ok (.ireturn, 1) := by decide +kernel
theorem dL_law_2100 : decode cL_law 2100 = .ok (.aload_n 1, 1) := by decide +kernel
theorem dL_law_2101 : decode cL_law 2101 = .ok (.aload_n 0, 1) := by decide +kernel
theorem dL_law_2102 : decode cL_law 2102 = .ok (.iload_n 3, 1) := by decide +kernel
theorem dL_law_2103 : decode cL_law 2103 = .ok (.iconst 1, 1) := by decide +kernel
theorem dL_law_2104 : decode cL_law 2104 = .ok (.iadd, 1) := by decide +kernel
theorem dL_law_2105 : decode cL_law 2105 = .ok (.iaload, 1) := by decide +kernel
theorem dL_law_2106 : decode cL_law 2106 = .ok (.invokevirtual 231, 3) := by decide +kernel
theorem dL_law_2109 : decode cL_law 2109 = .ok (.aload_n 2, 1) := by decide +kernel
theorem dL_law_2110 : decode cL_law 2110 = .ok (.aload_n 0, 1) := by decide +kernel
theorem dL_law_2111 : decode cL_law 2111 = .ok (.iload_n 3, 1) := by decide +kernel
theorem dL_law_2112 : decode cL_law 2112 = .ok (.iconst 1, 1) := by decide +kernel
theorem dL_law_2113 : decode cL_law 2113 = .ok (.iadd, 1) := by decide +kernel
theorem dL_law_2114 : decode cL_law 2114 = .ok (.iaload, 1) := by decide +kernel
theorem dL_law_2115 : decode cL_law 2115 = .ok (.invokevirtual 234, 3) := by decide +kernel
theorem dL_law_2118 : decode cL_law 2118 = .ok (.if_icmp .eq 259, 3) := by decide +kernel
theorem dL_law_2121 : decode cL_law 2121 = .ok (.iconst 0, 1) := by decide +kernel
theorem dL_law_2122 : decode cL_law 2122 = .ok (.ireturn, 1) := by decide +kernel
theorem dL_law_2123 : decode cL_law 2123 = .ok (.aload_n 1, 1) := by decide +kernel
theorem dL_law_2124 : decode cL_law 2124 = .ok (.aload_n 0, 1) := by decide +kernel
theorem dL_law_2125 : decode cL_law 2125 = .ok (.iload_n 3, 1) := by decide +kernel
theorem dL_law_2126 : decode cL_law 2126 = .ok (.iconst 1, 1) := by decide +kernel
theorem dL_law_2127 : decode cL_law 2127 = .ok (.iadd, 1) := by decide +kernel
theorem dL_law_2128 : decode cL_law 2128 = .ok (.iaload, 1) := by decide +kernel
theorem dL_law_2129 : decode cL_law 2129 = .ok (.invokevirtual 235, 3) := by decide +kernel
theorem dL_law_2132 : decode cL_law 2132 = .ok (.aload_n 2, 1) := by decide +kernel
theorem dL_law_2133 : decode cL_law 2133 = .ok (.aload_n 0, 1) := by decide +kernel
theorem dL_law_2134 : decode cL_law 2134 = .ok (.iload_n 3, 1) := by decide +kernel
theorem dL_law_2135 : decode cL_law 2135 = .ok (.iconst 1, 1) := by decide +kernel
theorem dL_law_2136 : decode cL_law 2136 = .ok (.iadd, 1) := by decide +kernel
theorem dL_law_2137 : decode cL_law 2137 = .ok (.iaload, 1) := by decide +kernel
theorem dL_law_2138 : decode cL_law 2138 = .ok (.invokevirtual 238, 3) := by decide +kernel
theorem dL_law_2141 : decode cL_law 2141 = .ok (.if_icmp .eq 236, 3) := by decide +kernel
theorem dL_law_2144 : decode cL_law 2144 = .ok (.iconst 0, 1) := by decide +kernel
theorem dL_law_2145 : decode cL_law 2145 = .ok (.ireturn, 1) := by decide +kernel
theorem dL_law_2146 : decode cL_law 2146 = .ok (.aload_n 1, 1) := by decide +kernel
theorem dL_law_2147 : decode cL_law 2147 = .ok (.aload_n 0, 1) := by decide +kernel
theorem dL_law_2148 : decode cL_law 2148 = .ok (.iload_n 3, 1) := by decide +kernel
theorem dL_law_2149 : decode cL_law 2149 = .ok (.iconst 1, 1) := by decide +kernel
theorem dL_law_2150 : decode cL_law 2150 = .ok (.iadd, 1) := by decide +kernel
theorem dL_law_2151 : decode cL_law 2151 = .ok (.iaload, 1) := by decide +kernel
theorem dL_law_2152 : decode cL_law 2152 = .ok (.i2l, 1) := by decide +kernel
theorem dL_law_2153 : decode cL_law 2153 = .ok (.bipush 32, 2) := by decide +kernel
theorem dL_law_2155 : decode cL_law 2155 = .ok (.lshl, 1) := by decide +kernel
theorem dL_law_2156 : decode cL_law 2156 = .ok (.aload_n 0, 1) := by decide +kernel
theorem dL_law_2157 : decode cL_law 2157 = .ok (.iload_n 3, 1) := by decide +kernel
theorem dL_law_2158 : decode cL_law 2158 = .ok (.iconst 2, 1) := by decide +kernel
theorem dL_law_2159 : decode cL_law 2159 = .ok (.iadd, 1) := by decide +kernel
theorem dL_law_2160 : decode cL_law 2160 = .ok (.iaload, 1) := by decide +kernel
theorem dL_law_2161 : decode cL_law 2161 = .ok (.i2l, 1) := by decide +kernel
theorem dL_law_2162 : decode cL_law 2162 = .ok (.ldc2_w 46, 3) := by decide +kernel
theorem dL_law_2165 : decode cL_law 2165 = .ok (.land, 1) := by decide +kernel
theorem dL_law_2166 : decode cL_law 2166 = .ok (.lor, 1) := by decide +kernel
theorem dL_law_2167 : decode cL_law 2167 = .ok (.invokevirtual 239, 3) := by decide +kernel
theorem dL_law_2170 : decode cL_law 2170 = .ok (.aload_n 2, 1) := by decide +kernel
theorem dL_law_2171 : decode cL_law 2171 = .ok (.aload_n 0, 1) := by decide +kernel
theorem dL_law_2172 : decode cL_law 2172 = .ok (.iload_n 3, 1) := by decide +kernel
theorem dL_law_2173 : decode cL_law 2173 = .ok (.iconst 1, 1) := by decide +kernel
theorem dL_law_2174 : decode cL_law 2174 = .ok (.iadd, 1) := by decide +kernel
theorem dL_law_2175 : decode cL_law 2175 = .ok (.iaload, 1) := by decide +kernel
theorem dL_law_2176 : decode cL_law 2176 = .ok (.i2l, 1) := by decide +kernel
theorem dL_law_2177 : decode cL_law 2177 = .ok (.bipush 32, 2) := by decide +kernel
theorem dL_law_2179 : decode cL_law 2179 = .ok (.lshl, 1) := by decide +kernel
theorem dL_law_2180 : decode cL_law 2180 = .ok (.aload_n 0, 1) := by decide +kernel
theorem dL_law_2181 : decode cL_law 2181 = .ok (.iload_n 3, 1) := by decide +kernel
theorem dL_law_2182 : decode cL_law 2182 = .ok (.iconst 2, 1) := by decide +kernel
theorem dL_law_2183 : decode cL_law 2183 = .ok (.iadd, 1) := by decide +kernel
theorem dL_law_2184 : decode cL_law 2184 = .ok (.iaload, 1) := by decide +kernel
theorem dL_law_2185 : decode cL_law 2185 = .ok (.i2l, 1) := by decide +kernel
theorem dL_law_2186 : decode cL_law 2186 = .ok (.ldc2_w 46, 3) := by decide +kernel
theorem dL_law_2189 : decode cL_law 2189 = .ok (.land, 1) := by decide +kernel
theorem dL_law_2190 : decode cL_law 2190 = .ok (.lor, 1) := by decide +kernel
theorem dL_law_2191 : decode cL_law 2191 = .ok (.invokevirtual 242, 3) := by decide +kernel
theorem dL_law_2194 : decode cL_law 2194 = .ok (.if_icmp .eq 183, 3) := by decide +kernel
theorem dL_law_2197 : decode cL_law 2197 = .ok (.iconst 0, 1) := by decide +kernel
theorem dL_law_2198 : decode cL_law 2198 = .ok (.ireturn, 1) := by decide +kernel
theorem dL_law_2199 : decode cL_law 2199 = .ok (.aload_n 1, 1) := by decide +kernel
theorem dL_law_2200 : decode cL_law 2200 = .ok (.invokevirtual 243, 3) := by decide +kernel
theorem dL_law_2203 : decode cL_law 2203 = .ok (.aload_n 2, 1) := by decide +kernel
theorem dL_law_2204 : decode cL_law 2204 = .ok (.invokevirtual 246, 3) := by decide +kernel
theorem dL_law_2207 : decode cL_law 2207 = .ok (.if_icmp .eq 170, 3) := by decide +kernel
theorem dL_law_2210 : decode cL_law 2210 = .ok (.iconst 0, 1) := by decide +kernel
theorem dL_law_2211 : decode cL_law 2211 = .ok (.ireturn, 1) := by decide +kernel
theorem dL_law_2212 : decode cL_law 2212 = .ok (.aload_n 1, 1) := by decide +kernel
theorem dL_law_2213 : decode cL_law 2213 = .ok (.aload_n 0, 1) := by decide +kernel
theorem dL_law_2214 : decode cL_law 2214 = .ok (.iload_n 3, 1) := by decide +kernel
theorem dL_law_2215 : decode cL_law 2215 = .ok (.iconst 1, 1) := by decide +kernel
theorem dL_law_2216 : decode cL_law 2216 = .ok (.iadd, 1) := by decide +kernel
theorem dL_law_2217 : decode cL_law 2217 = .ok (.iaload, 1) := by decide +kernel
theorem dL_law_2218 : decode cL_law 2218 = .ok (.i2l, 1) := by decide +kernel
theorem dL_law_2219 : decode cL_law 2219 = .ok (.bipush 32, 2) := by decide +kernel
theorem dL_law_2221 : decode cL_law 2221 = .ok (.lshl, 1) := by decide +kernel
theorem dL_law_2222 : decode cL_law 2222 = .ok (.aload_n 0, 1) := by decide +kernel
theorem dL_law_2223 : decode cL_law 2223 = .ok (.iload_n 3, 1) := by decide +kernel
theorem dL_law_2224 : decode cL_law 2224 = .ok (.iconst 2, 1) := by decide +kernel
theorem dL_law_2225 : decode cL_law 2225 = .ok (.iadd, 1) := by decide +kernel
theorem dL_law_2226 : decode cL_law 2226 = .ok (.iaload, 1) := by decide +kernel
theorem dL_law_2227 : decode cL_law 2227 = .ok (.i2l, 1) := by decide +kernel
theorem dL_law_2228 : decode cL_law 2228 = .ok (.ldc2_w 46, 3) := by decide +kernel
theorem dL_law_2231 : decode cL_law 2231 = .ok (.land, 1) := by decide +kernel
theorem dL_law_2232 : decode cL_law 2232 = .ok (.lor, 1) := by decide +kernel
theorem dL_law_2233 : decode cL_law 2233 = .ok (.invokevirtual 247, 3) := by decide +kernel
theorem dL_law_2236 : decode cL_law 2236 = .ok (.aload_n 2, 1) := by decide +kernel
theorem dL_law_2237 : decode cL_law 2237 = .ok (.aload_n 0, 1) := by decide +kernel
theorem dL_law_2238 : decode cL_law 2238 = .ok (.iload_n 3, 1) := by decide +kernel
theorem dL_law_2239 : decode cL_law 2239 = .ok (.iconst 1, 1) := by decide +kernel
theorem dL_law_2240 : decode cL_law 2240 = .ok (.iadd, 1) := by decide +kernel
theorem dL_law_2241 : decode cL_law 2241 = .ok (.iaload, 1) := by decide +kernel
theorem dL_law_2242 : decode cL_law 2242 = .ok (.i2l, 1) := by decide +kernel
theorem dL_law_2243 : decode cL_law 2243 = .ok (.bipush 32, 2) := by decide +kernel
theorem dL_law_2245 : decode cL_law 2245 = .ok (.lshl, 1) := by decide +kernel
theorem dL_law_2246 : decode cL_law 2246 = .ok (.aload_n 0, 1) := by decide +kernel
theorem dL_law_2247 : decode cL_law 2247 = .ok (.iload_n 3, 1) := by decide +kernel
theorem dL_law_2248 : decode cL_law 2248 = .ok (.iconst 2, 1) := by decide +kernel
theorem dL_law_2249 : decode cL_law 2249 = .ok (.iadd, 1) := by decide +kernel
theorem dL_law_2250 : decode cL_law 2250 = .ok (.iaload, 1) := by decide +kernel
theorem dL_law_2251 : decode cL_law 2251 = .ok (.i2l, 1) := by decide +kernel
theorem dL_law_2252 : decode cL_law 2252 = .ok (.ldc2_w 46, 3) := by decide +kernel
theorem dL_law_2255 : decode cL_law 2255 = .ok (.land, 1) := by decide +kernel
theorem dL_law_2256 : decode cL_law 2256 = .ok (.lor, 1) := by decide +kernel
theorem dL_law_2257 : decode cL_law 2257 = .ok (.invokevirtual 250, 3) := by decide +kernel
theorem dL_law_2260 : decode cL_law 2260 = .ok (.if_icmp .eq 117, 3) := by decide +kernel
theorem dL_law_2263 : decode cL_law 2263 = .ok (.iconst 0, 1) := by decide +kernel
theorem dL_law_2264 : decode cL_law 2264 = .ok (.ireturn, 1) := by decide +kernel
theorem dL_law_2265 : decode cL_law 2265 = .ok (.aload_n 1, 1) := by decide +kernel
theorem dL_law_2266 : decode cL_law 2266 = .ok (.aload_n 0, 1) := by decide +kernel
theorem dL_law_2267 : decode cL_law 2267 = .ok (.iload_n 3, 1) := by decide +kernel
theorem dL_law_2268 : decode cL_law 2268 = .ok (.iconst 1, 1) := by decide +kernel
theorem dL_law_2269 : decode cL_law 2269 = .ok (.iadd, 1) := by decide +kernel
theorem dL_law_2270 : decode cL_law 2270 = .ok (.iaload, 1) := by decide +kernel
theorem dL_law_2271 : decode cL_law 2271 = .ok (.invokevirtual 251, 3) := by decide +kernel
theorem dL_law_2274 : decode cL_law 2274 = .ok (.aload_n 2, 1) := by decide +kernel
theorem dL_law_2275 : decode cL_law 2275 = .ok (.aload_n 0, 1) := by decide +kernel
theorem dL_law_2276 : decode cL_law 2276 = .ok (.iload_n 3, 1) := by decide +kernel
theorem dL_law_2277 : decode cL_law 2277 = .ok (.iconst 1, 1) := by decide +kernel
theorem dL_law_2278 : decode cL_law 2278 = .ok (.iadd, 1) := by decide +kernel
theorem dL_law_2279 : decode cL_law 2279 = .ok (.iaload, 1) := by decide +kernel
theorem dL_law_2280 : decode cL_law 2280 = .ok (.invokevirtual 254, 3) := by decide +kernel
theorem dL_law_2283 : decode cL_law 2283 = .ok (.if_icmp .eq 94, 3) := by decide +kernel
theorem dL_law_2286 : decode cL_law 2286 = .ok (.iconst 0, 1) := by decide +kernel
theorem dL_law_2287 : decode cL_law 2287 = .ok (.ireturn, 1) := by decide +kernel
theorem dL_law_2288 : decode cL_law 2288 = .ok (.aload_n 1, 1) := by decide +kernel
theorem dL_law_2289 : decode cL_law 2289 = .ok (.invokevirtual 255, 3) := by decide +kernel
theorem dL_law_2292 : decode cL_law 2292 = .ok (.aload_n 2, 1) := by decide +kernel
theorem dL_law_2293 : decode cL_law 2293 = .ok (.invokevirtual 258, 3) := by decide +kernel
theorem dL_law_2296 : decode cL_law 2296 = .ok (.if_icmp .eq 81, 3) := by decide +kernel
theorem dL_law_2299 : decode cL_law 2299 = .ok (.iconst 0, 1) := by decide +kernel
theorem dL_law_2300 : decode cL_law 2300 = .ok (.ireturn, 1) := by decide +kernel
theorem dL_law_2301 : decode cL_law 2301 = .ok (.aload_n 1, 1) := by decide +kernel
theorem dL_law_2302 : decode cL_law 2302 = .ok (.aload_n 0, 1) := by decide +kernel
theorem dL_law_2303 : decode cL_law 2303 = .ok (.iload_n 3, 1) := by decide +kernel
theorem dL_law_2304 : decode cL_law 2304 = .ok (.iconst 1, 1) := by decide +kernel
theorem dL_law_2305 : decode cL_law 2305 = .ok (.iadd, 1) := by decide +kernel
theorem dL_law_2306 : decode cL_law 2306 = .ok (.iaload, 1) := by decide +kernel
theorem dL_law_2307 : decode cL_law 2307 = .ok (.i2l, 1) := by decide +kernel
theorem dL_law_2308 : decode cL_law 2308 = .ok (.bipush 32, 2) := by decide +kernel
theorem dL_law_2310 : decode cL_law 2310 = .ok (.lshl, 1) := by decide +kernel
theorem dL_law_2311 : decode cL_law 2311 = .ok (.aload_n 0, 1) := by decide +kernel
theorem dL_law_2312 : decode cL_law 2312 = .ok (.iload_n 3, 1) := by decide +kernel
theorem dL_law_2313 : decode cL_law 2313 = .ok (.iconst 2, 1) := by decide +kernel
theorem dL_law_2314 : decode cL_law 2314 = .ok (.iadd, 1) := by decide +kernel
theorem dL_law_2315 : decode cL_law 2315 = .ok (.iaload, 1) := by decide +kernel
theorem dL_law_2316 : decode cL_law 2316 = .ok (.i2l, 1) := by decide +kernel
theorem dL_law_2317 : decode cL_law 2317 = .ok (.ldc2_w 46, 3) := by decide +kernel
theorem dL_law_2320 : decode cL_law 2320 = .ok (.land, 1) := by decide +kernel
theorem dL_law_2321 : decode cL_law 2321 = .ok (.lor, 1) := by decide +kernel
theorem dL_law_2322 : decode cL_law 2322 = .ok (.invokevirtual 259, 3) := by decide +kernel
theorem dL_law_2325 : decode cL_law 2325 = .ok (.aload_n 2, 1) := by decide +kernel
theorem dL_law_2326 : decode cL_law 2326 = .ok (.aload_n 0, 1) := by decide +kernel
theorem dL_law_2327 : decode cL_law 2327 = .ok (.iload_n 3, 1) := by decide +kernel
theorem dL_law_2328 : decode cL_law 2328 = .ok (.iconst 1, 1) := by decide +kernel
theorem dL_law_2329 : decode cL_law 2329 = .ok (.iadd, 1) := by decide +kernel
theorem dL_law_2330 : decode cL_law 2330 = .ok (.iaload, 1) := by decide +kernel
theorem dL_law_2331 : decode cL_law 2331 = .ok (.i2l, 1) := by decide +kernel
theorem dL_law_2332 : decode cL_law 2332 = .ok (.bipush 32, 2) := by decide +kernel
theorem dL_law_2334 : decode cL_law 2334 = .ok (.lshl, 1) := by decide +kernel
theorem dL_law_2335 : decode cL_law 2335 = .ok (.aload_n 0, 1) := by decide +kernel
theorem dL_law_2336 : decode cL_law 2336 = .ok (.iload_n 3, 1) := by decide +kernel
theorem dL_law_2337 : decode cL_law 2337 = .ok (.iconst 2, 1) := by decide +kernel
theorem dL_law_2338 : decode cL_law 2338 = .ok (.iadd, 1) := by decide +kernel
theorem dL_law_2339 : decode cL_law 2339 = .ok (.iaload, 1) := by decide +kernel
theorem dL_law_2340 : decode cL_law 2340 = .ok (.i2l, 1) := by decide +kernel
theorem dL_law_2341 : decode cL_law 2341 = .ok (.ldc2_w 46, 3) := by decide +kernel
theorem dL_law_2344 : decode cL_law 2344 = .ok (.land, 1) := by decide +kernel
theorem dL_law_2345 : decode cL_law 2345 = .ok (.lor, 1) := by decide +kernel
theorem dL_law_2346 : decode cL_law 2346 = .ok (.invokevirtual 262, 3) := by decide +kernel
theorem dL_law_2349 : decode cL_law 2349 = .ok (.if_icmp .eq 28, 3) := by decide +kernel
theorem dL_law_2352 : decode cL_law 2352 = .ok (.iconst 0, 1) := by decide +kernel
theorem dL_law_2353 : decode cL_law 2353 = .ok (.ireturn, 1) := by decide +kernel
theorem dL_law_2354 : decode cL_law 2354 = .ok (.aload_n 1, 1) := by decide +kernel
theorem dL_law_2355 : decode cL_law 2355 = .ok (.aload_n 0, 1) := by decide +kernel
theorem dL_law_2356 : decode cL_law 2356 = .ok (.iload_n 3, 1) := by decide +kernel
theorem dL_law_2357 : decode cL_law 2357 = .ok (.iconst 1, 1) := by decide +kernel
theorem dL_law_2358 : decode cL_law 2358 = .ok (.iadd, 1) := by decide +kernel
theorem dL_law_2359 : decode cL_law 2359 = .ok (.iaload, 1) := by decide +kernel
theorem dL_law_2360 : decode cL_law 2360 = .ok (.invokevirtual 263, 3) := by decide +kernel
theorem dL_law_2363 : decode cL_law 2363 = .ok (.aload_n 2, 1) := by decide +kernel
theorem dL_law_2364 : decode cL_law 2364 = .ok (.aload_n 0, 1) := by decide +kernel
theorem dL_law_2365 : decode cL_law 2365 = .ok (.iload_n 3, 1) := by decide +kernel
theorem dL_law_2366 : decode cL_law 2366 = .ok (.iconst 1, 1) := by decide +kernel
theorem dL_law_2367 : decode cL_law 2367 = .ok (.iadd, 1) := by decide +kernel
theorem dL_law_2368 : decode cL_law 2368 = .ok (.iaload, 1) := by decide +kernel
theorem dL_law_2369 : decode cL_law 2369 = .ok (.invokevirtual 266, 3) := by decide +kernel
theorem dL_law_2372 : decode cL_law 2372 = .ok (.if_icmp .eq 5, 3) := by decide +kernel
theorem dL_law_2375 : decode cL_law 2375 = .ok (.iconst 0, 1) := by decide +kernel
theorem dL_law_2376 : decode cL_law 2376 = .ok (.ireturn, 1) := by decide +kernel
theorem dL_law_2377 : decode cL_law 2377 = .ok (.iinc 3 6, 3) := by decide +kernel
theorem dL_law_2380 : decode cL_law 2380 = .ok (.goto (-2362), 3) := by decide +kernel
theorem dL_law_2383 : decode cL_law 2383 = .ok (.iconst 1, 1) := by decide +kernel
theorem dL_law_2384 : decode cL_law 2384 = .ok (.ireturn, 1) := by decide +kernel
theorem dX0_init_0 : decode cX0_init 0 = .ok (.aload_n 0, 1) := by decide +kernel
theorem dX0_init_1 : decode cX0_init 1 = .ok (.invokespecial 5, 3) := by decide +kernel
theorem dX0_init_4 : decode cX0_init 4 = .ok (.aload_n 0, 1) := by decide +kernel
theorem dX0_init_5 : decode cX0_init 5 = .ok (.iconst 0, 1) := by decide +kernel
theorem dX0_init_6 : decode cX0_init 6 = .ok (.putfield 11, 3) := by decide +kernel
theorem dX0_init_9 : decode cX0_init 9 = .ok (.aload_n 0, 1) := by decide +kernel
theorem dX0_init_10 : decode cX0_init 10 = .ok (.lconst 0, 1) := by decide +kernel
theorem dX0_init_11 : decode cX0_init 11 = .ok (.putfield 15, 3) := by decide +kernel
theorem dX0_init_14 : decode cX0_init 14 = .ok (.aload_n 0, 1) := by decide +kernel
theorem dX0_init_15 : decode cX0_init 15 = .ok (.bipush 10, 2) := by decide +kernel
theorem dX0_init_17 : decode cX0_init 17 = .ok (.newarray .int, 2) := by decide +kernel
theorem dX0_init_19 : decode cX0_init 19 = .ok (.putfield 19, 3) := by decide +kernel
theorem dX0_init_22 : decode cX0_init 22 = .ok (.aload_n 0, 1) := by decide +kernel
theorem dX0_init_23 : decode cX0_init 23 = .ok (.sipush 160, 3) := by decide +kernel
theorem dX0_init_26 : decode cX0_init 26 = .ok (.newarray .long, 2) := by decide +kernel
theorem dX0_init_28 : decode cX0_init 28 = .ok (.putfield 23, 3) := by decide +kernel
theorem dX0_init_31 : decode cX0_init 31 = .ok (.aload_n 0, 1) := by decide +kernel
theorem dX0_init_32 : decode cX0_init 32 = .ok (.sipush 160, 3) := by decide +kernel
theorem dX0_init_35 : decode cX0_init 35 = .ok (.newarray .long, 2) := by decide +kernel
theorem dX0_init_37 : decode cX0_init 37 = .ok (.putfield 27, 3) := by decide +kernel
theorem dX0_init_40 : decode cX0_init 40 = .ok (.aload_n 0, 1) := by decide +kernel
theorem dX0_init_41 : decode cX0_init 41 = .ok (.sipush 160, 3) := by decide +kernel
theorem dX0_init_44 : decode cX0_init 44 = .ok (.newarray .long, 2) := by decide +kernel
theorem dX0_init_46 : decode cX0_init 46 = .ok (.putfield 30, 3) := by decide +kernel
theorem dX0_init_49 : decode cX0_init 49 = .ok (.aload_n 0, 1) := by decide +kernel
theorem dX0_init_50 : decode cX0_init 50 = .ok (.bipush 10, 2) := by decide +kernel
theorem dX0_init_52 : decode cX0_init 52 = .ok (.newarray .int, 2) := by decide +kernel
theorem dX0_init_54 : decode cX0_init 54 = .ok (.putfield 33, 3) := by decide +kernel
theorem dX0_init_57 : decode cX0_init 57 = .ok (.aload_n 0, 1) := by decide +kernel
theorem dX0_init_58 : decode cX0_init 58 = .ok (.sipush 160, 3) := by decide +kernel
theorem dX0_init_61 : decode cX0_init 61 = .ok (.newarray .int, 2) := by decide +kernel
theorem dX0_init_63 : decode cX0_init 63 = .ok (.putfield 36, 3) := by decide +kernel
theorem dX0_init_66 : decode cX0_init 66 = .ok (.return_, 1) := by decide +kernel
theorem dX0_start_0 : decode cX0_start 0 = .ok (.aload_n 0, 1) := by decide +kernel
theorem dX0_start_1 : decode cX0_start 1 = .ok (.iload_n 1, 1) := by decide +kernel
theorem dX0_start_2 : decode cX0_start 2 = .ok (.putfield 11, 3) := by decide +kernel
theorem dX0_start_5 : decode cX0_start 5 = .ok (.aload_n 0, 1) := by decide +kernel
theorem dX0_start_6 : decode cX0_start 6 = .ok (.iload_n 1, 1) := by decide +kernel
theorem dX0_start_7 : decode cX0_start 7 = .ok (.invokestatic 39, 3) := by decide +kernel
theorem dX0_start_10 : decode cX0_start 10 = .ok (.putfield 15, 3) := by decide +kernel
theorem dX0_start_13 : decode cX0_start 13 = .ok (.iconst 0, 1) := by decide +kernel
theorem dX0_start_14 : decode cX0_start 14 = .ok (.istore_n 2, 1) := by decide +kernel
theorem dX0_start_15 : decode cX0_start 15 = .ok (.iload_n 2, 1) := by decide +kernel
theorem dX0_start_16 : decode cX0_start 16 = .ok (.aload_n 0, 1) := by decide +kernel
theorem dX0_start_17 : decode cX0_start 17 = .ok (.getfield 11, 3) := by decide +kernel
theorem dX0_start_20 : decode cX0_start 20 = .ok (.if_icmp .ge 59, 3) := by decide +kernel
theorem dX0_start_23 : decode cX0_start 23 = .ok (.iload_n 2, 1) := by decide +kernel
theorem dX0_start_24 : decode cX0_start 24 = .ok (.bipush 16, 2) := by decide +kernel
theorem dX0_start_26 : decode cX0_start 26 = .ok (.imul, 1) := by decide +kernel
theorem dX0_start_27 : decode cX0_start 27 = .ok (.iload_n 2, 1) := by decide +kernel
theorem dX0_start_28 : decode cX0_start 28 = .ok (.iadd, 1) := by decide +kernel
theorem dX0_start_29 : decode cX0_start 29 = .ok (.istore_n 3, 1) := by decide +kernel
theorem dX0_start_30 : decode cX0_start 30 = .ok (.aload_n 0, 1) := by decide +kernel
theorem dX0_start_31 : decode cX0_start 31 = .ok (.getfield 19, 3) := by decide +kernel
theorem dX0_start_34 : decode cX0_start 34 = .ok (.iload_n 2, 1) := by decide +kernel
theorem dX0_start_35 : decode cX0_start 35 = .ok (.iconst 1, 1) := by decide +kernel
theorem dX0_start_36 : decode cX0_start 36 = .ok (.iload_n 2, 1) := by decide +kernel
theorem dX0_start_37 : decode cX0_start 37 = .ok (.ishl, 1) := by decide +kernel
theorem dX0_start_38 : decode cX0_start 38 = .ok (.iastore, 1) := by decide +kernel
theorem dX0_start_39 : decode cX0_start 39 = .ok (.aload_n 0, 1) := by decide +kernel
theorem dX0_start_40 : decode cX0_start 40 = .ok (.getfield 23, 3) := by decide +kernel
theorem dX0_start_43 : decode cX0_start 43 = .ok (.iload_n 3, 1) := by decide +kernel
theorem dX0_start_44 : decode cX0_start 44 = .ok (.aload_n 0, 1) := by decide +kernel
theorem dX0_start_45 : decode cX0_start 45 = .ok (.getfield 15, 3) := by decide +kernel
theorem dX0_start_48 : decode cX0_start 48 = .ok (.lastore, 1) := by decide +kernel
theorem dX0_start_49 : decode cX0_start 49 = .ok (.aload_n 0, 1) := by decide +kernel
theorem dX0_start_50 : decode cX0_start 50 = .ok (.getfield 27, 3) := by decide +kernel
theorem dX0_start_53 : decode cX0_start 53 = .ok (.iload_n 3, 1) := by decide +kernel
theorem dX0_start_54 : decode cX0_start 54 = .ok (.aload_n 0, 1) := by decide +kernel
theorem dX0_start_55 : decode cX0_start 55 = .ok (.getfield 15, 3) := by decide +kernel
theorem dX0_start_58 : decode cX0_start 58 = .ok (.lastore, 1) := by decide +kernel
theorem dX0_start_59 : decode cX0_start 59 = .ok (.aload_n 0, 1) := by decide +kernel
theorem dX0_start_60 : decode cX0_start 60 = .ok (.getfield 36, 3) := by decide +kernel
theorem dX0_start_63 : decode cX0_start 63 = .ok (.iload_n 3, 1) := by decide +kernel
theorem dX0_start_64 : decode cX0_start 64 = .ok (.iconst 0, 1) := by decide +kernel
theorem dX0_start_65 : decode cX0_start 65 = .ok (.iastore, 1) := by decide +kernel
theorem dX0_start_66 : decode cX0_start 66 = .ok (.aload_n 0, 1) := by decide +kernel
theorem dX0_start_67 : decode cX0_start 67 = .ok (.getfield 33, 3) := by decide +kernel
theorem dX0_start_70 : decode cX0_start 70 = .ok (.iload_n 2, 1) := by decide +kernel
theorem dX0_start_71 : decode cX0_start 71 = .ok (.iconst 0, 1) := by decide +kernel
theorem dX0_start_72 : decode cX0_start 72 = .ok (.iastore, 1) := by decide +kernel
theorem dX0_start_73 : decode cX0_start 73 = .ok (.iinc 2 1, 3) := by decide +kernel
theorem dX0_start_76 : decode cX0_start 76 = .ok (.goto (-61), 3) := by decide +kernel
theorem dX0_start_79 : decode cX0_start 79 = .ok (.return_, 1) := by decide +kernel
theorem dX0_gather_0 : decode cX0_gather 0 = .ok (.aload_n 0, 1) := by decide +kernel
theorem dX0_gather_1 : decode cX0_gather 1 = .ok (.iload_n 3, 1) := by decide +kernel
theorem dX0_gather_2 : decode cX0_gather 2 = .ok (.invokevirtual 44, 3) := by decide +kernel
theorem dX0_gather_5 : decode cX0_gather 5 = .ok (.iconst 0, 1) := by decide +kernel
theorem dX0_gather_6 : decode cX0_gather 6 = .ok (.istore 4, 2) := by decide +kernel
theorem dX0_gather_8 : decode cX0_gather 8 = .ok (.iconst 0, 1) := by decide +kernel
theorem dX0_gather_9 : decode cX0_gather 9 = .ok (.istore 5, 2) := by decide +kernel
theorem dX0_gather_11 : decode cX0_gather 11 = .ok (.iload 5, 2) := by decide +kernel
theorem dX0_gather_13 : decode cX0_gather 13 = .ok (.aload_n 1, 1) := by decide +kernel
theorem dX0_gather_14 : decode cX0_gather 14 = .ok (.arraylength, 1) := by decide +kernel
theorem dX0_gather_15 : decode cX0_gather 15 = .ok (.if_icmp .ge 38, 3) := by decide +kernel
theorem dX0_gather_18 : decode cX0_gather 18 = .ok (.iload_n 2, 1) := by decide +kernel
theorem dX0_gather_19 : decode cX0_gather 19 = .ok (.iload 5, 2) := by decide +kernel
theorem dX0_gather_21 : decode cX0_gather 21 = .ok (.ishr, 1) := by decide +kernel
theorem dX0_gather_22 : decode cX0_gather 22 = .ok (.iconst 1, 1) := by decide +kernel
theorem dX0_gather_23 : decode cX0_gather 23 = .ok (.iand, 1) := by decide +kernel
theorem dX0_gather_24 : decode cX0_gather 24 = .ok (.ifCond .eq 23, 3) := by decide +kernel
theorem dX0_gather_27 : decode cX0_gather 27 = .ok (.aload_n 0, 1) := by decide +kernel
theorem dX0_gather_28 : decode cX0_gather 28 = .ok (.aload_n 1, 1) := by decide +kernel
theorem dX0_gather_29 : decode cX0_gather 29 = .ok (.iload 5, 2) := by decide +kernel
theorem dX0_gather_31 : decode cX0_gather 31 = .ok (.laload, 1) := by decide +kernel
theorem dX0_gather_32 : decode cX0_gather 32 = .ok (.invokevirtual 48, 3) := by decide +kernel
theorem dX0_gather_35 : decode cX0_gather 35 = .ok (.ifCond .eq 12, 3) := by decide +kernel
theorem dX0_gather_38 : decode cX0_gather 38 = .ok (.iload 4, 2) := by decide +kernel
theorem dX0_gather_40 : decode cX0_gather 40 = .ok (.iconst 1, 1) := by decide +kernel
theorem dX0_gather_41 : decode cX0_gather 41 = .ok (.iload 5, 2) := by decide +kernel
theorem dX0_gather_43 : decode cX0_gather 43 = .ok (.ishl, 1) := by decide +kernel
theorem dX0_gather_44 : decode cX0_gather 44 = .ok (.ior, 1) := by decide +kernel
theorem dX0_gather_45 : decode cX0_gather 45 = .ok (.istore 4, 2) := by decide +kernel
theorem dX0_gather_47 : decode cX0_gather 47 = .ok (.iinc 5 1, 3) := by decide +kernel
theorem dX0_gather_50 : decode cX0_gather 50 = .ok (.goto (-39), 3) := by decide +kernel
theorem dX0_gather_53 : decode cX0_gather 53 = .ok (.iload 4, 2) := by decide +kernel
theorem dX0_gather_55 : decode cX0_gather 55 = .ok (.ireturn, 1) := by decide +kernel
theorem dX0_grow_0 : decode cX0_grow 0 = .ok (.aload_n 0, 1) := by decide +kernel
theorem dX0_grow_1 : decode cX0_grow 1 = .ok (.lload_n 1, 1) := by decide +kernel
theorem dX0_grow_2 : decode cX0_grow 2 = .ok (.iconst 0, 1) := by decide +kernel
theorem dX0_grow_3 : decode cX0_grow 3 = .ok (.invokevirtual 52, 3) := by decide +kernel
theorem dX0_grow_6 : decode cX0_grow 6 = .ok (.lstore_n 3, 1) := by decide +kernel
theorem dX0_grow_7 : decode cX0_grow 7 = .ok (.lload_n 3, 1) := by decide +kernel
theorem dX0_grow_8 : decode cX0_grow 8 = .ok (.aload_n 0, 1) := by decide +kernel
theorem dX0_grow_9 : decode cX0_grow 9 = .ok (.getfield 15, 3) := by decide +kernel
theorem dX0_grow_12 : decode cX0_grow 12 = .ok (.lcmp, 1) := by decide +kernel
theorem dX0_grow_13 : decode cX0_grow 13 = .ok (.ifCond .ne 5, 3) := by decide +kernel
theorem dX0_grow_16 : decode cX0_grow 16 = .ok (.iconst 0, 1) := by decide +kernel
theorem dX0_grow_17 : decode cX0_grow 17 = .ok (.ireturn, 1) := by decide +kernel
theorem dX0_grow_18 : decode cX0_grow 18 = .ok (.aload_n 0, 1) := by decide +kernel
theorem dX0_grow_19 : decode cX0_grow 19 = .ok (.lload_n 3, 1) := by decide +kernel
theorem dX0_grow_20 : decode cX0_grow 20 = .ok (.iconst 0, 1) := by decide +kernel
theorem dX0_grow_21 : decode cX0_grow 21 = .ok (.invokevirtual 56, 3) := by decide +kernel
theorem dX0_grow_24 : decode cX0_grow 24 = .ok (.istore 5, 2) := by decide +kernel
theorem dX0_grow_26 : decode cX0_grow 26 = .ok (.iconst 0, 1) := by decide +kernel
theorem dX0_grow_27 : decode cX0_grow 27 = .ok (.istore 6, 2) := by decide +kernel
theorem dX0_grow_29 : decode cX0_grow 29 = .ok (.iload 6, 2) := by decide +kernel
theorem dX0_grow_31 : decode cX0_grow 31 = .ok (.ldc 60, 2) := by decide +kernel
theorem dX0_grow_33 : decode cX0_grow 33 = .ok (.if_icmp .ge 62, 3) := by decide +kernel
theorem dX0_grow_36 : decode cX0_grow 36 = .ok (.iload 5, 2) := by decide +kernel
theorem dX0_grow_38 : decode cX0_grow 38 = .ok (.ifCond .lt 57, 3) := by decide +kernel
theorem dX0_grow_41 : decode cX0_grow 41 = .ok (.aload_n 0, 1) := by decide +kernel
theorem dX0_grow_42 : decode cX0_grow 42 = .ok (.iload 5, 2) := by decide +kernel
theorem dX0_grow_44 : decode cX0_grow 44 = .ok (.invokevirtual 61, 3) := by decide +kernel
theorem dX0_grow_47 : decode cX0_grow 47 = .ok (.istore 7, 2) := by decide +kernel
theorem dX0_grow_49 : decode cX0_grow 49 = .ok (.iload 7, 2) := by decide +kernel
theorem dX0_grow_51 : decode cX0_grow 51 = .ok (.ifCond .ge 9, 3) := by decide +kernel
theorem dX0_grow_54 : decode cX0_grow 54 = .ok (.iinc 5 (-1), 3) := by decide +kernel
theorem dX0_grow_57 : decode cX0_grow 57 = .ok (.goto 32, 3) := by decide +kernel
theorem dX0_grow_60 : decode cX0_grow 60 = .ok (.aload_n 0, 1) := by decide +kernel
theorem dX0_grow_61 : decode cX0_grow 61 = .ok (.iload 5, 2) := by decide +kernel
theorem dX0_grow_63 : decode cX0_grow 63 = .ok (.iload 7, 2) := by decide +kernel
theorem dX0_grow_65 : decode cX0_grow 65 = .ok (.invokevirtual 65, 3) := by decide +kernel
theorem dX0_grow_68 : decode cX0_grow 68 = .ok (.lstore_n 3, 1) := by decide +kernel
theorem dX0_grow_69 : decode cX0_grow 69 = .ok (.lload_n 3, 1) := by decide +kernel
theorem dX0_grow_70 : decode cX0_grow 70 = .ok (.aload_n 0, 1) := by decide +kernel
theorem dX0_grow_71 : decode cX0_grow 71 = .ok (.getfield 15, 3) := by decide +kernel
theorem dX0_grow_74 : decode cX0_grow 74 = .ok (.lcmp, 1) := by decide +kernel
theorem dX0_grow_75 : decode cX0_grow 75 = .ok (.ifCond .eq 14, 3) := by decide +kernel
theorem dX0_grow_78 : decode cX0_grow 78 = .ok (.aload_n 0, 1) := by decide +kernel
theorem dX0_grow_79 : decode cX0_grow 79 = .ok (.lload_n 3, 1) := by decide +kernel
theorem dX0_grow_80 : decode cX0_grow 80 = .ok (.iload 5, 2) := by decide +kernel
theorem dX0_grow_82 : decode cX0_grow 82 = .ok (.iconst 1, 1) := by decide +kernel
theorem dX0_grow_83 : decode cX0_grow 83 = .ok (.iadd, 1) := by decide +kernel
theorem dX0_grow_84 : decode cX0_grow 84 = .ok (.invokevirtual 56, 3) := by decide +kernel
theorem dX0_grow_87 : decode cX0_grow 87 = .ok (.istore 5, 2) := by decide +kernel
theorem dX0_grow_89 : decode cX0_grow 89 = .ok (.iinc 6 1, 3) := by decide +kernel
theorem dX0_grow_92 : decode cX0_grow 92 = .ok (.goto (-63), 3) := by decide +kernel
theorem dX0_grow_95 : decode cX0_grow 95 = .ok (.iconst 1, 1) := by decide +kernel
theorem dX0_grow_96 : decode cX0_grow 96 = .ok (.ireturn, 1) := by decide +kernel
theorem dX0_sift_0 : decode cX0_sift 0 = .ok (.lload_n 1, 1) := by decide +kernel
theorem dX0_sift_1 : decode cX0_sift 1 = .ok (.lstore 4, 2) := by decide +kernel
theorem dX0_sift_3 : decode cX0_sift 3 = .ok (.iload_n 3, 1) := by decide +kernel
theorem dX0_sift_4 : decode cX0_sift 4 = .ok (.istore 6, 2) := by decide +kernel
theorem dX0_sift_6 : decode cX0_sift 6 = .ok (.iload 6, 2) := by decide +kernel
theorem dX0_sift_8 : decode cX0_sift 8 = .ok (.aload_n 0, 1) := by decide +kernel
theorem dX0_sift_9 : decode cX0_sift 9 = .ok (.getfield 11, 3) := by decide +kernel
theorem dX0_sift_12 : decode cX0_sift 12 = .ok (.if_icmp .ge 80, 3) := by decide +kernel
theorem dX0_sift_15 : decode cX0_sift 15 = .ok (.lload 4, 2) := by decide +kernel
theorem dX0_sift_17 : decode cX0_sift 17 = .ok (.aload_n 0, 1) := by decide +kernel
theorem dX0_sift_18 : decode cX0_sift 18 = .ok (.getfield 15, 3) := by decide +kernel
theorem dX0_sift_21 : decode cX0_sift 21 = .ok (.lcmp, 1) := by decide +kernel
theorem dX0_sift_22 : decode cX0_sift 22 = .ok (.ifCond .ne 6, 3) := by decide +kernel
theorem dX0_sift_25 : decode cX0_sift 25 = .ok (.lload 4, 2) := by decide +kernel
theorem dX0_sift_27 : decode cX0_sift 27 = .ok (.lreturn, 1) := by decide +kernel
theorem dX0_sift_28 : decode cX0_sift 28 = .ok (.lload 4, 2) := by decide +kernel
theorem dX0_sift_30 : decode cX0_sift 30 = .ok (.iload 6, 2) := by decide +kernel
theorem dX0_sift_32 : decode cX0_sift 32 = .ok (.invokestatic 69, 3) := by decide +kernel
theorem dX0_sift_35 : decode cX0_sift 35 = .ok (.istore 7, 2) := by decide +kernel
theorem dX0_sift_37 : decode cX0_sift 37 = .ok (.aload_n 0, 1) := by decide +kernel
theorem dX0_sift_38 : decode cX0_sift 38 = .ok (.getfield 19, 3) := by decide +kernel
theorem dX0_sift_41 : decode cX0_sift 41 = .ok (.iload 6, 2) := by decide +kernel
theorem dX0_sift_43 : decode cX0_sift 43 = .ok (.iaload, 1) := by decide +kernel
theorem dX0_sift_44 : decode cX0_sift 44 = .ok (.iload 7, 2) := by decide +kernel
theorem dX0_sift_46 : decode cX0_sift 46 = .ok (.ishr, 1) := by decide +kernel
theorem dX0_sift_47 : decode cX0_sift 47 = .ok (.iconst 1, 1) := by decide +kernel
theorem dX0_sift_48 : decode cX0_sift 48 = .ok (.iand, 1) := by decide +kernel
theorem dX0_sift_49 : decode cX0_sift 49 = .ok (.ifCond .ne 6, 3) := by decide +kernel
theorem dX0_sift_52 : decode cX0_sift 52 = .ok (.lload 4, 2) := by decide +kernel
theorem dX0_sift_54 : decode cX0_sift 54 = .ok (.lreturn, 1) := by decide +kernel
theorem dX0_sift_55 : decode cX0_sift 55 = .ok (.iload 7, 2) := by decide +kernel
theorem dX0_sift_57 : decode cX0_sift 57 = .ok (.iload 6, 2) := by decide +kernel
theorem dX0_sift_59 : decode cX0_sift 59 = .ok (.if_icmp .eq 27, 3) := by decide +kernel
theorem dX0_sift_62 : decode cX0_sift 62 = .ok (.lload 4, 2) := by decide +kernel
theorem dX0_sift_64 : decode cX0_sift 64 = .ok (.aload_n 0, 1) := by decide +kernel
theorem dX0_sift_65 : decode cX0_sift 65 = .ok (.getfield 27, 3) := by decide +kernel
theorem dX0_sift_68 : decode cX0_sift 68 = .ok (.iload 6, 2) := by decide +kernel
theorem dX0_sift_70 : decode cX0_sift 70 = .ok (.bipush 16, 2) := by decide +kernel
theorem dX0_sift_72 : decode cX0_sift 72 = .ok (.imul, 1) := by decide +kernel
theorem dX0_sift_73 : decode cX0_sift 73 = .ok (.iload 7, 2) := by decide +kernel
theorem dX0_sift_75 : decode cX0_sift 75 = .ok (.iadd, 1) := by decide +kernel
theorem dX0_sift_76 : decode cX0_sift 76 = .ok (.laload, 1) := by decide +kernel
theorem dX0_sift_77 : decode cX0_sift 77 = .ok (.aload_n 0, 1) := by decide +kernel
theorem dX0_sift_78 : decode cX0_sift 78 = .ok (.getfield 11, 3) := by decide +kernel
theorem dX0_sift_81 : decode cX0_sift 81 = .ok (.invokestatic 72, 3) := by decide +kernel
theorem dX0_sift_84 : decode cX0_sift 84 = .ok (.lstore 4, 2) := by decide +kernel
theorem dX0_sift_86 : decode cX0_sift 86 = .ok (.iinc 6 1, 3) := by decide +kernel
theorem dX0_sift_89 : decode cX0_sift 89 = .ok (.goto (-83), 3) := by decide +kernel
theorem dX0_sift_92 : decode cX0_sift 92 = .ok (.lload 4, 2) := by decide +kernel
theorem dX0_sift_94 : decode cX0_sift 94 = .ok (.lreturn, 1) := by decide +kernel
theorem dX0_firstMoved_0 : decode cX0_firstMoved 0 = .ok (.iconst 0, 1) := by decide +kernel
theorem dX0_firstMoved_1 : decode cX0_firstMoved 1 = .ok (.istore_n 3, 1) := by decide +kernel
theorem dX0_firstMoved_2 : decode cX0_firstMoved 2 = .ok (.iload_n 3, 1) := by decide +kernel
theorem dX0_firstMoved_3 : decode cX0_firstMoved 3 = .ok (.aload_n 0, 1) := by decide +kernel
theorem dX0_firstMoved_4 : decode cX0_firstMoved 4 = .ok (.getfield 11, 3) := by decide +kernel
theorem dX0_firstMoved_7 : decode cX0_firstMoved 7 = .ok (.if_icmp .ge 20, 3) := by decide +kernel
theorem dX0_firstMoved_10 : decode cX0_firstMoved 10 = .ok (.lload_n 1, 1) := by decide +kernel
theorem dX0_firstMoved_11 : decode cX0_firstMoved 11 = .ok (.iload_n 3, 1) := by decide +kernel
theorem dX0_firstMoved_12 : decode cX0_firstMoved 12 = .ok (.invokestatic 69, 3) := by decide +kernel
theorem dX0_firstMoved_15 : decode cX0_firstMoved 15 = .ok (.iload_n 3, 1) := by decide +kernel
theorem dX0_firstMoved_16 : decode cX0_firstMoved 16 = .ok (.if_icmp .eq 5, 3) := by decide +kernel
theorem dX0_firstMoved_19 : decode cX0_firstMoved 19 = .ok (.iload_n 3, 1) := by decide +kernel
theorem dX0_firstMoved_20 : decode cX0_firstMoved 20 = .ok (.ireturn, 1) := by decide +kernel
theorem dX0_firstMoved_21 : decode cX0_firstMoved 21 = .ok (.iinc 3 1, 3) := by decide +kernel
theorem dX0_firstMoved_24 : decode cX0_firstMoved 24 = .ok (.goto (-22), 3) := by decide +kernel
theorem dX0_firstMoved_27 : decode cX0_firstMoved 27 = .ok (.aload_n 0, 1) := by decide +kernel
theorem dX0_firstMoved_28 : decode cX0_firstMoved 28 = .ok (.getfield 11, 3) := by decide +kernel
theorem dX0_firstMoved_31 : decode cX0_firstMoved 31 = .ok (.ireturn, 1) := by decide +kernel
theorem dX0_insert_0 : decode cX0_insert 0 = .ok (.aload_n 0, 1) := by decide +kernel
theorem dX0_insert_1 : decode cX0_insert 1 = .ok (.lload_n 1, 1) := by decide +kernel
theorem dX0_insert_2 : decode cX0_insert 2 = .ok (.invokevirtual 76, 3) := by decide +kernel
theorem dX0_insert_5 : decode cX0_insert 5 = .ok (.aload_n 0, 1) := by decide +kernel
theorem dX0_insert_6 : decode cX0_insert 6 = .ok (.getfield 11, 3) := by decide +kernel
theorem dX0_insert_9 : decode cX0_insert 9 = .ok (.iconst 1, 1) := by decide +kernel
theorem dX0_insert_10 : decode cX0_insert 10 = .ok (.isub, 1) := by decide +kernel
theorem dX0_insert_11 : decode cX0_insert 11 = .ok (.invokestatic 80, 3) := by decide +kernel
theorem dX0_insert_14 : decode cX0_insert 14 = .ok (.istore 4, 2) := by decide +kernel
theorem dX0_insert_16 : decode cX0_insert 16 = .ok (.iload_n 3, 1) := by decide +kernel
theorem dX0_insert_17 : decode cX0_insert 17 = .ok (.istore 5, 2) := by decide +kernel
theorem dX0_insert_19 : decode cX0_insert 19 = .ok (.iload 5, 2) := by decide +kernel
theorem dX0_insert_21 : decode cX0_insert 21 = .ok (.iload 4, 2) := by decide +kernel
theorem dX0_insert_23 : decode cX0_insert 23 = .ok (.if_icmp .gt 51, 3) := by decide +kernel
theorem dX0_insert_26 : decode cX0_insert 26 = .ok (.aload_n 0, 1) := by decide +kernel
theorem dX0_insert_27 : decode cX0_insert 27 = .ok (.getfield 33, 3) := by decide +kernel
theorem dX0_insert_30 : decode cX0_insert 30 = .ok (.iload 5, 2) := by decide +kernel
theorem dX0_insert_32 : decode cX0_insert 32 = .ok (.iaload, 1) := by decide +kernel
theorem dX0_insert_33 : decode cX0_insert 33 = .ok (.bipush 16, 2) := by decide +kernel
theorem dX0_insert_35 : decode cX0_insert 35 = .ok (.if_icmp .ge 33, 3) := by decide +kernel
theorem dX0_insert_38 : decode cX0_insert 38 = .ok (.aload_n 0, 1) := by decide +kernel
theorem dX0_insert_39 : decode cX0_insert 39 = .ok (.getfield 30, 3) := by decide +kernel
theorem dX0_insert_42 : decode cX0_insert 42 = .ok (.iload 5, 2) := by decide +kernel
theorem dX0_insert_44 : decode cX0_insert 44 = .ok (.bipush 16, 2) := by decide +kernel
theorem dX0_insert_46 : decode cX0_insert 46 = .ok (.imul, 1) := by decide +kernel
theorem dX0_insert_47 : decode cX0_insert 47 = .ok (.aload_n 0, 1) := by decide +kernel
theorem dX0_insert_48 : decode cX0_insert 48 = .ok (.getfield 33, 3) := by decide +kernel
theorem dX0_insert_51 : decode cX0_insert 51 = .ok (.iload 5, 2) := by decide +kernel
theorem dX0_insert_53 : decode cX0_insert 53 = .ok (.iaload, 1) := by decide +kernel
theorem dX0_insert_54 : decode cX0_insert 54 = .ok (.iadd, 1) := by decide +kernel
theorem dX0_insert_55 : decode cX0_insert 55 = .ok (.lload_n 1, 1) := by decide +kernel
theorem dX0_insert_56 : decode cX0_insert 56 = .ok (.lastore, 1) := by decide +kernel
theorem dX0_insert_57 : decode cX0_insert 57 = .ok (.aload_n 0, 1) := by decide +kernel
theorem dX0_insert_58 : decode cX0_insert 58 = .ok (.getfield 33, 3) := by decide +kernel
theorem dX0_insert_61 : decode cX0_insert 61 = .ok (.iload 5, 2) := by decide +kernel
theorem dX0_insert_63 : decode cX0_insert 63 = .ok (.dup2, 1) := by decide +kernel
theorem dX0_insert_64 : decode cX0_insert 64 = .ok (.iaload, 1) := by decide +kernel
theorem dX0_insert_65 : decode cX0_insert 65 = .ok (.iconst 1, 1) := by decide +kernel
theorem dX0_insert_66 : decode cX0_insert 66 = .ok (.iadd, 1) := by decide +kernel
theorem dX0_insert_67 : decode cX0_insert 67 = .ok (.iastore, 1) := by decide +kernel
theorem dX0_insert_68 : decode cX0_insert 68 = .ok (.iinc 5 1, 3) := by decide +kernel
theorem dX0_insert_71 : decode cX0_insert 71 = .ok (.goto (-52), 3) := by decide +kernel
theorem dX0_insert_74 : decode cX0_insert 74 = .ok (.iload 4, 2) := by decide +kernel
theorem dX0_insert_76 : decode cX0_insert 76 = .ok (.ireturn, 1) := by decide +kernel
theorem dX0_untried_0 : decode cX0_untried 0 = .ok (.iload_n 1, 1) := by decide +kernel
theorem dX0_untried_1 : decode cX0_untried 1 = .ok (.istore_n 2, 1) := by decide +kernel
theorem dX0_untried_2 : decode cX0_untried 2 = .ok (.iload_n 2, 1) := by decide +kernel
theorem dX0_untried_3 : decode cX0_untried 3 = .ok (.aload_n 0, 1) := by decide +kernel
theorem dX0_untried_4 : decode cX0_untried 4 = .ok (.getfield 11, 3) := by decide +kernel
theorem dX0_untried_7 : decode cX0_untried 7 = .ok (.if_icmp .ge 44, 3) := by decide +kernel
theorem dX0_untried_10 : decode cX0_untried 10 = .ok (.aload_n 0, 1) := by decide +kernel
theorem dX0_untried_11 : decode cX0_untried 11 = .ok (.getfield 19, 3) := by decide +kernel
theorem dX0_untried_14 : decode cX0_untried 14 = .ok (.iload_n 1, 1) := by decide +kernel
theorem dX0_untried_15 : decode cX0_untried 15 = .ok (.iaload, 1) := by decide +kernel
theorem dX0_untried_16 : decode cX0_untried 16 = .ok (.iload_n 2, 1) := by decide +kernel
theorem dX0_untried_17 : decode cX0_untried 17 = .ok (.ishr, 1) := by decide +kernel
theorem dX0_untried_18 : decode cX0_untried 18 = .ok (.iconst 1, 1) := by decide +kernel
theorem dX0_untried_19 : decode cX0_untried 19 = .ok (.iand, 1) := by decide +kernel
theorem dX0_untried_20 : decode cX0_untried 20 = .ok (.ifCond .eq 25, 3) := by decide +kernel
theorem dX0_untried_23 : decode cX0_untried 23 = .ok (.aload_n 0, 1) := by decide +kernel
theorem dX0_untried_24 : decode cX0_untried 24 = .ok (.getfield 36, 3) := by decide +kernel
theorem dX0_untried_27 : decode cX0_untried 27 = .ok (.iload_n 1, 1) := by decide +kernel
theorem dX0_untried_28 : decode cX0_untried 28 = .ok (.bipush 16, 2) := by decide +kernel
theorem dX0_untried_30 : decode cX0_untried 30 = .ok (.imul, 1) := by decide +kernel
theorem dX0_untried_31 : decode cX0_untried 31 = .ok (.iload_n 2, 1) := by decide +kernel
theorem dX0_untried_32 : decode cX0_untried 32 = .ok (.iadd, 1) := by decide +kernel
theorem dX0_untried_33 : decode cX0_untried 33 = .ok (.iaload, 1) := by decide +kernel
theorem dX0_untried_34 : decode cX0_untried 34 = .ok (.aload_n 0, 1) := by decide +kernel
theorem dX0_untried_35 : decode cX0_untried 35 = .ok (.getfield 33, 3) := by decide +kernel
theorem dX0_untried_38 : decode cX0_untried 38 = .ok (.iload_n 1, 1) := by decide +kernel
theorem dX0_untried_39 : decode cX0_untried 39 = .ok (.iaload, 1) := by decide +kernel
theorem dX0_untried_40 : decode cX0_untried 40 = .ok (.if_icmp .ge 5, 3) := by decide +kernel
theorem dX0_untried_43 : decode cX0_untried 43 = .ok (.iload_n 2, 1) := by decide +kernel
theorem dX0_untried_44 : decode cX0_untried 44 = .ok (.ireturn, 1) := by decide +kernel
theorem dX0_untried_45 : decode cX0_untried 45 = .ok (.iinc 2 1, 3) := by decide +kernel
theorem dX0_untried_48 : decode cX0_untried 48 = .ok (.goto (-46), 3) := by decide +kernel
theorem dX0_untried_51 : decode cX0_untried 51 = .ok (.iconst (-1), 1) := by decide +kernel
theorem dX0_untried_52 : decode cX0_untried 52 = .ok (.ireturn, 1) := by decide +kernel
theorem dX0_tryMaker_0 : decode cX0_tryMaker 0 = .ok (.iload_n 1, 1) := by decide +kernel
theorem dX0_tryMaker_1 : decode cX0_tryMaker 1 = .ok (.bipush 16, 2) := by decide +kernel
theorem dX0_tryMaker_3 : decode cX0_tryMaker 3 = .ok (.imul, 1) := by decide +kernel
theorem dX0_tryMaker_4 : decode cX0_tryMaker 4 = .ok (.iload_n 2, 1) := by decide +kernel
theorem dX0_tryMaker_5 : decode cX0_tryMaker 5 = .ok (.iadd, 1) := by decide +kernel
theorem dX0_tryMaker_6 : decode cX0_tryMaker 6 = .ok (.istore_n 3, 1) := by decide +kernel
theorem dX0_tryMaker_7 : decode cX0_tryMaker 7 = .ok (.aload_n 0, 1) := by decide +kernel
theorem dX0_tryMaker_8 : decode cX0_tryMaker 8 = .ok (.getfield 30, 3) := by decide +kernel
theorem dX0_tryMaker_11 : decode cX0_tryMaker 11 = .ok (.iload_n 1, 1) := by decide +kernel
theorem dX0_tryMaker_12 : decode cX0_tryMaker 12 = .ok (.bipush 16, 2) := by decide +kernel
theorem dX0_tryMaker_14 : decode cX0_tryMaker 14 = .ok (.imul, 1) := by decide +kernel
theorem dX0_tryMaker_15 : decode cX0_tryMaker 15 = .ok (.aload_n 0, 1) := by decide +kernel
theorem dX0_tryMaker_16 : decode cX0_tryMaker 16 = .ok (.getfield 36, 3) := by decide +kernel
theorem dX0_tryMaker_19 : decode cX0_tryMaker 19 = .ok (.iload_n 3, 1) := by decide +kernel
theorem dX0_tryMaker_20 : decode cX0_tryMaker 20 = .ok (.iaload, 1) := by decide +kernel
theorem dX0_tryMaker_21 : decode cX0_tryMaker 21 = .ok (.iadd, 1) := by decide +kernel
theorem dX0_tryMaker_22 : decode cX0_tryMaker 22 = .ok (.laload, 1) := by decide +kernel
theorem dX0_tryMaker_23 : decode cX0_tryMaker 23 = .ok (.lstore 4, 2) := by decide +kernel
theorem dX0_tryMaker_25 : decode cX0_tryMaker 25 = .ok (.aload_n 0, 1) := by decide +kernel
theorem dX0_tryMaker_26 : decode cX0_tryMaker 26 = .ok (.getfield 36, 3) := by decide +kernel
theorem dX0_tryMaker_29 : decode cX0_tryMaker 29 = .ok (.iload_n 3, 1) := by decide +kernel
theorem dX0_tryMaker_30 : decode cX0_tryMaker 30 = .ok (.dup2, 1) := by decide +kernel
theorem dX0_tryMaker_31 : decode cX0_tryMaker 31 = .ok (.iaload, 1) := by decide +kernel
theorem dX0_tryMaker_32 : decode cX0_tryMaker 32 = .ok (.iconst 1, 1) := by decide +kernel
theorem dX0_tryMaker_33 : decode cX0_tryMaker 33 = .ok (.iadd, 1) := by decide +kernel
theorem dX0_tryMaker_34 : decode cX0_tryMaker 34 = .ok (.iastore, 1) := by decide +kernel
theorem dX0_tryMaker_35 : decode cX0_tryMaker 35 = .ok (.lload 4, 2) := by decide +kernel
theorem dX0_tryMaker_37 : decode cX0_tryMaker 37 = .ok (.iload_n 2, 1) := by decide +kernel
theorem dX0_tryMaker_38 : decode cX0_tryMaker 38 = .ok (.invokestatic 69, 3) := by decide +kernel
theorem dX0_tryMaker_41 : decode cX0_tryMaker 41 = .ok (.istore 6, 2) := by decide +kernel
theorem dX0_tryMaker_43 : decode cX0_tryMaker 43 = .ok (.iload_n 1, 1) := by decide +kernel
theorem dX0_tryMaker_44 : decode cX0_tryMaker 44 = .ok (.bipush 16, 2) := by decide +kernel
theorem dX0_tryMaker_46 : decode cX0_tryMaker 46 = .ok (.imul, 1) := by decide +kernel
theorem dX0_tryMaker_47 : decode cX0_tryMaker 47 = .ok (.iload 6, 2) := by decide +kernel
theorem dX0_tryMaker_49 : decode cX0_tryMaker 49 = .ok (.iadd, 1) := by decide +kernel
theorem dX0_tryMaker_50 : decode cX0_tryMaker 50 = .ok (.istore 7, 2) := by decide +kernel
theorem dX0_tryMaker_52 : decode cX0_tryMaker 52 = .ok (.aload_n 0, 1) := by decide +kernel
theorem dX0_tryMaker_53 : decode cX0_tryMaker 53 = .ok (.getfield 23, 3) := by decide +kernel
theorem dX0_tryMaker_56 : decode cX0_tryMaker 56 = .ok (.iload_n 3, 1) := by decide +kernel
theorem dX0_tryMaker_57 : decode cX0_tryMaker 57 = .ok (.laload, 1) := by decide +kernel
theorem dX0_tryMaker_58 : decode cX0_tryMaker 58 = .ok (.lload 4, 2) := by decide +kernel
theorem dX0_tryMaker_60 : decode cX0_tryMaker 60 = .ok (.aload_n 0, 1) := by decide +kernel
theorem dX0_tryMaker_61 : decode cX0_tryMaker 61 = .ok (.getfield 11, 3) := by decide +kernel
theorem dX0_tryMaker_64 : decode cX0_tryMaker 64 = .ok (.invokestatic 72, 3) := by decide +kernel
theorem dX0_tryMaker_67 : decode cX0_tryMaker 67 = .ok (.lstore 8, 2) := by decide +kernel
theorem dX0_tryMaker_69 : decode cX0_tryMaker 69 = .ok (.aload_n 0, 1) := by decide +kernel
theorem dX0_tryMaker_70 : decode cX0_tryMaker 70 = .ok (.getfield 19, 3) := by decide +kernel
theorem dX0_tryMaker_73 : decode cX0_tryMaker 73 = .ok (.iload_n 1, 1) := by decide +kernel
theorem dX0_tryMaker_74 : decode cX0_tryMaker 74 = .ok (.iaload, 1) := by decide +kernel
theorem dX0_tryMaker_75 : decode cX0_tryMaker 75 = .ok (.iload 6, 2) := by decide +kernel
theorem dX0_tryMaker_77 : decode cX0_tryMaker 77 = .ok (.ishr, 1) := by decide +kernel
theorem dX0_tryMaker_78 : decode cX0_tryMaker 78 = .ok (.iconst 1, 1) := by decide +kernel
theorem dX0_tryMaker_79 : decode cX0_tryMaker 79 = .ok (.iand, 1) := by decide +kernel
theorem dX0_tryMaker_80 : decode cX0_tryMaker 80 = .ok (.ifCond .ne 54, 3) := by decide +kernel
theorem dX0_tryMaker_83 : decode cX0_tryMaker 83 = .ok (.aload_n 0, 1) := by decide +kernel
theorem dX0_tryMaker_84 : decode cX0_tryMaker 84 = .ok (.getfield 19, 3) := by decide +kernel
theorem dX0_tryMaker_87 : decode cX0_tryMaker 87 = .ok (.iload_n 1, 1) := by decide +kernel
theorem dX0_tryMaker_88 : decode cX0_tryMaker 88 = .ok (.dup2, 1) := by decide +kernel
theorem dX0_tryMaker_89 : decode cX0_tryMaker 89 = .ok (.iaload, 1) := by decide +kernel
theorem dX0_tryMaker_90 : decode cX0_tryMaker 90 = .ok (.iconst 1, 1) := by decide +kernel
theorem dX0_tryMaker_91 : decode cX0_tryMaker 91 = .ok (.iload 6, 2) := by decide +kernel
theorem dX0_tryMaker_93 : decode cX0_tryMaker 93 = .ok (.ishl, 1) := by decide +kernel
theorem dX0_tryMaker_94 : decode cX0_tryMaker 94 = .ok (.ior, 1) := by decide +kernel
theorem dX0_tryMaker_95 : decode cX0_tryMaker 95 = .ok (.iastore, 1) := by decide +kernel
theorem dX0_tryMaker_96 : decode cX0_tryMaker 96 = .ok (.aload_n 0, 1) := by decide +kernel
theorem dX0_tryMaker_97 : decode cX0_tryMaker 97 = .ok (.getfield 23, 3) := by decide +kernel
theorem dX0_tryMaker_100 : decode cX0_tryMaker 100 = .ok (.iload 7, 2) := by decide +kernel
theorem dX0_tryMaker_102 : decode cX0_tryMaker 102 = .ok (.lload 8, 2) := by decide +kernel
theorem dX0_tryMaker_104 : decode cX0_tryMaker 104 = .ok (.lastore, 1) := by decide +kernel
theorem dX0_tryMaker_105 : decode cX0_tryMaker 105 = .ok (.aload_n 0, 1) := by decide +kernel
theorem dX0_tryMaker_106 : decode cX0_tryMaker 106 = .ok (.getfield 27, 3) := by decide +kernel
theorem dX0_tryMaker_109 : decode cX0_tryMaker 109 = .ok (.iload 7, 2) := by decide +kernel
theorem dX0_tryMaker_111 : decode cX0_tryMaker 111 = .ok (.lload 8, 2) := by decide +kernel
theorem dX0_tryMaker_113 : decode cX0_tryMaker 113 = .ok (.aload_n 0, 1) := by decide +kernel
theorem dX0_tryMaker_114 : decode cX0_tryMaker 114 = .ok (.getfield 11, 3) := by decide +kernel
theorem dX0_tryMaker_117 : decode cX0_tryMaker 117 = .ok (.invokestatic 86, 3) := by decide +kernel
theorem dX0_tryMaker_120 : decode cX0_tryMaker 120 = .ok (.lastore, 1) := by decide +kernel
theorem dX0_tryMaker_121 : decode cX0_tryMaker 121 = .ok (.aload_n 0, 1) := by decide +kernel
theorem dX0_tryMaker_122 : decode cX0_tryMaker 122 = .ok (.getfield 36, 3) := by decide +kernel
theorem dX0_tryMaker_125 : decode cX0_tryMaker 125 = .ok (.iload 7, 2) := by decide +kernel
theorem dX0_tryMaker_127 : decode cX0_tryMaker 127 = .ok (.iconst 0, 1) := by decide +kernel
theorem dX0_tryMaker_128 : decode cX0_tryMaker 128 = .ok (.iastore, 1) := by decide +kernel
theorem dX0_tryMaker_129 : decode cX0_tryMaker 129 = .ok (.aload_n 0, 1) := by decide +kernel
theorem dX0_tryMaker_130 : decode cX0_tryMaker 130 = .ok (.getfield 15, 3) := by decide +kernel
theorem dX0_tryMaker_133 : decode cX0_tryMaker 133 = .ok (.lreturn, 1) := by decide +kernel
theorem dX0_tryMaker_134 : decode cX0_tryMaker 134 = .ok (.lload 8, 2) := by decide +kernel
theorem dX0_tryMaker_136 : decode cX0_tryMaker 136 = .ok (.aload_n 0, 1) := by decide +kernel
theorem dX0_tryMaker_137 : decode cX0_tryMaker 137 = .ok (.getfield 23, 3) := by decide +kernel
theorem dX0_tryMaker_140 : decode cX0_tryMaker 140 = .ok (.iload 7, 2) := by decide +kernel
theorem dX0_tryMaker_142 : decode cX0_tryMaker 142 = .ok (.laload, 1) := by decide +kernel
theorem dX0_tryMaker_143 : decode cX0_tryMaker 143 = .ok (.lcmp, 1) := by decide +kernel
theorem dX0_tryMaker_144 : decode cX0_tryMaker 144 = .ok (.ifCond .ne 8, 3) := by decide +kernel
theorem dX0_tryMaker_147 : decode cX0_tryMaker 147 = .ok (.aload_n 0, 1) := by decide +kernel
theorem dX0_tryMaker_148 : decode cX0_tryMaker 148 = .ok (.getfield 15, 3) := by decide +kernel
theorem dX0_tryMaker_151 : decode cX0_tryMaker 151 = .ok (.lreturn, 1) := by decide +kernel
theorem dX0_tryMaker_152 : decode cX0_tryMaker 152 = .ok (.aload_n 0, 1) := by decide +kernel
theorem dX0_tryMaker_153 : decode cX0_tryMaker 153 = .ok (.lload 8, 2) := by decide +kernel
theorem dX0_tryMaker_155 : decode cX0_tryMaker 155 = .ok (.aload_n 0, 1) := by decide +kernel
theorem dX0_tryMaker_156 : decode cX0_tryMaker 156 = .ok (.getfield 27, 3) := by decide +kernel
theorem dX0_tryMaker_159 : decode cX0_tryMaker 159 = .ok (.iload 7, 2) := by decide +kernel
theorem dX0_tryMaker_161 : decode cX0_tryMaker 161 = .ok (.laload, 1) := by decide +kernel
theorem dX0_tryMaker_162 : decode cX0_tryMaker 162 = .ok (.aload_n 0, 1) := by decide +kernel
theorem dX0_tryMaker_163 : decode cX0_tryMaker 163 = .ok (.getfield 11, 3) := by decide +kernel
theorem dX0_tryMaker_166 : decode cX0_tryMaker 166 = .ok (.invokestatic 72, 3) := by decide +kernel
theorem dX0_tryMaker_169 : decode cX0_tryMaker 169 = .ok (.iload_n 1, 1) := by decide +kernel
theorem dX0_tryMaker_170 : decode cX0_tryMaker 170 = .ok (.iconst 1, 1) := by decide +kernel
theorem dX0_tryMaker_171 : decode cX0_tryMaker 171 = .ok (.iadd, 1) := by decide +kernel
theorem dX0_tryMaker_172 : decode cX0_tryMaker 172 = .ok (.invokevirtual 52, 3) := by decide +kernel
theorem dX0_tryMaker_175 : decode cX0_tryMaker 175 = .ok (.lreturn, 1) := by decide +kernel
theorem dX0_countMakers_0 : decode cX0_countMakers 0 = .ok (.aload_n 0, 1) := by decide +kernel
theorem dX0_countMakers_1 : decode cX0_countMakers 1 = .ok (.getfield 33, 3) := by decide +kernel
theorem dX0_countMakers_4 : decode cX0_countMakers 4 = .ok (.iconst 0, 1) := by decide +kernel
theorem dX0_countMakers_5 : decode cX0_countMakers 5 = .ok (.iaload, 1) := by decide +kernel
theorem dX0_countMakers_6 : decode cX0_countMakers 6 = .ok (.ireturn, 1) := by decide +kernel
theorem dX0_maker_0 : decode cX0_maker 0 = .ok (.iload_n 1, 1) := by decide +kernel
theorem dX0_maker_1 : decode cX0_maker 1 = .ok (.ifCond .lt 18, 3) := by decide +kernel
theorem dX0_maker_4 : decode cX0_maker 4 = .ok (.iload_n 1, 1) := by decide +kernel
theorem dX0_maker_5 : decode cX0_maker 5 = .ok (.bipush 16, 2) := by decide +kernel
theorem dX0_maker_7 : decode cX0_maker 7 = .ok (.if_icmp .ge 12, 3) := by decide +kernel
theorem dX0_maker_10 : decode cX0_maker 10 = .ok (.aload_n 0, 1) := by decide +kernel
theorem dX0_maker_11 : decode cX0_maker 11 = .ok (.getfield 30, 3) := by decide +kernel
theorem dX0_maker_14 : decode cX0_maker 14 = .ok (.iload_n 1, 1) := by decide +kernel
theorem dX0_maker_15 : decode cX0_maker 15 = .ok (.laload, 1) := by decide +kernel
theorem dX0_maker_16 : decode cX0_maker 16 = .ok (.goto 7, 3) := by decide +kernel
theorem dX0_maker_19 : decode cX0_maker 19 = .ok (.aload_n 0, 1) := by decide +kernel
theorem dX0_maker_20 : decode cX0_maker 20 = .ok (.getfield 15, 3) := by decide +kernel
theorem dX0_maker_23 : decode cX0_maker 23 = .ok (.lreturn, 1) := by decide +kernel
theorem dX0_size_0 : decode cX0_size 0 = .ok (.aload_n 0, 1) := by decide +kernel
theorem dX0_size_1 : decode cX0_size 1 = .ok (.iconst 0, 1) := by decide +kernel
theorem dX0_size_2 : decode cX0_size 2 = .ok (.invokevirtual 89, 3) := by decide +kernel
theorem dX0_size_5 : decode cX0_size 5 = .ok (.ireturn, 1) := by decide +kernel
theorem dX0_sizeFrom_0 : decode cX0_sizeFrom 0 = .ok (.iconst 1, 1) := by decide +kernel
theorem dX0_sizeFrom_1 : decode cX0_sizeFrom 1 = .ok (.istore_n 2, 1) := by decide +kernel
theorem dX0_sizeFrom_2 : decode cX0_sizeFrom 2 = .ok (.iload_n 1, 1) := by decide +kernel
theorem dX0_sizeFrom_3 : decode cX0_sizeFrom 3 = .ok (.istore_n 3, 1) := by decide +kernel
theorem dX0_sizeFrom_4 : decode cX0_sizeFrom 4 = .ok (.iload_n 3, 1) := by decide +kernel
theorem dX0_sizeFrom_5 : decode cX0_sizeFrom 5 = .ok (.aload_n 0, 1) := by decide +kernel
theorem dX0_sizeFrom_6 : decode cX0_sizeFrom 6 = .ok (.getfield 11, 3) := by decide +kernel
theorem dX0_sizeFrom_9 : decode cX0_sizeFrom 9 = .ok (.if_icmp .ge 21, 3) := by decide +kernel
theorem dX0_sizeFrom_12 : decode cX0_sizeFrom 12 = .ok (.iload_n 2, 1) := by decide +kernel
theorem dX0_sizeFrom_13 : decode cX0_sizeFrom 13 = .ok (.aload_n 0, 1) := by decide +kernel
theorem dX0_sizeFrom_14 : decode cX0_sizeFrom 14 = .ok (.getfield 19, 3) := by decide +kernel
theorem dX0_sizeFrom_17 : decode cX0_sizeFrom 17 = .ok (.iload_n 3, 1) := by decide +kernel
theorem dX0_sizeFrom_18 : decode cX0_sizeFrom 18 = .ok (.iaload, 1) := by decide +kernel
theorem dX0_sizeFrom_19 : decode cX0_sizeFrom 19 = .ok (.invokestatic 92, 3) := by decide +kernel
theorem dX0_sizeFrom_22 : decode cX0_sizeFrom 22 = .ok (.imul, 1) := by decide +kernel
theorem dX0_sizeFrom_23 : decode cX0_sizeFrom 23 = .ok (.istore_n 2, 1) := by decide +kernel
theorem dX0_sizeFrom_24 : decode cX0_sizeFrom 24 = .ok (.iinc 3 1, 3) := by decide +kernel
theorem dX0_sizeFrom_27 : decode cX0_sizeFrom 27 = .ok (.goto (-23), 3) := by decide +kernel
theorem dX0_sizeFrom_30 : decode cX0_sizeFrom 30 = .ok (.iload_n 2, 1) := by decide +kernel
theorem dX0_sizeFrom_31 : decode cX0_sizeFrom 31 = .ok (.ireturn, 1) := by decide +kernel
theorem dX0_contains_0 : decode cX0_contains 0 = .ok (.aload_n 0, 1) := by decide +kernel
theorem dX0_contains_1 : decode cX0_contains 1 = .ok (.lload_n 1, 1) := by decide +kernel
theorem dX0_contains_2 : decode cX0_contains 2 = .ok (.iconst 0, 1) := by decide +kernel
theorem dX0_contains_3 : decode cX0_contains 3 = .ok (.invokevirtual 52, 3) := by decide +kernel
theorem dX0_contains_6 : decode cX0_contains 6 = .ok (.aload_n 0, 1) := by decide +kernel
theorem dX0_contains_7 : decode cX0_contains 7 = .ok (.getfield 15, 3) := by decide +kernel
theorem dX0_contains_10 : decode cX0_contains 10 = .ok (.lcmp, 1) := by decide +kernel
theorem dX0_contains_11 : decode cX0_contains 11 = .ok (.ifCond .ne 7, 3) := by decide +kernel
theorem dX0_contains_14 : decode cX0_contains 14 = .ok (.iconst 1, 1) := by decide +kernel
theorem dX0_contains_15 : decode cX0_contains 15 = .ok (.goto 4, 3) := by decide +kernel
theorem dX0_contains_18 : decode cX0_contains 18 = .ok (.iconst 0, 1) := by decide +kernel
theorem dX0_contains_19 : decode cX0_contains 19 = .ok (.ireturn, 1) := by decide +kernel
theorem dX0_follow_0 : decode cX0_follow 0 = .ok (.aload_n 0, 1) := by decide +kernel
theorem dX0_follow_1 : decode cX0_follow 1 = .ok (.aload_n 0, 1) := by decide +kernel
theorem dX0_follow_2 : decode cX0_follow 2 = .ok (.lload_n 1, 1) := by decide +kernel
theorem dX0_follow_3 : decode cX0_follow 3 = .ok (.iconst 0, 1) := by decide +kernel
theorem dX0_follow_4 : decode cX0_follow 4 = .ok (.invokevirtual 52, 3) := by decide +kernel
theorem dX0_follow_7 : decode cX0_follow 7 = .ok (.invokevirtual 76, 3) := by decide +kernel
theorem dX0_follow_10 : decode cX0_follow 10 = .ok (.ireturn, 1) := by decide +kernel
theorem dX0_reachedAt_0 : decode cX0_reachedAt 0 = .ok (.iload_n 1, 1) := by decide +kernel
theorem dX0_reachedAt_1 : decode cX0_reachedAt 1 = .ok (.ifCond .lt 20, 3) := by decide +kernel
theorem dX0_reachedAt_4 : decode cX0_reachedAt 4 = .ok (.iload_n 1, 1) := by decide +kernel
theorem dX0_reachedAt_5 : decode cX0_reachedAt 5 = .ok (.aload_n 0, 1) := by decide +kernel
theorem dX0_reachedAt_6 : decode cX0_reachedAt 6 = .ok (.getfield 11, 3) := by decide +kernel
theorem dX0_reachedAt_9 : decode cX0_reachedAt 9 = .ok (.if_icmp .ge 12, 3) := by decide +kernel
theorem dX0_reachedAt_12 : decode cX0_reachedAt 12 = .ok (.aload_n 0, 1) := by decide +kernel
theorem dX0_reachedAt_13 : decode cX0_reachedAt 13 = .ok (.getfield 19, 3) := by decide +kernel
theorem dX0_reachedAt_16 : decode cX0_reachedAt 16 = .ok (.iload_n 1, 1) := by decide +kernel
theorem dX0_reachedAt_17 : decode cX0_reachedAt 17 = .ok (.iaload, 1) := by decide +kernel
theorem dX0_reachedAt_18 : decode cX0_reachedAt 18 = .ok (.goto 4, 3) := by decide +kernel
theorem dX0_reachedAt_21 : decode cX0_reachedAt 21 = .ok (.iconst 0, 1) := by decide +kernel
theorem dX0_reachedAt_22 : decode cX0_reachedAt 22 = .ok (.ireturn, 1) := by decide +kernel
theorem dX0_countHeld_0 : decode cX0_countHeld 0 = .ok (.iconst 0, 1) := by decide +kernel
theorem dX0_countHeld_1 : decode cX0_countHeld 1 = .ok (.istore_n 1, 1) := by decide +kernel
theorem dX0_countHeld_2 : decode cX0_countHeld 2 = .ok (.iconst 0, 1) := by decide +kernel
theorem dX0_countHeld_3 : decode cX0_countHeld 3 = .ok (.istore_n 2, 1) := by decide +kernel
theorem dX0_countHeld_4 : decode cX0_countHeld 4 = .ok (.iload_n 2, 1) := by decide +kernel
theorem dX0_countHeld_5 : decode cX0_countHeld 5 = .ok (.aload_n 0, 1) := by decide +kernel
theorem dX0_countHeld_6 : decode cX0_countHeld 6 = .ok (.getfield 11, 3) := by decide +kernel
theorem dX0_countHeld_9 : decode cX0_countHeld 9 = .ok (.if_icmp .ge 25, 3) := by decide +kernel
theorem dX0_countHeld_12 : decode cX0_countHeld 12 = .ok (.aload_n 0, 1) := by decide +kernel
theorem dX0_countHeld_13 : decode cX0_countHeld 13 = .ok (.getfield 19, 3) := by decide +kernel
theorem dX0_countHeld_16 : decode cX0_countHeld 16 = .ok (.iload_n 2, 1) := by decide +kernel
theorem dX0_countHeld_17 : decode cX0_countHeld 17 = .ok (.iaload, 1) := by decide +kernel
theorem dX0_countHeld_18 : decode cX0_countHeld 18 = .ok (.invokestatic 92, 3) := by decide +kernel
theorem dX0_countHeld_21 : decode cX0_countHeld 21 = .ok (.iconst 1, 1) := by decide +kernel
theorem dX0_countHeld_22 : decode cX0_countHeld 22 = .ok (.if_icmp .le 6, 3) := by decide +kernel
theorem dX0_countHeld_25 : decode cX0_countHeld 25 = .ok (.iinc 1 1, 3) := by decide +kernel
theorem dX0_countHeld_28 : decode cX0_countHeld 28 = .ok (.iinc 2 1, 3) := by decide +kernel
theorem dX0_countHeld_31 : decode cX0_countHeld 31 = .ok (.goto (-27), 3) := by decide +kernel
theorem dX0_countHeld_34 : decode cX0_countHeld 34 = .ok (.iload_n 1, 1) := by decide +kernel
theorem dX0_countHeld_35 : decode cX0_countHeld 35 = .ok (.ireturn, 1) := by decide +kernel
theorem dX0_heldPoint_0 : decode cX0_heldPoint 0 = .ok (.iconst 0, 1) := by decide +kernel
theorem dX0_heldPoint_1 : decode cX0_heldPoint 1 = .ok (.istore_n 2, 1) := by decide +kernel
theorem dX0_heldPoint_2 : decode cX0_heldPoint 2 = .ok (.iconst 0, 1) := by decide +kernel
theorem dX0_heldPoint_3 : decode cX0_heldPoint 3 = .ok (.istore_n 3, 1) := by decide +kernel
theorem dX0_heldPoint_4 : decode cX0_heldPoint 4 = .ok (.iload_n 3, 1) := by decide +kernel
theorem dX0_heldPoint_5 : decode cX0_heldPoint 5 = .ok (.aload_n 0, 1) := by decide +kernel
theorem dX0_heldPoint_6 : decode cX0_heldPoint 6 = .ok (.getfield 11, 3) := by decide +kernel
theorem dX0_heldPoint_9 : decode cX0_heldPoint 9 = .ok (.if_icmp .ge 32, 3) := by decide +kernel
theorem dX0_heldPoint_12 : decode cX0_heldPoint 12 = .ok (.aload_n 0, 1) := by decide +kernel
theorem dX0_heldPoint_13 : decode cX0_heldPoint 13 = .ok (.getfield 19, 3) := by decide +kernel
theorem dX0_heldPoint_16 : decode cX0_heldPoint 16 = .ok (.iload_n 3, 1) := by decide +kernel
theorem dX0_heldPoint_17 : decode cX0_heldPoint 17 = .ok (.iaload, 1) := by decide +kernel
theorem dX0_heldPoint_18 : decode cX0_heldPoint 18 = .ok (.invokestatic 92, 3) := by decide +kernel
theorem dX0_heldPoint_21 : decode cX0_heldPoint 21 = .ok (.iconst 1, 1) := by decide +kernel
theorem dX0_heldPoint_22 : decode cX0_heldPoint 22 = .ok (.if_icmp .le 13, 3) := by decide +kernel
theorem dX0_heldPoint_25 : decode cX0_heldPoint 25 = .ok (.iload_n 2, 1) := by decide +kernel
theorem dX0_heldPoint_26 : decode cX0_heldPoint 26 = .ok (.iload_n 1, 1) := by decide +kernel
theorem dX0_heldPoint_27 : decode cX0_heldPoint 27 = .ok (.if_icmp .ne 5, 3) := by decide +kernel
theorem dX0_heldPoint_30 : decode cX0_heldPoint 30 = .ok (.iload_n 3, 1) := by decide +kernel
theorem dX0_heldPoint_31 : decode cX0_heldPoint 31 = .ok (.ireturn, 1) := by decide +kernel
theorem dX0_heldPoint_32 : decode cX0_heldPoint 32 = .ok (.iinc 2 1, 3) := by decide +kernel
theorem dX0_heldPoint_35 : decode cX0_heldPoint 35 = .ok (.iinc 3 1, 3) := by decide +kernel
theorem dX0_heldPoint_38 : decode cX0_heldPoint 38 = .ok (.goto (-34), 3) := by decide +kernel
theorem dX0_heldPoint_41 : decode cX0_heldPoint 41 = .ok (.iconst (-1), 1) := by decide +kernel
theorem dX0_heldPoint_42 : decode cX0_heldPoint 42 = .ok (.ireturn, 1) := by decide +kernel
theorem dX0_countFree_0 : decode cX0_countFree 0 = .ok (.iconst 0, 1) := by decide +kernel
theorem dX0_countFree_1 : decode cX0_countFree 1 = .ok (.istore_n 1, 1) := by decide +kernel
theorem dX0_countFree_2 : decode cX0_countFree 2 = .ok (.iload_n 1, 1) := by decide +kernel
theorem dX0_countFree_3 : decode cX0_countFree 3 = .ok (.aload_n 0, 1) := by decide +kernel
theorem dX0_countFree_4 : decode cX0_countFree 4 = .ok (.getfield 11, 3) := by decide +kernel
theorem dX0_countFree_7 : decode cX0_countFree 7 = .ok (.if_icmp .ge 27, 3) := by decide +kernel
theorem dX0_countFree_10 : decode cX0_countFree 10 = .ok (.aload_n 0, 1) := by decide +kernel
theorem dX0_countFree_11 : decode cX0_countFree 11 = .ok (.getfield 19, 3) := by decide +kernel
theorem dX0_countFree_14 : decode cX0_countFree 14 = .ok (.iload_n 1, 1) := by decide +kernel
theorem dX0_countFree_15 : decode cX0_countFree 15 = .ok (.iaload, 1) := by decide +kernel
theorem dX0_countFree_16 : decode cX0_countFree 16 = .ok (.invokestatic 92, 3) := by decide +kernel
theorem dX0_countFree_19 : decode cX0_countFree 19 = .ok (.aload_n 0, 1) := by decide +kernel
theorem dX0_countFree_20 : decode cX0_countFree 20 = .ok (.getfield 11, 3) := by decide +kernel
theorem dX0_countFree_23 : decode cX0_countFree 23 = .ok (.iload_n 1, 1) := by decide +kernel
theorem dX0_countFree_24 : decode cX0_countFree 24 = .ok (.isub, 1) := by decide +kernel
theorem dX0_countFree_25 : decode cX0_countFree 25 = .ok (.if_icmp .ne 9, 3) := by decide +kernel
theorem dX0_countFree_28 : decode cX0_countFree 28 = .ok (.iinc 1 1, 3) := by decide +kernel
theorem dX0_countFree_31 : decode cX0_countFree 31 = .ok (.goto (-29), 3) := by decide +kernel
theorem dX0_countFree_34 : decode cX0_countFree 34 = .ok (.iload_n 1, 1) := by decide +kernel
theorem dX0_countFree_35 : decode cX0_countFree 35 = .ok (.ireturn, 1) := by decide +kernel
theorem dX0_carrier_0 : decode cX0_carrier 0 = .ok (.aload_n 0, 1) := by decide +kernel
theorem dX0_carrier_1 : decode cX0_carrier 1 = .ok (.getfield 23, 3) := by decide +kernel
theorem dX0_carrier_4 : decode cX0_carrier 4 = .ok (.iload_n 1, 1) := by decide +kernel
theorem dX0_carrier_5 : decode cX0_carrier 5 = .ok (.bipush 16, 2) := by decide +kernel
theorem dX0_carrier_7 : decode cX0_carrier 7 = .ok (.imul, 1) := by decide +kernel
theorem dX0_carrier_8 : decode cX0_carrier 8 = .ok (.iload_n 2, 1) := by decide +kernel
theorem dX0_carrier_9 : decode cX0_carrier 9 = .ok (.iadd, 1) := by decide +kernel
theorem dX0_carrier_10 : decode cX0_carrier 10 = .ok (.laload, 1) := by decide +kernel
theorem dX0_carrier_11 : decode cX0_carrier 11 = .ok (.lreturn, 1) := by decide +kernel
theorem dX0_pick_0 : decode cX0_pick 0 = .ok (.aload_n 0, 1) := by decide +kernel
theorem dX0_pick_1 : decode cX0_pick 1 = .ok (.getfield 15, 3) := by decide +kernel
theorem dX0_pick_4 : decode cX0_pick 4 = .ok (.lstore_n 2, 1) := by decide +kernel
theorem dX0_pick_5 : decode cX0_pick 5 = .ok (.iload_n 1, 1) := by decide +kernel
theorem dX0_pick_6 : decode cX0_pick 6 = .ok (.istore 4, 2) := by decide +kernel
theorem dX0_pick_8 : decode cX0_pick 8 = .ok (.iconst 0, 1) := by decide +kernel
theorem dX0_pick_9 : decode cX0_pick 9 = .ok (.istore 5, 2) := by decide +kernel
theorem dX0_pick_11 : decode cX0_pick 11 = .ok (.iload 5, 2) := by decide +kernel
theorem dX0_pick_13 : decode cX0_pick 13 = .ok (.aload_n 0, 1) := by decide +kernel
theorem dX0_pick_14 : decode cX0_pick 14 = .ok (.getfield 11, 3) := by decide +kernel
theorem dX0_pick_17 : decode cX0_pick 17 = .ok (.if_icmp .ge 81, 3) := by decide +kernel
theorem dX0_pick_20 : decode cX0_pick 20 = .ok (.aload_n 0, 1) := by decide +kernel
theorem dX0_pick_21 : decode cX0_pick 21 = .ok (.iload 5, 2) := by decide +kernel
theorem dX0_pick_23 : decode cX0_pick 23 = .ok (.iconst 1, 1) := by decide +kernel
theorem dX0_pick_24 : decode cX0_pick 24 = .ok (.iadd, 1) := by decide +kernel
theorem dX0_pick_25 : decode cX0_pick 25 = .ok (.invokevirtual 89, 3) := by decide +kernel
theorem dX0_pick_28 : decode cX0_pick 28 = .ok (.istore 6, 2) := by decide +kernel
theorem dX0_pick_30 : decode cX0_pick 30 = .ok (.iload 6, 2) := by decide +kernel
theorem dX0_pick_32 : decode cX0_pick 32 = .ok (.ifCond .le 60, 3) := by decide +kernel
theorem dX0_pick_35 : decode cX0_pick 35 = .ok (.aload_n 0, 1) := by decide +kernel
theorem dX0_pick_36 : decode cX0_pick 36 = .ok (.getfield 19, 3) := by decide +kernel
theorem dX0_pick_39 : decode cX0_pick 39 = .ok (.iload 5, 2) := by decide +kernel
theorem dX0_pick_41 : decode cX0_pick 41 = .ok (.iaload, 1) := by decide +kernel
theorem dX0_pick_42 : decode cX0_pick 42 = .ok (.invokestatic 92, 3) := by decide +kernel
theorem dX0_pick_45 : decode cX0_pick 45 = .ok (.iconst 1, 1) := by decide +kernel
theorem dX0_pick_46 : decode cX0_pick 46 = .ok (.if_icmp .le 46, 3) := by decide +kernel
theorem dX0_pick_49 : decode cX0_pick 49 = .ok (.aload_n 0, 1) := by decide +kernel
theorem dX0_pick_50 : decode cX0_pick 50 = .ok (.iload 5, 2) := by decide +kernel
theorem dX0_pick_52 : decode cX0_pick 52 = .ok (.lload_n 2, 1) := by decide +kernel
theorem dX0_pick_53 : decode cX0_pick 53 = .ok (.iload 4, 2) := by decide +kernel
theorem dX0_pick_55 : decode cX0_pick 55 = .ok (.iload 6, 2) := by decide +kernel
theorem dX0_pick_57 : decode cX0_pick 57 = .ok (.idiv, 1) := by decide +kernel
theorem dX0_pick_58 : decode cX0_pick 58 = .ok (.invokevirtual 97, 3) := by decide +kernel
theorem dX0_pick_61 : decode cX0_pick 61 = .ok (.istore 7, 2) := by decide +kernel
theorem dX0_pick_63 : decode cX0_pick 63 = .ok (.iload 4, 2) := by decide +kernel
theorem dX0_pick_65 : decode cX0_pick 65 = .ok (.iload 6, 2) := by decide +kernel
theorem dX0_pick_67 : decode cX0_pick 67 = .ok (.irem, 1) := by decide +kernel
theorem dX0_pick_68 : decode cX0_pick 68 = .ok (.istore 4, 2) := by decide +kernel
theorem dX0_pick_70 : decode cX0_pick 70 = .ok (.aload_n 0, 1) := by decide +kernel
theorem dX0_pick_71 : decode cX0_pick 71 = .ok (.getfield 23, 3) := by decide +kernel
theorem dX0_pick_74 : decode cX0_pick 74 = .ok (.iload 5, 2) := by decide +kernel
theorem dX0_pick_76 : decode cX0_pick 76 = .ok (.bipush 16, 2) := by decide +kernel
theorem dX0_pick_78 : decode cX0_pick 78 = .ok (.imul, 1) := by decide +kernel
theorem dX0_pick_79 : decode cX0_pick 79 = .ok (.iload 7, 2) := by decide +kernel
theorem dX0_pick_81 : decode cX0_pick 81 = .ok (.iadd, 1) := by decide +kernel
theorem dX0_pick_82 : decode cX0_pick 82 = .ok (.laload, 1) := by decide +kernel
theorem dX0_pick_83 : decode cX0_pick 83 = .ok (.lload_n 2, 1) := by decide +kernel
theorem dX0_pick_84 : decode cX0_pick 84 = .ok (.aload_n 0, 1) := by decide +kernel
theorem dX0_pick_85 : decode cX0_pick 85 = .ok (.getfield 11, 3) := by decide +kernel
theorem dX0_pick_88 : decode cX0_pick 88 = .ok (.invokestatic 72, 3) := by decide +kernel
theorem dX0_pick_91 : decode cX0_pick 91 = .ok (.lstore_n 2, 1) := by decide +kernel
theorem dX0_pick_92 : decode cX0_pick 92 = .ok (.iinc 5 1, 3) := by decide +kernel
theorem dX0_pick_95 : decode cX0_pick 95 = .ok (.goto (-84), 3) := by decide +kernel
theorem dX0_pick_98 : decode cX0_pick 98 = .ok (.lload_n 2, 1) := by decide +kernel
theorem dX0_pick_99 : decode cX0_pick 99 = .ok (.lreturn, 1) := by decide +kernel
theorem dX0_sourceOf_0 : decode cX0_sourceOf 0 = .ok (.lload_n 2, 1) := by decide +kernel
theorem dX0_sourceOf_1 : decode cX0_sourceOf 1 = .ok (.aload_n 0, 1) := by decide +kernel
theorem dX0_sourceOf_2 : decode cX0_sourceOf 2 = .ok (.getfield 11, 3) := by decide +kernel
theorem dX0_sourceOf_5 : decode cX0_sourceOf 5 = .ok (.invokestatic 86, 3) := by decide +kernel
theorem dX0_sourceOf_8 : decode cX0_sourceOf 8 = .ok (.lstore 5, 2) := by decide +kernel
theorem dX0_sourceOf_10 : decode cX0_sourceOf 10 = .ok (.iconst 0, 1) := by decide +kernel
theorem dX0_sourceOf_11 : decode cX0_sourceOf 11 = .ok (.istore 7, 2) := by decide +kernel
theorem dX0_sourceOf_13 : decode cX0_sourceOf 13 = .ok (.iconst 0, 1) := by decide +kernel
theorem dX0_sourceOf_14 : decode cX0_sourceOf 14 = .ok (.istore 8, 2) := by decide +kernel
theorem dX0_sourceOf_16 : decode cX0_sourceOf 16 = .ok (.iload 8, 2) := by decide +kernel
theorem dX0_sourceOf_18 : decode cX0_sourceOf 18 = .ok (.aload_n 0, 1) := by decide +kernel
theorem dX0_sourceOf_19 : decode cX0_sourceOf 19 = .ok (.getfield 11, 3) := by decide +kernel
theorem dX0_sourceOf_22 : decode cX0_sourceOf 22 = .ok (.if_icmp .ge 45, 3) := by decide +kernel
theorem dX0_sourceOf_25 : decode cX0_sourceOf 25 = .ok (.lload 5, 2) := by decide +kernel
theorem dX0_sourceOf_27 : decode cX0_sourceOf 27 = .ok (.iload 8, 2) := by decide +kernel
theorem dX0_sourceOf_29 : decode cX0_sourceOf 29 = .ok (.invokestatic 69, 3) := by decide +kernel
theorem dX0_sourceOf_32 : decode cX0_sourceOf 32 = .ok (.istore 9, 2) := by decide +kernel
theorem dX0_sourceOf_34 : decode cX0_sourceOf 34 = .ok (.aload_n 0, 1) := by decide +kernel
theorem dX0_sourceOf_35 : decode cX0_sourceOf 35 = .ok (.getfield 19, 3) := by decide +kernel
theorem dX0_sourceOf_38 : decode cX0_sourceOf 38 = .ok (.iload_n 1, 1) := by decide +kernel
theorem dX0_sourceOf_39 : decode cX0_sourceOf 39 = .ok (.iaload, 1) := by decide +kernel
theorem dX0_sourceOf_40 : decode cX0_sourceOf 40 = .ok (.iload 9, 2) := by decide +kernel
theorem dX0_sourceOf_42 : decode cX0_sourceOf 42 = .ok (.ishr, 1) := by decide +kernel
theorem dX0_sourceOf_43 : decode cX0_sourceOf 43 = .ok (.iconst 1, 1) := by decide +kernel
theorem dX0_sourceOf_44 : decode cX0_sourceOf 44 = .ok (.iand, 1) := by decide +kernel
theorem dX0_sourceOf_45 : decode cX0_sourceOf 45 = .ok (.ifCond .eq 16, 3) := by decide +kernel
theorem dX0_sourceOf_48 : decode cX0_sourceOf 48 = .ok (.iload 7, 2) := by decide +kernel
theorem dX0_sourceOf_50 : decode cX0_sourceOf 50 = .ok (.iload 4, 2) := by decide +kernel
theorem dX0_sourceOf_52 : decode cX0_sourceOf 52 = .ok (.if_icmp .ne 6, 3) := by decide +kernel
theorem dX0_sourceOf_55 : decode cX0_sourceOf 55 = .ok (.iload 9, 2) := by decide +kernel
theorem dX0_sourceOf_57 : decode cX0_sourceOf 57 = .ok (.ireturn, 1) := by decide +kernel
theorem dX0_sourceOf_58 : decode cX0_sourceOf 58 = .ok (.iinc 7 1, 3) := by decide +kernel
theorem dX0_sourceOf_61 : decode cX0_sourceOf 61 = .ok (.iinc 8 1, 3) := by decide +kernel
theorem dX0_sourceOf_64 : decode cX0_sourceOf 64 = .ok (.goto (-48), 3) := by decide +kernel
theorem dX0_sourceOf_67 : decode cX0_sourceOf 67 = .ok (.iload_n 1, 1) := by decide +kernel
theorem dX0_sourceOf_68 : decode cX0_sourceOf 68 = .ok (.ireturn, 1) := by decide +kernel
theorem dX0_placeOf_0 : decode cX0_placeOf 0 = .ok (.aload_n 0, 1) := by decide +kernel
theorem dX0_placeOf_1 : decode cX0_placeOf 1 = .ok (.getfield 15, 3) := by decide +kernel
theorem dX0_placeOf_4 : decode cX0_placeOf 4 = .ok (.lstore_n 3, 1) := by decide +kernel
theorem dX0_placeOf_5 : decode cX0_placeOf 5 = .ok (.iconst 0, 1) := by decide +kernel
theorem dX0_placeOf_6 : decode cX0_placeOf 6 = .ok (.istore 5, 2) := by decide +kernel
theorem dX0_placeOf_8 : decode cX0_placeOf 8 = .ok (.iconst 0, 1) := by decide +kernel
theorem dX0_placeOf_9 : decode cX0_placeOf 9 = .ok (.istore 6, 2) := by decide +kernel
theorem dX0_placeOf_11 : decode cX0_placeOf 11 = .ok (.iload 6, 2) := by decide +kernel
theorem dX0_placeOf_13 : decode cX0_placeOf 13 = .ok (.aload_n 0, 1) := by decide +kernel
theorem dX0_placeOf_14 : decode cX0_placeOf 14 = .ok (.getfield 11, 3) := by decide +kernel
theorem dX0_placeOf_17 : decode cX0_placeOf 17 = .ok (.if_icmp .ge 99, 3) := by decide +kernel
theorem dX0_placeOf_20 : decode cX0_placeOf 20 = .ok (.lload_n 1, 1) := by decide +kernel
theorem dX0_placeOf_21 : decode cX0_placeOf 21 = .ok (.iload 6, 2) := by decide +kernel
theorem dX0_placeOf_23 : decode cX0_placeOf 23 = .ok (.invokestatic 69, 3) := by decide +kernel
theorem dX0_placeOf_26 : decode cX0_placeOf 26 = .ok (.istore 7, 2) := by decide +kernel
theorem dX0_placeOf_28 : decode cX0_placeOf 28 = .ok (.lload_n 3, 1) := by decide +kernel
theorem dX0_placeOf_29 : decode cX0_placeOf 29 = .ok (.aload_n 0, 1) := by decide +kernel
theorem dX0_placeOf_30 : decode cX0_placeOf 30 = .ok (.getfield 11, 3) := by decide +kernel
theorem dX0_placeOf_33 : decode cX0_placeOf 33 = .ok (.invokestatic 86, 3) := by decide +kernel
theorem dX0_placeOf_36 : decode cX0_placeOf 36 = .ok (.lstore 8, 2) := by decide +kernel
theorem dX0_placeOf_38 : decode cX0_placeOf 38 = .ok (.lload 8, 2) := by decide +kernel
theorem dX0_placeOf_40 : decode cX0_placeOf 40 = .ok (.iload 7, 2) := by decide +kernel
theorem dX0_placeOf_42 : decode cX0_placeOf 42 = .ok (.invokestatic 69, 3) := by decide +kernel
theorem dX0_placeOf_45 : decode cX0_placeOf 45 = .ok (.istore 10, 2) := by decide +kernel
theorem dX0_placeOf_47 : decode cX0_placeOf 47 = .ok (.aload_n 0, 1) := by decide +kernel
theorem dX0_placeOf_48 : decode cX0_placeOf 48 = .ok (.getfield 19, 3) := by decide +kernel
theorem dX0_placeOf_51 : decode cX0_placeOf 51 = .ok (.iload 6, 2) := by decide +kernel
theorem dX0_placeOf_53 : decode cX0_placeOf 53 = .ok (.iaload, 1) := by decide +kernel
theorem dX0_placeOf_54 : decode cX0_placeOf 54 = .ok (.iload 10, 2) := by decide +kernel
theorem dX0_placeOf_56 : decode cX0_placeOf 56 = .ok (.ishr, 1) := by decide +kernel
theorem dX0_placeOf_57 : decode cX0_placeOf 57 = .ok (.iconst 1, 1) := by decide +kernel
theorem dX0_placeOf_58 : decode cX0_placeOf 58 = .ok (.iand, 1) := by decide +kernel
theorem dX0_placeOf_59 : decode cX0_placeOf 59 = .ok (.ifCond .ne 5, 3) := by decide +kernel
theorem dX0_placeOf_62 : decode cX0_placeOf 62 = .ok (.iconst (-1), 1) := by decide +kernel
theorem dX0_placeOf_63 : decode cX0_placeOf 63 = .ok (.ireturn, 1) := by decide +kernel
theorem dX0_placeOf_64 : decode cX0_placeOf 64 = .ok (.iload 5, 2) := by decide +kernel
theorem dX0_placeOf_66 : decode cX0_placeOf 66 = .ok (.aload_n 0, 1) := by decide +kernel
theorem dX0_placeOf_67 : decode cX0_placeOf 67 = .ok (.iload 6, 2) := by decide +kernel
theorem dX0_placeOf_69 : decode cX0_placeOf 69 = .ok (.lload 8, 2) := by decide +kernel
theorem dX0_placeOf_71 : decode cX0_placeOf 71 = .ok (.iload 7, 2) := by decide +kernel
theorem dX0_placeOf_73 : decode cX0_placeOf 73 = .ok (.invokevirtual 101, 3) := by decide +kernel
theorem dX0_placeOf_76 : decode cX0_placeOf 76 = .ok (.aload_n 0, 1) := by decide +kernel
theorem dX0_placeOf_77 : decode cX0_placeOf 77 = .ok (.iload 6, 2) := by decide +kernel
theorem dX0_placeOf_79 : decode cX0_placeOf 79 = .ok (.iconst 1, 1) := by decide +kernel
theorem dX0_placeOf_80 : decode cX0_placeOf 80 = .ok (.iadd, 1) := by decide +kernel
theorem dX0_placeOf_81 : decode cX0_placeOf 81 = .ok (.invokevirtual 89, 3) := by decide +kernel
theorem dX0_placeOf_84 : decode cX0_placeOf 84 = .ok (.imul, 1) := by decide +kernel
theorem dX0_placeOf_85 : decode cX0_placeOf 85 = .ok (.iadd, 1) := by decide +kernel
theorem dX0_placeOf_86 : decode cX0_placeOf 86 = .ok (.istore 5, 2) := by decide +kernel
theorem dX0_placeOf_88 : decode cX0_placeOf 88 = .ok (.aload_n 0, 1) := by decide +kernel
theorem dX0_placeOf_89 : decode cX0_placeOf 89 = .ok (.getfield 23, 3) := by decide +kernel
theorem dX0_placeOf_92 : decode cX0_placeOf 92 = .ok (.iload 6, 2) := by decide +kernel
theorem dX0_placeOf_94 : decode cX0_placeOf 94 = .ok (.bipush 16, 2) := by decide +kernel
theorem dX0_placeOf_96 : decode cX0_placeOf 96 = .ok (.imul, 1) := by decide +kernel
theorem dX0_placeOf_97 : decode cX0_placeOf 97 = .ok (.iload 10, 2) := by decide +kernel
theorem dX0_placeOf_99 : decode cX0_placeOf 99 = .ok (.iadd, 1) := by decide +kernel
theorem dX0_placeOf_100 : decode cX0_placeOf 100 = .ok (.laload, 1) := by decide +kernel
theorem dX0_placeOf_101 : decode cX0_placeOf 101 = .ok (.lload_n 3, 1) := by decide +kernel
theorem dX0_placeOf_102 : decode cX0_placeOf 102 = .ok (.aload_n 0, 1) := by decide +kernel
theorem dX0_placeOf_103 : decode cX0_placeOf 103 = .ok (.getfield 11, 3) := by decide +kernel
theorem dX0_placeOf_106 : decode cX0_placeOf 106 = .ok (.invokestatic 72, 3) := by decide +kernel
theorem dX0_placeOf_109 : decode cX0_placeOf 109 = .ok (.lstore_n 3, 1) := by decide +kernel
theorem dX0_placeOf_110 : decode cX0_placeOf 110 = .ok (.iinc 6 1, 3) := by decide +kernel
theorem dX0_placeOf_113 : decode cX0_placeOf 113 = .ok (.goto (-102), 3) := by decide +kernel
theorem dX0_placeOf_116 : decode cX0_placeOf 116 = .ok (.iload 5, 2) := by decide +kernel
theorem dX0_placeOf_118 : decode cX0_placeOf 118 = .ok (.ireturn, 1) := by decide +kernel
theorem dX0_countSources_0 : decode cX0_countSources 0 = .ok (.iconst 0, 1) := by decide +kernel
theorem dX0_countSources_1 : decode cX0_countSources 1 = .ok (.istore 5, 2) := by decide +kernel
theorem dX0_countSources_3 : decode cX0_countSources 3 = .ok (.iconst 0, 1) := by decide +kernel
theorem dX0_countSources_4 : decode cX0_countSources 4 = .ok (.istore 6, 2) := by decide +kernel
theorem dX0_countSources_6 : decode cX0_countSources 6 = .ok (.iload 6, 2) := by decide +kernel
theorem dX0_countSources_8 : decode cX0_countSources 8 = .ok (.iload 4, 2) := by decide +kernel
theorem dX0_countSources_10 : decode cX0_countSources 10 = .ok (.if_icmp .ge 29, 3) := by decide +kernel
theorem dX0_countSources_13 : decode cX0_countSources 13 = .ok (.iload 5, 2) := by decide +kernel
theorem dX0_countSources_15 : decode cX0_countSources 15 = .ok (.aload_n 0, 1) := by decide +kernel
theorem dX0_countSources_16 : decode cX0_countSources 16 = .ok (.getfield 19, 3) := by decide +kernel
theorem dX0_countSources_19 : decode cX0_countSources 19 = .ok (.iload_n 1, 1) := by decide +kernel
theorem dX0_countSources_20 : decode cX0_countSources 20 = .ok (.iaload, 1) := by decide +kernel
theorem dX0_countSources_21 : decode cX0_countSources 21 = .ok (.lload_n 2, 1) := by decide +kernel
theorem dX0_countSources_22 : decode cX0_countSources 22 = .ok (.iload 6, 2) := by decide +kernel
theorem dX0_countSources_24 : decode cX0_countSources 24 = .ok (.invokestatic 69, 3) := by decide +kernel
theorem dX0_countSources_27 : decode cX0_countSources 27 = .ok (.ishr, 1) := by decide +kernel
theorem dX0_countSources_28 : decode cX0_countSources 28 = .ok (.iconst 1, 1) := by decide +kernel
theorem dX0_countSources_29 : decode cX0_countSources 29 = .ok (.iand, 1) := by decide +kernel
theorem dX0_countSources_30 : decode cX0_countSources 30 = .ok (.iadd, 1) := by decide +kernel
theorem dX0_countSources_31 : decode cX0_countSources 31 = .ok (.istore 5, 2) := by decide +kernel
theorem dX0_countSources_33 : decode cX0_countSources 33 = .ok (.iinc 6 1, 3) := by decide +kernel
theorem dX0_countSources_36 : decode cX0_countSources 36 = .ok (.goto (-30), 3) := by decide +kernel
theorem dX0_countSources_39 : decode cX0_countSources 39 = .ok (.iload 5, 2) := by decide +kernel
theorem dX0_countSources_41 : decode cX0_countSources 41 = .ok (.ireturn, 1) := by decide +kernel
theorem dX1_init_0 : decode cX1_init 0 = .ok (.aload_n 0, 1) := by decide +kernel
theorem dX1_init_1 : decode cX1_init 1 = .ok (.invokespecial 1, 3) := by decide +kernel
theorem dX1_init_4 : decode cX1_init 4 = .ok (.aload_n 0, 1) := by decide +kernel
theorem dX1_init_5 : decode cX1_init 5 = .ok (.bipush 32, 2) := by decide +kernel
theorem dX1_init_7 : decode cX1_init 7 = .ok (.newarray .int, 2) := by decide +kernel
theorem dX1_init_9 : decode cX1_init 9 = .ok (.putfield 7, 3) := by decide +kernel
theorem dX1_init_12 : decode cX1_init 12 = .ok (.aload_n 0, 1) := by decide +kernel
theorem dX1_init_13 : decode cX1_init 13 = .ok (.bipush 16, 2) := by decide +kernel
theorem dX1_init_15 : decode cX1_init 15 = .ok (.newarray .long, 2) := by decide +kernel
theorem dX1_init_17 : decode cX1_init 17 = .ok (.putfield 15, 3) := by decide +kernel
theorem dX1_init_20 : decode cX1_init 20 = .ok (.aload_n 0, 1) := by decide +kernel
theorem dX1_init_21 : decode cX1_init 21 = .ok (.iconst 0, 1) := by decide +kernel
theorem dX1_init_22 : decode cX1_init 22 = .ok (.putfield 19, 3) := by decide +kernel
theorem dX1_init_25 : decode cX1_init 25 = .ok (.aload_n 0, 1) := by decide +kernel
theorem dX1_init_26 : decode cX1_init 26 = .ok (.iconst 0, 1) := by decide +kernel
theorem dX1_init_27 : decode cX1_init 27 = .ok (.putfield 23, 3) := by decide +kernel
theorem dX1_init_30 : decode cX1_init 30 = .ok (.aload_n 0, 1) := by decide +kernel
theorem dX1_init_31 : decode cX1_init 31 = .ok (.iconst 0, 1) := by decide +kernel
theorem dX1_init_32 : decode cX1_init 32 = .ok (.putfield 26, 3) := by decide +kernel
theorem dX1_init_35 : decode cX1_init 35 = .ok (.return_, 1) := by decide +kernel
theorem dX1_forget_0 : decode cX1_forget 0 = .ok (.aload_n 0, 1) := by decide +kernel
theorem dX1_forget_1 : decode cX1_forget 1 = .ok (.iconst 0, 1) := by decide +kernel
theorem dX1_forget_2 : decode cX1_forget 2 = .ok (.putfield 26, 3) := by decide +kernel
theorem dX1_forget_5 : decode cX1_forget 5 = .ok (.return_, 1) := by decide +kernel
theorem dX1_know_0 : decode cX1_know 0 = .ok (.aload_n 0, 1) := by decide +kernel
theorem dX1_know_1 : decode cX1_know 1 = .ok (.getfield 26, 3) := by decide +kernel
theorem dX1_know_4 : decode cX1_know 4 = .ok (.ifCond .eq 4, 3) := by decide +kernel
theorem dX1_know_7 : decode cX1_know 7 = .ok (.return_, 1) := by decide +kernel
theorem dX1_know_8 : decode cX1_know 8 = .ok (.aload_n 0, 1) := by decide +kernel
theorem dX1_know_9 : decode cX1_know 9 = .ok (.aload_n 1, 1) := by decide +kernel
theorem dX1_know_10 : decode cX1_know 10 = .ok (.invokevirtual 30, 3) := by decide +kernel
theorem dX1_know_13 : decode cX1_know 13 = .ok (.aload_n 0, 1) := by decide +kernel
theorem dX1_know_14 : decode cX1_know 14 = .ok (.getfield 7, 3) := by decide +kernel
theorem dX1_know_17 : decode cX1_know 17 = .ok (.iconst 0, 1) := by decide +kernel
theorem dX1_know_18 : decode cX1_know 18 = .ok (.aload_n 1, 1) := by decide +kernel
theorem dX1_know_19 : decode cX1_know 19 = .ok (.invokevirtual 34, 3) := by decide +kernel
theorem dX1_know_22 : decode cX1_know 22 = .ok (.iastore, 1) := by decide +kernel
theorem dX1_know_23 : decode cX1_know 23 = .ok (.aload_n 0, 1) := by decide +kernel
theorem dX1_know_24 : decode cX1_know 24 = .ok (.iconst 1, 1) := by decide +kernel
theorem dX1_know_25 : decode cX1_know 25 = .ok (.putfield 23, 3) := by decide +kernel
theorem dX1_know_28 : decode cX1_know 28 = .ok (.iconst 1, 1) := by decide +kernel
theorem dX1_know_29 : decode cX1_know 29 = .ok (.istore 4, 2) := by decide +kernel
theorem dX1_know_31 : decode cX1_know 31 = .ok (.iload 4, 2) := by decide +kernel
theorem dX1_know_33 : decode cX1_know 33 = .ok (.ifCond .eq 92, 3) := by decide +kernel
theorem dX1_know_36 : decode cX1_know 36 = .ok (.aload_n 0, 1) := by decide +kernel
theorem dX1_know_37 : decode cX1_know 37 = .ok (.getfield 23, 3) := by decide +kernel
theorem dX1_know_40 : decode cX1_know 40 = .ok (.aload_n 0, 1) := by decide +kernel
theorem dX1_know_41 : decode cX1_know 41 = .ok (.getfield 7, 3) := by decide +kernel
theorem dX1_know_44 : decode cX1_know 44 = .ok (.arraylength, 1) := by decide +kernel
theorem dX1_know_45 : decode cX1_know 45 = .ok (.if_icmp .ge 80, 3) := by decide +kernel
theorem dX1_know_48 : decode cX1_know 48 = .ok (.aload_n 0, 1) := by decide +kernel
theorem dX1_know_49 : decode cX1_know 49 = .ok (.aload_n 1, 1) := by decide +kernel
theorem dX1_know_50 : decode cX1_know 50 = .ok (.aload_n 2, 1) := by decide +kernel
theorem dX1_know_51 : decode cX1_know 51 = .ok (.iload_n 3, 1) := by decide +kernel
theorem dX1_know_52 : decode cX1_know 52 = .ok (.invokevirtual 38, 3) := by decide +kernel
theorem dX1_know_55 : decode cX1_know 55 = .ok (.aload_n 0, 1) := by decide +kernel
theorem dX1_know_56 : decode cX1_know 56 = .ok (.aload_n 2, 1) := by decide +kernel
theorem dX1_know_57 : decode cX1_know 57 = .ok (.invokevirtual 30, 3) := by decide +kernel
theorem dX1_know_60 : decode cX1_know 60 = .ok (.aload_n 0, 1) := by decide +kernel
theorem dX1_know_61 : decode cX1_know 61 = .ok (.getfield 7, 3) := by decide +kernel
theorem dX1_know_64 : decode cX1_know 64 = .ok (.aload_n 0, 1) := by decide +kernel
theorem dX1_know_65 : decode cX1_know 65 = .ok (.getfield 23, 3) := by decide +kernel
theorem dX1_know_68 : decode cX1_know 68 = .ok (.aload_n 2, 1) := by decide +kernel
theorem dX1_know_69 : decode cX1_know 69 = .ok (.invokevirtual 34, 3) := by decide +kernel
theorem dX1_know_72 : decode cX1_know 72 = .ok (.iastore, 1) := by decide +kernel
theorem dX1_know_73 : decode cX1_know 73 = .ok (.aload_n 0, 1) := by decide +kernel
theorem dX1_know_74 : decode cX1_know 74 = .ok (.getfield 7, 3) := by decide +kernel
theorem dX1_know_77 : decode cX1_know 77 = .ok (.aload_n 0, 1) := by decide +kernel
theorem dX1_know_78 : decode cX1_know 78 = .ok (.getfield 23, 3) := by decide +kernel
theorem dX1_know_81 : decode cX1_know 81 = .ok (.iaload, 1) := by decide +kernel
theorem dX1_know_82 : decode cX1_know 82 = .ok (.aload_n 0, 1) := by decide +kernel
theorem dX1_know_83 : decode cX1_know 83 = .ok (.getfield 7, 3) := by decide +kernel
theorem dX1_know_86 : decode cX1_know 86 = .ok (.aload_n 0, 1) := by decide +kernel
theorem dX1_know_87 : decode cX1_know 87 = .ok (.getfield 23, 3) := by decide +kernel
theorem dX1_know_90 : decode cX1_know 90 = .ok (.iconst 1, 1) := by decide +kernel
theorem dX1_know_91 : decode cX1_know 91 = .ok (.isub, 1) := by decide +kernel
theorem dX1_know_92 : decode cX1_know 92 = .ok (.iaload, 1) := by decide +kernel
theorem dX1_know_93 : decode cX1_know 93 = .ok (.if_icmp .ge 7, 3) := by decide +kernel
theorem dX1_know_96 : decode cX1_know 96 = .ok (.iconst 1, 1) := by decide +kernel
theorem dX1_know_97 : decode cX1_know 97 = .ok (.goto 4, 3) := by decide +kernel
theorem dX1_know_100 : decode cX1_know 100 = .ok (.iconst 0, 1) := by decide +kernel
theorem dX1_know_101 : decode cX1_know 101 = .ok (.istore 4, 2) := by decide +kernel
theorem dX1_know_103 : decode cX1_know 103 = .ok (.aload_n 0, 1) := by decide +kernel
theorem dX1_know_104 : decode cX1_know 104 = .ok (.dup, 1) := by decide +kernel
theorem dX1_know_105 : decode cX1_know 105 = .ok (.getfield 23, 3) := by decide +kernel
theorem dX1_know_108 : decode cX1_know 108 = .ok (.iload 4, 2) := by decide +kernel
theorem dX1_know_110 : decode cX1_know 110 = .ok (.ifCond .eq 7, 3) := by decide +kernel
theorem dX1_know_113 : decode cX1_know 113 = .ok (.iconst 1, 1) := by decide +kernel
theorem dX1_know_114 : decode cX1_know 114 = .ok (.goto 4, 3) := by decide +kernel
theorem dX1_know_117 : decode cX1_know 117 = .ok (.iconst 0, 1) := by decide +kernel
theorem dX1_know_118 : decode cX1_know 118 = .ok (.iadd, 1) := by decide +kernel
theorem dX1_know_119 : decode cX1_know 119 = .ok (.putfield 23, 3) := by decide +kernel
theorem dX1_know_122 : decode cX1_know 122 = .ok (.goto (-91), 3) := by decide +kernel
theorem dX1_know_125 : decode cX1_know 125 = .ok (.aload_n 0, 1) := by decide +kernel
theorem dX1_know_126 : decode cX1_know 126 = .ok (.iconst 1, 1) := by decide +kernel
theorem dX1_know_127 : decode cX1_know 127 = .ok (.putfield 26, 3) := by decide +kernel
theorem dX1_know_130 : decode cX1_know 130 = .ok (.return_, 1) := by decide +kernel
theorem dX1_takeMakers_0 : decode cX1_takeMakers 0 = .ok (.aload_n 0, 1) := by decide +kernel
theorem dX1_takeMakers_1 : decode cX1_takeMakers 1 = .ok (.aload_n 1, 1) := by decide +kernel
theorem dX1_takeMakers_2 : decode cX1_takeMakers 2 = .ok (.invokevirtual 42, 3) := by decide +kernel
theorem dX1_takeMakers_5 : decode cX1_takeMakers 5 = .ok (.aload_n 0, 1) := by decide +kernel
theorem dX1_takeMakers_6 : decode cX1_takeMakers 6 = .ok (.getfield 15, 3) := by decide +kernel
theorem dX1_takeMakers_9 : decode cX1_takeMakers 9 = .ok (.arraylength, 1) := by decide +kernel
theorem dX1_takeMakers_10 : decode cX1_takeMakers 10 = .ok (.invokestatic 45, 3) := by decide +kernel
theorem dX1_takeMakers_13 : decode cX1_takeMakers 13 = .ok (.putfield 19, 3) := by decide +kernel
theorem dX1_takeMakers_16 : decode cX1_takeMakers 16 = .ok (.iconst 0, 1) := by decide +kernel
theorem dX1_takeMakers_17 : decode cX1_takeMakers 17 = .ok (.istore_n 2, 1) := by decide +kernel
theorem dX1_takeMakers_18 : decode cX1_takeMakers 18 = .ok (.iload_n 2, 1) := by decide +kernel
theorem dX1_takeMakers_19 : decode cX1_takeMakers 19 = .ok (.aload_n 0, 1) := by decide +kernel
theorem dX1_takeMakers_20 : decode cX1_takeMakers 20 = .ok (.getfield 19, 3) := by decide +kernel
theorem dX1_takeMakers_23 : decode cX1_takeMakers 23 = .ok (.if_icmp .ge 20, 3) := by decide +kernel
theorem dX1_takeMakers_26 : decode cX1_takeMakers 26 = .ok (.aload_n 0, 1) := by decide +kernel
theorem dX1_takeMakers_27 : decode cX1_takeMakers 27 = .ok (.getfield 15, 3) := by decide +kernel
theorem dX1_takeMakers_30 : decode cX1_takeMakers 30 = .ok (.iload_n 2, 1) := by decide +kernel
theorem dX1_takeMakers_31 : decode cX1_takeMakers 31 = .ok (.aload_n 1, 1) := by decide +kernel
theorem dX1_takeMakers_32 : decode cX1_takeMakers 32 = .ok (.iload_n 2, 1) := by decide +kernel
theorem dX1_takeMakers_33 : decode cX1_takeMakers 33 = .ok (.invokevirtual 51, 3) := by decide +kernel
theorem dX1_takeMakers_36 : decode cX1_takeMakers 36 = .ok (.lastore, 1) := by decide +kernel
theorem dX1_takeMakers_37 : decode cX1_takeMakers 37 = .ok (.iinc 2 1, 3) := by decide +kernel
theorem dX1_takeMakers_40 : decode cX1_takeMakers 40 = .ok (.goto (-22), 3) := by decide +kernel
theorem dX1_takeMakers_43 : decode cX1_takeMakers 43 = .ok (.return_, 1) := by decide +kernel
theorem dX1_descend_0 : decode cX1_descend 0 = .ok (.aload_n 1, 1) := by decide +kernel
theorem dX1_descend_1 : decode cX1_descend 1 = .ok (.getfield 55, 3) := by decide +kernel
theorem dX1_descend_4 : decode cX1_descend 4 = .ok (.istore 4, 2) := by decide +kernel
theorem dX1_descend_6 : decode cX1_descend 6 = .ok (.iload_n 3, 1) := by decide +kernel
theorem dX1_descend_7 : decode cX1_descend 7 = .ok (.ifCond .eq 10, 3) := by decide +kernel
theorem dX1_descend_10 : decode cX1_descend 10 = .ok (.aload_n 1, 1) := by decide +kernel
theorem dX1_descend_11 : decode cX1_descend 11 = .ok (.invokevirtual 42, 3) := by decide +kernel
theorem dX1_descend_14 : decode cX1_descend 14 = .ok (.goto 7, 3) := by decide +kernel
theorem dX1_descend_17 : decode cX1_descend 17 = .ok (.aload_n 0, 1) := by decide +kernel
theorem dX1_descend_18 : decode cX1_descend 18 = .ok (.getfield 19, 3) := by decide +kernel
theorem dX1_descend_21 : decode cX1_descend 21 = .ok (.istore 5, 2) := by decide +kernel
theorem dX1_descend_23 : decode cX1_descend 23 = .ok (.aload_n 2, 1) := by decide +kernel
theorem dX1_descend_24 : decode cX1_descend 24 = .ok (.iload 4, 2) := by decide +kernel
theorem dX1_descend_26 : decode cX1_descend 26 = .ok (.invokevirtual 58, 3) := by decide +kernel
theorem dX1_descend_29 : decode cX1_descend 29 = .ok (.iconst 0, 1) := by decide +kernel
theorem dX1_descend_30 : decode cX1_descend 30 = .ok (.istore 6, 2) := by decide +kernel
theorem dX1_descend_32 : decode cX1_descend 32 = .ok (.iload 6, 2) := by decide +kernel
theorem dX1_descend_34 : decode cX1_descend 34 = .ok (.aload_n 0, 1) := by decide +kernel
theorem dX1_descend_35 : decode cX1_descend 35 = .ok (.getfield 19, 3) := by decide +kernel
theorem dX1_descend_38 : decode cX1_descend 38 = .ok (.if_icmp .ge 66, 3) := by decide +kernel
theorem dX1_descend_41 : decode cX1_descend 41 = .ok (.iconst 0, 1) := by decide +kernel
theorem dX1_descend_42 : decode cX1_descend 42 = .ok (.istore 7, 2) := by decide +kernel
theorem dX1_descend_44 : decode cX1_descend 44 = .ok (.iload 7, 2) := by decide +kernel
theorem dX1_descend_46 : decode cX1_descend 46 = .ok (.iload 5, 2) := by decide +kernel
theorem dX1_descend_48 : decode cX1_descend 48 = .ok (.if_icmp .ge 50, 3) := by decide +kernel
theorem dX1_descend_51 : decode cX1_descend 51 = .ok (.iload_n 3, 1) := by decide +kernel
theorem dX1_descend_52 : decode cX1_descend 52 = .ok (.ifCond .eq 12, 3) := by decide +kernel
theorem dX1_descend_55 : decode cX1_descend 55 = .ok (.aload_n 1, 1) := by decide +kernel
theorem dX1_descend_56 : decode cX1_descend 56 = .ok (.iload 7, 2) := by decide +kernel
theorem dX1_descend_58 : decode cX1_descend 58 = .ok (.invokevirtual 51, 3) := by decide +kernel
theorem dX1_descend_61 : decode cX1_descend 61 = .ok (.goto 10, 3) := by decide +kernel
theorem dX1_descend_64 : decode cX1_descend 64 = .ok (.aload_n 0, 1) := by decide +kernel
theorem dX1_descend_65 : decode cX1_descend 65 = .ok (.getfield 15, 3) := by decide +kernel
theorem dX1_descend_68 : decode cX1_descend 68 = .ok (.iload 7, 2) := by decide +kernel
theorem dX1_descend_70 : decode cX1_descend 70 = .ok (.laload, 1) := by decide +kernel
theorem dX1_descend_71 : decode cX1_descend 71 = .ok (.lstore 8, 2) := by decide +kernel
theorem dX1_descend_73 : decode cX1_descend 73 = .ok (.aload_n 2, 1) := by decide +kernel
theorem dX1_descend_74 : decode cX1_descend 74 = .ok (.aload_n 0, 1) := by decide +kernel
theorem dX1_descend_75 : decode cX1_descend 75 = .ok (.getfield 15, 3) := by decide +kernel
theorem dX1_descend_78 : decode cX1_descend 78 = .ok (.iload 6, 2) := by decide +kernel
theorem dX1_descend_80 : decode cX1_descend 80 = .ok (.laload, 1) := by decide +kernel
theorem dX1_descend_81 : decode cX1_descend 81 = .ok (.lload 8, 2) := by decide +kernel
theorem dX1_descend_83 : decode cX1_descend 83 = .ok (.iload 4, 2) := by decide +kernel
theorem dX1_descend_85 : decode cX1_descend 85 = .ok (.invokestatic 62, 3) := by decide +kernel
theorem dX1_descend_88 : decode cX1_descend 88 = .ok (.invokevirtual 68, 3) := by decide +kernel
theorem dX1_descend_91 : decode cX1_descend 91 = .ok (.pop, 1) := by decide +kernel
theorem dX1_descend_92 : decode cX1_descend 92 = .ok (.iinc 7 1, 3) := by decide +kernel
theorem dX1_descend_95 : decode cX1_descend 95 = .ok (.goto (-51), 3) := by decide +kernel
theorem dX1_descend_98 : decode cX1_descend 98 = .ok (.iinc 6 1, 3) := by decide +kernel
theorem dX1_descend_101 : decode cX1_descend 101 = .ok (.goto (-69), 3) := by decide +kernel
theorem dX1_descend_104 : decode cX1_descend 104 = .ok (.iconst 0, 1) := by decide +kernel
theorem dX1_descend_105 : decode cX1_descend 105 = .ok (.istore 6, 2) := by decide +kernel
theorem dX1_descend_107 : decode cX1_descend 107 = .ok (.iload 6, 2) := by decide +kernel
theorem dX1_descend_109 : decode cX1_descend 109 = .ok (.aload_n 2, 1) := by decide +kernel
theorem dX1_descend_110 : decode cX1_descend 110 = .ok (.invokevirtual 42, 3) := by decide +kernel
theorem dX1_descend_113 : decode cX1_descend 113 = .ok (.if_icmp .ge 72, 3) := by decide +kernel
theorem dX1_descend_116 : decode cX1_descend 116 = .ok (.iload 6, 2) := by decide +kernel
theorem dX1_descend_118 : decode cX1_descend 118 = .ok (.bipush 16, 2) := by decide +kernel
theorem dX1_descend_120 : decode cX1_descend 120 = .ok (.if_icmp .ge 65, 3) := by decide +kernel
theorem dX1_descend_123 : decode cX1_descend 123 = .ok (.iconst 0, 1) := by decide +kernel
theorem dX1_descend_124 : decode cX1_descend 124 = .ok (.istore 7, 2) := by decide +kernel
theorem dX1_descend_126 : decode cX1_descend 126 = .ok (.iload 7, 2) := by decide +kernel
theorem dX1_descend_128 : decode cX1_descend 128 = .ok (.iload 5, 2) := by decide +kernel
theorem dX1_descend_130 : decode cX1_descend 130 = .ok (.if_icmp .ge 49, 3) := by decide +kernel
theorem dX1_descend_133 : decode cX1_descend 133 = .ok (.iload_n 3, 1) := by decide +kernel
theorem dX1_descend_134 : decode cX1_descend 134 = .ok (.ifCond .eq 12, 3) := by decide +kernel
theorem dX1_descend_137 : decode cX1_descend 137 = .ok (.aload_n 1, 1) := by decide +kernel
theorem dX1_descend_138 : decode cX1_descend 138 = .ok (.iload 7, 2) := by decide +kernel
theorem dX1_descend_140 : decode cX1_descend 140 = .ok (.invokevirtual 51, 3) := by decide +kernel
theorem dX1_descend_143 : decode cX1_descend 143 = .ok (.goto 10, 3) := by decide +kernel
theorem dX1_descend_146 : decode cX1_descend 146 = .ok (.aload_n 0, 1) := by decide +kernel
theorem dX1_descend_147 : decode cX1_descend 147 = .ok (.getfield 15, 3) := by decide +kernel
theorem dX1_descend_150 : decode cX1_descend 150 = .ok (.iload 7, 2) := by decide +kernel
theorem dX1_descend_152 : decode cX1_descend 152 = .ok (.laload, 1) := by decide +kernel
theorem dX1_descend_153 : decode cX1_descend 153 = .ok (.lstore 8, 2) := by decide +kernel
theorem dX1_descend_155 : decode cX1_descend 155 = .ok (.aload_n 2, 1) := by decide +kernel
theorem dX1_descend_156 : decode cX1_descend 156 = .ok (.aload_n 2, 1) := by decide +kernel
theorem dX1_descend_157 : decode cX1_descend 157 = .ok (.iload 6, 2) := by decide +kernel
theorem dX1_descend_159 : decode cX1_descend 159 = .ok (.invokevirtual 51, 3) := by decide +kernel
theorem dX1_descend_162 : decode cX1_descend 162 = .ok (.lload 8, 2) := by decide +kernel
theorem dX1_descend_164 : decode cX1_descend 164 = .ok (.iload 4, 2) := by decide +kernel
theorem dX1_descend_166 : decode cX1_descend 166 = .ok (.invokestatic 72, 3) := by decide +kernel
theorem dX1_descend_169 : decode cX1_descend 169 = .ok (.invokevirtual 68, 3) := by decide +kernel
theorem dX1_descend_172 : decode cX1_descend 172 = .ok (.pop, 1) := by decide +kernel
theorem dX1_descend_173 : decode cX1_descend 173 = .ok (.iinc 7 1, 3) := by decide +kernel
theorem dX1_descend_176 : decode cX1_descend 176 = .ok (.goto (-50), 3) := by decide +kernel
theorem dX1_descend_179 : decode cX1_descend 179 = .ok (.iinc 6 1, 3) := by decide +kernel
theorem dX1_descend_182 : decode cX1_descend 182 = .ok (.goto (-75), 3) := by decide +kernel
theorem dX1_descend_185 : decode cX1_descend 185 = .ok (.return_, 1) := by decide +kernel
theorem dX1_sizeAt_0 : decode cX1_sizeAt 0 = .ok (.iload_n 1, 1) := by decide +kernel
theorem dX1_sizeAt_1 : decode cX1_sizeAt 1 = .ok (.ifCond .lt 20, 3) := by decide +kernel
theorem dX1_sizeAt_4 : decode cX1_sizeAt 4 = .ok (.iload_n 1, 1) := by decide +kernel
theorem dX1_sizeAt_5 : decode cX1_sizeAt 5 = .ok (.aload_n 0, 1) := by decide +kernel
theorem dX1_sizeAt_6 : decode cX1_sizeAt 6 = .ok (.getfield 23, 3) := by decide +kernel
theorem dX1_sizeAt_9 : decode cX1_sizeAt 9 = .ok (.if_icmp .ge 12, 3) := by decide +kernel
theorem dX1_sizeAt_12 : decode cX1_sizeAt 12 = .ok (.aload_n 0, 1) := by decide +kernel
theorem dX1_sizeAt_13 : decode cX1_sizeAt 13 = .ok (.getfield 7, 3) := by decide +kernel
theorem dX1_sizeAt_16 : decode cX1_sizeAt 16 = .ok (.iload_n 1, 1) := by decide +kernel
theorem dX1_sizeAt_17 : decode cX1_sizeAt 17 = .ok (.iaload, 1) := by decide +kernel
theorem dX1_sizeAt_18 : decode cX1_sizeAt 18 = .ok (.goto 4, 3) := by decide +kernel
theorem dX1_sizeAt_21 : decode cX1_sizeAt 21 = .ok (.iconst 0, 1) := by decide +kernel
theorem dX1_sizeAt_22 : decode cX1_sizeAt 22 = .ok (.ireturn, 1) := by decide +kernel
theorem dX1_endsAtHome_0 : decode cX1_endsAtHome 0 = .ok (.aload_n 0, 1) := by decide +kernel
theorem dX1_endsAtHome_1 : decode cX1_endsAtHome 1 = .ok (.aload_n 0, 1) := by decide +kernel
theorem dX1_endsAtHome_2 : decode cX1_endsAtHome 2 = .ok (.getfield 23, 3) := by decide +kernel
theorem dX1_endsAtHome_5 : decode cX1_endsAtHome 5 = .ok (.iconst 1, 1) := by decide +kernel
theorem dX1_endsAtHome_6 : decode cX1_endsAtHome 6 = .ok (.isub, 1) := by decide +kernel
theorem dX1_endsAtHome_7 : decode cX1_endsAtHome 7 = .ok (.invokevirtual 75, 3) := by decide +kernel
theorem dX1_endsAtHome_10 : decode cX1_endsAtHome 10 = .ok (.iconst 1, 1) := by decide +kernel
theorem dX1_endsAtHome_11 : decode cX1_endsAtHome 11 = .ok (.if_icmp .ne 7, 3) := by decide +kernel
theorem dX1_endsAtHome_14 : decode cX1_endsAtHome 14 = .ok (.iconst 1, 1) := by decide +kernel
theorem dX1_endsAtHome_15 : decode cX1_endsAtHome 15 = .ok (.goto 4, 3) := by decide +kernel
theorem dX1_endsAtHome_18 : decode cX1_endsAtHome 18 = .ok (.iconst 0, 1) := by decide +kernel
theorem dX1_endsAtHome_19 : decode cX1_endsAtHome 19 = .ok (.ireturn, 1) := by decide +kernel
theorem dX2_init_0 : decode cX2_init 0 = .ok (.aload_n 0, 1) := by decide +kernel
theorem dX2_init_1 : decode cX2_init 1 = .ok (.invokespecial 3, 3) := by decide +kernel
theorem dX2_init_4 : decode cX2_init 4 = .ok (.aload_n 0, 1) := by decide +kernel
theorem dX2_init_5 : decode cX2_init 5 = .ok (.iconst 0, 1) := by decide +kernel
theorem dX2_init_6 : decode cX2_init 6 = .ok (.putfield 9, 3) := by decide +kernel
theorem dX2_init_9 : decode cX2_init 9 = .ok (.aload_n 0, 1) := by decide +kernel
theorem dX2_init_10 : decode cX2_init 10 = .ok (.iconst 0, 1) := by decide +kernel
theorem dX2_init_11 : decode cX2_init 11 = .ok (.putfield 15, 3) := by decide +kernel
theorem dX2_init_14 : decode cX2_init 14 = .ok (.aload_n 0, 1) := by decide +kernel
theorem dX2_init_15 : decode cX2_init 15 = .ok (.bipush 6, 2) := by decide +kernel
theorem dX2_init_17 : decode cX2_init 17 = .ok (.newarray .long, 2) := by decide +kernel
theorem dX2_init_19 : decode cX2_init 19 = .ok (.putfield 18, 3) := by decide +kernel
theorem dX2_init_22 : decode cX2_init 22 = .ok (.aload_n 0, 1) := by decide +kernel
theorem dX2_init_23 : decode cX2_init 23 = .ok (.new 22, 3) := by decide +kernel
theorem dX2_init_26 : decode cX2_init 26 = .ok (.dup, 1) := by decide +kernel
theorem dX2_init_27 : decode cX2_init 27 = .ok (.invokespecial 24, 3) := by decide +kernel
theorem dX2_init_30 : decode cX2_init 30 = .ok (.putfield 25, 3) := by decide +kernel
theorem dX2_init_33 : decode cX2_init 33 = .ok (.aload_n 0, 1) := by decide +kernel
theorem dX2_init_34 : decode cX2_init 34 = .ok (.iconst 0, 1) := by decide +kernel
theorem dX2_init_35 : decode cX2_init 35 = .ok (.putfield 29, 3) := by decide +kernel
theorem dX2_init_38 : decode cX2_init 38 = .ok (.aload_n 0, 1) := by decide +kernel
theorem dX2_init_39 : decode cX2_init 39 = .ok (.new 22, 3) := by decide +kernel
theorem dX2_init_42 : decode cX2_init 42 = .ok (.dup, 1) := by decide +kernel
theorem dX2_init_43 : decode cX2_init 43 = .ok (.invokespecial 24, 3) := by decide +kernel
theorem dX2_init_46 : decode cX2_init 46 = .ok (.putfield 32, 3) := by decide +kernel
theorem dX2_init_49 : decode cX2_init 49 = .ok (.aload_n 0, 1) := by decide +kernel
theorem dX2_init_50 : decode cX2_init 50 = .ok (.new 22, 3) := by decide +kernel
theorem dX2_init_53 : decode cX2_init 53 = .ok (.dup, 1) := by decide +kernel
theorem dX2_init_54 : decode cX2_init 54 = .ok (.invokespecial 24, 3) := by decide +kernel
theorem dX2_init_57 : decode cX2_init 57 = .ok (.putfield 35, 3) := by decide +kernel
theorem dX2_init_60 : decode cX2_init 60 = .ok (.aload_n 0, 1) := by decide +kernel
theorem dX2_init_61 : decode cX2_init 61 = .ok (.bipush 64, 2) := by decide +kernel
theorem dX2_init_63 : decode cX2_init 63 = .ok (.newarray .int, 2) := by decide +kernel
theorem dX2_init_65 : decode cX2_init 65 = .ok (.putfield 38, 3) := by decide +kernel
theorem dX2_init_68 : decode cX2_init 68 = .ok (.aload_n 0, 1) := by decide +kernel
theorem dX2_init_69 : decode cX2_init 69 = .ok (.new 42, 3) := by decide +kernel
theorem dX2_init_72 : decode cX2_init 72 = .ok (.dup, 1) := by decide +kernel
theorem dX2_init_73 : decode cX2_init 73 = .ok (.invokespecial 44, 3) := by decide +kernel
theorem dX2_init_76 : decode cX2_init 76 = .ok (.putfield 45, 3) := by decide +kernel
theorem dX2_init_79 : decode cX2_init 79 = .ok (.aload_n 0, 1) := by decide +kernel
theorem dX2_init_80 : decode cX2_init 80 = .ok (.new 42, 3) := by decide +kernel
theorem dX2_init_83 : decode cX2_init 83 = .ok (.dup, 1) := by decide +kernel
theorem dX2_init_84 : decode cX2_init 84 = .ok (.invokespecial 44, 3) := by decide +kernel
theorem dX2_init_87 : decode cX2_init 87 = .ok (.putfield 49, 3) := by decide +kernel
theorem dX2_init_90 : decode cX2_init 90 = .ok (.aload_n 0, 1) := by decide +kernel
theorem dX2_init_91 : decode cX2_init 91 = .ok (.aconst_null, 1) := by decide +kernel
theorem dX2_init_92 : decode cX2_init 92 = .ok (.putfield 52, 3) := by decide +kernel
theorem dX2_init_95 : decode cX2_init 95 = .ok (.aload_n 0, 1) := by decide +kernel
theorem dX2_init_96 : decode cX2_init 96 = .ok (.iconst 0, 1) := by decide +kernel
theorem dX2_init_97 : decode cX2_init 97 = .ok (.putfield 56, 3) := by decide +kernel
theorem dX2_init_100 : decode cX2_init 100 = .ok (.aload_n 0, 1) := by decide +kernel
theorem dX2_init_101 : decode cX2_init 101 = .ok (.bipush 16, 2) := by decide +kernel
theorem dX2_init_103 : decode cX2_init 103 = .ok (.newarray .int, 2) := by decide +kernel
theorem dX2_init_105 : decode cX2_init 105 = .ok (.putfield 60, 3) := by decide +kernel
theorem dX2_init_108 : decode cX2_init 108 = .ok (.return_, 1) := by decide +kernel
theorem dX2_become_0 : decode cX2_become 0 = .ok (.aload_n 0, 1) := by decide +kernel
theorem dX2_become_1 : decode cX2_become 1 = .ok (.iload_n 1, 1) := by decide +kernel
theorem dX2_become_2 : decode cX2_become 2 = .ok (.putfield 9, 3) := by decide +kernel
theorem dX2_become_5 : decode cX2_become 5 = .ok (.aload_n 0, 1) := by decide +kernel
theorem dX2_become_6 : decode cX2_become 6 = .ok (.iload_n 3, 1) := by decide +kernel
theorem dX2_become_7 : decode cX2_become 7 = .ok (.bipush 6, 2) := by decide +kernel
theorem dX2_become_9 : decode cX2_become 9 = .ok (.invokestatic 63, 3) := by decide +kernel
theorem dX2_become_12 : decode cX2_become 12 = .ok (.putfield 15, 3) := by decide +kernel
theorem dX2_become_15 : decode cX2_become 15 = .ok (.iconst 0, 1) := by decide +kernel
theorem dX2_become_16 : decode cX2_become 16 = .ok (.istore 4, 2) := by decide +kernel
theorem dX2_become_18 : decode cX2_become 18 = .ok (.iload 4, 2) := by decide +kernel
theorem dX2_become_20 : decode cX2_become 20 = .ok (.aload_n 0, 1) := by decide +kernel
theorem dX2_become_21 : decode cX2_become 21 = .ok (.getfield 15, 3) := by decide +kernel
theorem dX2_become_24 : decode cX2_become 24 = .ok (.if_icmp .ge 27, 3) := by decide +kernel
theorem dX2_become_27 : decode cX2_become 27 = .ok (.iload 4, 2) := by decide +kernel
theorem dX2_become_29 : decode cX2_become 29 = .ok (.aload_n 2, 1) := by decide +kernel
theorem dX2_become_30 : decode cX2_become 30 = .ok (.arraylength, 1) := by decide +kernel
theorem dX2_become_31 : decode cX2_become 31 = .ok (.if_icmp .ge 20, 3) := by decide +kernel
theorem dX2_become_34 : decode cX2_become 34 = .ok (.aload_n 0, 1) := by decide +kernel
theorem dX2_become_35 : decode cX2_become 35 = .ok (.getfield 18, 3) := by decide +kernel
theorem dX2_become_38 : decode cX2_become 38 = .ok (.iload 4, 2) := by decide +kernel
theorem dX2_become_40 : decode cX2_become 40 = .ok (.aload_n 2, 1) := by decide +kernel
theorem dX2_become_41 : decode cX2_become 41 = .ok (.iload 4, 2) := by decide +kernel
theorem dX2_become_43 : decode cX2_become 43 = .ok (.laload, 1) := by decide +kernel
theorem dX2_become_44 : decode cX2_become 44 = .ok (.lastore, 1) := by decide +kernel
theorem dX2_become_45 : decode cX2_become 45 = .ok (.iinc 4 1, 3) := by decide +kernel
theorem dX2_become_48 : decode cX2_become 48 = .ok (.goto (-30), 3) := by decide +kernel
theorem dX2_become_51 : decode cX2_become 51 = .ok (.aload_n 0, 1) := by decide +kernel
theorem dX2_become_52 : decode cX2_become 52 = .ok (.invokevirtual 69, 3) := by decide +kernel
theorem dX2_become_55 : decode cX2_become 55 = .ok (.return_, 1) := by decide +kernel
theorem dX2_take_0 : decode cX2_take 0 = .ok (.aload_n 0, 1) := by decide +kernel
theorem dX2_take_1 : decode cX2_take 1 = .ok (.getfield 15, 3) := by decide +kernel
theorem dX2_take_4 : decode cX2_take 4 = .ok (.bipush 6, 2) := by decide +kernel
theorem dX2_take_6 : decode cX2_take 6 = .ok (.if_icmp .ge 27, 3) := by decide +kernel
theorem dX2_take_9 : decode cX2_take 9 = .ok (.aload_n 0, 1) := by decide +kernel
theorem dX2_take_10 : decode cX2_take 10 = .ok (.getfield 18, 3) := by decide +kernel
theorem dX2_take_13 : decode cX2_take 13 = .ok (.aload_n 0, 1) := by decide +kernel
theorem dX2_take_14 : decode cX2_take 14 = .ok (.getfield 15, 3) := by decide +kernel
theorem dX2_take_17 : decode cX2_take 17 = .ok (.lload_n 1, 1) := by decide +kernel
theorem dX2_take_18 : decode cX2_take 18 = .ok (.lastore, 1) := by decide +kernel
theorem dX2_take_19 : decode cX2_take 19 = .ok (.aload_n 0, 1) := by decide +kernel
theorem dX2_take_20 : decode cX2_take 20 = .ok (.dup, 1) := by decide +kernel
theorem dX2_take_21 : decode cX2_take 21 = .ok (.getfield 15, 3) := by decide +kernel
theorem dX2_take_24 : decode cX2_take 24 = .ok (.iconst 1, 1) := by decide +kernel
theorem dX2_take_25 : decode cX2_take 25 = .ok (.iadd, 1) := by decide +kernel
theorem dX2_take_26 : decode cX2_take 26 = .ok (.putfield 15, 3) := by decide +kernel
theorem dX2_take_29 : decode cX2_take 29 = .ok (.aload_n 0, 1) := by decide +kernel
theorem dX2_take_30 : decode cX2_take 30 = .ok (.invokevirtual 69, 3) := by decide +kernel
theorem dX2_take_33 : decode cX2_take 33 = .ok (.return_, 1) := by decide +kernel
theorem dX2_lose_0 : decode cX2_lose 0 = .ok (.iload_n 1, 1) := by decide +kernel
theorem dX2_lose_1 : decode cX2_lose 1 = .ok (.iconst 0, 1) := by decide +kernel
theorem dX2_lose_2 : decode cX2_lose 2 = .ok (.invokestatic 72, 3) := by decide +kernel
theorem dX2_lose_5 : decode cX2_lose 5 = .ok (.istore_n 2, 1) := by decide +kernel
theorem dX2_lose_6 : decode cX2_lose 6 = .ok (.iload_n 2, 1) := by decide +kernel
theorem dX2_lose_7 : decode cX2_lose 7 = .ok (.iconst 1, 1) := by decide +kernel
theorem dX2_lose_8 : decode cX2_lose 8 = .ok (.iadd, 1) := by decide +kernel
theorem dX2_lose_9 : decode cX2_lose 9 = .ok (.aload_n 0, 1) := by decide +kernel
theorem dX2_lose_10 : decode cX2_lose 10 = .ok (.getfield 15, 3) := by decide +kernel
theorem dX2_lose_13 : decode cX2_lose 13 = .ok (.if_icmp .ge 23, 3) := by decide +kernel
theorem dX2_lose_16 : decode cX2_lose 16 = .ok (.aload_n 0, 1) := by decide +kernel
theorem dX2_lose_17 : decode cX2_lose 17 = .ok (.getfield 18, 3) := by decide +kernel
theorem dX2_lose_20 : decode cX2_lose 20 = .ok (.iload_n 2, 1) := by decide +kernel
theorem dX2_lose_21 : decode cX2_lose 21 = .ok (.aload_n 0, 1) := by decide +kernel
theorem dX2_lose_22 : decode cX2_lose 22 = .ok (.getfield 18, 3) := by decide +kernel
theorem dX2_lose_25 : decode cX2_lose 25 = .ok (.iload_n 2, 1) := by decide +kernel
theorem dX2_lose_26 : decode cX2_lose 26 = .ok (.iconst 1, 1) := by decide +kernel
theorem dX2_lose_27 : decode cX2_lose 27 = .ok (.iadd, 1) := by decide +kernel
theorem dX2_lose_28 : decode cX2_lose 28 = .ok (.laload, 1) := by decide +kernel
theorem dX2_lose_29 : decode cX2_lose 29 = .ok (.lastore, 1) := by decide +kernel
theorem dX2_lose_30 : decode cX2_lose 30 = .ok (.iinc 2 1, 3) := by decide +kernel
theorem dX2_lose_33 : decode cX2_lose 33 = .ok (.goto (-27), 3) := by decide +kernel
theorem dX2_lose_36 : decode cX2_lose 36 = .ok (.aload_n 0, 1) := by decide +kernel
theorem dX2_lose_37 : decode cX2_lose 37 = .ok (.aload_n 0, 1) := by decide +kernel
theorem dX2_lose_38 : decode cX2_lose 38 = .ok (.getfield 15, 3) := by decide +kernel
theorem dX2_lose_41 : decode cX2_lose 41 = .ok (.iconst 1, 1) := by decide +kernel
theorem dX2_lose_42 : decode cX2_lose 42 = .ok (.isub, 1) := by decide +kernel
theorem dX2_lose_43 : decode cX2_lose 43 = .ok (.iconst 0, 1) := by decide +kernel
theorem dX2_lose_44 : decode cX2_lose 44 = .ok (.invokestatic 72, 3) := by decide +kernel
theorem dX2_lose_47 : decode cX2_lose 47 = .ok (.putfield 15, 3) := by decide +kernel
theorem dX2_lose_50 : decode cX2_lose 50 = .ok (.aload_n 0, 1) := by decide +kernel
theorem dX2_lose_51 : decode cX2_lose 51 = .ok (.invokevirtual 69, 3) := by decide +kernel
theorem dX2_lose_54 : decode cX2_lose 54 = .ok (.return_, 1) := by decide +kernel
theorem dX2_findOut_0 : decode cX2_findOut 0 = .ok (.aload_n 0, 1) := by decide +kernel
theorem dX2_findOut_1 : decode cX2_findOut 1 = .ok (.aload_n 0, 1) := by decide +kernel
theorem dX2_findOut_2 : decode cX2_findOut 2 = .ok (.getfield 25, 3) := by decide +kernel
theorem dX2_findOut_5 : decode cX2_findOut 5 = .ok (.aload_n 0, 1) := by decide +kernel
theorem dX2_findOut_6 : decode cX2_findOut 6 = .ok (.getfield 18, 3) := by decide +kernel
theorem dX2_findOut_9 : decode cX2_findOut 9 = .ok (.aload_n 0, 1) := by decide +kernel
theorem dX2_findOut_10 : decode cX2_findOut 10 = .ok (.invokevirtual 75, 3) := by decide +kernel
theorem dX2_findOut_13 : decode cX2_findOut 13 = .ok (.aload_n 0, 1) := by decide +kernel
theorem dX2_findOut_14 : decode cX2_findOut 14 = .ok (.getfield 9, 3) := by decide +kernel
theorem dX2_findOut_17 : decode cX2_findOut 17 = .ok (.invokevirtual 79, 3) := by decide +kernel
theorem dX2_findOut_20 : decode cX2_findOut 20 = .ok (.putfield 29, 3) := by decide +kernel
theorem dX2_findOut_23 : decode cX2_findOut 23 = .ok (.aload_n 0, 1) := by decide +kernel
theorem dX2_findOut_24 : decode cX2_findOut 24 = .ok (.iconst 0, 1) := by decide +kernel
theorem dX2_findOut_25 : decode cX2_findOut 25 = .ok (.putfield 56, 3) := by decide +kernel
theorem dX2_findOut_28 : decode cX2_findOut 28 = .ok (.aload_n 0, 1) := by decide +kernel
theorem dX2_findOut_29 : decode cX2_findOut 29 = .ok (.getfield 45, 3) := by decide +kernel
theorem dX2_findOut_32 : decode cX2_findOut 32 = .ok (.invokevirtual 83, 3) := by decide +kernel
theorem dX2_findOut_35 : decode cX2_findOut 35 = .ok (.aload_n 0, 1) := by decide +kernel
theorem dX2_findOut_36 : decode cX2_findOut 36 = .ok (.getfield 49, 3) := by decide +kernel
theorem dX2_findOut_39 : decode cX2_findOut 39 = .ok (.invokevirtual 83, 3) := by decide +kernel
theorem dX2_findOut_42 : decode cX2_findOut 42 = .ok (.iconst 0, 1) := by decide +kernel
theorem dX2_findOut_43 : decode cX2_findOut 43 = .ok (.istore_n 1, 1) := by decide +kernel
theorem dX2_findOut_44 : decode cX2_findOut 44 = .ok (.iload_n 1, 1) := by decide +kernel
theorem dX2_findOut_45 : decode cX2_findOut 45 = .ok (.aload_n 0, 1) := by decide +kernel
theorem dX2_findOut_46 : decode cX2_findOut 46 = .ok (.getfield 38, 3) := by decide +kernel
theorem dX2_findOut_49 : decode cX2_findOut 49 = .ok (.arraylength, 1) := by decide +kernel
theorem dX2_findOut_50 : decode cX2_findOut 50 = .ok (.if_icmp .ge 16, 3) := by decide +kernel
theorem dX2_findOut_53 : decode cX2_findOut 53 = .ok (.aload_n 0, 1) := by decide +kernel
theorem dX2_findOut_54 : decode cX2_findOut 54 = .ok (.getfield 38, 3) := by decide +kernel
theorem dX2_findOut_57 : decode cX2_findOut 57 = .ok (.iload_n 1, 1) := by decide +kernel
theorem dX2_findOut_58 : decode cX2_findOut 58 = .ok (.iconst 0, 1) := by decide +kernel
theorem dX2_findOut_59 : decode cX2_findOut 59 = .ok (.iastore, 1) := by decide +kernel
theorem dX2_findOut_60 : decode cX2_findOut 60 = .ok (.iinc 1 1, 3) := by decide +kernel
theorem dX2_findOut_63 : decode cX2_findOut 63 = .ok (.goto (-19), 3) := by decide +kernel
theorem dX2_findOut_66 : decode cX2_findOut 66 = .ok (.return_, 1) := by decide +kernel
theorem dX2_everyMove_0 : decode cX2_everyMove 0 = .ok (.iconst 1, 1) := by decide +kernel
theorem dX2_everyMove_1 : decode cX2_everyMove 1 = .ok (.aload_n 0, 1) := by decide +kernel
theorem dX2_everyMove_2 : decode cX2_everyMove 2 = .ok (.getfield 15, 3) := by decide +kernel
theorem dX2_everyMove_5 : decode cX2_everyMove 5 = .ok (.ishl, 1) := by decide +kernel
theorem dX2_everyMove_6 : decode cX2_everyMove 6 = .ok (.iconst 1, 1) := by decide +kernel
theorem dX2_everyMove_7 : decode cX2_everyMove 7 = .ok (.isub, 1) := by decide +kernel
theorem dX2_everyMove_8 : decode cX2_everyMove 8 = .ok (.ireturn, 1) := by decide +kernel
theorem dX2_hasJust_0 : decode cX2_hasJust 0 = .ok (.iload_n 2, 1) := by decide +kernel
theorem dX2_hasJust_1 : decode cX2_hasJust 1 = .ok (.aload_n 0, 1) := by decide +kernel
theorem dX2_hasJust_2 : decode cX2_hasJust 2 = .ok (.getfield 15, 3) := by decide +kernel
theorem dX2_hasJust_5 : decode cX2_hasJust 5 = .ok (.if_icmp .eq 5, 3) := by decide +kernel
theorem dX2_hasJust_8 : decode cX2_hasJust 8 = .ok (.iconst 0, 1) := by decide +kernel
theorem dX2_hasJust_9 : decode cX2_hasJust 9 = .ok (.ireturn, 1) := by decide +kernel
theorem dX2_hasJust_10 : decode cX2_hasJust 10 = .ok (.iconst 0, 1) := by decide +kernel
theorem dX2_hasJust_11 : decode cX2_hasJust 11 = .ok (.istore_n 3, 1) := by decide +kernel
theorem dX2_hasJust_12 : decode cX2_hasJust 12 = .ok (.iload_n 3, 1) := by decide +kernel
theorem dX2_hasJust_13 : decode cX2_hasJust 13 = .ok (.aload_n 0, 1) := by decide +kernel
theorem dX2_hasJust_14 : decode cX2_hasJust 14 = .ok (.getfield 15, 3) := by decide +kernel
theorem dX2_hasJust_17 : decode cX2_hasJust 17 = .ok (.if_icmp .ge 30, 3) := by decide +kernel
theorem dX2_hasJust_20 : decode cX2_hasJust 20 = .ok (.iload_n 3, 1) := by decide +kernel
theorem dX2_hasJust_21 : decode cX2_hasJust 21 = .ok (.aload_n 1, 1) := by decide +kernel
theorem dX2_hasJust_22 : decode cX2_hasJust 22 = .ok (.arraylength, 1) := by decide +kernel
theorem dX2_hasJust_23 : decode cX2_hasJust 23 = .ok (.if_icmp .ge 24, 3) := by decide +kernel
theorem dX2_hasJust_26 : decode cX2_hasJust 26 = .ok (.aload_n 0, 1) := by decide +kernel
theorem dX2_hasJust_27 : decode cX2_hasJust 27 = .ok (.getfield 18, 3) := by decide +kernel
theorem dX2_hasJust_30 : decode cX2_hasJust 30 = .ok (.iload_n 3, 1) := by decide +kernel
theorem dX2_hasJust_31 : decode cX2_hasJust 31 = .ok (.laload, 1) := by decide +kernel
theorem dX2_hasJust_32 : decode cX2_hasJust 32 = .ok (.aload_n 1, 1) := by decide +kernel
theorem dX2_hasJust_33 : decode cX2_hasJust 33 = .ok (.iload_n 3, 1) := by decide +kernel
theorem dX2_hasJust_34 : decode cX2_hasJust 34 = .ok (.laload, 1) := by decide +kernel
theorem dX2_hasJust_35 : decode cX2_hasJust 35 = .ok (.lcmp, 1) := by decide +kernel
theorem dX2_hasJust_36 : decode cX2_hasJust 36 = .ok (.ifCond .eq 5, 3) := by decide +kernel
theorem dX2_hasJust_39 : decode cX2_hasJust 39 = .ok (.iconst 0, 1) := by decide +kernel
theorem dX2_hasJust_40 : decode cX2_hasJust 40 = .ok (.ireturn, 1) := by decide +kernel
theorem dX2_hasJust_41 : decode cX2_hasJust 41 = .ok (.iinc 3 1, 3) := by decide +kernel
theorem dX2_hasJust_44 : decode cX2_hasJust 44 = .ok (.goto (-32), 3) := by decide +kernel
theorem dX2_hasJust_47 : decode cX2_hasJust 47 = .ok (.iconst 1, 1) := by decide +kernel
theorem dX2_hasJust_48 : decode cX2_hasJust 48 = .ok (.ireturn, 1) := by decide +kernel
theorem dX2_hasPoint_0 : decode cX2_hasPoint 0 = .ok (.iload_n 1, 1) := by decide +kernel
theorem dX2_hasPoint_1 : decode cX2_hasPoint 1 = .ok (.ifCond .lt 15, 3) := by decide +kernel
theorem dX2_hasPoint_4 : decode cX2_hasPoint 4 = .ok (.iload_n 1, 1) := by decide +kernel
theorem dX2_hasPoint_5 : decode cX2_hasPoint 5 = .ok (.aload_n 0, 1) := by decide +kernel
theorem dX2_hasPoint_6 : decode cX2_hasPoint 6 = .ok (.getfield 9, 3) := by decide +kernel
theorem dX2_hasPoint_9 : decode cX2_hasPoint 9 = .ok (.if_icmp .ge 7, 3) := by decide +kernel
theorem dX2_hasPoint_12 : decode cX2_hasPoint 12 = .ok (.iconst 1, 1) := by decide +kernel
theorem dX2_hasPoint_13 : decode cX2_hasPoint 13 = .ok (.goto 4, 3) := by decide +kernel
theorem dX2_hasPoint_16 : decode cX2_hasPoint 16 = .ok (.iconst 0, 1) := by decide +kernel
theorem dX2_hasPoint_17 : decode cX2_hasPoint 17 = .ok (.ireturn, 1) := by decide +kernel
theorem dX2_hasStep_0 : decode cX2_hasStep 0 = .ok (.iload_n 1, 1) := by decide +kernel
theorem dX2_hasStep_1 : decode cX2_hasStep 1 = .ok (.ifCond .lt 17, 3) := by decide +kernel
theorem dX2_hasStep_4 : decode cX2_hasStep 4 = .ok (.iload_n 1, 1) := by decide +kernel
theorem dX2_hasStep_5 : decode cX2_hasStep 5 = .ok (.iconst 2, 1) := by decide +kernel
theorem dX2_hasStep_6 : decode cX2_hasStep 6 = .ok (.aload_n 0, 1) := by decide +kernel
theorem dX2_hasStep_7 : decode cX2_hasStep 7 = .ok (.getfield 15, 3) := by decide +kernel
theorem dX2_hasStep_10 : decode cX2_hasStep 10 = .ok (.imul, 1) := by decide +kernel
theorem dX2_hasStep_11 : decode cX2_hasStep 11 = .ok (.if_icmp .ge 7, 3) := by decide +kernel
theorem dX2_hasStep_14 : decode cX2_hasStep 14 = .ok (.iconst 1, 1) := by decide +kernel
theorem dX2_hasStep_15 : decode cX2_hasStep 15 = .ok (.goto 4, 3) := by decide +kernel
theorem dX2_hasStep_18 : decode cX2_hasStep 18 = .ok (.iconst 0, 1) := by decide +kernel
theorem dX2_hasStep_19 : decode cX2_hasStep 19 = .ok (.ireturn, 1) := by decide +kernel
theorem dX2_hasMoves_0 : decode cX2_hasMoves 0 = .ok (.iload_n 1, 1) := by decide +kernel
theorem dX2_hasMoves_1 : decode cX2_hasMoves 1 = .ok (.aload_n 0, 1) := by decide +kernel
theorem dX2_hasMoves_2 : decode cX2_hasMoves 2 = .ok (.invokevirtual 75, 3) := by decide +kernel
theorem dX2_hasMoves_5 : decode cX2_hasMoves 5 = .ok (.iconst (-1), 1) := by decide +kernel
theorem dX2_hasMoves_6 : decode cX2_hasMoves 6 = .ok (.ixor, 1) := by decide +kernel
theorem dX2_hasMoves_7 : decode cX2_hasMoves 7 = .ok (.iand, 1) := by decide +kernel
theorem dX2_hasMoves_8 : decode cX2_hasMoves 8 = .ok (.ifCond .ne 7, 3) := by decide +kernel
theorem dX2_hasMoves_11 : decode cX2_hasMoves 11 = .ok (.iconst 1, 1) := by decide +kernel
theorem dX2_hasMoves_12 : decode cX2_hasMoves 12 = .ok (.goto 4, 3) := by decide +kernel
theorem dX2_hasMoves_15 : decode cX2_hasMoves 15 = .ok (.iconst 0, 1) := by decide +kernel
theorem dX2_hasMoves_16 : decode cX2_hasMoves 16 = .ok (.ireturn, 1) := by decide +kernel
theorem dX2_hasSet_0 : decode cX2_hasSet 0 = .ok (.iload_n 1, 1) := by decide +kernel
theorem dX2_hasSet_1 : decode cX2_hasSet 1 = .ok (.ifCond .eq 22, 3) := by decide +kernel
theorem dX2_hasSet_4 : decode cX2_hasSet 4 = .ok (.iload_n 1, 1) := by decide +kernel
theorem dX2_hasSet_5 : decode cX2_hasSet 5 = .ok (.iconst 1, 1) := by decide +kernel
theorem dX2_hasSet_6 : decode cX2_hasSet 6 = .ok (.aload_n 0, 1) := by decide +kernel
theorem dX2_hasSet_7 : decode cX2_hasSet 7 = .ok (.getfield 9, 3) := by decide +kernel
theorem dX2_hasSet_10 : decode cX2_hasSet 10 = .ok (.ishl, 1) := by decide +kernel
theorem dX2_hasSet_11 : decode cX2_hasSet 11 = .ok (.iconst 1, 1) := by decide +kernel
theorem dX2_hasSet_12 : decode cX2_hasSet 12 = .ok (.isub, 1) := by decide +kernel
theorem dX2_hasSet_13 : decode cX2_hasSet 13 = .ok (.iconst (-1), 1) := by decide +kernel
theorem dX2_hasSet_14 : decode cX2_hasSet 14 = .ok (.ixor, 1) := by decide +kernel
theorem dX2_hasSet_15 : decode cX2_hasSet 15 = .ok (.iand, 1) := by decide +kernel
theorem dX2_hasSet_16 : decode cX2_hasSet 16 = .ok (.ifCond .ne 7, 3) := by decide +kernel
theorem dX2_hasSet_19 : decode cX2_hasSet 19 = .ok (.iconst 1, 1) := by decide +kernel
theorem dX2_hasSet_20 : decode cX2_hasSet 20 = .ok (.goto 4, 3) := by decide +kernel
theorem dX2_hasSet_23 : decode cX2_hasSet 23 = .ok (.iconst 0, 1) := by decide +kernel
theorem dX2_hasSet_24 : decode cX2_hasSet 24 = .ok (.ireturn, 1) := by decide +kernel
theorem dX2_turnOf_0 : decode cX2_turnOf 0 = .ok (.aload_n 0, 1) := by decide +kernel
theorem dX2_turnOf_1 : decode cX2_turnOf 1 = .ok (.getfield 18, 3) := by decide +kernel
theorem dX2_turnOf_4 : decode cX2_turnOf 4 = .ok (.iload_n 1, 1) := by decide +kernel
theorem dX2_turnOf_5 : decode cX2_turnOf 5 = .ok (.iconst 1, 1) := by decide +kernel
theorem dX2_turnOf_6 : decode cX2_turnOf 6 = .ok (.ishr, 1) := by decide +kernel
theorem dX2_turnOf_7 : decode cX2_turnOf 7 = .ok (.laload, 1) := by decide +kernel
theorem dX2_turnOf_8 : decode cX2_turnOf 8 = .ok (.lstore_n 2, 1) := by decide +kernel
theorem dX2_turnOf_9 : decode cX2_turnOf 9 = .ok (.iload_n 1, 1) := by decide +kernel
theorem dX2_turnOf_10 : decode cX2_turnOf 10 = .ok (.iconst 1, 1) := by decide +kernel
theorem dX2_turnOf_11 : decode cX2_turnOf 11 = .ok (.iand, 1) := by decide +kernel
theorem dX2_turnOf_12 : decode cX2_turnOf 12 = .ok (.ifCond .ne 7, 3) := by decide +kernel
theorem dX2_turnOf_15 : decode cX2_turnOf 15 = .ok (.lload_n 2, 1) := by decide +kernel
theorem dX2_turnOf_16 : decode cX2_turnOf 16 = .ok (.goto 11, 3) := by decide +kernel
theorem dX2_turnOf_19 : decode cX2_turnOf 19 = .ok (.lload_n 2, 1) := by decide +kernel
theorem dX2_turnOf_20 : decode cX2_turnOf 20 = .ok (.aload_n 0, 1) := by decide +kernel
theorem dX2_turnOf_21 : decode cX2_turnOf 21 = .ok (.getfield 9, 3) := by decide +kernel
theorem dX2_turnOf_24 : decode cX2_turnOf 24 = .ok (.invokestatic 86, 3) := by decide +kernel
theorem dX2_turnOf_27 : decode cX2_turnOf 27 = .ok (.lreturn, 1) := by decide +kernel
theorem dX2_size_0 : decode cX2_size 0 = .ok (.aload_n 0, 1) := by decide +kernel
theorem dX2_size_1 : decode cX2_size 1 = .ok (.getfield 25, 3) := by decide +kernel
theorem dX2_size_4 : decode cX2_size 4 = .ok (.invokevirtual 92, 3) := by decide +kernel
theorem dX2_size_7 : decode cX2_size 7 = .ok (.ireturn, 1) := by decide +kernel
theorem dX2_reachedFrom_0 : decode cX2_reachedFrom 0 = .ok (.iconst 1, 1) := by decide +kernel
theorem dX2_reachedFrom_1 : decode cX2_reachedFrom 1 = .ok (.iload_n 1, 1) := by decide +kernel
theorem dX2_reachedFrom_2 : decode cX2_reachedFrom 2 = .ok (.ishl, 1) := by decide +kernel
theorem dX2_reachedFrom_3 : decode cX2_reachedFrom 3 = .ok (.istore_n 2, 1) := by decide +kernel
theorem dX2_reachedFrom_4 : decode cX2_reachedFrom 4 = .ok (.iconst 0, 1) := by decide +kernel
theorem dX2_reachedFrom_5 : decode cX2_reachedFrom 5 = .ok (.istore_n 3, 1) := by decide +kernel
theorem dX2_reachedFrom_6 : decode cX2_reachedFrom 6 = .ok (.iconst 0, 1) := by decide +kernel
theorem dX2_reachedFrom_7 : decode cX2_reachedFrom 7 = .ok (.istore 4, 2) := by decide +kernel
theorem dX2_reachedFrom_9 : decode cX2_reachedFrom 9 = .ok (.iload 4, 2) := by decide +kernel
theorem dX2_reachedFrom_11 : decode cX2_reachedFrom 11 = .ok (.bipush 10, 2) := by decide +kernel
theorem dX2_reachedFrom_13 : decode cX2_reachedFrom 13 = .ok (.if_icmp .ge 49, 3) := by decide +kernel
theorem dX2_reachedFrom_16 : decode cX2_reachedFrom 16 = .ok (.iload_n 2, 1) := by decide +kernel
theorem dX2_reachedFrom_17 : decode cX2_reachedFrom 17 = .ok (.iload_n 3, 1) := by decide +kernel
theorem dX2_reachedFrom_18 : decode cX2_reachedFrom 18 = .ok (.if_icmp .eq 44, 3) := by decide +kernel
theorem dX2_reachedFrom_21 : decode cX2_reachedFrom 21 = .ok (.iload_n 2, 1) := by decide +kernel
theorem dX2_reachedFrom_22 : decode cX2_reachedFrom 22 = .ok (.istore_n 3, 1) := by decide +kernel
theorem dX2_reachedFrom_23 : decode cX2_reachedFrom 23 = .ok (.iconst 0, 1) := by decide +kernel
theorem dX2_reachedFrom_24 : decode cX2_reachedFrom 24 = .ok (.istore 5, 2) := by decide +kernel
theorem dX2_reachedFrom_26 : decode cX2_reachedFrom 26 = .ok (.iload 5, 2) := by decide +kernel
theorem dX2_reachedFrom_28 : decode cX2_reachedFrom 28 = .ok (.aload_n 0, 1) := by decide +kernel
theorem dX2_reachedFrom_29 : decode cX2_reachedFrom 29 = .ok (.getfield 15, 3) := by decide +kernel
theorem dX2_reachedFrom_32 : decode cX2_reachedFrom 32 = .ok (.if_icmp .ge 24, 3) := by decide +kernel
theorem dX2_reachedFrom_35 : decode cX2_reachedFrom 35 = .ok (.iload_n 2, 1) := by decide +kernel
theorem dX2_reachedFrom_36 : decode cX2_reachedFrom 36 = .ok (.aload_n 0, 1) := by decide +kernel
theorem dX2_reachedFrom_37 : decode cX2_reachedFrom 37 = .ok (.iload_n 2, 1) := by decide +kernel
theorem dX2_reachedFrom_38 : decode cX2_reachedFrom 38 = .ok (.aload_n 0, 1) := by decide +kernel
theorem dX2_reachedFrom_39 : decode cX2_reachedFrom 39 = .ok (.getfield 18, 3) := by decide +kernel
theorem dX2_reachedFrom_42 : decode cX2_reachedFrom 42 = .ok (.iload 5, 2) := by decide +kernel
theorem dX2_reachedFrom_44 : decode cX2_reachedFrom 44 = .ok (.laload, 1) := by decide +kernel
theorem dX2_reachedFrom_45 : decode cX2_reachedFrom 45 = .ok (.invokevirtual 95, 3) := by decide +kernel
theorem dX2_reachedFrom_48 : decode cX2_reachedFrom 48 = .ok (.ior, 1) := by decide +kernel
theorem dX2_reachedFrom_49 : decode cX2_reachedFrom 49 = .ok (.istore_n 2, 1) := by decide +kernel
theorem dX2_reachedFrom_50 : decode cX2_reachedFrom 50 = .ok (.iinc 5 1, 3) := by decide +kernel
theorem dX2_reachedFrom_53 : decode cX2_reachedFrom 53 = .ok (.goto (-27), 3) := by decide +kernel
theorem dX2_reachedFrom_56 : decode cX2_reachedFrom 56 = .ok (.iinc 4 1, 3) := by decide +kernel
theorem dX2_reachedFrom_59 : decode cX2_reachedFrom 59 = .ok (.goto (-50), 3) := by decide +kernel
theorem dX2_reachedFrom_62 : decode cX2_reachedFrom 62 = .ok (.iload_n 2, 1) := by decide +kernel
theorem dX2_reachedFrom_63 : decode cX2_reachedFrom 63 = .ok (.ireturn, 1) := by decide +kernel
theorem dX2_imagesOf_0 : decode cX2_imagesOf 0 = .ok (.iconst 0, 1) := by decide +kernel
theorem dX2_imagesOf_1 : decode cX2_imagesOf 1 = .ok (.istore 4, 2) := by decide +kernel
theorem dX2_imagesOf_3 : decode cX2_imagesOf 3 = .ok (.iconst 0, 1) := by decide +kernel
theorem dX2_imagesOf_4 : decode cX2_imagesOf 4 = .ok (.istore 5, 2) := by decide +kernel
theorem dX2_imagesOf_6 : decode cX2_imagesOf 6 = .ok (.iload 5, 2) := by decide +kernel
theorem dX2_imagesOf_8 : decode cX2_imagesOf 8 = .ok (.aload_n 0, 1) := by decide +kernel
theorem dX2_imagesOf_9 : decode cX2_imagesOf 9 = .ok (.getfield 9, 3) := by decide +kernel
theorem dX2_imagesOf_12 : decode cX2_imagesOf 12 = .ok (.if_icmp .ge 31, 3) := by decide +kernel
theorem dX2_imagesOf_15 : decode cX2_imagesOf 15 = .ok (.iload_n 1, 1) := by decide +kernel
theorem dX2_imagesOf_16 : decode cX2_imagesOf 16 = .ok (.iload 5, 2) := by decide +kernel
theorem dX2_imagesOf_18 : decode cX2_imagesOf 18 = .ok (.ishr, 1) := by decide +kernel
theorem dX2_imagesOf_19 : decode cX2_imagesOf 19 = .ok (.iconst 1, 1) := by decide +kernel
theorem dX2_imagesOf_20 : decode cX2_imagesOf 20 = .ok (.iand, 1) := by decide +kernel
theorem dX2_imagesOf_21 : decode cX2_imagesOf 21 = .ok (.ifCond .eq 16, 3) := by decide +kernel
theorem dX2_imagesOf_24 : decode cX2_imagesOf 24 = .ok (.iload 4, 2) := by decide +kernel
theorem dX2_imagesOf_26 : decode cX2_imagesOf 26 = .ok (.iconst 1, 1) := by decide +kernel
theorem dX2_imagesOf_27 : decode cX2_imagesOf 27 = .ok (.lload_n 2, 1) := by decide +kernel
theorem dX2_imagesOf_28 : decode cX2_imagesOf 28 = .ok (.iload 5, 2) := by decide +kernel
theorem dX2_imagesOf_30 : decode cX2_imagesOf 30 = .ok (.invokestatic 99, 3) := by decide +kernel
theorem dX2_imagesOf_33 : decode cX2_imagesOf 33 = .ok (.ishl, 1) := by decide +kernel
theorem dX2_imagesOf_34 : decode cX2_imagesOf 34 = .ok (.ior, 1) := by decide +kernel
theorem dX2_imagesOf_35 : decode cX2_imagesOf 35 = .ok (.istore 4, 2) := by decide +kernel
theorem dX2_imagesOf_37 : decode cX2_imagesOf 37 = .ok (.iinc 5 1, 3) := by decide +kernel
theorem dX2_imagesOf_40 : decode cX2_imagesOf 40 = .ok (.goto (-34), 3) := by decide +kernel
theorem dX2_imagesOf_43 : decode cX2_imagesOf 43 = .ok (.iload 4, 2) := by decide +kernel
theorem dX2_imagesOf_45 : decode cX2_imagesOf 45 = .ok (.ireturn, 1) := by decide +kernel
theorem dX2_countOrbits_0 : decode cX2_countOrbits 0 = .ok (.iconst 0, 1) := by decide +kernel
theorem dX2_countOrbits_1 : decode cX2_countOrbits 1 = .ok (.istore_n 1, 1) := by decide +kernel
theorem dX2_countOrbits_2 : decode cX2_countOrbits 2 = .ok (.iconst 0, 1) := by decide +kernel
theorem dX2_countOrbits_3 : decode cX2_countOrbits 3 = .ok (.istore_n 2, 1) := by decide +kernel
theorem dX2_countOrbits_4 : decode cX2_countOrbits 4 = .ok (.iconst 0, 1) := by decide +kernel
theorem dX2_countOrbits_5 : decode cX2_countOrbits 5 = .ok (.istore_n 3, 1) := by decide +kernel
theorem dX2_countOrbits_6 : decode cX2_countOrbits 6 = .ok (.iload_n 3, 1) := by decide +kernel
theorem dX2_countOrbits_7 : decode cX2_countOrbits 7 = .ok (.aload_n 0, 1) := by decide +kernel
theorem dX2_countOrbits_8 : decode cX2_countOrbits 8 = .ok (.getfield 9, 3) := by decide +kernel
theorem dX2_countOrbits_11 : decode cX2_countOrbits 11 = .ok (.if_icmp .ge 28, 3) := by decide +kernel
theorem dX2_countOrbits_14 : decode cX2_countOrbits 14 = .ok (.iload_n 2, 1) := by decide +kernel
theorem dX2_countOrbits_15 : decode cX2_countOrbits 15 = .ok (.iload_n 3, 1) := by decide +kernel
theorem dX2_countOrbits_16 : decode cX2_countOrbits 16 = .ok (.ishr, 1) := by decide +kernel
theorem dX2_countOrbits_17 : decode cX2_countOrbits 17 = .ok (.iconst 1, 1) := by decide +kernel
theorem dX2_countOrbits_18 : decode cX2_countOrbits 18 = .ok (.iand, 1) := by decide +kernel
theorem dX2_countOrbits_19 : decode cX2_countOrbits 19 = .ok (.ifCond .ne 14, 3) := by decide +kernel
theorem dX2_countOrbits_22 : decode cX2_countOrbits 22 = .ok (.iload_n 2, 1) := by decide +kernel
theorem dX2_countOrbits_23 : decode cX2_countOrbits 23 = .ok (.aload_n 0, 1) := by decide +kernel
theorem dX2_countOrbits_24 : decode cX2_countOrbits 24 = .ok (.iload_n 3, 1) := by decide +kernel
theorem dX2_countOrbits_25 : decode cX2_countOrbits 25 = .ok (.invokevirtual 103, 3) := by decide +kernel
theorem dX2_countOrbits_28 : decode cX2_countOrbits 28 = .ok (.ior, 1) := by decide +kernel
theorem dX2_countOrbits_29 : decode cX2_countOrbits 29 = .ok (.istore_n 2, 1) := by decide +kernel
theorem dX2_countOrbits_30 : decode cX2_countOrbits 30 = .ok (.iinc 1 1, 3) := by decide +kernel
theorem dX2_countOrbits_33 : decode cX2_countOrbits 33 = .ok (.iinc 3 1, 3) := by decide +kernel
theorem dX2_countOrbits_36 : decode cX2_countOrbits 36 = .ok (.goto (-30), 3) := by decide +kernel
theorem dX2_countOrbits_39 : decode cX2_countOrbits 39 = .ok (.iload_n 1, 1) := by decide +kernel
theorem dX2_countOrbits_40 : decode cX2_countOrbits 40 = .ok (.ireturn, 1) := by decide +kernel
theorem dX2_all_0 : decode cX2_all 0 = .ok (.aload_n 0, 1) := by decide +kernel
theorem dX2_all_1 : decode cX2_all 1 = .ok (.getfield 25, 3) := by decide +kernel
theorem dX2_all_4 : decode cX2_all 4 = .ok (.invokevirtual 92, 3) := by decide +kernel
theorem dX2_all_7 : decode cX2_all 7 = .ok (.sipush 5040, 3) := by decide +kernel
theorem dX2_all_10 : decode cX2_all 10 = .ok (.invokestatic 63, 3) := by decide +kernel
theorem dX2_all_13 : decode cX2_all 13 = .ok (.istore_n 1, 1) := by decide +kernel
theorem dX2_all_14 : decode cX2_all 14 = .ok (.aload_n 0, 1) := by decide +kernel
theorem dX2_all_15 : decode cX2_all 15 = .ok (.getfield 52, 3) := by decide +kernel
theorem dX2_all_18 : decode cX2_all 18 = .ok (.ifnonnull 15, 3) := by decide +kernel
theorem dX2_all_21 : decode cX2_all 21 = .ok (.aload_n 0, 1) := by decide +kernel
theorem dX2_all_22 : decode cX2_all 22 = .ok (.new 107, 3) := by decide +kernel
theorem dX2_all_25 : decode cX2_all 25 = .ok (.dup, 1) := by decide +kernel
theorem dX2_all_26 : decode cX2_all 26 = .ok (.iload_n 1, 1) := by decide +kernel
theorem dX2_all_27 : decode cX2_all 27 = .ok (.invokespecial 109, 3) := by decide +kernel
theorem dX2_all_30 : decode cX2_all 30 = .ok (.putfield 52, 3) := by decide +kernel
theorem dX2_all_33 : decode cX2_all 33 = .ok (.aload_n 0, 1) := by decide +kernel
theorem dX2_all_34 : decode cX2_all 34 = .ok (.getfield 52, 3) := by decide +kernel
theorem dX2_all_37 : decode cX2_all 37 = .ok (.getfield 112, 3) := by decide +kernel
theorem dX2_all_40 : decode cX2_all 40 = .ok (.iload_n 1, 1) := by decide +kernel
theorem dX2_all_41 : decode cX2_all 41 = .ok (.if_icmp .ge 33, 3) := by decide +kernel
theorem dX2_all_44 : decode cX2_all 44 = .ok (.aload_n 0, 1) := by decide +kernel
theorem dX2_all_45 : decode cX2_all 45 = .ok (.new 107, 3) := by decide +kernel
theorem dX2_all_48 : decode cX2_all 48 = .ok (.dup, 1) := by decide +kernel
theorem dX2_all_49 : decode cX2_all 49 = .ok (.iload_n 1, 1) := by decide +kernel
theorem dX2_all_50 : decode cX2_all 50 = .ok (.iconst 2, 1) := by decide +kernel
theorem dX2_all_51 : decode cX2_all 51 = .ok (.aload_n 0, 1) := by decide +kernel
theorem dX2_all_52 : decode cX2_all 52 = .ok (.getfield 52, 3) := by decide +kernel
theorem dX2_all_55 : decode cX2_all 55 = .ok (.getfield 112, 3) := by decide +kernel
theorem dX2_all_58 : decode cX2_all 58 = .ok (.imul, 1) := by decide +kernel
theorem dX2_all_59 : decode cX2_all 59 = .ok (.invokestatic 72, 3) := by decide +kernel
theorem dX2_all_62 : decode cX2_all 62 = .ok (.sipush 5040, 3) := by decide +kernel
theorem dX2_all_65 : decode cX2_all 65 = .ok (.invokestatic 63, 3) := by decide +kernel
theorem dX2_all_68 : decode cX2_all 68 = .ok (.invokespecial 109, 3) := by decide +kernel
theorem dX2_all_71 : decode cX2_all 71 = .ok (.putfield 52, 3) := by decide +kernel
theorem dX2_all_74 : decode cX2_all 74 = .ok (.aload_n 0, 1) := by decide +kernel
theorem dX2_all_75 : decode cX2_all 75 = .ok (.getfield 56, 3) := by decide +kernel
theorem dX2_all_78 : decode cX2_all 78 = .ok (.ifCond .ne 23, 3) := by decide +kernel
theorem dX2_all_81 : decode cX2_all 81 = .ok (.aload_n 0, 1) := by decide +kernel
theorem dX2_all_82 : decode cX2_all 82 = .ok (.getfield 52, 3) := by decide +kernel
theorem dX2_all_85 : decode cX2_all 85 = .ok (.aload_n 0, 1) := by decide +kernel
theorem dX2_all_86 : decode cX2_all 86 = .ok (.getfield 25, 3) := by decide +kernel
theorem dX2_all_89 : decode cX2_all 89 = .ok (.aload_n 0, 1) := by decide +kernel
theorem dX2_all_90 : decode cX2_all 90 = .ok (.getfield 9, 3) := by decide +kernel
theorem dX2_all_93 : decode cX2_all 93 = .ok (.invokevirtual 115, 3) := by decide +kernel
theorem dX2_all_96 : decode cX2_all 96 = .ok (.aload_n 0, 1) := by decide +kernel
theorem dX2_all_97 : decode cX2_all 97 = .ok (.iconst 1, 1) := by decide +kernel
theorem dX2_all_98 : decode cX2_all 98 = .ok (.putfield 56, 3) := by decide +kernel
theorem dX2_all_101 : decode cX2_all 101 = .ok (.aload_n 0, 1) := by decide +kernel
theorem dX2_all_102 : decode cX2_all 102 = .ok (.getfield 52, 3) := by decide +kernel
theorem dX2_all_105 : decode cX2_all 105 = .ok (.areturn, 1) := by decide +kernel
theorem dX2_measured_0 : decode cX2_measured 0 = .ok (.aload_n 0, 1) := by decide +kernel
theorem dX2_measured_1 : decode cX2_measured 1 = .ok (.invokevirtual 119, 3) := by decide +kernel
theorem dX2_measured_4 : decode cX2_measured 4 = .ok (.astore_n 1, 1) := by decide +kernel
theorem dX2_measured_5 : decode cX2_measured 5 = .ok (.aload_n 1, 1) := by decide +kernel
theorem dX2_measured_6 : decode cX2_measured 6 = .ok (.aload_n 0, 1) := by decide +kernel
theorem dX2_measured_7 : decode cX2_measured 7 = .ok (.getfield 18, 3) := by decide +kernel
theorem dX2_measured_10 : decode cX2_measured 10 = .ok (.aload_n 0, 1) := by decide +kernel
theorem dX2_measured_11 : decode cX2_measured 11 = .ok (.getfield 15, 3) := by decide +kernel
theorem dX2_measured_14 : decode cX2_measured 14 = .ok (.invokevirtual 123, 3) := by decide +kernel
theorem dX2_measured_17 : decode cX2_measured 17 = .ok (.aload_n 1, 1) := by decide +kernel
theorem dX2_measured_18 : decode cX2_measured 18 = .ok (.areturn, 1) := by decide +kernel
theorem dX2_sorted_0 : decode cX2_sorted 0 = .ok (.aload_n 0, 1) := by decide +kernel
theorem dX2_sorted_1 : decode cX2_sorted 1 = .ok (.invokevirtual 119, 3) := by decide +kernel
theorem dX2_sorted_4 : decode cX2_sorted 4 = .ok (.astore_n 1, 1) := by decide +kernel
theorem dX2_sorted_5 : decode cX2_sorted 5 = .ok (.aload_n 1, 1) := by decide +kernel
theorem dX2_sorted_6 : decode cX2_sorted 6 = .ok (.aload_n 0, 1) := by decide +kernel
theorem dX2_sorted_7 : decode cX2_sorted 7 = .ok (.getfield 18, 3) := by decide +kernel
theorem dX2_sorted_10 : decode cX2_sorted 10 = .ok (.aload_n 0, 1) := by decide +kernel
theorem dX2_sorted_11 : decode cX2_sorted 11 = .ok (.getfield 29, 3) := by decide +kernel
theorem dX2_sorted_14 : decode cX2_sorted 14 = .ok (.invokevirtual 127, 3) := by decide +kernel
theorem dX2_sorted_17 : decode cX2_sorted 17 = .ok (.aload_n 1, 1) := by decide +kernel
theorem dX2_sorted_18 : decode cX2_sorted 18 = .ok (.areturn, 1) := by decide +kernel
theorem dX2_shaped_0 : decode cX2_shaped 0 = .ok (.aload_n 0, 1) := by decide +kernel
theorem dX2_shaped_1 : decode cX2_shaped 1 = .ok (.invokevirtual 119, 3) := by decide +kernel
theorem dX2_shaped_4 : decode cX2_shaped 4 = .ok (.astore_n 1, 1) := by decide +kernel
theorem dX2_shaped_5 : decode cX2_shaped 5 = .ok (.aload_n 1, 1) := by decide +kernel
theorem dX2_shaped_6 : decode cX2_shaped 6 = .ok (.invokevirtual 130, 3) := by decide +kernel
theorem dX2_shaped_9 : decode cX2_shaped 9 = .ok (.aload_n 1, 1) := by decide +kernel
theorem dX2_shaped_10 : decode cX2_shaped 10 = .ok (.areturn, 1) := by decide +kernel
theorem dX2_countCentral_0 : decode cX2_countCentral 0 = .ok (.aload_n 0, 1) := by decide +kernel
theorem dX2_countCentral_1 : decode cX2_countCentral 1 = .ok (.invokevirtual 119, 3) := by decide +kernel
theorem dX2_countCentral_4 : decode cX2_countCentral 4 = .ok (.astore_n 1, 1) := by decide +kernel
theorem dX2_countCentral_5 : decode cX2_countCentral 5 = .ok (.iconst 0, 1) := by decide +kernel
theorem dX2_countCentral_6 : decode cX2_countCentral 6 = .ok (.istore_n 2, 1) := by decide +kernel
theorem dX2_countCentral_7 : decode cX2_countCentral 7 = .ok (.aload_n 1, 1) := by decide +kernel
theorem dX2_countCentral_8 : decode cX2_countCentral 8 = .ok (.iconst 0, 1) := by decide +kernel
theorem dX2_countCentral_9 : decode cX2_countCentral 9 = .ok (.aload_n 0, 1) := by decide +kernel
theorem dX2_countCentral_10 : decode cX2_countCentral 10 = .ok (.getfield 18, 3) := by decide +kernel
theorem dX2_countCentral_13 : decode cX2_countCentral 13 = .ok (.aload_n 0, 1) := by decide +kernel
theorem dX2_countCentral_14 : decode cX2_countCentral 14 = .ok (.getfield 29, 3) := by decide +kernel
theorem dX2_countCentral_17 : decode cX2_countCentral 17 = .ok (.invokevirtual 133, 3) := by decide +kernel
theorem dX2_countCentral_20 : decode cX2_countCentral 20 = .ok (.istore_n 3, 1) := by decide +kernel
theorem dX2_countCentral_21 : decode cX2_countCentral 21 = .ok (.iconst 0, 1) := by decide +kernel
theorem dX2_countCentral_22 : decode cX2_countCentral 22 = .ok (.istore 4, 2) := by decide +kernel
theorem dX2_countCentral_24 : decode cX2_countCentral 24 = .ok (.iload 4, 2) := by decide +kernel
theorem dX2_countCentral_26 : decode cX2_countCentral 26 = .ok (.sipush 5040, 3) := by decide +kernel
theorem dX2_countCentral_29 : decode cX2_countCentral 29 = .ok (.if_icmp .ge 32, 3) := by decide +kernel
theorem dX2_countCentral_32 : decode cX2_countCentral 32 = .ok (.iload_n 3, 1) := by decide +kernel
theorem dX2_countCentral_33 : decode cX2_countCentral 33 = .ok (.ifCond .lt 28, 3) := by decide +kernel
theorem dX2_countCentral_36 : decode cX2_countCentral 36 = .ok (.iinc 2 1, 3) := by decide +kernel
theorem dX2_countCentral_39 : decode cX2_countCentral 39 = .ok (.aload_n 1, 1) := by decide +kernel
theorem dX2_countCentral_40 : decode cX2_countCentral 40 = .ok (.iload_n 3, 1) := by decide +kernel
theorem dX2_countCentral_41 : decode cX2_countCentral 41 = .ok (.iconst 1, 1) := by decide +kernel
theorem dX2_countCentral_42 : decode cX2_countCentral 42 = .ok (.iadd, 1) := by decide +kernel
theorem dX2_countCentral_43 : decode cX2_countCentral 43 = .ok (.aload_n 0, 1) := by decide +kernel
theorem dX2_countCentral_44 : decode cX2_countCentral 44 = .ok (.getfield 18, 3) := by decide +kernel
theorem dX2_countCentral_47 : decode cX2_countCentral 47 = .ok (.aload_n 0, 1) := by decide +kernel
theorem dX2_countCentral_48 : decode cX2_countCentral 48 = .ok (.getfield 29, 3) := by decide +kernel
theorem dX2_countCentral_51 : decode cX2_countCentral 51 = .ok (.invokevirtual 133, 3) := by decide +kernel
theorem dX2_countCentral_54 : decode cX2_countCentral 54 = .ok (.istore_n 3, 1) := by decide +kernel
theorem dX2_countCentral_55 : decode cX2_countCentral 55 = .ok (.iinc 4 1, 3) := by decide +kernel
theorem dX2_countCentral_58 : decode cX2_countCentral 58 = .ok (.goto (-34), 3) := by decide +kernel
theorem dX2_countCentral_61 : decode cX2_countCentral 61 = .ok (.iload_n 2, 1) := by decide +kernel
theorem dX2_countCentral_62 : decode cX2_countCentral 62 = .ok (.ireturn, 1) := by decide +kernel
theorem dX2_centralPlace_0 : decode cX2_centralPlace 0 = .ok (.aload_n 0, 1) := by decide +kernel
theorem dX2_centralPlace_1 : decode cX2_centralPlace 1 = .ok (.invokevirtual 119, 3) := by decide +kernel
theorem dX2_centralPlace_4 : decode cX2_centralPlace 4 = .ok (.astore_n 2, 1) := by decide +kernel
theorem dX2_centralPlace_5 : decode cX2_centralPlace 5 = .ok (.aload_n 2, 1) := by decide +kernel
theorem dX2_centralPlace_6 : decode cX2_centralPlace 6 = .ok (.iconst 0, 1) := by decide +kernel
theorem dX2_centralPlace_7 : decode cX2_centralPlace 7 = .ok (.aload_n 0, 1) := by decide +kernel
theorem dX2_centralPlace_8 : decode cX2_centralPlace 8 = .ok (.getfield 18, 3) := by decide +kernel
theorem dX2_centralPlace_11 : decode cX2_centralPlace 11 = .ok (.aload_n 0, 1) := by decide +kernel
theorem dX2_centralPlace_12 : decode cX2_centralPlace 12 = .ok (.getfield 29, 3) := by decide +kernel
theorem dX2_centralPlace_15 : decode cX2_centralPlace 15 = .ok (.invokevirtual 133, 3) := by decide +kernel
theorem dX2_centralPlace_18 : decode cX2_centralPlace 18 = .ok (.istore_n 3, 1) := by decide +kernel
theorem dX2_centralPlace_19 : decode cX2_centralPlace 19 = .ok (.iconst 0, 1) := by decide +kernel
theorem dX2_centralPlace_20 : decode cX2_centralPlace 20 = .ok (.istore 4, 2) := by decide +kernel
theorem dX2_centralPlace_22 : decode cX2_centralPlace 22 = .ok (.iload 4, 2) := by decide +kernel
theorem dX2_centralPlace_24 : decode cX2_centralPlace 24 = .ok (.iload_n 1, 1) := by decide +kernel
theorem dX2_centralPlace_25 : decode cX2_centralPlace 25 = .ok (.if_icmp .ge 29, 3) := by decide +kernel
theorem dX2_centralPlace_28 : decode cX2_centralPlace 28 = .ok (.iload_n 3, 1) := by decide +kernel
theorem dX2_centralPlace_29 : decode cX2_centralPlace 29 = .ok (.ifCond .lt 25, 3) := by decide +kernel
theorem dX2_centralPlace_32 : decode cX2_centralPlace 32 = .ok (.aload_n 2, 1) := by decide +kernel
theorem dX2_centralPlace_33 : decode cX2_centralPlace 33 = .ok (.iload_n 3, 1) := by decide +kernel
theorem dX2_centralPlace_34 : decode cX2_centralPlace 34 = .ok (.iconst 1, 1) := by decide +kernel
theorem dX2_centralPlace_35 : decode cX2_centralPlace 35 = .ok (.iadd, 1) := by decide +kernel
theorem dX2_centralPlace_36 : decode cX2_centralPlace 36 = .ok (.aload_n 0, 1) := by decide +kernel
theorem dX2_centralPlace_37 : decode cX2_centralPlace 37 = .ok (.getfield 18, 3) := by decide +kernel
theorem dX2_centralPlace_40 : decode cX2_centralPlace 40 = .ok (.aload_n 0, 1) := by decide +kernel
theorem dX2_centralPlace_41 : decode cX2_centralPlace 41 = .ok (.getfield 29, 3) := by decide +kernel
theorem dX2_centralPlace_44 : decode cX2_centralPlace 44 = .ok (.invokevirtual 133, 3) := by decide +kernel
theorem dX2_centralPlace_47 : decode cX2_centralPlace 47 = .ok (.istore_n 3, 1) := by decide +kernel
theorem dX2_centralPlace_48 : decode cX2_centralPlace 48 = .ok (.iinc 4 1, 3) := by decide +kernel
theorem dX2_centralPlace_51 : decode cX2_centralPlace 51 = .ok (.goto (-29), 3) := by decide +kernel
theorem dX2_centralPlace_54 : decode cX2_centralPlace 54 = .ok (.iload_n 3, 1) := by decide +kernel
theorem dX2_centralPlace_55 : decode cX2_centralPlace 55 = .ok (.ireturn, 1) := by decide +kernel
theorem dX2_descentBy_0 : decode cX2_descentBy 0 = .ok (.iload_n 1, 1) := by decide +kernel
theorem dX2_descentBy_1 : decode cX2_descentBy 1 = .ok (.ifCond .eq 10, 3) := by decide +kernel
theorem dX2_descentBy_4 : decode cX2_descentBy 4 = .ok (.aload_n 0, 1) := by decide +kernel
theorem dX2_descentBy_5 : decode cX2_descentBy 5 = .ok (.getfield 49, 3) := by decide +kernel
theorem dX2_descentBy_8 : decode cX2_descentBy 8 = .ok (.goto 7, 3) := by decide +kernel
theorem dX2_descentBy_11 : decode cX2_descentBy 11 = .ok (.aload_n 0, 1) := by decide +kernel
theorem dX2_descentBy_12 : decode cX2_descentBy 12 = .ok (.getfield 45, 3) := by decide +kernel
theorem dX2_descentBy_15 : decode cX2_descentBy 15 = .ok (.astore_n 2, 1) := by decide +kernel
theorem dX2_descentBy_16 : decode cX2_descentBy 16 = .ok (.aload_n 2, 1) := by decide +kernel
theorem dX2_descentBy_17 : decode cX2_descentBy 17 = .ok (.aload_n 0, 1) := by decide +kernel
theorem dX2_descentBy_18 : decode cX2_descentBy 18 = .ok (.getfield 25, 3) := by decide +kernel
theorem dX2_descentBy_21 : decode cX2_descentBy 21 = .ok (.aload_n 0, 1) := by decide +kernel
theorem dX2_descentBy_22 : decode cX2_descentBy 22 = .ok (.getfield 32, 3) := by decide +kernel
theorem dX2_descentBy_25 : decode cX2_descentBy 25 = .ok (.iload_n 1, 1) := by decide +kernel
theorem dX2_descentBy_26 : decode cX2_descentBy 26 = .ok (.invokevirtual 137, 3) := by decide +kernel
theorem dX2_descentBy_29 : decode cX2_descentBy 29 = .ok (.aload_n 2, 1) := by decide +kernel
theorem dX2_descentBy_30 : decode cX2_descentBy 30 = .ok (.areturn, 1) := by decide +kernel
theorem dX2_movesCommute_0 : decode cX2_movesCommute 0 = .ok (.iconst 0, 1) := by decide +kernel
theorem dX2_movesCommute_1 : decode cX2_movesCommute 1 = .ok (.istore_n 1, 1) := by decide +kernel
theorem dX2_movesCommute_2 : decode cX2_movesCommute 2 = .ok (.iload_n 1, 1) := by decide +kernel
theorem dX2_movesCommute_3 : decode cX2_movesCommute 3 = .ok (.aload_n 0, 1) := by decide +kernel
theorem dX2_movesCommute_4 : decode cX2_movesCommute 4 = .ok (.getfield 15, 3) := by decide +kernel
theorem dX2_movesCommute_7 : decode cX2_movesCommute 7 = .ok (.if_icmp .ge 46, 3) := by decide +kernel
theorem dX2_movesCommute_10 : decode cX2_movesCommute 10 = .ok (.iconst 0, 1) := by decide +kernel
theorem dX2_movesCommute_11 : decode cX2_movesCommute 11 = .ok (.istore_n 2, 1) := by decide +kernel
theorem dX2_movesCommute_12 : decode cX2_movesCommute 12 = .ok (.iload_n 2, 1) := by decide +kernel
theorem dX2_movesCommute_13 : decode cX2_movesCommute 13 = .ok (.iload_n 1, 1) := by decide +kernel
theorem dX2_movesCommute_14 : decode cX2_movesCommute 14 = .ok (.if_icmp .ge 33, 3) := by decide +kernel
theorem dX2_movesCommute_17 : decode cX2_movesCommute 17 = .ok (.aload_n 0, 1) := by decide +kernel
theorem dX2_movesCommute_18 : decode cX2_movesCommute 18 = .ok (.getfield 18, 3) := by decide +kernel
theorem dX2_movesCommute_21 : decode cX2_movesCommute 21 = .ok (.iload_n 1, 1) := by decide +kernel
theorem dX2_movesCommute_22 : decode cX2_movesCommute 22 = .ok (.laload, 1) := by decide +kernel
theorem dX2_movesCommute_23 : decode cX2_movesCommute 23 = .ok (.aload_n 0, 1) := by decide +kernel
theorem dX2_movesCommute_24 : decode cX2_movesCommute 24 = .ok (.getfield 18, 3) := by decide +kernel
theorem dX2_movesCommute_27 : decode cX2_movesCommute 27 = .ok (.iload_n 2, 1) := by decide +kernel
theorem dX2_movesCommute_28 : decode cX2_movesCommute 28 = .ok (.laload, 1) := by decide +kernel
theorem dX2_movesCommute_29 : decode cX2_movesCommute 29 = .ok (.aload_n 0, 1) := by decide +kernel
theorem dX2_movesCommute_30 : decode cX2_movesCommute 30 = .ok (.getfield 9, 3) := by decide +kernel
theorem dX2_movesCommute_33 : decode cX2_movesCommute 33 = .ok (.invokestatic 141, 3) := by decide +kernel
theorem dX2_movesCommute_36 : decode cX2_movesCommute 36 = .ok (.ifCond .ne 5, 3) := by decide +kernel
theorem dX2_movesCommute_39 : decode cX2_movesCommute 39 = .ok (.iconst 0, 1) := by decide +kernel
theorem dX2_movesCommute_40 : decode cX2_movesCommute 40 = .ok (.ireturn, 1) := by decide +kernel
theorem dX2_movesCommute_41 : decode cX2_movesCommute 41 = .ok (.iinc 2 1, 3) := by decide +kernel
theorem dX2_movesCommute_44 : decode cX2_movesCommute 44 = .ok (.goto (-32), 3) := by decide +kernel
theorem dX2_movesCommute_47 : decode cX2_movesCommute 47 = .ok (.iinc 1 1, 3) := by decide +kernel
theorem dX2_movesCommute_50 : decode cX2_movesCommute 50 = .ok (.goto (-48), 3) := by decide +kernel
theorem dX2_movesCommute_53 : decode cX2_movesCommute 53 = .ok (.iconst 1, 1) := by decide +kernel
theorem dX2_movesCommute_54 : decode cX2_movesCommute 54 = .ok (.ireturn, 1) := by decide +kernel
theorem dX2_movesAreEven_0 : decode cX2_movesAreEven 0 = .ok (.iconst 0, 1) := by decide +kernel
theorem dX2_movesAreEven_1 : decode cX2_movesAreEven 1 = .ok (.istore_n 1, 1) := by decide +kernel
theorem dX2_movesAreEven_2 : decode cX2_movesAreEven 2 = .ok (.iload_n 1, 1) := by decide +kernel
theorem dX2_movesAreEven_3 : decode cX2_movesAreEven 3 = .ok (.aload_n 0, 1) := by decide +kernel
theorem dX2_movesAreEven_4 : decode cX2_movesAreEven 4 = .ok (.getfield 15, 3) := by decide +kernel
theorem dX2_movesAreEven_7 : decode cX2_movesAreEven 7 = .ok (.if_icmp .ge 27, 3) := by decide +kernel
theorem dX2_movesAreEven_10 : decode cX2_movesAreEven 10 = .ok (.aload_n 0, 1) := by decide +kernel
theorem dX2_movesAreEven_11 : decode cX2_movesAreEven 11 = .ok (.getfield 18, 3) := by decide +kernel
theorem dX2_movesAreEven_14 : decode cX2_movesAreEven 14 = .ok (.iload_n 1, 1) := by decide +kernel
theorem dX2_movesAreEven_15 : decode cX2_movesAreEven 15 = .ok (.laload, 1) := by decide +kernel
theorem dX2_movesAreEven_16 : decode cX2_movesAreEven 16 = .ok (.aload_n 0, 1) := by decide +kernel
theorem dX2_movesAreEven_17 : decode cX2_movesAreEven 17 = .ok (.getfield 9, 3) := by decide +kernel
theorem dX2_movesAreEven_20 : decode cX2_movesAreEven 20 = .ok (.invokestatic 145, 3) := by decide +kernel
theorem dX2_movesAreEven_23 : decode cX2_movesAreEven 23 = .ok (.ifCond .ne 5, 3) := by decide +kernel
theorem dX2_movesAreEven_26 : decode cX2_movesAreEven 26 = .ok (.iconst 0, 1) := by decide +kernel
theorem dX2_movesAreEven_27 : decode cX2_movesAreEven 27 = .ok (.ireturn, 1) := by decide +kernel
theorem dX2_movesAreEven_28 : decode cX2_movesAreEven 28 = .ok (.iinc 1 1, 3) := by decide +kernel
theorem dX2_movesAreEven_31 : decode cX2_movesAreEven 31 = .ok (.goto (-29), 3) := by decide +kernel
theorem dX2_movesAreEven_34 : decode cX2_movesAreEven 34 = .ok (.iconst 1, 1) := by decide +kernel
theorem dX2_movesAreEven_35 : decode cX2_movesAreEven 35 = .ok (.ireturn, 1) := by decide +kernel
theorem dX2_isPrimitive_0 : decode cX2_isPrimitive 0 = .ok (.iconst 1, 1) := by decide +kernel
theorem dX2_isPrimitive_1 : decode cX2_isPrimitive 1 = .ok (.aload_n 0, 1) := by decide +kernel
theorem dX2_isPrimitive_2 : decode cX2_isPrimitive 2 = .ok (.getfield 9, 3) := by decide +kernel
theorem dX2_isPrimitive_5 : decode cX2_isPrimitive 5 = .ok (.ishl, 1) := by decide +kernel
theorem dX2_isPrimitive_6 : decode cX2_isPrimitive 6 = .ok (.iconst 1, 1) := by decide +kernel
theorem dX2_isPrimitive_7 : decode cX2_isPrimitive 7 = .ok (.isub, 1) := by decide +kernel
theorem dX2_isPrimitive_8 : decode cX2_isPrimitive 8 = .ok (.istore_n 1, 1) := by decide +kernel
theorem dX2_isPrimitive_9 : decode cX2_isPrimitive 9 = .ok (.aload_n 0, 1) := by decide +kernel
theorem dX2_isPrimitive_10 : decode cX2_isPrimitive 10 = .ok (.iconst 0, 1) := by decide +kernel
theorem dX2_isPrimitive_11 : decode cX2_isPrimitive 11 = .ok (.invokevirtual 103, 3) := by decide +kernel
theorem dX2_isPrimitive_14 : decode cX2_isPrimitive 14 = .ok (.iload_n 1, 1) := by decide +kernel
theorem dX2_isPrimitive_15 : decode cX2_isPrimitive 15 = .ok (.if_icmp .eq 5, 3) := by decide +kernel
theorem dX2_isPrimitive_18 : decode cX2_isPrimitive 18 = .ok (.iconst 0, 1) := by decide +kernel
theorem dX2_isPrimitive_19 : decode cX2_isPrimitive 19 = .ok (.ireturn, 1) := by decide +kernel
theorem dX2_isPrimitive_20 : decode cX2_isPrimitive 20 = .ok (.iconst 1, 1) := by decide +kernel
theorem dX2_isPrimitive_21 : decode cX2_isPrimitive 21 = .ok (.istore_n 2, 1) := by decide +kernel
theorem dX2_isPrimitive_22 : decode cX2_isPrimitive 22 = .ok (.iload_n 2, 1) := by decide +kernel
theorem dX2_isPrimitive_23 : decode cX2_isPrimitive 23 = .ok (.aload_n 0, 1) := by decide +kernel
theorem dX2_isPrimitive_24 : decode cX2_isPrimitive 24 = .ok (.getfield 9, 3) := by decide +kernel
theorem dX2_isPrimitive_27 : decode cX2_isPrimitive 27 = .ok (.if_icmp .ge 21, 3) := by decide +kernel
theorem dX2_isPrimitive_30 : decode cX2_isPrimitive 30 = .ok (.aload_n 0, 1) := by decide +kernel
theorem dX2_isPrimitive_31 : decode cX2_isPrimitive 31 = .ok (.iconst 0, 1) := by decide +kernel
theorem dX2_isPrimitive_32 : decode cX2_isPrimitive 32 = .ok (.iload_n 2, 1) := by decide +kernel
theorem dX2_isPrimitive_33 : decode cX2_isPrimitive 33 = .ok (.invokevirtual 149, 3) := by decide +kernel
theorem dX2_isPrimitive_36 : decode cX2_isPrimitive 36 = .ok (.iload_n 1, 1) := by decide +kernel
theorem dX2_isPrimitive_37 : decode cX2_isPrimitive 37 = .ok (.if_icmp .eq 5, 3) := by decide +kernel
theorem dX2_isPrimitive_40 : decode cX2_isPrimitive 40 = .ok (.iconst 0, 1) := by decide +kernel
theorem dX2_isPrimitive_41 : decode cX2_isPrimitive 41 = .ok (.ireturn, 1) := by decide +kernel
theorem dX2_isPrimitive_42 : decode cX2_isPrimitive 42 = .ok (.iinc 2 1, 3) := by decide +kernel
theorem dX2_isPrimitive_45 : decode cX2_isPrimitive 45 = .ok (.goto (-23), 3) := by decide +kernel
theorem dX2_isPrimitive_48 : decode cX2_isPrimitive 48 = .ok (.iconst 1, 1) := by decide +kernel
theorem dX2_isPrimitive_49 : decode cX2_isPrimitive 49 = .ok (.ireturn, 1) := by decide +kernel
theorem dX2_blockOf_0 : decode cX2_blockOf 0 = .ok (.iconst 0, 1) := by decide +kernel
theorem dX2_blockOf_1 : decode cX2_blockOf 1 = .ok (.istore_n 3, 1) := by decide +kernel
theorem dX2_blockOf_2 : decode cX2_blockOf 2 = .ok (.iload_n 3, 1) := by decide +kernel
theorem dX2_blockOf_3 : decode cX2_blockOf 3 = .ok (.aload_n 0, 1) := by decide +kernel
theorem dX2_blockOf_4 : decode cX2_blockOf 4 = .ok (.getfield 9, 3) := by decide +kernel
theorem dX2_blockOf_7 : decode cX2_blockOf 7 = .ok (.if_icmp .ge 25, 3) := by decide +kernel
theorem dX2_blockOf_10 : decode cX2_blockOf 10 = .ok (.aload_n 0, 1) := by decide +kernel
theorem dX2_blockOf_11 : decode cX2_blockOf 11 = .ok (.getfield 60, 3) := by decide +kernel
theorem dX2_blockOf_14 : decode cX2_blockOf 14 = .ok (.iload_n 3, 1) := by decide +kernel
theorem dX2_blockOf_15 : decode cX2_blockOf 15 = .ok (.iload_n 3, 1) := by decide +kernel
theorem dX2_blockOf_16 : decode cX2_blockOf 16 = .ok (.iload_n 2, 1) := by decide +kernel
theorem dX2_blockOf_17 : decode cX2_blockOf 17 = .ok (.if_icmp .ne 7, 3) := by decide +kernel
theorem dX2_blockOf_20 : decode cX2_blockOf 20 = .ok (.iload_n 1, 1) := by decide +kernel
theorem dX2_blockOf_21 : decode cX2_blockOf 21 = .ok (.goto 4, 3) := by decide +kernel
theorem dX2_blockOf_24 : decode cX2_blockOf 24 = .ok (.iload_n 3, 1) := by decide +kernel
theorem dX2_blockOf_25 : decode cX2_blockOf 25 = .ok (.iastore, 1) := by decide +kernel
theorem dX2_blockOf_26 : decode cX2_blockOf 26 = .ok (.iinc 3 1, 3) := by decide +kernel
theorem dX2_blockOf_29 : decode cX2_blockOf 29 = .ok (.goto (-27), 3) := by decide +kernel
theorem dX2_blockOf_32 : decode cX2_blockOf 32 = .ok (.iconst 1, 1) := by decide +kernel
theorem dX2_blockOf_33 : decode cX2_blockOf 33 = .ok (.istore_n 3, 1) := by decide +kernel
theorem dX2_blockOf_34 : decode cX2_blockOf 34 = .ok (.iconst 0, 1) := by decide +kernel
theorem dX2_blockOf_35 : decode cX2_blockOf 35 = .ok (.istore 4, 2) := by decide +kernel
theorem dX2_blockOf_37 : decode cX2_blockOf 37 = .ok (.iload 4, 2) := by decide +kernel
theorem dX2_blockOf_39 : decode cX2_blockOf 39 = .ok (.bipush 10, 2) := by decide +kernel
theorem dX2_blockOf_41 : decode cX2_blockOf 41 = .ok (.if_icmp .ge 49, 3) := by decide +kernel
theorem dX2_blockOf_44 : decode cX2_blockOf 44 = .ok (.iload_n 3, 1) := by decide +kernel
theorem dX2_blockOf_45 : decode cX2_blockOf 45 = .ok (.ifCond .eq 45, 3) := by decide +kernel
theorem dX2_blockOf_48 : decode cX2_blockOf 48 = .ok (.iconst 0, 1) := by decide +kernel
theorem dX2_blockOf_49 : decode cX2_blockOf 49 = .ok (.istore_n 3, 1) := by decide +kernel
theorem dX2_blockOf_50 : decode cX2_blockOf 50 = .ok (.iconst 0, 1) := by decide +kernel
theorem dX2_blockOf_51 : decode cX2_blockOf 51 = .ok (.istore 5, 2) := by decide +kernel
theorem dX2_blockOf_53 : decode cX2_blockOf 53 = .ok (.iload 5, 2) := by decide +kernel
theorem dX2_blockOf_55 : decode cX2_blockOf 55 = .ok (.aload_n 0, 1) := by decide +kernel
theorem dX2_blockOf_56 : decode cX2_blockOf 56 = .ok (.getfield 15, 3) := by decide +kernel
theorem dX2_blockOf_59 : decode cX2_blockOf 59 = .ok (.if_icmp .ge 25, 3) := by decide +kernel
theorem dX2_blockOf_62 : decode cX2_blockOf 62 = .ok (.aload_n 0, 1) := by decide +kernel
theorem dX2_blockOf_63 : decode cX2_blockOf 63 = .ok (.aload_n 0, 1) := by decide +kernel
theorem dX2_blockOf_64 : decode cX2_blockOf 64 = .ok (.getfield 18, 3) := by decide +kernel
theorem dX2_blockOf_67 : decode cX2_blockOf 67 = .ok (.iload 5, 2) := by decide +kernel
theorem dX2_blockOf_69 : decode cX2_blockOf 69 = .ok (.laload, 1) := by decide +kernel
theorem dX2_blockOf_70 : decode cX2_blockOf 70 = .ok (.invokevirtual 152, 3) := by decide +kernel
theorem dX2_blockOf_73 : decode cX2_blockOf 73 = .ok (.ifCond .eq 5, 3) := by decide +kernel
theorem dX2_blockOf_76 : decode cX2_blockOf 76 = .ok (.iconst 1, 1) := by decide +kernel
theorem dX2_blockOf_77 : decode cX2_blockOf 77 = .ok (.istore_n 3, 1) := by decide +kernel
theorem dX2_blockOf_78 : decode cX2_blockOf 78 = .ok (.iinc 5 1, 3) := by decide +kernel
theorem dX2_blockOf_81 : decode cX2_blockOf 81 = .ok (.goto (-28), 3) := by decide +kernel
theorem dX2_blockOf_84 : decode cX2_blockOf 84 = .ok (.iinc 4 1, 3) := by decide +kernel
theorem dX2_blockOf_87 : decode cX2_blockOf 87 = .ok (.goto (-50), 3) := by decide +kernel
theorem dX2_blockOf_90 : decode cX2_blockOf 90 = .ok (.iconst 0, 1) := by decide +kernel
theorem dX2_blockOf_91 : decode cX2_blockOf 91 = .ok (.istore 4, 2) := by decide +kernel
theorem dX2_blockOf_93 : decode cX2_blockOf 93 = .ok (.iconst 0, 1) := by decide +kernel
theorem dX2_blockOf_94 : decode cX2_blockOf 94 = .ok (.istore 5, 2) := by decide +kernel
theorem dX2_blockOf_96 : decode cX2_blockOf 96 = .ok (.iload 5, 2) := by decide +kernel
theorem dX2_blockOf_98 : decode cX2_blockOf 98 = .ok (.aload_n 0, 1) := by decide +kernel
theorem dX2_blockOf_99 : decode cX2_blockOf 99 = .ok (.getfield 9, 3) := by decide +kernel
theorem dX2_blockOf_102 : decode cX2_blockOf 102 = .ok (.if_icmp .ge 34, 3) := by decide +kernel
theorem dX2_blockOf_105 : decode cX2_blockOf 105 = .ok (.aload_n 0, 1) := by decide +kernel
theorem dX2_blockOf_106 : decode cX2_blockOf 106 = .ok (.getfield 60, 3) := by decide +kernel
theorem dX2_blockOf_109 : decode cX2_blockOf 109 = .ok (.iload 5, 2) := by decide +kernel
theorem dX2_blockOf_111 : decode cX2_blockOf 111 = .ok (.iaload, 1) := by decide +kernel
theorem dX2_blockOf_112 : decode cX2_blockOf 112 = .ok (.aload_n 0, 1) := by decide +kernel
theorem dX2_blockOf_113 : decode cX2_blockOf 113 = .ok (.getfield 60, 3) := by decide +kernel
theorem dX2_blockOf_116 : decode cX2_blockOf 116 = .ok (.iload_n 1, 1) := by decide +kernel
theorem dX2_blockOf_117 : decode cX2_blockOf 117 = .ok (.iaload, 1) := by decide +kernel
theorem dX2_blockOf_118 : decode cX2_blockOf 118 = .ok (.if_icmp .ne 12, 3) := by decide +kernel
theorem dX2_blockOf_121 : decode cX2_blockOf 121 = .ok (.iload 4, 2) := by decide +kernel
theorem dX2_blockOf_123 : decode cX2_blockOf 123 = .ok (.iconst 1, 1) := by decide +kernel
theorem dX2_blockOf_124 : decode cX2_blockOf 124 = .ok (.iload 5, 2) := by decide +kernel
theorem dX2_blockOf_126 : decode cX2_blockOf 126 = .ok (.ishl, 1) := by decide +kernel
theorem dX2_blockOf_127 : decode cX2_blockOf 127 = .ok (.ior, 1) := by decide +kernel
theorem dX2_blockOf_128 : decode cX2_blockOf 128 = .ok (.istore 4, 2) := by decide +kernel
theorem dX2_blockOf_130 : decode cX2_blockOf 130 = .ok (.iinc 5 1, 3) := by decide +kernel
theorem dX2_blockOf_133 : decode cX2_blockOf 133 = .ok (.goto (-37), 3) := by decide +kernel
theorem dX2_blockOf_136 : decode cX2_blockOf 136 = .ok (.iload 4, 2) := by decide +kernel
theorem dX2_blockOf_138 : decode cX2_blockOf 138 = .ok (.ireturn, 1) := by decide +kernel
theorem dX2_spreadMarks_0 : decode cX2_spreadMarks 0 = .ok (.iconst 0, 1) := by decide +kernel
theorem dX2_spreadMarks_1 : decode cX2_spreadMarks 1 = .ok (.istore_n 3, 1) := by decide +kernel
theorem dX2_spreadMarks_2 : decode cX2_spreadMarks 2 = .ok (.iconst 1, 1) := by decide +kernel
theorem dX2_spreadMarks_3 : decode cX2_spreadMarks 3 = .ok (.istore 4, 2) := by decide +kernel
theorem dX2_spreadMarks_5 : decode cX2_spreadMarks 5 = .ok (.iload 4, 2) := by decide +kernel
theorem dX2_spreadMarks_7 : decode cX2_spreadMarks 7 = .ok (.aload_n 0, 1) := by decide +kernel
theorem dX2_spreadMarks_8 : decode cX2_spreadMarks 8 = .ok (.getfield 9, 3) := by decide +kernel
theorem dX2_spreadMarks_11 : decode cX2_spreadMarks 11 = .ok (.if_icmp .ge 85, 3) := by decide +kernel
theorem dX2_spreadMarks_14 : decode cX2_spreadMarks 14 = .ok (.iconst 0, 1) := by decide +kernel
theorem dX2_spreadMarks_15 : decode cX2_spreadMarks 15 = .ok (.istore 5, 2) := by decide +kernel
theorem dX2_spreadMarks_17 : decode cX2_spreadMarks 17 = .ok (.iload 5, 2) := by decide +kernel
theorem dX2_spreadMarks_19 : decode cX2_spreadMarks 19 = .ok (.iload 4, 2) := by decide +kernel
theorem dX2_spreadMarks_21 : decode cX2_spreadMarks 21 = .ok (.if_icmp .ge 69, 3) := by decide +kernel
theorem dX2_spreadMarks_24 : decode cX2_spreadMarks 24 = .ok (.aload_n 0, 1) := by decide +kernel
theorem dX2_spreadMarks_25 : decode cX2_spreadMarks 25 = .ok (.getfield 60, 3) := by decide +kernel
