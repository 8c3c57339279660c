theorem dJ0_length_8abf5_0 : decode cJ0_length_8abf5 0 = .ok (.aload_n 0, 1) := by decide +kernel
theorem dJ0_length_8abf5_1 : decode cJ0_length_8abf5 1 = .ok (.getfield 9, 3) := by decide +kernel
theorem dJ0_length_8abf5_4 : decode cJ0_length_8abf5 4 = .ok (.arraylength, 1) := by decide +kernel
theorem dJ0_length_8abf5_5 : decode cJ0_length_8abf5 5 = .ok (.aload_n 0, 1) := by decide +kernel
theorem dJ0_length_8abf5_6 : decode cJ0_length_8abf5 6 = .ok (.invokevirtual 335, 3) := by decide +kernel
theorem dJ0_length_8abf5_9 : decode cJ0_length_8abf5 9 = .ok (.ishr, 1) := by decide +kernel
theorem dJ0_length_8abf5_10 : decode cJ0_length_8abf5 10 = .ok (.ireturn, 1) := by decide +kernel
theorem dJ0_charAt_5068e_0 : decode cJ0_charAt_5068e 0 = .ok (.aload_n 0, 1) := by decide +kernel
theorem dJ0_charAt_5068e_1 : decode cJ0_charAt_5068e 1 = .ok (.invokevirtual 492, 3) := by decide +kernel
theorem dJ0_charAt_5068e_4 : decode cJ0_charAt_5068e 4 = .ok (.ifCond .eq 12, 3) := by decide +kernel
theorem dJ0_charAt_5068e_7 : decode cJ0_charAt_5068e 7 = .ok (.aload_n 0, 1) := by decide +kernel
theorem dJ0_charAt_5068e_8 : decode cJ0_charAt_5068e 8 = .ok (.getfield 9, 3) := by decide +kernel
theorem dJ0_charAt_5068e_11 : decode cJ0_charAt_5068e 11 = .ok (.iload_n 1, 1) := by decide +kernel
theorem dJ0_charAt_5068e_12 : decode cJ0_charAt_5068e 12 = .ok (.invokestatic 495, 3) := by decide +kernel
theorem dJ0_charAt_5068e_15 : decode cJ0_charAt_5068e 15 = .ok (.ireturn, 1) := by decide +kernel
theorem dJ0_charAt_5068e_16 : decode cJ0_charAt_5068e 16 = .ok (.aload_n 0, 1) := by decide +kernel
theorem dJ0_charAt_5068e_17 : decode cJ0_charAt_5068e 17 = .ok (.getfield 9, 3) := by decide +kernel
theorem dJ0_charAt_5068e_20 : decode cJ0_charAt_5068e 20 = .ok (.iload_n 1, 1) := by decide +kernel
theorem dJ0_charAt_5068e_21 : decode cJ0_charAt_5068e 21 = .ok (.invokestatic 498, 3) := by decide +kernel
theorem dJ0_charAt_5068e_24 : decode cJ0_charAt_5068e 24 = .ok (.ireturn, 1) := by decide +kernel
theorem dJ0_coder_7d493_0 : decode cJ0_coder_7d493 0 = .ok (.getstatic 38, 3) := by decide +kernel
theorem dJ0_coder_7d493_3 : decode cJ0_coder_7d493 3 = .ok (.ifCond .eq 10, 3) := by decide +kernel
theorem dJ0_coder_7d493_6 : decode cJ0_coder_7d493 6 = .ok (.aload_n 0, 1) := by decide +kernel
theorem dJ0_coder_7d493_7 : decode cJ0_coder_7d493 7 = .ok (.getfield 15, 3) := by decide +kernel
theorem dJ0_coder_7d493_10 : decode cJ0_coder_7d493 10 = .ok (.goto 4, 3) := by decide +kernel
theorem dJ0_coder_7d493_13 : decode cJ0_coder_7d493 13 = .ok (.iconst 1, 1) := by decide +kernel
theorem dJ0_coder_7d493_14 : decode cJ0_coder_7d493 14 = .ok (.ireturn, 1) := by decide +kernel
theorem dJ0_isLatin1_aae02_0 : decode cJ0_isLatin1_aae02 0 = .ok (.getstatic 38, 3) := by decide +kernel
theorem dJ0_isLatin1_aae02_3 : decode cJ0_isLatin1_aae02 3 = .ok (.ifCond .eq 14, 3) := by decide +kernel
theorem dJ0_isLatin1_aae02_6 : decode cJ0_isLatin1_aae02 6 = .ok (.aload_n 0, 1) := by decide +kernel
theorem dJ0_isLatin1_aae02_7 : decode cJ0_isLatin1_aae02 7 = .ok (.getfield 15, 3) := by decide +kernel
theorem dJ0_isLatin1_aae02_10 : decode cJ0_isLatin1_aae02 10 = .ok (.ifCond .ne 7, 3) := by decide +kernel
theorem dJ0_isLatin1_aae02_13 : decode cJ0_isLatin1_aae02 13 = .ok (.iconst 1, 1) := by decide +kernel
theorem dJ0_isLatin1_aae02_14 : decode cJ0_isLatin1_aae02 14 = .ok (.goto 4, 3) := by decide +kernel
theorem dJ0_isLatin1_aae02_17 : decode cJ0_isLatin1_aae02 17 = .ok (.iconst 0, 1) := by decide +kernel
theorem dJ0_isLatin1_aae02_18 : decode cJ0_isLatin1_aae02 18 = .ok (.ireturn, 1) := by decide +kernel
theorem dJ0_checkIndex_df160_0 : decode cJ0_checkIndex_df160 0 = .ok (.iload_n 0, 1) := by decide +kernel
theorem dJ0_checkIndex_df160_1 : decode cJ0_checkIndex_df160 1 = .ok (.iload_n 1, 1) := by decide +kernel
theorem dJ0_checkIndex_df160_2 : decode cJ0_checkIndex_df160 2 = .ok (.getstatic 1053, 3) := by decide +kernel
theorem dJ0_checkIndex_df160_5 : decode cJ0_checkIndex_df160 5 = .ok (.invokestatic 1059, 3) := by decide +kernel
theorem dJ0_checkIndex_df160_8 : decode cJ0_checkIndex_df160 8 = .ok (.pop, 1) := by decide +kernel
theorem dJ0_checkIndex_df160_9 : decode cJ0_checkIndex_df160 9 = .ok (.return_, 1) := by decide +kernel
theorem dJ1_charAt_3b067_0 : decode cJ1_charAt_3b067 0 = .ok (.iload_n 1, 1) := by decide +kernel
theorem dJ1_charAt_3b067_1 : decode cJ1_charAt_3b067 1 = .ok (.aload_n 0, 1) := by decide +kernel
theorem dJ1_charAt_3b067_2 : decode cJ1_charAt_3b067 2 = .ok (.arraylength, 1) := by decide +kernel
theorem dJ1_charAt_3b067_3 : decode cJ1_charAt_3b067 3 = .ok (.invokestatic 9, 3) := by decide +kernel
theorem dJ1_charAt_3b067_6 : decode cJ1_charAt_3b067 6 = .ok (.aload_n 0, 1) := by decide +kernel
theorem dJ1_charAt_3b067_7 : decode cJ1_charAt_3b067 7 = .ok (.iload_n 1, 1) := by decide +kernel
theorem dJ1_charAt_3b067_8 : decode cJ1_charAt_3b067 8 = .ok (.baload, 1) := by decide +kernel
theorem dJ1_charAt_3b067_9 : decode cJ1_charAt_3b067 9 = .ok (.sipush 255, 3) := by decide +kernel
theorem dJ1_charAt_3b067_12 : decode cJ1_charAt_3b067 12 = .ok (.iand, 1) := by decide +kernel
theorem dJ1_charAt_3b067_13 : decode cJ1_charAt_3b067 13 = .ok (.i2c, 1) := by decide +kernel
theorem dJ1_charAt_3b067_14 : decode cJ1_charAt_3b067 14 = .ok (.ireturn, 1) := by decide +kernel
theorem dJ13_bitCount_95d88_0 : decode cJ13_bitCount_95d88 0 = .ok (.lload_n 0, 1) := by decide +kernel
theorem dJ13_bitCount_95d88_1 : decode cJ13_bitCount_95d88 1 = .ok (.lload_n 0, 1) := by decide +kernel
theorem dJ13_bitCount_95d88_2 : decode cJ13_bitCount_95d88 2 = .ok (.iconst 1, 1) := by decide +kernel
theorem dJ13_bitCount_95d88_3 : decode cJ13_bitCount_95d88 3 = .ok (.lushr, 1) := by decide +kernel
theorem dJ13_bitCount_95d88_4 : decode cJ13_bitCount_95d88 4 = .ok (.ldc2_w 314, 3) := by decide +kernel
theorem dJ13_bitCount_95d88_7 : decode cJ13_bitCount_95d88 7 = .ok (.land, 1) := by decide +kernel
theorem dJ13_bitCount_95d88_8 : decode cJ13_bitCount_95d88 8 = .ok (.lsub, 1) := by decide +kernel
theorem dJ13_bitCount_95d88_9 : decode cJ13_bitCount_95d88 9 = .ok (.lstore_n 0, 1) := by decide +kernel
theorem dJ13_bitCount_95d88_10 : decode cJ13_bitCount_95d88 10 = .ok (.lload_n 0, 1) := by decide +kernel
theorem dJ13_bitCount_95d88_11 : decode cJ13_bitCount_95d88 11 = .ok (.ldc2_w 316, 3) := by decide +kernel
theorem dJ13_bitCount_95d88_14 : decode cJ13_bitCount_95d88 14 = .ok (.land, 1) := by decide +kernel
theorem dJ13_bitCount_95d88_15 : decode cJ13_bitCount_95d88 15 = .ok (.lload_n 0, 1) := by decide +kernel
theorem dJ13_bitCount_95d88_16 : decode cJ13_bitCount_95d88 16 = .ok (.iconst 2, 1) := by decide +kernel
theorem dJ13_bitCount_95d88_17 : decode cJ13_bitCount_95d88 17 = .ok (.lushr, 1) := by decide +kernel
theorem dJ13_bitCount_95d88_18 : decode cJ13_bitCount_95d88 18 = .ok (.ldc2_w 316, 3) := by decide +kernel
theorem dJ13_bitCount_95d88_21 : decode cJ13_bitCount_95d88 21 = .ok (.land, 1) := by decide +kernel
theorem dJ13_bitCount_95d88_22 : decode cJ13_bitCount_95d88 22 = .ok (.ladd, 1) := by decide +kernel
theorem dJ13_bitCount_95d88_23 : decode cJ13_bitCount_95d88 23 = .ok (.lstore_n 0, 1) := by decide +kernel
theorem dJ13_bitCount_95d88_24 : decode cJ13_bitCount_95d88 24 = .ok (.lload_n 0, 1) := by decide +kernel
theorem dJ13_bitCount_95d88_25 : decode cJ13_bitCount_95d88 25 = .ok (.lload_n 0, 1) := by decide +kernel
theorem dJ13_bitCount_95d88_26 : decode cJ13_bitCount_95d88 26 = .ok (.iconst 4, 1) := by decide +kernel
theorem dJ13_bitCount_95d88_27 : decode cJ13_bitCount_95d88 27 = .ok (.lushr, 1) := by decide +kernel
theorem dJ13_bitCount_95d88_28 : decode cJ13_bitCount_95d88 28 = .ok (.ladd, 1) := by decide +kernel
theorem dJ13_bitCount_95d88_29 : decode cJ13_bitCount_95d88 29 = .ok (.ldc2_w 318, 3) := by decide +kernel
theorem dJ13_bitCount_95d88_32 : decode cJ13_bitCount_95d88 32 = .ok (.land, 1) := by decide +kernel
theorem dJ13_bitCount_95d88_33 : decode cJ13_bitCount_95d88 33 = .ok (.lstore_n 0, 1) := by decide +kernel
theorem dJ13_bitCount_95d88_34 : decode cJ13_bitCount_95d88 34 = .ok (.lload_n 0, 1) := by decide +kernel
theorem dJ13_bitCount_95d88_35 : decode cJ13_bitCount_95d88 35 = .ok (.lload_n 0, 1) := by decide +kernel
theorem dJ13_bitCount_95d88_36 : decode cJ13_bitCount_95d88 36 = .ok (.bipush 8, 2) := by decide +kernel
theorem dJ13_bitCount_95d88_38 : decode cJ13_bitCount_95d88 38 = .ok (.lushr, 1) := by decide +kernel
theorem dJ13_bitCount_95d88_39 : decode cJ13_bitCount_95d88 39 = .ok (.ladd, 1) := by decide +kernel
theorem dJ13_bitCount_95d88_40 : decode cJ13_bitCount_95d88 40 = .ok (.lstore_n 0, 1) := by decide +kernel
theorem dJ13_bitCount_95d88_41 : decode cJ13_bitCount_95d88 41 = .ok (.lload_n 0, 1) := by decide +kernel
theorem dJ13_bitCount_95d88_42 : decode cJ13_bitCount_95d88 42 = .ok (.lload_n 0, 1) := by decide +kernel
theorem dJ13_bitCount_95d88_43 : decode cJ13_bitCount_95d88 43 = .ok (.bipush 16, 2) := by decide +kernel
theorem dJ13_bitCount_95d88_45 : decode cJ13_bitCount_95d88 45 = .ok (.lushr, 1) := by decide +kernel
theorem dJ13_bitCount_95d88_46 : decode cJ13_bitCount_95d88 46 = .ok (.ladd, 1) := by decide +kernel
theorem dJ13_bitCount_95d88_47 : decode cJ13_bitCount_95d88 47 = .ok (.lstore_n 0, 1) := by decide +kernel
theorem dJ13_bitCount_95d88_48 : decode cJ13_bitCount_95d88 48 = .ok (.lload_n 0, 1) := by decide +kernel
theorem dJ13_bitCount_95d88_49 : decode cJ13_bitCount_95d88 49 = .ok (.lload_n 0, 1) := by decide +kernel
theorem dJ13_bitCount_95d88_50 : decode cJ13_bitCount_95d88 50 = .ok (.bipush 32, 2) := by decide +kernel
theorem dJ13_bitCount_95d88_52 : decode cJ13_bitCount_95d88 52 = .ok (.lushr, 1) := by decide +kernel
theorem dJ13_bitCount_95d88_53 : decode cJ13_bitCount_95d88 53 = .ok (.ladd, 1) := by decide +kernel
theorem dJ13_bitCount_95d88_54 : decode cJ13_bitCount_95d88 54 = .ok (.lstore_n 0, 1) := by decide +kernel
theorem dJ13_bitCount_95d88_55 : decode cJ13_bitCount_95d88 55 = .ok (.lload_n 0, 1) := by decide +kernel
theorem dJ13_bitCount_95d88_56 : decode cJ13_bitCount_95d88 56 = .ok (.l2i, 1) := by decide +kernel
theorem dJ13_bitCount_95d88_57 : decode cJ13_bitCount_95d88 57 = .ok (.bipush 127, 2) := by decide +kernel
theorem dJ13_bitCount_95d88_59 : decode cJ13_bitCount_95d88 59 = .ok (.iand, 1) := by decide +kernel
theorem dJ13_bitCount_95d88_60 : decode cJ13_bitCount_95d88 60 = .ok (.ireturn, 1) := by decide +kernel
theorem dJ2_getChar_3b067_0 : decode cJ2_getChar_3b067 0 = .ok (.getstatic 44, 3) := by decide +kernel
theorem dJ2_getChar_3b067_3 : decode cJ2_getChar_3b067 3 = .ok (.ifCond .ne 25, 3) := by decide +kernel
theorem dJ2_getChar_3b067_6 : decode cJ2_getChar_3b067 6 = .ok (.iload_n 1, 1) := by decide +kernel
theorem dJ2_getChar_3b067_7 : decode cJ2_getChar_3b067 7 = .ok (.ifCond .lt 11, 3) := by decide +kernel
theorem dJ2_getChar_3b067_10 : decode cJ2_getChar_3b067 10 = .ok (.iload_n 1, 1) := by decide +kernel
theorem dJ2_getChar_3b067_11 : decode cJ2_getChar_3b067 11 = .ok (.aload_n 0, 1) := by decide +kernel
theorem dJ2_getChar_3b067_12 : decode cJ2_getChar_3b067 12 = .ok (.invokestatic 48, 3) := by decide +kernel
theorem dJ2_getChar_3b067_15 : decode cJ2_getChar_3b067 15 = .ok (.if_icmp .lt 13, 3) := by decide +kernel
theorem dJ2_getChar_3b067_18 : decode cJ2_getChar_3b067 18 = .ok (.new 52, 3) := by decide +kernel
theorem dJ2_getChar_3b067_21 : decode cJ2_getChar_3b067 21 = .ok (.dup, 1) := by decide +kernel
theorem dJ2_getChar_3b067_22 : decode cJ2_getChar_3b067 22 = .ok (.ldc 54, 2) := by decide +kernel
theorem dJ2_getChar_3b067_24 : decode cJ2_getChar_3b067 24 = .ok (.invokespecial 56, 3) := by decide +kernel
theorem dJ2_getChar_3b067_27 : decode cJ2_getChar_3b067 27 = .ok (.athrow, 1) := by decide +kernel
theorem dJ2_getChar_3b067_28 : decode cJ2_getChar_3b067 28 = .ok (.iload_n 1, 1) := by decide +kernel
theorem dJ2_getChar_3b067_29 : decode cJ2_getChar_3b067 29 = .ok (.iconst 1, 1) := by decide +kernel
theorem dJ2_getChar_3b067_30 : decode cJ2_getChar_3b067 30 = .ok (.ishl, 1) := by decide +kernel
theorem dJ2_getChar_3b067_31 : decode cJ2_getChar_3b067 31 = .ok (.istore_n 1, 1) := by decide +kernel
theorem dJ2_getChar_3b067_32 : decode cJ2_getChar_3b067 32 = .ok (.aload_n 0, 1) := by decide +kernel
theorem dJ2_getChar_3b067_33 : decode cJ2_getChar_3b067 33 = .ok (.iload_n 1, 1) := by decide +kernel
theorem dJ2_getChar_3b067_34 : decode cJ2_getChar_3b067 34 = .ok (.iinc 1 1, 3) := by decide +kernel
theorem dJ2_getChar_3b067_37 : decode cJ2_getChar_3b067 37 = .ok (.baload, 1) := by decide +kernel
theorem dJ2_getChar_3b067_38 : decode cJ2_getChar_3b067 38 = .ok (.sipush 255, 3) := by decide +kernel
theorem dJ2_getChar_3b067_41 : decode cJ2_getChar_3b067 41 = .ok (.iand, 1) := by decide +kernel
theorem dJ2_getChar_3b067_42 : decode cJ2_getChar_3b067 42 = .ok (.getstatic 59, 3) := by decide +kernel
theorem dJ2_getChar_3b067_45 : decode cJ2_getChar_3b067 45 = .ok (.ishl, 1) := by decide +kernel
theorem dJ2_getChar_3b067_46 : decode cJ2_getChar_3b067 46 = .ok (.aload_n 0, 1) := by decide +kernel
theorem dJ2_getChar_3b067_47 : decode cJ2_getChar_3b067 47 = .ok (.iload_n 1, 1) := by decide +kernel
theorem dJ2_getChar_3b067_48 : decode cJ2_getChar_3b067 48 = .ok (.baload, 1) := by decide +kernel
theorem dJ2_getChar_3b067_49 : decode cJ2_getChar_3b067 49 = .ok (.sipush 255, 3) := by decide +kernel
theorem dJ2_getChar_3b067_52 : decode cJ2_getChar_3b067 52 = .ok (.iand, 1) := by decide +kernel
theorem dJ2_getChar_3b067_53 : decode cJ2_getChar_3b067 53 = .ok (.getstatic 63, 3) := by decide +kernel
theorem dJ2_getChar_3b067_56 : decode cJ2_getChar_3b067 56 = .ok (.ishl, 1) := by decide +kernel
theorem dJ2_getChar_3b067_57 : decode cJ2_getChar_3b067 57 = .ok (.ior, 1) := by decide +kernel
theorem dJ2_getChar_3b067_58 : decode cJ2_getChar_3b067 58 = .ok (.i2c, 1) := by decide +kernel
theorem dJ2_getChar_3b067_59 : decode cJ2_getChar_3b067 59 = .ok (.ireturn, 1) := by decide +kernel
theorem dJ2_length_9d52b_0 : decode cJ2_length_9d52b 0 = .ok (.aload_n 0, 1) := by decide +kernel
theorem dJ2_length_9d52b_1 : decode cJ2_length_9d52b 1 = .ok (.arraylength, 1) := by decide +kernel
theorem dJ2_length_9d52b_2 : decode cJ2_length_9d52b 2 = .ok (.iconst 1, 1) := by decide +kernel
theorem dJ2_length_9d52b_3 : decode cJ2_length_9d52b 3 = .ok (.ishr, 1) := by decide +kernel
theorem dJ2_length_9d52b_4 : decode cJ2_length_9d52b 4 = .ok (.ireturn, 1) := by decide +kernel
theorem dJ2_charAt_3b067_0 : decode cJ2_charAt_3b067 0 = .ok (.iload_n 1, 1) := by decide +kernel
theorem dJ2_charAt_3b067_1 : decode cJ2_charAt_3b067 1 = .ok (.aload_n 0, 1) := by decide +kernel
theorem dJ2_charAt_3b067_2 : decode cJ2_charAt_3b067 2 = .ok (.invokestatic 67, 3) := by decide +kernel
theorem dJ2_charAt_3b067_5 : decode cJ2_charAt_3b067 5 = .ok (.aload_n 0, 1) := by decide +kernel
theorem dJ2_charAt_3b067_6 : decode cJ2_charAt_3b067 6 = .ok (.iload_n 1, 1) := by decide +kernel
theorem dJ2_charAt_3b067_7 : decode cJ2_charAt_3b067 7 = .ok (.invokestatic 71, 3) := by decide +kernel
theorem dJ2_charAt_3b067_10 : decode cJ2_charAt_3b067 10 = .ok (.ireturn, 1) := by decide +kernel
theorem dJ2_checkIndex_2214a_0 : decode cJ2_checkIndex_2214a 0 = .ok (.iload_n 0, 1) := by decide +kernel
theorem dJ2_checkIndex_2214a_1 : decode cJ2_checkIndex_2214a 1 = .ok (.aload_n 1, 1) := by decide +kernel
theorem dJ2_checkIndex_2214a_2 : decode cJ2_checkIndex_2214a 2 = .ok (.invokestatic 48, 3) := by decide +kernel
theorem dJ2_checkIndex_2214a_5 : decode cJ2_checkIndex_2214a 5 = .ok (.invokestatic 414, 3) := by decide +kernel
theorem dJ2_checkIndex_2214a_8 : decode cJ2_checkIndex_2214a 8 = .ok (.return_, 1) := by decide +kernel
theorem dJ3_checkIndex_8e157_0 : decode cJ3_checkIndex_8e157 0 = .ok (.iload_n 0, 1) := by decide +kernel
theorem dJ3_checkIndex_8e157_1 : decode cJ3_checkIndex_8e157 1 = .ok (.ifCond .lt 8, 3) := by decide +kernel
theorem dJ3_checkIndex_8e157_4 : decode cJ3_checkIndex_8e157 4 = .ok (.iload_n 0, 1) := by decide +kernel
theorem dJ3_checkIndex_8e157_5 : decode cJ3_checkIndex_8e157 5 = .ok (.iload_n 1, 1) := by decide +kernel
theorem dJ3_checkIndex_8e157_6 : decode cJ3_checkIndex_8e157 6 = .ok (.if_icmp .lt 10, 3) := by decide +kernel
theorem dJ3_checkIndex_8e157_9 : decode cJ3_checkIndex_8e157 9 = .ok (.aload_n 2, 1) := by decide +kernel
theorem dJ3_checkIndex_8e157_10 : decode cJ3_checkIndex_8e157 10 = .ok (.iload_n 0, 1) := by decide +kernel
theorem dJ3_checkIndex_8e157_11 : decode cJ3_checkIndex_8e157 11 = .ok (.iload_n 1, 1) := by decide +kernel
theorem dJ3_checkIndex_8e157_12 : decode cJ3_checkIndex_8e157 12 = .ok (.invokestatic 95, 3) := by decide +kernel
theorem dJ3_checkIndex_8e157_15 : decode cJ3_checkIndex_8e157 15 = .ok (.athrow, 1) := by decide +kernel
theorem dJ3_checkIndex_8e157_16 : decode cJ3_checkIndex_8e157 16 = .ok (.iload_n 0, 1) := by decide +kernel
theorem dJ3_checkIndex_8e157_17 : decode cJ3_checkIndex_8e157 17 = .ok (.ireturn, 1) := by decide +kernel
theorem dJ6_bitCount_0f7a4_0 : decode cJ6_bitCount_0f7a4 0 = .ok (.iload_n 0, 1) := by decide +kernel
theorem dJ6_bitCount_0f7a4_1 : decode cJ6_bitCount_0f7a4 1 = .ok (.iload_n 0, 1) := by decide +kernel
theorem dJ6_bitCount_0f7a4_2 : decode cJ6_bitCount_0f7a4 2 = .ok (.iconst 1, 1) := by decide +kernel
theorem dJ6_bitCount_0f7a4_3 : decode cJ6_bitCount_0f7a4 3 = .ok (.iushr, 1) := by decide +kernel
theorem dJ6_bitCount_0f7a4_4 : decode cJ6_bitCount_0f7a4 4 = .ok (.ldc_w 265, 3) := by decide +kernel
theorem dJ6_bitCount_0f7a4_7 : decode cJ6_bitCount_0f7a4 7 = .ok (.iand, 1) := by decide +kernel
theorem dJ6_bitCount_0f7a4_8 : decode cJ6_bitCount_0f7a4 8 = .ok (.isub, 1) := by decide +kernel
theorem dJ6_bitCount_0f7a4_9 : decode cJ6_bitCount_0f7a4 9 = .ok (.istore_n 0, 1) := by decide +kernel
theorem dJ6_bitCount_0f7a4_10 : decode cJ6_bitCount_0f7a4 10 = .ok (.iload_n 0, 1) := by decide +kernel
theorem dJ6_bitCount_0f7a4_11 : decode cJ6_bitCount_0f7a4 11 = .ok (.ldc_w 266, 3) := by decide +kernel
theorem dJ6_bitCount_0f7a4_14 : decode cJ6_bitCount_0f7a4 14 = .ok (.iand, 1) := by decide +kernel
theorem dJ6_bitCount_0f7a4_15 : decode cJ6_bitCount_0f7a4 15 = .ok (.iload_n 0, 1) := by decide +kernel
theorem dJ6_bitCount_0f7a4_16 : decode cJ6_bitCount_0f7a4 16 = .ok (.iconst 2, 1) := by decide +kernel
theorem dJ6_bitCount_0f7a4_17 : decode cJ6_bitCount_0f7a4 17 = .ok (.iushr, 1) := by decide +kernel
theorem dJ6_bitCount_0f7a4_18 : decode cJ6_bitCount_0f7a4 18 = .ok (.ldc_w 266, 3) := by decide +kernel
theorem dJ6_bitCount_0f7a4_21 : decode cJ6_bitCount_0f7a4 21 = .ok (.iand, 1) := by decide +kernel
theorem dJ6_bitCount_0f7a4_22 : decode cJ6_bitCount_0f7a4 22 = .ok (.iadd, 1) := by decide +kernel
theorem dJ6_bitCount_0f7a4_23 : decode cJ6_bitCount_0f7a4 23 = .ok (.istore_n 0, 1) := by decide +kernel
theorem dJ6_bitCount_0f7a4_24 : decode cJ6_bitCount_0f7a4 24 = .ok (.iload_n 0, 1) := by decide +kernel
theorem dJ6_bitCount_0f7a4_25 : decode cJ6_bitCount_0f7a4 25 = .ok (.iload_n 0, 1) := by decide +kernel
theorem dJ6_bitCount_0f7a4_26 : decode cJ6_bitCount_0f7a4 26 = .ok (.iconst 4, 1) := by decide +kernel
theorem dJ6_bitCount_0f7a4_27 : decode cJ6_bitCount_0f7a4 27 = .ok (.iushr, 1) := by decide +kernel
theorem dJ6_bitCount_0f7a4_28 : decode cJ6_bitCount_0f7a4 28 = .ok (.iadd, 1) := by decide +kernel
theorem dJ6_bitCount_0f7a4_29 : decode cJ6_bitCount_0f7a4 29 = .ok (.ldc_w 267, 3) := by decide +kernel
theorem dJ6_bitCount_0f7a4_32 : decode cJ6_bitCount_0f7a4 32 = .ok (.iand, 1) := by decide +kernel
theorem dJ6_bitCount_0f7a4_33 : decode cJ6_bitCount_0f7a4 33 = .ok (.istore_n 0, 1) := by decide +kernel
theorem dJ6_bitCount_0f7a4_34 : decode cJ6_bitCount_0f7a4 34 = .ok (.iload_n 0, 1) := by decide +kernel
theorem dJ6_bitCount_0f7a4_35 : decode cJ6_bitCount_0f7a4 35 = .ok (.iload_n 0, 1) := by decide +kernel
theorem dJ6_bitCount_0f7a4_36 : decode cJ6_bitCount_0f7a4 36 = .ok (.bipush 8, 2) := by decide +kernel
theorem dJ6_bitCount_0f7a4_38 : decode cJ6_bitCount_0f7a4 38 = .ok (.iushr, 1) := by decide +kernel
theorem dJ6_bitCount_0f7a4_39 : decode cJ6_bitCount_0f7a4 39 = .ok (.iadd, 1) := by decide +kernel
theorem dJ6_bitCount_0f7a4_40 : decode cJ6_bitCount_0f7a4 40 = .ok (.istore_n 0, 1) := by decide +kernel
theorem dJ6_bitCount_0f7a4_41 : decode cJ6_bitCount_0f7a4 41 = .ok (.iload_n 0, 1) := by decide +kernel
theorem dJ6_bitCount_0f7a4_42 : decode cJ6_bitCount_0f7a4 42 = .ok (.iload_n 0, 1) := by decide +kernel
theorem dJ6_bitCount_0f7a4_43 : decode cJ6_bitCount_0f7a4 43 = .ok (.bipush 16, 2) := by decide +kernel
theorem dJ6_bitCount_0f7a4_45 : decode cJ6_bitCount_0f7a4 45 = .ok (.iushr, 1) := by decide +kernel
theorem dJ6_bitCount_0f7a4_46 : decode cJ6_bitCount_0f7a4 46 = .ok (.iadd, 1) := by decide +kernel
theorem dJ6_bitCount_0f7a4_47 : decode cJ6_bitCount_0f7a4 47 = .ok (.istore_n 0, 1) := by decide +kernel
theorem dJ6_bitCount_0f7a4_48 : decode cJ6_bitCount_0f7a4 48 = .ok (.iload_n 0, 1) := by decide +kernel
theorem dJ6_bitCount_0f7a4_49 : decode cJ6_bitCount_0f7a4 49 = .ok (.bipush 63, 2) := by decide +kernel
theorem dJ6_bitCount_0f7a4_51 : decode cJ6_bitCount_0f7a4 51 = .ok (.iand, 1) := by decide +kernel
theorem dJ6_bitCount_0f7a4_52 : decode cJ6_bitCount_0f7a4 52 = .ok (.ireturn, 1) := by decide +kernel
theorem dJ7_fill_d0a16_0 : decode cJ7_fill_d0a16 0 = .ok (.iconst 0, 1) := by decide +kernel
theorem dJ7_fill_d0a16_1 : decode cJ7_fill_d0a16 1 = .ok (.istore_n 3, 1) := by decide +kernel
theorem dJ7_fill_d0a16_2 : decode cJ7_fill_d0a16 2 = .ok (.aload_n 0, 1) := by decide +kernel
theorem dJ7_fill_d0a16_3 : decode cJ7_fill_d0a16 3 = .ok (.arraylength, 1) := by decide +kernel
theorem dJ7_fill_d0a16_4 : decode cJ7_fill_d0a16 4 = .ok (.istore 4, 2) := by decide +kernel
theorem dJ7_fill_d0a16_6 : decode cJ7_fill_d0a16 6 = .ok (.iload_n 3, 1) := by decide +kernel
theorem dJ7_fill_d0a16_7 : decode cJ7_fill_d0a16 7 = .ok (.iload 4, 2) := by decide +kernel
theorem dJ7_fill_d0a16_9 : decode cJ7_fill_d0a16 9 = .ok (.if_icmp .ge 13, 3) := by decide +kernel
theorem dJ7_fill_d0a16_12 : decode cJ7_fill_d0a16 12 = .ok (.aload_n 0, 1) := by decide +kernel
theorem dJ7_fill_d0a16_13 : decode cJ7_fill_d0a16 13 = .ok (.iload_n 3, 1) := by decide +kernel
theorem dJ7_fill_d0a16_14 : decode cJ7_fill_d0a16 14 = .ok (.lload_n 1, 1) := by decide +kernel
theorem dJ7_fill_d0a16_15 : decode cJ7_fill_d0a16 15 = .ok (.lastore, 1) := by decide +kernel
theorem dJ7_fill_d0a16_16 : decode cJ7_fill_d0a16 16 = .ok (.iinc 3 1, 3) := by decide +kernel
theorem dJ7_fill_d0a16_19 : decode cJ7_fill_d0a16 19 = .ok (.goto (-13), 3) := by decide +kernel
theorem dJ7_fill_d0a16_22 : decode cJ7_fill_d0a16 22 = .ok (.return_, 1) := by decide +kernel
theorem dJ7_fill_53178_0 : decode cJ7_fill_53178 0 = .ok (.iconst 0, 1) := by decide +kernel
theorem dJ7_fill_53178_1 : decode cJ7_fill_53178 1 = .ok (.istore_n 2, 1) := by decide +kernel
theorem dJ7_fill_53178_2 : decode cJ7_fill_53178 2 = .ok (.aload_n 0, 1) := by decide +kernel
theorem dJ7_fill_53178_3 : decode cJ7_fill_53178 3 = .ok (.arraylength, 1) := by decide +kernel
theorem dJ7_fill_53178_4 : decode cJ7_fill_53178 4 = .ok (.istore_n 3, 1) := by decide +kernel
theorem dJ7_fill_53178_5 : decode cJ7_fill_53178 5 = .ok (.iload_n 2, 1) := by decide +kernel
theorem dJ7_fill_53178_6 : decode cJ7_fill_53178 6 = .ok (.iload_n 3, 1) := by decide +kernel
theorem dJ7_fill_53178_7 : decode cJ7_fill_53178 7 = .ok (.if_icmp .ge 13, 3) := by decide +kernel
theorem dJ7_fill_53178_10 : decode cJ7_fill_53178 10 = .ok (.aload_n 0, 1) := by decide +kernel
theorem dJ7_fill_53178_11 : decode cJ7_fill_53178 11 = .ok (.iload_n 2, 1) := by decide +kernel
theorem dJ7_fill_53178_12 : decode cJ7_fill_53178 12 = .ok (.iload_n 1, 1) := by decide +kernel
theorem dJ7_fill_53178_13 : decode cJ7_fill_53178 13 = .ok (.iastore, 1) := by decide +kernel
theorem dJ7_fill_53178_14 : decode cJ7_fill_53178 14 = .ok (.iinc 2 1, 3) := by decide +kernel
theorem dJ7_fill_53178_17 : decode cJ7_fill_53178 17 = .ok (.goto (-12), 3) := by decide +kernel
theorem dJ7_fill_53178_20 : decode cJ7_fill_53178 20 = .ok (.return_, 1) := by decide +kernel
theorem dJ9_abs_067f4_0 : decode cJ9_abs_067f4 0 = .ok (.lload_n 0, 1) := by decide +kernel
theorem dJ9_abs_067f4_1 : decode cJ9_abs_067f4 1 = .ok (.lconst 0, 1) := by decide +kernel
theorem dJ9_abs_067f4_2 : decode cJ9_abs_067f4 2 = .ok (.lcmp, 1) := by decide +kernel
theorem dJ9_abs_067f4_3 : decode cJ9_abs_067f4 3 = .ok (.ifCond .ge 8, 3) := by decide +kernel
theorem dJ9_abs_067f4_6 : decode cJ9_abs_067f4 6 = .ok (.lload_n 0, 1) := by decide +kernel
theorem dJ9_abs_067f4_7 : decode cJ9_abs_067f4 7 = .ok (.lneg, 1) := by decide +kernel
theorem dJ9_abs_067f4_8 : decode cJ9_abs_067f4 8 = .ok (.goto 4, 3) := by decide +kernel
theorem dJ9_abs_067f4_11 : decode cJ9_abs_067f4 11 = .ok (.lload_n 0, 1) := by decide +kernel
theorem dJ9_abs_067f4_12 : decode cJ9_abs_067f4 12 = .ok (.lreturn, 1) := by decide +kernel
theorem dJ9_max_7cf53_0 : decode cJ9_max_7cf53 0 = .ok (.iload_n 0, 1) := by decide +kernel
theorem dJ9_max_7cf53_1 : decode cJ9_max_7cf53 1 = .ok (.iload_n 1, 1) := by decide +kernel
theorem dJ9_max_7cf53_2 : decode cJ9_max_7cf53 2 = .ok (.if_icmp .lt 7, 3) := by decide +kernel
theorem dJ9_max_7cf53_5 : decode cJ9_max_7cf53 5 = .ok (.iload_n 0, 1) := by decide +kernel
theorem dJ9_max_7cf53_6 : decode cJ9_max_7cf53 6 = .ok (.goto 4, 3) := by decide +kernel
theorem dJ9_max_7cf53_9 : decode cJ9_max_7cf53 9 = .ok (.iload_n 1, 1) := by decide +kernel
theorem dJ9_max_7cf53_10 : decode cJ9_max_7cf53 10 = .ok (.ireturn, 1) := by decide +kernel
theorem dJ9_min_7cf53_0 : decode cJ9_min_7cf53 0 = .ok (.iload_n 0, 1) := by decide +kernel
theorem dJ9_min_7cf53_1 : decode cJ9_min_7cf53 1 = .ok (.iload_n 1, 1) := by decide +kernel
theorem dJ9_min_7cf53_2 : decode cJ9_min_7cf53 2 = .ok (.if_icmp .gt 7, 3) := by decide +kernel
theorem dJ9_min_7cf53_5 : decode cJ9_min_7cf53 5 = .ok (.iload_n 0, 1) := by decide +kernel
theorem dJ9_min_7cf53_6 : decode cJ9_min_7cf53 6 = .ok (.goto 4, 3) := by decide +kernel
theorem dJ9_min_7cf53_9 : decode cJ9_min_7cf53 9 = .ok (.iload_n 1, 1) := by decide +kernel
theorem dJ9_min_7cf53_10 : decode cJ9_min_7cf53 10 = .ok (.ireturn, 1) := by decide +kernel
theorem dX0_init_0 : decode cX0_init 0 = .ok (.aload_n 0, 1) := by decide +kernel
theorem dX0_init_1 : decode cX0_init 1 = .ok (.invokespecial 3, 3) := by decide +kernel
theorem dX0_init_4 : decode cX0_init 4 = .ok (.aload_n 0, 1) := by decide +kernel
theorem dX0_init_5 : decode cX0_init 5 = .ok (.bipush 32, 2) := by decide +kernel
theorem dX0_init_7 : decode cX0_init 7 = .ok (.newarray .int, 2) := by decide +kernel
theorem dX0_init_9 : decode cX0_init 9 = .ok (.putfield 9, 3) := by decide +kernel
theorem dX0_init_12 : decode cX0_init 12 = .ok (.return_, 1) := by decide +kernel
theorem dX0_clear_0 : decode cX0_clear 0 = .ok (.aload_n 0, 1) := by decide +kernel
theorem dX0_clear_1 : decode cX0_clear 1 = .ok (.iconst 0, 1) := by decide +kernel
theorem dX0_clear_2 : decode cX0_clear 2 = .ok (.iload_n 1, 1) := by decide +kernel
theorem dX0_clear_3 : decode cX0_clear 3 = .ok (.bipush 32, 2) := by decide +kernel
theorem dX0_clear_5 : decode cX0_clear 5 = .ok (.invokestatic 15, 3) := by decide +kernel
theorem dX0_clear_8 : decode cX0_clear 8 = .ok (.invokestatic 21, 3) := by decide +kernel
theorem dX0_clear_11 : decode cX0_clear 11 = .ok (.putfield 24, 3) := by decide +kernel
theorem dX0_clear_14 : decode cX0_clear 14 = .ok (.aload_n 0, 1) := by decide +kernel
theorem dX0_clear_15 : decode cX0_clear 15 = .ok (.getfield 9, 3) := by decide +kernel
theorem dX0_clear_18 : decode cX0_clear 18 = .ok (.iconst 0, 1) := by decide +kernel
theorem dX0_clear_19 : decode cX0_clear 19 = .ok (.invokestatic 28, 3) := by decide +kernel
theorem dX0_clear_22 : decode cX0_clear 22 = .ok (.return_, 1) := by decide +kernel
theorem dX0_play_0 : decode cX0_play 0 = .ok (.aload_n 0, 1) := by decide +kernel
theorem dX0_play_1 : decode cX0_play 1 = .ok (.aload_n 1, 1) := by decide +kernel
theorem dX0_play_2 : decode cX0_play 2 = .ok (.getfield 34, 3) := by decide +kernel
theorem dX0_play_5 : decode cX0_play 5 = .ok (.invokevirtual 37, 3) := by decide +kernel
theorem dX0_play_8 : decode cX0_play 8 = .ok (.iconst 0, 1) := by decide +kernel
theorem dX0_play_9 : decode cX0_play 9 = .ok (.istore 5, 2) := by decide +kernel
theorem dX0_play_11 : decode cX0_play 11 = .ok (.iload 5, 2) := by decide +kernel
theorem dX0_play_13 : decode cX0_play 13 = .ok (.iload_n 2, 1) := by decide +kernel
theorem dX0_play_14 : decode cX0_play 14 = .ok (.if_icmp .ge 33, 3) := by decide +kernel
theorem dX0_play_17 : decode cX0_play 17 = .ok (.iload 5, 2) := by decide +kernel
theorem dX0_play_19 : decode cX0_play 19 = .ok (.bipush 60, 2) := by decide +kernel
theorem dX0_play_21 : decode cX0_play 21 = .ok (.if_icmp .ge 26, 3) := by decide +kernel
theorem dX0_play_24 : decode cX0_play 24 = .ok (.lload_n 3, 1) := by decide +kernel
theorem dX0_play_25 : decode cX0_play 25 = .ok (.iload 5, 2) := by decide +kernel
theorem dX0_play_27 : decode cX0_play 27 = .ok (.invokestatic 41, 3) := by decide +kernel
theorem dX0_play_30 : decode cX0_play 30 = .ok (.ifCond .ne 11, 3) := by decide +kernel
theorem dX0_play_33 : decode cX0_play 33 = .ok (.aload_n 0, 1) := by decide +kernel
theorem dX0_play_34 : decode cX0_play 34 = .ok (.aload_n 1, 1) := by decide +kernel
theorem dX0_play_35 : decode cX0_play 35 = .ok (.iload 5, 2) := by decide +kernel
theorem dX0_play_37 : decode cX0_play 37 = .ok (.invokevirtual 45, 3) := by decide +kernel
theorem dX0_play_40 : decode cX0_play 40 = .ok (.pop, 1) := by decide +kernel
theorem dX0_play_41 : decode cX0_play 41 = .ok (.iinc 5 1, 3) := by decide +kernel
theorem dX0_play_44 : decode cX0_play 44 = .ok (.goto (-33), 3) := by decide +kernel
theorem dX0_play_47 : decode cX0_play 47 = .ok (.return_, 1) := by decide +kernel
theorem dX0_apply_0 : decode cX0_apply 0 = .ok (.aload_n 1, 1) := by decide +kernel
theorem dX0_apply_1 : decode cX0_apply 1 = .ok (.iload_n 2, 1) := by decide +kernel
theorem dX0_apply_2 : decode cX0_apply 2 = .ok (.iconst 0, 1) := by decide +kernel
theorem dX0_apply_3 : decode cX0_apply 3 = .ok (.invokevirtual 49, 3) := by decide +kernel
theorem dX0_apply_6 : decode cX0_apply 6 = .ok (.istore_n 3, 1) := by decide +kernel
theorem dX0_apply_7 : decode cX0_apply 7 = .ok (.aload_n 1, 1) := by decide +kernel
theorem dX0_apply_8 : decode cX0_apply 8 = .ok (.iload_n 2, 1) := by decide +kernel
theorem dX0_apply_9 : decode cX0_apply 9 = .ok (.iconst 1, 1) := by decide +kernel
theorem dX0_apply_10 : decode cX0_apply 10 = .ok (.invokevirtual 49, 3) := by decide +kernel
theorem dX0_apply_13 : decode cX0_apply 13 = .ok (.istore 4, 2) := by decide +kernel
theorem dX0_apply_15 : decode cX0_apply 15 = .ok (.aload_n 1, 1) := by decide +kernel
theorem dX0_apply_16 : decode cX0_apply 16 = .ok (.iload_n 2, 1) := by decide +kernel
theorem dX0_apply_17 : decode cX0_apply 17 = .ok (.invokevirtual 52, 3) := by decide +kernel
theorem dX0_apply_20 : decode cX0_apply 20 = .ok (.tableswitch 136 0 3 #[32, 40, 58, 86], 32) := by decide +kernel
theorem dX0_apply_52 : decode cX0_apply 52 = .ok (.aload_n 0, 1) := by decide +kernel
theorem dX0_apply_53 : decode cX0_apply 53 = .ok (.iload_n 3, 1) := by decide +kernel
theorem dX0_apply_54 : decode cX0_apply 54 = .ok (.iload 4, 2) := by decide +kernel
theorem dX0_apply_56 : decode cX0_apply 56 = .ok (.invokevirtual 56, 3) := by decide +kernel
theorem dX0_apply_59 : decode cX0_apply 59 = .ok (.ireturn, 1) := by decide +kernel
theorem dX0_apply_60 : decode cX0_apply 60 = .ok (.aload_n 0, 1) := by decide +kernel
theorem dX0_apply_61 : decode cX0_apply 61 = .ok (.iload_n 3, 1) := by decide +kernel
theorem dX0_apply_62 : decode cX0_apply 62 = .ok (.aload_n 0, 1) := by decide +kernel
theorem dX0_apply_63 : decode cX0_apply 63 = .ok (.iload_n 3, 1) := by decide +kernel
theorem dX0_apply_64 : decode cX0_apply 64 = .ok (.invokevirtual 59, 3) := by decide +kernel
theorem dX0_apply_67 : decode cX0_apply 67 = .ok (.iload 4, 2) := by decide +kernel
theorem dX0_apply_69 : decode cX0_apply 69 = .ok (.iadd, 1) := by decide +kernel
theorem dX0_apply_70 : decode cX0_apply 70 = .ok (.sipush 256, 3) := by decide +kernel
theorem dX0_apply_73 : decode cX0_apply 73 = .ok (.irem, 1) := by decide +kernel
theorem dX0_apply_74 : decode cX0_apply 74 = .ok (.invokevirtual 56, 3) := by decide +kernel
theorem dX0_apply_77 : decode cX0_apply 77 = .ok (.ireturn, 1) := by decide +kernel
theorem dX0_apply_78 : decode cX0_apply 78 = .ok (.aload_n 0, 1) := by decide +kernel
theorem dX0_apply_79 : decode cX0_apply 79 = .ok (.iload_n 3, 1) := by decide +kernel
theorem dX0_apply_80 : decode cX0_apply 80 = .ok (.invokevirtual 59, 3) := by decide +kernel
theorem dX0_apply_83 : decode cX0_apply 83 = .ok (.istore 5, 2) := by decide +kernel
theorem dX0_apply_85 : decode cX0_apply 85 = .ok (.aload_n 0, 1) := by decide +kernel
theorem dX0_apply_86 : decode cX0_apply 86 = .ok (.iload_n 3, 1) := by decide +kernel
theorem dX0_apply_87 : decode cX0_apply 87 = .ok (.aload_n 0, 1) := by decide +kernel
theorem dX0_apply_88 : decode cX0_apply 88 = .ok (.iload 4, 2) := by decide +kernel
theorem dX0_apply_90 : decode cX0_apply 90 = .ok (.invokevirtual 59, 3) := by decide +kernel
theorem dX0_apply_93 : decode cX0_apply 93 = .ok (.invokevirtual 56, 3) := by decide +kernel
theorem dX0_apply_96 : decode cX0_apply 96 = .ok (.aload_n 0, 1) := by decide +kernel
theorem dX0_apply_97 : decode cX0_apply 97 = .ok (.iload 4, 2) := by decide +kernel
theorem dX0_apply_99 : decode cX0_apply 99 = .ok (.iload 5, 2) := by decide +kernel
theorem dX0_apply_101 : decode cX0_apply 101 = .ok (.invokevirtual 56, 3) := by decide +kernel
theorem dX0_apply_104 : decode cX0_apply 104 = .ok (.ior, 1) := by decide +kernel
theorem dX0_apply_105 : decode cX0_apply 105 = .ok (.ireturn, 1) := by decide +kernel
theorem dX0_apply_106 : decode cX0_apply 106 = .ok (.aload_n 1, 1) := by decide +kernel
theorem dX0_apply_107 : decode cX0_apply 107 = .ok (.iload_n 2, 1) := by decide +kernel
theorem dX0_apply_108 : decode cX0_apply 108 = .ok (.iconst 2, 1) := by decide +kernel
theorem dX0_apply_109 : decode cX0_apply 109 = .ok (.invokevirtual 49, 3) := by decide +kernel
theorem dX0_apply_112 : decode cX0_apply 112 = .ok (.istore 6, 2) := by decide +kernel
theorem dX0_apply_114 : decode cX0_apply 114 = .ok (.iconst 0, 1) := by decide +kernel
theorem dX0_apply_115 : decode cX0_apply 115 = .ok (.istore 7, 2) := by decide +kernel
theorem dX0_apply_117 : decode cX0_apply 117 = .ok (.iload_n 3, 1) := by decide +kernel
theorem dX0_apply_118 : decode cX0_apply 118 = .ok (.istore 8, 2) := by decide +kernel
theorem dX0_apply_120 : decode cX0_apply 120 = .ok (.iload 8, 2) := by decide +kernel
theorem dX0_apply_122 : decode cX0_apply 122 = .ok (.iload 4, 2) := by decide +kernel
theorem dX0_apply_124 : decode cX0_apply 124 = .ok (.if_icmp .gt 29, 3) := by decide +kernel
theorem dX0_apply_127 : decode cX0_apply 127 = .ok (.iload 8, 2) := by decide +kernel
theorem dX0_apply_129 : decode cX0_apply 129 = .ok (.bipush 32, 2) := by decide +kernel
theorem dX0_apply_131 : decode cX0_apply 131 = .ok (.if_icmp .ge 22, 3) := by decide +kernel
theorem dX0_apply_134 : decode cX0_apply 134 = .ok (.iload 7, 2) := by decide +kernel
theorem dX0_apply_136 : decode cX0_apply 136 = .ok (.aload_n 0, 1) := by decide +kernel
theorem dX0_apply_137 : decode cX0_apply 137 = .ok (.iload 8, 2) := by decide +kernel
theorem dX0_apply_139 : decode cX0_apply 139 = .ok (.iload 6, 2) := by decide +kernel
theorem dX0_apply_141 : decode cX0_apply 141 = .ok (.invokevirtual 56, 3) := by decide +kernel
theorem dX0_apply_144 : decode cX0_apply 144 = .ok (.ior, 1) := by decide +kernel
theorem dX0_apply_145 : decode cX0_apply 145 = .ok (.istore 7, 2) := by decide +kernel
theorem dX0_apply_147 : decode cX0_apply 147 = .ok (.iinc 8 1, 3) := by decide +kernel
theorem dX0_apply_150 : decode cX0_apply 150 = .ok (.goto (-30), 3) := by decide +kernel
theorem dX0_apply_153 : decode cX0_apply 153 = .ok (.iload 7, 2) := by decide +kernel
theorem dX0_apply_155 : decode cX0_apply 155 = .ok (.ireturn, 1) := by decide +kernel
theorem dX0_apply_156 : decode cX0_apply 156 = .ok (.iconst 0, 1) := by decide +kernel
theorem dX0_apply_157 : decode cX0_apply 157 = .ok (.ireturn, 1) := by decide +kernel
theorem dX0_put_0 : decode cX0_put 0 = .ok (.iload_n 1, 1) := by decide +kernel
theorem dX0_put_1 : decode cX0_put 1 = .ok (.ifCond .lt 21, 3) := by decide +kernel
theorem dX0_put_4 : decode cX0_put 4 = .ok (.iload_n 1, 1) := by decide +kernel
theorem dX0_put_5 : decode cX0_put 5 = .ok (.aload_n 0, 1) := by decide +kernel
theorem dX0_put_6 : decode cX0_put 6 = .ok (.getfield 24, 3) := by decide +kernel
theorem dX0_put_9 : decode cX0_put 9 = .ok (.if_icmp .ge 13, 3) := by decide +kernel
theorem dX0_put_12 : decode cX0_put 12 = .ok (.aload_n 0, 1) := by decide +kernel
theorem dX0_put_13 : decode cX0_put 13 = .ok (.getfield 9, 3) := by decide +kernel
theorem dX0_put_16 : decode cX0_put 16 = .ok (.iload_n 1, 1) := by decide +kernel
theorem dX0_put_17 : decode cX0_put 17 = .ok (.iaload, 1) := by decide +kernel
theorem dX0_put_18 : decode cX0_put 18 = .ok (.iload_n 2, 1) := by decide +kernel
theorem dX0_put_19 : decode cX0_put 19 = .ok (.if_icmp .ne 5, 3) := by decide +kernel
theorem dX0_put_22 : decode cX0_put 22 = .ok (.iconst 0, 1) := by decide +kernel
theorem dX0_put_23 : decode cX0_put 23 = .ok (.ireturn, 1) := by decide +kernel
theorem dX0_put_24 : decode cX0_put 24 = .ok (.aload_n 0, 1) := by decide +kernel
theorem dX0_put_25 : decode cX0_put 25 = .ok (.getfield 9, 3) := by decide +kernel
theorem dX0_put_28 : decode cX0_put 28 = .ok (.iload_n 1, 1) := by decide +kernel
theorem dX0_put_29 : decode cX0_put 29 = .ok (.iload_n 2, 1) := by decide +kernel
theorem dX0_put_30 : decode cX0_put 30 = .ok (.iastore, 1) := by decide +kernel
theorem dX0_put_31 : decode cX0_put 31 = .ok (.iconst 1, 1) := by decide +kernel
theorem dX0_put_32 : decode cX0_put 32 = .ok (.iload_n 1, 1) := by decide +kernel
theorem dX0_put_33 : decode cX0_put 33 = .ok (.ishl, 1) := by decide +kernel
theorem dX0_put_34 : decode cX0_put 34 = .ok (.ireturn, 1) := by decide +kernel
theorem dX0_cellAt_0 : decode cX0_cellAt 0 = .ok (.iload_n 1, 1) := by decide +kernel
theorem dX0_cellAt_1 : decode cX0_cellAt 1 = .ok (.ifCond .lt 20, 3) := by decide +kernel
theorem dX0_cellAt_4 : decode cX0_cellAt 4 = .ok (.iload_n 1, 1) := by decide +kernel
theorem dX0_cellAt_5 : decode cX0_cellAt 5 = .ok (.aload_n 0, 1) := by decide +kernel
theorem dX0_cellAt_6 : decode cX0_cellAt 6 = .ok (.getfield 24, 3) := by decide +kernel
theorem dX0_cellAt_9 : decode cX0_cellAt 9 = .ok (.if_icmp .ge 12, 3) := by decide +kernel
theorem dX0_cellAt_12 : decode cX0_cellAt 12 = .ok (.aload_n 0, 1) := by decide +kernel
theorem dX0_cellAt_13 : decode cX0_cellAt 13 = .ok (.getfield 9, 3) := by decide +kernel
theorem dX0_cellAt_16 : decode cX0_cellAt 16 = .ok (.iload_n 1, 1) := by decide +kernel
theorem dX0_cellAt_17 : decode cX0_cellAt 17 = .ok (.iaload, 1) := by decide +kernel
theorem dX0_cellAt_18 : decode cX0_cellAt 18 = .ok (.goto 4, 3) := by decide +kernel
theorem dX0_cellAt_21 : decode cX0_cellAt 21 = .ok (.iconst 0, 1) := by decide +kernel
theorem dX0_cellAt_22 : decode cX0_cellAt 22 = .ok (.ireturn, 1) := by decide +kernel
theorem dX0_total_0 : decode cX0_total 0 = .ok (.iconst 0, 1) := by decide +kernel
theorem dX0_total_1 : decode cX0_total 1 = .ok (.istore_n 1, 1) := by decide +kernel
theorem dX0_total_2 : decode cX0_total 2 = .ok (.iconst 0, 1) := by decide +kernel
theorem dX0_total_3 : decode cX0_total 3 = .ok (.istore_n 2, 1) := by decide +kernel
theorem dX0_total_4 : decode cX0_total 4 = .ok (.iload_n 2, 1) := by decide +kernel
theorem dX0_total_5 : decode cX0_total 5 = .ok (.aload_n 0, 1) := by decide +kernel
theorem dX0_total_6 : decode cX0_total 6 = .ok (.getfield 24, 3) := by decide +kernel
theorem dX0_total_9 : decode cX0_total 9 = .ok (.if_icmp .ge 18, 3) := by decide +kernel
theorem dX0_total_12 : decode cX0_total 12 = .ok (.iload_n 1, 1) := by decide +kernel
theorem dX0_total_13 : decode cX0_total 13 = .ok (.aload_n 0, 1) := by decide +kernel
theorem dX0_total_14 : decode cX0_total 14 = .ok (.getfield 9, 3) := by decide +kernel
theorem dX0_total_17 : decode cX0_total 17 = .ok (.iload_n 2, 1) := by decide +kernel
theorem dX0_total_18 : decode cX0_total 18 = .ok (.iaload, 1) := by decide +kernel
theorem dX0_total_19 : decode cX0_total 19 = .ok (.iadd, 1) := by decide +kernel
theorem dX0_total_20 : decode cX0_total 20 = .ok (.istore_n 1, 1) := by decide +kernel
theorem dX0_total_21 : decode cX0_total 21 = .ok (.iinc 2 1, 3) := by decide +kernel
theorem dX0_total_24 : decode cX0_total 24 = .ok (.goto (-20), 3) := by decide +kernel
theorem dX0_total_27 : decode cX0_total 27 = .ok (.iload_n 1, 1) := by decide +kernel
theorem dX0_total_28 : decode cX0_total 28 = .ok (.ireturn, 1) := by decide +kernel
theorem dX0_zeros_0 : decode cX0_zeros 0 = .ok (.iconst 0, 1) := by decide +kernel
theorem dX0_zeros_1 : decode cX0_zeros 1 = .ok (.istore_n 1, 1) := by decide +kernel
theorem dX0_zeros_2 : decode cX0_zeros 2 = .ok (.iconst 0, 1) := by decide +kernel
theorem dX0_zeros_3 : decode cX0_zeros 3 = .ok (.istore_n 2, 1) := by decide +kernel
theorem dX0_zeros_4 : decode cX0_zeros 4 = .ok (.iload_n 2, 1) := by decide +kernel
theorem dX0_zeros_5 : decode cX0_zeros 5 = .ok (.aload_n 0, 1) := by decide +kernel
theorem dX0_zeros_6 : decode cX0_zeros 6 = .ok (.getfield 24, 3) := by decide +kernel
theorem dX0_zeros_9 : decode cX0_zeros 9 = .ok (.if_icmp .ge 21, 3) := by decide +kernel
theorem dX0_zeros_12 : decode cX0_zeros 12 = .ok (.aload_n 0, 1) := by decide +kernel
theorem dX0_zeros_13 : decode cX0_zeros 13 = .ok (.getfield 9, 3) := by decide +kernel
theorem dX0_zeros_16 : decode cX0_zeros 16 = .ok (.iload_n 2, 1) := by decide +kernel
theorem dX0_zeros_17 : decode cX0_zeros 17 = .ok (.iaload, 1) := by decide +kernel
theorem dX0_zeros_18 : decode cX0_zeros 18 = .ok (.ifCond .ne 6, 3) := by decide +kernel
theorem dX0_zeros_21 : decode cX0_zeros 21 = .ok (.iinc 1 1, 3) := by decide +kernel
theorem dX0_zeros_24 : decode cX0_zeros 24 = .ok (.iinc 2 1, 3) := by decide +kernel
theorem dX0_zeros_27 : decode cX0_zeros 27 = .ok (.goto (-23), 3) := by decide +kernel
theorem dX0_zeros_30 : decode cX0_zeros 30 = .ok (.iload_n 1, 1) := by decide +kernel
theorem dX0_zeros_31 : decode cX0_zeros 31 = .ok (.ireturn, 1) := by decide +kernel
theorem dX0_unlike_0 : decode cX0_unlike 0 = .ok (.iconst 0, 1) := by decide +kernel
theorem dX0_unlike_1 : decode cX0_unlike 1 = .ok (.istore_n 2, 1) := by decide +kernel
theorem dX0_unlike_2 : decode cX0_unlike 2 = .ok (.iconst 0, 1) := by decide +kernel
theorem dX0_unlike_3 : decode cX0_unlike 3 = .ok (.istore_n 3, 1) := by decide +kernel
theorem dX0_unlike_4 : decode cX0_unlike 4 = .ok (.iload_n 3, 1) := by decide +kernel
theorem dX0_unlike_5 : decode cX0_unlike 5 = .ok (.aload_n 0, 1) := by decide +kernel
theorem dX0_unlike_6 : decode cX0_unlike 6 = .ok (.getfield 24, 3) := by decide +kernel
theorem dX0_unlike_9 : decode cX0_unlike 9 = .ok (.if_icmp .ge 27, 3) := by decide +kernel
theorem dX0_unlike_12 : decode cX0_unlike 12 = .ok (.aload_n 0, 1) := by decide +kernel
theorem dX0_unlike_13 : decode cX0_unlike 13 = .ok (.getfield 9, 3) := by decide +kernel
theorem dX0_unlike_16 : decode cX0_unlike 16 = .ok (.iload_n 3, 1) := by decide +kernel
theorem dX0_unlike_17 : decode cX0_unlike 17 = .ok (.iaload, 1) := by decide +kernel
theorem dX0_unlike_18 : decode cX0_unlike 18 = .ok (.aload_n 1, 1) := by decide +kernel
theorem dX0_unlike_19 : decode cX0_unlike 19 = .ok (.getfield 9, 3) := by decide +kernel
theorem dX0_unlike_22 : decode cX0_unlike 22 = .ok (.iload_n 3, 1) := by decide +kernel
theorem dX0_unlike_23 : decode cX0_unlike 23 = .ok (.iaload, 1) := by decide +kernel
theorem dX0_unlike_24 : decode cX0_unlike 24 = .ok (.if_icmp .eq 6, 3) := by decide +kernel
theorem dX0_unlike_27 : decode cX0_unlike 27 = .ok (.iinc 2 1, 3) := by decide +kernel
theorem dX0_unlike_30 : decode cX0_unlike 30 = .ok (.iinc 3 1, 3) := by decide +kernel
theorem dX0_unlike_33 : decode cX0_unlike 33 = .ok (.goto (-29), 3) := by decide +kernel
theorem dX0_unlike_36 : decode cX0_unlike 36 = .ok (.iload_n 2, 1) := by decide +kernel
theorem dX0_unlike_37 : decode cX0_unlike 37 = .ok (.ireturn, 1) := by decide +kernel
theorem dX0_becomeCells_0 : decode cX0_becomeCells 0 = .ok (.aload_n 0, 1) := by decide +kernel
theorem dX0_becomeCells_1 : decode cX0_becomeCells 1 = .ok (.aload_n 1, 1) := by decide +kernel
theorem dX0_becomeCells_2 : decode cX0_becomeCells 2 = .ok (.getfield 24, 3) := by decide +kernel
theorem dX0_becomeCells_5 : decode cX0_becomeCells 5 = .ok (.putfield 24, 3) := by decide +kernel
theorem dX0_becomeCells_8 : decode cX0_becomeCells 8 = .ok (.aload_n 1, 1) := by decide +kernel
theorem dX0_becomeCells_9 : decode cX0_becomeCells 9 = .ok (.getfield 9, 3) := by decide +kernel
theorem dX0_becomeCells_12 : decode cX0_becomeCells 12 = .ok (.iconst 0, 1) := by decide +kernel
theorem dX0_becomeCells_13 : decode cX0_becomeCells 13 = .ok (.aload_n 0, 1) := by decide +kernel
theorem dX0_becomeCells_14 : decode cX0_becomeCells 14 = .ok (.getfield 9, 3) := by decide +kernel
theorem dX0_becomeCells_17 : decode cX0_becomeCells 17 = .ok (.iconst 0, 1) := by decide +kernel
theorem dX0_becomeCells_18 : decode cX0_becomeCells 18 = .ok (.bipush 32, 2) := by decide +kernel
theorem dX0_becomeCells_20 : decode cX0_becomeCells 20 = .ok (.invokestatic 62, 3) := by decide +kernel
theorem dX0_becomeCells_23 : decode cX0_becomeCells 23 = .ok (.return_, 1) := by decide +kernel
theorem dX1_init_0 : decode cX1_init 0 = .ok (.aload_n 0, 1) := by decide +kernel
theorem dX1_init_1 : decode cX1_init 1 = .ok (.invokespecial 3, 3) := by decide +kernel
theorem dX1_init_4 : decode cX1_init 4 = .ok (.aload_n 0, 1) := by decide +kernel
theorem dX1_init_5 : decode cX1_init 5 = .ok (.bipush 32, 2) := by decide +kernel
theorem dX1_init_7 : decode cX1_init 7 = .ok (.newarray .int, 2) := by decide +kernel
theorem dX1_init_9 : decode cX1_init 9 = .ok (.putfield 9, 3) := by decide +kernel
theorem dX1_init_12 : decode cX1_init 12 = .ok (.aload_n 0, 1) := by decide +kernel
theorem dX1_init_13 : decode cX1_init 13 = .ok (.bipush 32, 2) := by decide +kernel
theorem dX1_init_15 : decode cX1_init 15 = .ok (.newarray .int, 2) := by decide +kernel
theorem dX1_init_17 : decode cX1_init 17 = .ok (.putfield 15, 3) := by decide +kernel
theorem dX1_init_20 : decode cX1_init 20 = .ok (.return_, 1) := by decide +kernel
theorem dX1_begin_0 : decode cX1_begin 0 = .ok (.aload_n 0, 1) := by decide +kernel
theorem dX1_begin_1 : decode cX1_begin 1 = .ok (.iload_n 1, 1) := by decide +kernel
theorem dX1_begin_2 : decode cX1_begin 2 = .ok (.putfield 18, 3) := by decide +kernel
theorem dX1_begin_5 : decode cX1_begin 5 = .ok (.aload_n 0, 1) := by decide +kernel
theorem dX1_begin_6 : decode cX1_begin 6 = .ok (.iload_n 2, 1) := by decide +kernel
theorem dX1_begin_7 : decode cX1_begin 7 = .ok (.putfield 22, 3) := by decide +kernel
theorem dX1_begin_10 : decode cX1_begin 10 = .ok (.aload_n 0, 1) := by decide +kernel
theorem dX1_begin_11 : decode cX1_begin 11 = .ok (.iconst 0, 1) := by decide +kernel
theorem dX1_begin_12 : decode cX1_begin 12 = .ok (.putfield 26, 3) := by decide +kernel
theorem dX1_begin_15 : decode cX1_begin 15 = .ok (.aload_n 0, 1) := by decide +kernel
theorem dX1_begin_16 : decode cX1_begin 16 = .ok (.iconst (-1), 1) := by decide +kernel
theorem dX1_begin_17 : decode cX1_begin 17 = .ok (.putfield 29, 3) := by decide +kernel
theorem dX1_begin_20 : decode cX1_begin 20 = .ok (.aload_n 0, 1) := by decide +kernel
theorem dX1_begin_21 : decode cX1_begin 21 = .ok (.iload_n 3, 1) := by decide +kernel
theorem dX1_begin_22 : decode cX1_begin 22 = .ok (.putfield 32, 3) := by decide +kernel
theorem dX1_begin_25 : decode cX1_begin 25 = .ok (.aload_n 0, 1) := by decide +kernel
theorem dX1_begin_26 : decode cX1_begin 26 = .ok (.iconst 0, 1) := by decide +kernel
theorem dX1_begin_27 : decode cX1_begin 27 = .ok (.putfield 35, 3) := by decide +kernel
theorem dX1_begin_30 : decode cX1_begin 30 = .ok (.aload_n 0, 1) := by decide +kernel
theorem dX1_begin_31 : decode cX1_begin 31 = .ok (.iconst 0, 1) := by decide +kernel
theorem dX1_begin_32 : decode cX1_begin 32 = .ok (.putfield 38, 3) := by decide +kernel
theorem dX1_begin_35 : decode cX1_begin 35 = .ok (.aload_n 0, 1) := by decide +kernel
theorem dX1_begin_36 : decode cX1_begin 36 = .ok (.iconst 0, 1) := by decide +kernel
theorem dX1_begin_37 : decode cX1_begin 37 = .ok (.putfield 41, 3) := by decide +kernel
theorem dX1_begin_40 : decode cX1_begin 40 = .ok (.return_, 1) := by decide +kernel
theorem dX1_finishAs_0 : decode cX1_finishAs 0 = .ok (.aload_n 0, 1) := by decide +kernel
theorem dX1_finishAs_1 : decode cX1_finishAs 1 = .ok (.iload_n 1, 1) := by decide +kernel
theorem dX1_finishAs_2 : decode cX1_finishAs 2 = .ok (.putfield 26, 3) := by decide +kernel
theorem dX1_finishAs_5 : decode cX1_finishAs 5 = .ok (.aload_n 0, 1) := by decide +kernel
theorem dX1_finishAs_6 : decode cX1_finishAs 6 = .ok (.iload_n 2, 1) := by decide +kernel
theorem dX1_finishAs_7 : decode cX1_finishAs 7 = .ok (.putfield 29, 3) := by decide +kernel
theorem dX1_finishAs_10 : decode cX1_finishAs 10 = .ok (.return_, 1) := by decide +kernel
theorem dX1_missing_0 : decode cX1_missing 0 = .ok (.aload_n 0, 1) := by decide +kernel
theorem dX1_missing_1 : decode cX1_missing 1 = .ok (.getfield 32, 3) := by decide +kernel
theorem dX1_missing_4 : decode cX1_missing 4 = .ok (.aload_n 0, 1) := by decide +kernel
theorem dX1_missing_5 : decode cX1_missing 5 = .ok (.getfield 35, 3) := by decide +kernel
theorem dX1_missing_8 : decode cX1_missing 8 = .ok (.iconst (-1), 1) := by decide +kernel
theorem dX1_missing_9 : decode cX1_missing 9 = .ok (.ixor, 1) := by decide +kernel
theorem dX1_missing_10 : decode cX1_missing 10 = .ok (.iand, 1) := by decide +kernel
theorem dX1_missing_11 : decode cX1_missing 11 = .ok (.ireturn, 1) := by decide +kernel
theorem dX1_keep_0 : decode cX1_keep 0 = .ok (.iload_n 1, 1) := by decide +kernel
theorem dX1_keep_1 : decode cX1_keep 1 = .ok (.ifCond .lt 57, 3) := by decide +kernel
theorem dX1_keep_4 : decode cX1_keep 4 = .ok (.iload_n 1, 1) := by decide +kernel
theorem dX1_keep_5 : decode cX1_keep 5 = .ok (.bipush 32, 2) := by decide +kernel
theorem dX1_keep_7 : decode cX1_keep 7 = .ok (.if_icmp .ge 51, 3) := by decide +kernel
theorem dX1_keep_10 : decode cX1_keep 10 = .ok (.aload_n 0, 1) := by decide +kernel
theorem dX1_keep_11 : decode cX1_keep 11 = .ok (.getfield 41, 3) := by decide +kernel
theorem dX1_keep_14 : decode cX1_keep 14 = .ok (.bipush 32, 2) := by decide +kernel
theorem dX1_keep_16 : decode cX1_keep 16 = .ok (.if_icmp .ge 42, 3) := by decide +kernel
theorem dX1_keep_19 : decode cX1_keep 19 = .ok (.aload_n 0, 1) := by decide +kernel
theorem dX1_keep_20 : decode cX1_keep 20 = .ok (.dup, 1) := by decide +kernel
theorem dX1_keep_21 : decode cX1_keep 21 = .ok (.getfield 35, 3) := by decide +kernel
theorem dX1_keep_24 : decode cX1_keep 24 = .ok (.iconst 1, 1) := by decide +kernel
theorem dX1_keep_25 : decode cX1_keep 25 = .ok (.iload_n 1, 1) := by decide +kernel
theorem dX1_keep_26 : decode cX1_keep 26 = .ok (.ishl, 1) := by decide +kernel
theorem dX1_keep_27 : decode cX1_keep 27 = .ok (.ior, 1) := by decide +kernel
theorem dX1_keep_28 : decode cX1_keep 28 = .ok (.putfield 35, 3) := by decide +kernel
theorem dX1_keep_31 : decode cX1_keep 31 = .ok (.aload_n 0, 1) := by decide +kernel
theorem dX1_keep_32 : decode cX1_keep 32 = .ok (.getfield 9, 3) := by decide +kernel
theorem dX1_keep_35 : decode cX1_keep 35 = .ok (.iload_n 1, 1) := by decide +kernel
theorem dX1_keep_36 : decode cX1_keep 36 = .ok (.iload_n 2, 1) := by decide +kernel
theorem dX1_keep_37 : decode cX1_keep 37 = .ok (.iastore, 1) := by decide +kernel
theorem dX1_keep_38 : decode cX1_keep 38 = .ok (.aload_n 0, 1) := by decide +kernel
theorem dX1_keep_39 : decode cX1_keep 39 = .ok (.getfield 15, 3) := by decide +kernel
theorem dX1_keep_42 : decode cX1_keep 42 = .ok (.aload_n 0, 1) := by decide +kernel
theorem dX1_keep_43 : decode cX1_keep 43 = .ok (.getfield 41, 3) := by decide +kernel
theorem dX1_keep_46 : decode cX1_keep 46 = .ok (.iload_n 1, 1) := by decide +kernel
theorem dX1_keep_47 : decode cX1_keep 47 = .ok (.iastore, 1) := by decide +kernel
theorem dX1_keep_48 : decode cX1_keep 48 = .ok (.aload_n 0, 1) := by decide +kernel
theorem dX1_keep_49 : decode cX1_keep 49 = .ok (.dup, 1) := by decide +kernel
theorem dX1_keep_50 : decode cX1_keep 50 = .ok (.getfield 41, 3) := by decide +kernel
theorem dX1_keep_53 : decode cX1_keep 53 = .ok (.iconst 1, 1) := by decide +kernel
theorem dX1_keep_54 : decode cX1_keep 54 = .ok (.iadd, 1) := by decide +kernel
theorem dX1_keep_55 : decode cX1_keep 55 = .ok (.putfield 41, 3) := by decide +kernel
theorem dX1_keep_58 : decode cX1_keep 58 = .ok (.return_, 1) := by decide +kernel
theorem dX1_contentOf_0 : decode cX1_contentOf 0 = .ok (.iload_n 1, 1) := by decide +kernel
theorem dX1_contentOf_1 : decode cX1_contentOf 1 = .ok (.ifCond .lt 18, 3) := by decide +kernel
theorem dX1_contentOf_4 : decode cX1_contentOf 4 = .ok (.iload_n 1, 1) := by decide +kernel
theorem dX1_contentOf_5 : decode cX1_contentOf 5 = .ok (.bipush 32, 2) := by decide +kernel
theorem dX1_contentOf_7 : decode cX1_contentOf 7 = .ok (.if_icmp .ge 12, 3) := by decide +kernel
theorem dX1_contentOf_10 : decode cX1_contentOf 10 = .ok (.aload_n 0, 1) := by decide +kernel
theorem dX1_contentOf_11 : decode cX1_contentOf 11 = .ok (.getfield 9, 3) := by decide +kernel
theorem dX1_contentOf_14 : decode cX1_contentOf 14 = .ok (.iload_n 1, 1) := by decide +kernel
theorem dX1_contentOf_15 : decode cX1_contentOf 15 = .ok (.iaload, 1) := by decide +kernel
theorem dX1_contentOf_16 : decode cX1_contentOf 16 = .ok (.goto 4, 3) := by decide +kernel
theorem dX1_contentOf_19 : decode cX1_contentOf 19 = .ok (.iconst (-1), 1) := by decide +kernel
theorem dX1_contentOf_20 : decode cX1_contentOf 20 = .ok (.ireturn, 1) := by decide +kernel
theorem dX1_cellInTurn_0 : decode cX1_cellInTurn 0 = .ok (.iload_n 1, 1) := by decide +kernel
theorem dX1_cellInTurn_1 : decode cX1_cellInTurn 1 = .ok (.ifCond .lt 26, 3) := by decide +kernel
theorem dX1_cellInTurn_4 : decode cX1_cellInTurn 4 = .ok (.iload_n 1, 1) := by decide +kernel
theorem dX1_cellInTurn_5 : decode cX1_cellInTurn 5 = .ok (.aload_n 0, 1) := by decide +kernel
theorem dX1_cellInTurn_6 : decode cX1_cellInTurn 6 = .ok (.getfield 41, 3) := by decide +kernel
theorem dX1_cellInTurn_9 : decode cX1_cellInTurn 9 = .ok (.if_icmp .ge 18, 3) := by decide +kernel
theorem dX1_cellInTurn_12 : decode cX1_cellInTurn 12 = .ok (.iload_n 1, 1) := by decide +kernel
theorem dX1_cellInTurn_13 : decode cX1_cellInTurn 13 = .ok (.bipush 32, 2) := by decide +kernel
theorem dX1_cellInTurn_15 : decode cX1_cellInTurn 15 = .ok (.if_icmp .ge 12, 3) := by decide +kernel
theorem dX1_cellInTurn_18 : decode cX1_cellInTurn 18 = .ok (.aload_n 0, 1) := by decide +kernel
theorem dX1_cellInTurn_19 : decode cX1_cellInTurn 19 = .ok (.getfield 15, 3) := by decide +kernel
theorem dX1_cellInTurn_22 : decode cX1_cellInTurn 22 = .ok (.iload_n 1, 1) := by decide +kernel
theorem dX1_cellInTurn_23 : decode cX1_cellInTurn 23 = .ok (.iaload, 1) := by decide +kernel
theorem dX1_cellInTurn_24 : decode cX1_cellInTurn 24 = .ok (.goto 4, 3) := by decide +kernel
theorem dX1_cellInTurn_27 : decode cX1_cellInTurn 27 = .ok (.iconst (-1), 1) := by decide +kernel
theorem dX1_cellInTurn_28 : decode cX1_cellInTurn 28 = .ok (.ireturn, 1) := by decide +kernel
theorem dX2_init_0 : decode cX2_init 0 = .ok (.aload_n 0, 1) := by decide +kernel
theorem dX2_init_1 : decode cX2_init 1 = .ok (.invokespecial 3, 3) := by decide +kernel
theorem dX2_init_4 : decode cX2_init 4 = .ok (.aload_n 0, 1) := by decide +kernel
theorem dX2_init_5 : decode cX2_init 5 = .ok (.iconst (-1), 1) := by decide +kernel
theorem dX2_init_6 : decode cX2_init 6 = .ok (.putfield 9, 3) := by decide +kernel
theorem dX2_init_9 : decode cX2_init 9 = .ok (.aload_n 0, 1) := by decide +kernel
theorem dX2_init_10 : decode cX2_init 10 = .ok (.sipush 700, 3) := by decide +kernel
theorem dX2_init_13 : decode cX2_init 13 = .ok (.newarray .byte, 2) := by decide +kernel
theorem dX2_init_15 : decode cX2_init 15 = .ok (.putfield 15, 3) := by decide +kernel
theorem dX2_init_18 : decode cX2_init 18 = .ok (.aload_n 0, 1) := by decide +kernel
theorem dX2_init_19 : decode cX2_init 19 = .ok (.iconst 3, 1) := by decide +kernel
theorem dX2_init_20 : decode cX2_init 20 = .ok (.newarray .int, 2) := by decide +kernel
theorem dX2_init_22 : decode cX2_init 22 = .ok (.putfield 19, 3) := by decide +kernel
theorem dX2_init_25 : decode cX2_init 25 = .ok (.return_, 1) := by decide +kernel
theorem dX2_hasRoom_0 : decode cX2_hasRoom 0 = .ok (.aload_n 0, 1) := by decide +kernel
theorem dX2_hasRoom_1 : decode cX2_hasRoom 1 = .ok (.getfield 23, 3) := by decide +kernel
theorem dX2_hasRoom_4 : decode cX2_hasRoom 4 = .ok (.iload_n 1, 1) := by decide +kernel
theorem dX2_hasRoom_5 : decode cX2_hasRoom 5 = .ok (.iadd, 1) := by decide +kernel
theorem dX2_hasRoom_6 : decode cX2_hasRoom 6 = .ok (.sipush 700, 3) := by decide +kernel
theorem dX2_hasRoom_9 : decode cX2_hasRoom 9 = .ok (.if_icmp .gt 7, 3) := by decide +kernel
theorem dX2_hasRoom_12 : decode cX2_hasRoom 12 = .ok (.iconst 1, 1) := by decide +kernel
theorem dX2_hasRoom_13 : decode cX2_hasRoom 13 = .ok (.goto 4, 3) := by decide +kernel
theorem dX2_hasRoom_16 : decode cX2_hasRoom 16 = .ok (.iconst 0, 1) := by decide +kernel
theorem dX2_hasRoom_17 : decode cX2_hasRoom 17 = .ok (.ireturn, 1) := by decide +kernel
theorem dX2_take_0 : decode cX2_take 0 = .ok (.bipush 24, 2) := by decide +kernel
theorem dX2_take_2 : decode cX2_take 2 = .ok (.istore_n 2, 1) := by decide +kernel
theorem dX2_take_3 : decode cX2_take 3 = .ok (.iload_n 2, 1) := by decide +kernel
theorem dX2_take_4 : decode cX2_take 4 = .ok (.ifCond .lt 42, 3) := by decide +kernel
theorem dX2_take_7 : decode cX2_take 7 = .ok (.aload_n 0, 1) := by decide +kernel
theorem dX2_take_8 : decode cX2_take 8 = .ok (.getfield 23, 3) := by decide +kernel
theorem dX2_take_11 : decode cX2_take 11 = .ok (.sipush 700, 3) := by decide +kernel
theorem dX2_take_14 : decode cX2_take 14 = .ok (.if_icmp .ge 32, 3) := by decide +kernel
theorem dX2_take_17 : decode cX2_take 17 = .ok (.aload_n 0, 1) := by decide +kernel
theorem dX2_take_18 : decode cX2_take 18 = .ok (.getfield 15, 3) := by decide +kernel
theorem dX2_take_21 : decode cX2_take 21 = .ok (.aload_n 0, 1) := by decide +kernel
theorem dX2_take_22 : decode cX2_take 22 = .ok (.getfield 23, 3) := by decide +kernel
theorem dX2_take_25 : decode cX2_take 25 = .ok (.iload_n 1, 1) := by decide +kernel
theorem dX2_take_26 : decode cX2_take 26 = .ok (.iload_n 2, 1) := by decide +kernel
theorem dX2_take_27 : decode cX2_take 27 = .ok (.ishr, 1) := by decide +kernel
theorem dX2_take_28 : decode cX2_take 28 = .ok (.i2b, 1) := by decide +kernel
theorem dX2_take_29 : decode cX2_take 29 = .ok (.bastore, 1) := by decide +kernel
theorem dX2_take_30 : decode cX2_take 30 = .ok (.aload_n 0, 1) := by decide +kernel
theorem dX2_take_31 : decode cX2_take 31 = .ok (.dup, 1) := by decide +kernel
theorem dX2_take_32 : decode cX2_take 32 = .ok (.getfield 23, 3) := by decide +kernel
theorem dX2_take_35 : decode cX2_take 35 = .ok (.iconst 1, 1) := by decide +kernel
theorem dX2_take_36 : decode cX2_take 36 = .ok (.iadd, 1) := by decide +kernel
theorem dX2_take_37 : decode cX2_take 37 = .ok (.putfield 23, 3) := by decide +kernel
theorem dX2_take_40 : decode cX2_take 40 = .ok (.iinc 2 (-8), 3) := by decide +kernel
theorem dX2_take_43 : decode cX2_take 43 = .ok (.goto (-40), 3) := by decide +kernel
theorem dX2_take_46 : decode cX2_take 46 = .ok (.return_, 1) := by decide +kernel
theorem dX2_read_0 : decode cX2_read 0 = .ok (.aload_n 0, 1) := by decide +kernel
theorem dX2_read_1 : decode cX2_read 1 = .ok (.iconst 0, 1) := by decide +kernel
theorem dX2_read_2 : decode cX2_read 2 = .ok (.putfield 26, 3) := by decide +kernel
theorem dX2_read_5 : decode cX2_read 5 = .ok (.aload_n 0, 1) := by decide +kernel
theorem dX2_read_6 : decode cX2_read 6 = .ok (.iconst (-1), 1) := by decide +kernel
theorem dX2_read_7 : decode cX2_read 7 = .ok (.putfield 9, 3) := by decide +kernel
theorem dX2_read_10 : decode cX2_read 10 = .ok (.aload_n 0, 1) := by decide +kernel
theorem dX2_read_11 : decode cX2_read 11 = .ok (.iconst 0, 1) := by decide +kernel
theorem dX2_read_12 : decode cX2_read 12 = .ok (.putfield 29, 3) := by decide +kernel
theorem dX2_read_15 : decode cX2_read 15 = .ok (.aload_n 1, 1) := by decide +kernel
theorem dX2_read_16 : decode cX2_read 16 = .ok (.invokevirtual 32, 3) := by decide +kernel
theorem dX2_read_19 : decode cX2_read 19 = .ok (.aload_n 0, 1) := by decide +kernel
theorem dX2_read_20 : decode cX2_read 20 = .ok (.invokevirtual 37, 3) := by decide +kernel
theorem dX2_read_23 : decode cX2_read 23 = .ok (.aload_n 0, 1) := by decide +kernel
theorem dX2_read_24 : decode cX2_read 24 = .ok (.getfield 40, 3) := by decide +kernel
theorem dX2_read_27 : decode cX2_read 27 = .ok (.ifCond .ne 5, 3) := by decide +kernel
theorem dX2_read_30 : decode cX2_read 30 = .ok (.iconst 1, 1) := by decide +kernel
theorem dX2_read_31 : decode cX2_read 31 = .ok (.ireturn, 1) := by decide +kernel
theorem dX2_read_32 : decode cX2_read 32 = .ok (.aload_n 0, 1) := by decide +kernel
theorem dX2_read_33 : decode cX2_read 33 = .ok (.aload_n 1, 1) := by decide +kernel
theorem dX2_read_34 : decode cX2_read 34 = .ok (.invokevirtual 43, 3) := by decide +kernel
theorem dX2_read_37 : decode cX2_read 37 = .ok (.istore_n 2, 1) := by decide +kernel
theorem dX2_read_38 : decode cX2_read 38 = .ok (.iconst 0, 1) := by decide +kernel
theorem dX2_read_39 : decode cX2_read 39 = .ok (.istore_n 3, 1) := by decide +kernel
theorem dX2_read_40 : decode cX2_read 40 = .ok (.iload_n 3, 1) := by decide +kernel
theorem dX2_read_41 : decode cX2_read 41 = .ok (.sipush 700, 3) := by decide +kernel
theorem dX2_read_44 : decode cX2_read 44 = .ok (.if_icmp .ge 26, 3) := by decide +kernel
theorem dX2_read_47 : decode cX2_read 47 = .ok (.iload_n 2, 1) := by decide +kernel
theorem dX2_read_48 : decode cX2_read 48 = .ok (.ifCond .eq 22, 3) := by decide +kernel
theorem dX2_read_51 : decode cX2_read 51 = .ok (.aload_n 0, 1) := by decide +kernel
theorem dX2_read_52 : decode cX2_read 52 = .ok (.getfield 40, 3) := by decide +kernel
theorem dX2_read_55 : decode cX2_read 55 = .ok (.ifCond .eq 15, 3) := by decide +kernel
theorem dX2_read_58 : decode cX2_read 58 = .ok (.aload_n 0, 1) := by decide +kernel
theorem dX2_read_59 : decode cX2_read 59 = .ok (.aload_n 1, 1) := by decide +kernel
theorem dX2_read_60 : decode cX2_read 60 = .ok (.invokevirtual 47, 3) := by decide +kernel
theorem dX2_read_63 : decode cX2_read 63 = .ok (.istore_n 2, 1) := by decide +kernel
theorem dX2_read_64 : decode cX2_read 64 = .ok (.iinc 3 1, 3) := by decide +kernel
theorem dX2_read_67 : decode cX2_read 67 = .ok (.goto (-27), 3) := by decide +kernel
theorem dX2_read_70 : decode cX2_read 70 = .ok (.iload_n 2, 1) := by decide +kernel
theorem dX2_read_71 : decode cX2_read 71 = .ok (.ireturn, 1) := by decide +kernel
theorem dX2_readHead_0 : decode cX2_readHead 0 = .ok (.aload_n 0, 1) := by decide +kernel
theorem dX2_readHead_1 : decode cX2_readHead 1 = .ok (.ldc 50, 2) := by decide +kernel
theorem dX2_readHead_3 : decode cX2_readHead 3 = .ok (.invokevirtual 52, 3) := by decide +kernel
theorem dX2_readHead_6 : decode cX2_readHead 6 = .ok (.ifCond .eq 22, 3) := by decide +kernel
theorem dX2_readHead_9 : decode cX2_readHead 9 = .ok (.aload_n 0, 1) := by decide +kernel
theorem dX2_readHead_10 : decode cX2_readHead 10 = .ok (.ldc 56, 2) := by decide +kernel
theorem dX2_readHead_12 : decode cX2_readHead 12 = .ok (.invokevirtual 52, 3) := by decide +kernel
theorem dX2_readHead_15 : decode cX2_readHead 15 = .ok (.ifCond .eq 13, 3) := by decide +kernel
theorem dX2_readHead_18 : decode cX2_readHead 18 = .ok (.aload_n 0, 1) := by decide +kernel
theorem dX2_readHead_19 : decode cX2_readHead 19 = .ok (.iconst 2, 1) := by decide +kernel
theorem dX2_readHead_20 : decode cX2_readHead 20 = .ok (.bipush 32, 2) := by decide +kernel
theorem dX2_readHead_22 : decode cX2_readHead 22 = .ok (.invokevirtual 58, 3) := by decide +kernel
theorem dX2_readHead_25 : decode cX2_readHead 25 = .ok (.ifCond .ne 5, 3) := by decide +kernel
theorem dX2_readHead_28 : decode cX2_readHead 28 = .ok (.iconst 0, 1) := by decide +kernel
theorem dX2_readHead_29 : decode cX2_readHead 29 = .ok (.ireturn, 1) := by decide +kernel
theorem dX2_readHead_30 : decode cX2_readHead 30 = .ok (.aload_n 1, 1) := by decide +kernel
theorem dX2_readHead_31 : decode cX2_readHead 31 = .ok (.aload_n 0, 1) := by decide +kernel
theorem dX2_readHead_32 : decode cX2_readHead 32 = .ok (.getfield 62, 3) := by decide +kernel
theorem dX2_readHead_35 : decode cX2_readHead 35 = .ok (.putfield 65, 3) := by decide +kernel
theorem dX2_readHead_38 : decode cX2_readHead 38 = .ok (.aload_n 0, 1) := by decide +kernel
theorem dX2_readHead_39 : decode cX2_readHead 39 = .ok (.ldc 67, 2) := by decide +kernel
theorem dX2_readHead_41 : decode cX2_readHead 41 = .ok (.invokevirtual 52, 3) := by decide +kernel
theorem dX2_readHead_44 : decode cX2_readHead 44 = .ok (.ifCond .eq 12, 3) := by decide +kernel
theorem dX2_readHead_47 : decode cX2_readHead 47 = .ok (.aload_n 0, 1) := by decide +kernel
theorem dX2_readHead_48 : decode cX2_readHead 48 = .ok (.iconst 0, 1) := by decide +kernel
theorem dX2_readHead_49 : decode cX2_readHead 49 = .ok (.iconst 3, 1) := by decide +kernel
theorem dX2_readHead_50 : decode cX2_readHead 50 = .ok (.invokevirtual 58, 3) := by decide +kernel
theorem dX2_readHead_53 : decode cX2_readHead 53 = .ok (.ifCond .ne 5, 3) := by decide +kernel
theorem dX2_readHead_56 : decode cX2_readHead 56 = .ok (.iconst 0, 1) := by decide +kernel
theorem dX2_readHead_57 : decode cX2_readHead 57 = .ok (.ireturn, 1) := by decide +kernel
theorem dX2_readHead_58 : decode cX2_readHead 58 = .ok (.aload_n 1, 1) := by decide +kernel
theorem dX2_readHead_59 : decode cX2_readHead 59 = .ok (.aload_n 0, 1) := by decide +kernel
theorem dX2_readHead_60 : decode cX2_readHead 60 = .ok (.getfield 62, 3) := by decide +kernel
theorem dX2_readHead_63 : decode cX2_readHead 63 = .ok (.putfield 69, 3) := by decide +kernel
theorem dX2_readHead_66 : decode cX2_readHead 66 = .ok (.aload_n 0, 1) := by decide +kernel
theorem dX2_readHead_67 : decode cX2_readHead 67 = .ok (.ldc 72, 2) := by decide +kernel
theorem dX2_readHead_69 : decode cX2_readHead 69 = .ok (.invokevirtual 52, 3) := by decide +kernel
theorem dX2_readHead_72 : decode cX2_readHead 72 = .ok (.ifCond .eq 13, 3) := by decide +kernel
theorem dX2_readHead_75 : decode cX2_readHead 75 = .ok (.aload_n 0, 1) := by decide +kernel
theorem dX2_readHead_76 : decode cX2_readHead 76 = .ok (.iconst 0, 1) := by decide +kernel
theorem dX2_readHead_77 : decode cX2_readHead 77 = .ok (.bipush 10, 2) := by decide +kernel
theorem dX2_readHead_79 : decode cX2_readHead 79 = .ok (.invokevirtual 58, 3) := by decide +kernel
theorem dX2_readHead_82 : decode cX2_readHead 82 = .ok (.ifCond .ne 5, 3) := by decide +kernel
theorem dX2_readHead_85 : decode cX2_readHead 85 = .ok (.iconst 0, 1) := by decide +kernel
theorem dX2_readHead_86 : decode cX2_readHead 86 = .ok (.ireturn, 1) := by decide +kernel
theorem dX2_readHead_87 : decode cX2_readHead 87 = .ok (.aload_n 1, 1) := by decide +kernel
theorem dX2_readHead_88 : decode cX2_readHead 88 = .ok (.aload_n 0, 1) := by decide +kernel
theorem dX2_readHead_89 : decode cX2_readHead 89 = .ok (.getfield 62, 3) := by decide +kernel
theorem dX2_readHead_92 : decode cX2_readHead 92 = .ok (.putfield 74, 3) := by decide +kernel
theorem dX2_readHead_95 : decode cX2_readHead 95 = .ok (.aload_n 0, 1) := by decide +kernel
theorem dX2_readHead_96 : decode cX2_readHead 96 = .ok (.invokevirtual 76, 3) := by decide +kernel
theorem dX2_readHead_99 : decode cX2_readHead 99 = .ok (.ireturn, 1) := by decide +kernel
theorem dX2_readEvent_0 : decode cX2_readEvent 0 = .ok (.aload_n 0, 1) := by decide +kernel
theorem dX2_readEvent_1 : decode cX2_readEvent 1 = .ok (.invokevirtual 80, 3) := by decide +kernel
theorem dX2_readEvent_4 : decode cX2_readEvent 4 = .ok (.istore_n 2, 1) := by decide +kernel
theorem dX2_readEvent_5 : decode cX2_readEvent 5 = .ok (.iload_n 2, 1) := by decide +kernel
theorem dX2_readEvent_6 : decode cX2_readEvent 6 = .ok (.iconst (-1), 1) := by decide +kernel
theorem dX2_readEvent_7 : decode cX2_readEvent 7 = .ok (.if_icmp .ne 9, 3) := by decide +kernel
theorem dX2_readEvent_10 : decode cX2_readEvent 10 = .ok (.aload_n 0, 1) := by decide +kernel
theorem dX2_readEvent_11 : decode cX2_readEvent 11 = .ok (.iconst 1, 1) := by decide +kernel
theorem dX2_readEvent_12 : decode cX2_readEvent 12 = .ok (.invokevirtual 84, 3) := by decide +kernel
theorem dX2_readEvent_15 : decode cX2_readEvent 15 = .ok (.ireturn, 1) := by decide +kernel
theorem dX2_readEvent_16 : decode cX2_readEvent 16 = .ok (.aload_n 1, 1) := by decide +kernel
theorem dX2_readEvent_17 : decode cX2_readEvent 17 = .ok (.getfield 88, 3) := by decide +kernel
theorem dX2_readEvent_20 : decode cX2_readEvent 20 = .ok (.bipush 40, 2) := by decide +kernel
theorem dX2_readEvent_22 : decode cX2_readEvent 22 = .ok (.if_icmp .lt 9, 3) := by decide +kernel
theorem dX2_readEvent_25 : decode cX2_readEvent 25 = .ok (.aload_n 0, 1) := by decide +kernel
theorem dX2_readEvent_26 : decode cX2_readEvent 26 = .ok (.iconst 3, 1) := by decide +kernel
theorem dX2_readEvent_27 : decode cX2_readEvent 27 = .ok (.invokevirtual 84, 3) := by decide +kernel
theorem dX2_readEvent_30 : decode cX2_readEvent 30 = .ok (.ireturn, 1) := by decide +kernel
theorem dX2_readEvent_31 : decode cX2_readEvent 31 = .ok (.aload_n 0, 1) := by decide +kernel
theorem dX2_readEvent_32 : decode cX2_readEvent 32 = .ok (.invokevirtual 37, 3) := by decide +kernel
theorem dX2_readEvent_35 : decode cX2_readEvent 35 = .ok (.aload_n 0, 1) := by decide +kernel
theorem dX2_readEvent_36 : decode cX2_readEvent 36 = .ok (.getfield 19, 3) := by decide +kernel
theorem dX2_readEvent_39 : decode cX2_readEvent 39 = .ok (.iconst 0, 1) := by decide +kernel
theorem dX2_readEvent_40 : decode cX2_readEvent 40 = .ok (.invokestatic 91, 3) := by decide +kernel
theorem dX2_readEvent_43 : decode cX2_readEvent 43 = .ok (.iconst 0, 1) := by decide +kernel
theorem dX2_readEvent_44 : decode cX2_readEvent 44 = .ok (.istore_n 3, 1) := by decide +kernel
theorem dX2_readEvent_45 : decode cX2_readEvent 45 = .ok (.iload_n 3, 1) := by decide +kernel
theorem dX2_readEvent_46 : decode cX2_readEvent 46 = .ok (.getstatic 97, 3) := by decide +kernel
theorem dX2_readEvent_49 : decode cX2_readEvent 49 = .ok (.iload_n 2, 1) := by decide +kernel
theorem dX2_readEvent_50 : decode cX2_readEvent 50 = .ok (.iaload, 1) := by decide +kernel
theorem dX2_readEvent_51 : decode cX2_readEvent 51 = .ok (.if_icmp .ge 70, 3) := by decide +kernel
theorem dX2_readEvent_54 : decode cX2_readEvent 54 = .ok (.iload_n 3, 1) := by decide +kernel
theorem dX2_readEvent_55 : decode cX2_readEvent 55 = .ok (.iconst 3, 1) := by decide +kernel
theorem dX2_readEvent_56 : decode cX2_readEvent 56 = .ok (.if_icmp .ge 65, 3) := by decide +kernel
theorem dX2_readEvent_59 : decode cX2_readEvent 59 = .ok (.aload_n 0, 1) := by decide +kernel
theorem dX2_readEvent_60 : decode cX2_readEvent 60 = .ok (.getfield 40, 3) := by decide +kernel
theorem dX2_readEvent_63 : decode cX2_readEvent 63 = .ok (.iconst 2, 1) := by decide +kernel
theorem dX2_readEvent_64 : decode cX2_readEvent 64 = .ok (.if_icmp .eq 9, 3) := by decide +kernel
theorem dX2_readEvent_67 : decode cX2_readEvent 67 = .ok (.aload_n 0, 1) := by decide +kernel
theorem dX2_readEvent_68 : decode cX2_readEvent 68 = .ok (.iconst 1, 1) := by decide +kernel
theorem dX2_readEvent_69 : decode cX2_readEvent 69 = .ok (.invokevirtual 84, 3) := by decide +kernel
theorem dX2_readEvent_72 : decode cX2_readEvent 72 = .ok (.ireturn, 1) := by decide +kernel
theorem dX2_readEvent_73 : decode cX2_readEvent 73 = .ok (.aload_n 1, 1) := by decide +kernel
theorem dX2_readEvent_74 : decode cX2_readEvent 74 = .ok (.getfield 65, 3) := by decide +kernel
theorem dX2_readEvent_77 : decode cX2_readEvent 77 = .ok (.iload_n 2, 1) := by decide +kernel
theorem dX2_readEvent_78 : decode cX2_readEvent 78 = .ok (.iload_n 3, 1) := by decide +kernel
theorem dX2_readEvent_79 : decode cX2_readEvent 79 = .ok (.aload_n 0, 1) := by decide +kernel
theorem dX2_readEvent_80 : decode cX2_readEvent 80 = .ok (.getfield 100, 3) := by decide +kernel
theorem dX2_readEvent_83 : decode cX2_readEvent 83 = .ok (.aload_n 0, 1) := by decide +kernel
theorem dX2_readEvent_84 : decode cX2_readEvent 84 = .ok (.getfield 19, 3) := by decide +kernel
theorem dX2_readEvent_87 : decode cX2_readEvent 87 = .ok (.iconst 0, 1) := by decide +kernel
theorem dX2_readEvent_88 : decode cX2_readEvent 88 = .ok (.iaload, 1) := by decide +kernel
theorem dX2_readEvent_89 : decode cX2_readEvent 89 = .ok (.invokestatic 103, 3) := by decide +kernel
theorem dX2_readEvent_92 : decode cX2_readEvent 92 = .ok (.ifCond .ne 9, 3) := by decide +kernel
theorem dX2_readEvent_95 : decode cX2_readEvent 95 = .ok (.aload_n 0, 1) := by decide +kernel
theorem dX2_readEvent_96 : decode cX2_readEvent 96 = .ok (.iconst 2, 1) := by decide +kernel
theorem dX2_readEvent_97 : decode cX2_readEvent 97 = .ok (.invokevirtual 84, 3) := by decide +kernel
theorem dX2_readEvent_100 : decode cX2_readEvent 100 = .ok (.ireturn, 1) := by decide +kernel
theorem dX2_readEvent_101 : decode cX2_readEvent 101 = .ok (.aload_n 0, 1) := by decide +kernel
theorem dX2_readEvent_102 : decode cX2_readEvent 102 = .ok (.getfield 19, 3) := by decide +kernel
theorem dX2_readEvent_105 : decode cX2_readEvent 105 = .ok (.iload_n 3, 1) := by decide +kernel
theorem dX2_readEvent_106 : decode cX2_readEvent 106 = .ok (.aload_n 0, 1) := by decide +kernel
theorem dX2_readEvent_107 : decode cX2_readEvent 107 = .ok (.getfield 100, 3) := by decide +kernel
theorem dX2_readEvent_110 : decode cX2_readEvent 110 = .ok (.iastore, 1) := by decide +kernel
theorem dX2_readEvent_111 : decode cX2_readEvent 111 = .ok (.aload_n 0, 1) := by decide +kernel
theorem dX2_readEvent_112 : decode cX2_readEvent 112 = .ok (.invokevirtual 37, 3) := by decide +kernel
theorem dX2_readEvent_115 : decode cX2_readEvent 115 = .ok (.iinc 3 1, 3) := by decide +kernel
theorem dX2_readEvent_118 : decode cX2_readEvent 118 = .ok (.goto (-73), 3) := by decide +kernel
theorem dX2_readEvent_121 : decode cX2_readEvent 121 = .ok (.aload_n 1, 1) := by decide +kernel
theorem dX2_readEvent_122 : decode cX2_readEvent 122 = .ok (.iload_n 2, 1) := by decide +kernel
theorem dX2_readEvent_123 : decode cX2_readEvent 123 = .ok (.aload_n 0, 1) := by decide +kernel
theorem dX2_readEvent_124 : decode cX2_readEvent 124 = .ok (.getfield 19, 3) := by decide +kernel
theorem dX2_readEvent_127 : decode cX2_readEvent 127 = .ok (.iconst 0, 1) := by decide +kernel
theorem dX2_readEvent_128 : decode cX2_readEvent 128 = .ok (.iaload, 1) := by decide +kernel
theorem dX2_readEvent_129 : decode cX2_readEvent 129 = .ok (.aload_n 0, 1) := by decide +kernel
theorem dX2_readEvent_130 : decode cX2_readEvent 130 = .ok (.getfield 19, 3) := by decide +kernel
theorem dX2_readEvent_133 : decode cX2_readEvent 133 = .ok (.iconst 1, 1) := by decide +kernel
theorem dX2_readEvent_134 : decode cX2_readEvent 134 = .ok (.iaload, 1) := by decide +kernel
theorem dX2_readEvent_135 : decode cX2_readEvent 135 = .ok (.aload_n 0, 1) := by decide +kernel
theorem dX2_readEvent_136 : decode cX2_readEvent 136 = .ok (.getfield 19, 3) := by decide +kernel
theorem dX2_readEvent_139 : decode cX2_readEvent 139 = .ok (.iconst 2, 1) := by decide +kernel
theorem dX2_readEvent_140 : decode cX2_readEvent 140 = .ok (.iaload, 1) := by decide +kernel
theorem dX2_readEvent_141 : decode cX2_readEvent 141 = .ok (.invokevirtual 107, 3) := by decide +kernel
theorem dX2_readEvent_144 : decode cX2_readEvent 144 = .ok (.aload_n 1, 1) := by decide +kernel
theorem dX2_readEvent_145 : decode cX2_readEvent 145 = .ok (.dup, 1) := by decide +kernel
theorem dX2_readEvent_146 : decode cX2_readEvent 146 = .ok (.getfield 88, 3) := by decide +kernel
theorem dX2_readEvent_149 : decode cX2_readEvent 149 = .ok (.iconst 1, 1) := by decide +kernel
theorem dX2_readEvent_150 : decode cX2_readEvent 150 = .ok (.iadd, 1) := by decide +kernel
theorem dX2_readEvent_151 : decode cX2_readEvent 151 = .ok (.putfield 88, 3) := by decide +kernel
theorem dX2_readEvent_154 : decode cX2_readEvent 154 = .ok (.aload_n 0, 1) := by decide +kernel
theorem dX2_readEvent_155 : decode cX2_readEvent 155 = .ok (.invokevirtual 76, 3) := by decide +kernel
theorem dX2_readEvent_158 : decode cX2_readEvent 158 = .ok (.ireturn, 1) := by decide +kernel
theorem dX2_fail_0 : decode cX2_fail 0 = .ok (.aload_n 0, 1) := by decide +kernel
theorem dX2_fail_1 : decode cX2_fail 1 = .ok (.iload_n 1, 1) := by decide +kernel
theorem dX2_fail_2 : decode cX2_fail 2 = .ok (.putfield 26, 3) := by decide +kernel
theorem dX2_fail_5 : decode cX2_fail 5 = .ok (.aload_n 0, 1) := by decide +kernel
theorem dX2_fail_6 : decode cX2_fail 6 = .ok (.aload_n 0, 1) := by decide +kernel
theorem dX2_fail_7 : decode cX2_fail 7 = .ok (.getfield 111, 3) := by decide +kernel
theorem dX2_fail_10 : decode cX2_fail 10 = .ok (.putfield 9, 3) := by decide +kernel
theorem dX2_fail_13 : decode cX2_fail 13 = .ok (.iconst 0, 1) := by decide +kernel
theorem dX2_fail_14 : decode cX2_fail 14 = .ok (.ireturn, 1) := by decide +kernel
theorem dX2_passWord_0 : decode cX2_passWord 0 = .ok (.aload_n 0, 1) := by decide +kernel
theorem dX2_passWord_1 : decode cX2_passWord 1 = .ok (.aload_n 1, 1) := by decide +kernel
theorem dX2_passWord_2 : decode cX2_passWord 2 = .ok (.invokevirtual 114, 3) := by decide +kernel
theorem dX2_passWord_5 : decode cX2_passWord 5 = .ok (.ifCond .ne 9, 3) := by decide +kernel
theorem dX2_passWord_8 : decode cX2_passWord 8 = .ok (.aload_n 0, 1) := by decide +kernel
theorem dX2_passWord_9 : decode cX2_passWord 9 = .ok (.iconst 1, 1) := by decide +kernel
theorem dX2_passWord_10 : decode cX2_passWord 10 = .ok (.invokevirtual 84, 3) := by decide +kernel
theorem dX2_passWord_13 : decode cX2_passWord 13 = .ok (.ireturn, 1) := by decide +kernel
theorem dX2_passWord_14 : decode cX2_passWord 14 = .ok (.aload_n 0, 1) := by decide +kernel
theorem dX2_passWord_15 : decode cX2_passWord 15 = .ok (.invokevirtual 37, 3) := by decide +kernel
theorem dX2_passWord_18 : decode cX2_passWord 18 = .ok (.iconst 1, 1) := by decide +kernel
theorem dX2_passWord_19 : decode cX2_passWord 19 = .ok (.ireturn, 1) := by decide +kernel
theorem dX2_passNumber_0 : decode cX2_passNumber 0 = .ok (.aload_n 0, 1) := by decide +kernel
theorem dX2_passNumber_1 : decode cX2_passNumber 1 = .ok (.getfield 40, 3) := by decide +kernel
theorem dX2_passNumber_4 : decode cX2_passNumber 4 = .ok (.iconst 2, 1) := by decide +kernel
theorem dX2_passNumber_5 : decode cX2_passNumber 5 = .ok (.if_icmp .eq 9, 3) := by decide +kernel
theorem dX2_passNumber_8 : decode cX2_passNumber 8 = .ok (.aload_n 0, 1) := by decide +kernel
theorem dX2_passNumber_9 : decode cX2_passNumber 9 = .ok (.iconst 1, 1) := by decide +kernel
theorem dX2_passNumber_10 : decode cX2_passNumber 10 = .ok (.invokevirtual 84, 3) := by decide +kernel
theorem dX2_passNumber_13 : decode cX2_passNumber 13 = .ok (.ireturn, 1) := by decide +kernel
theorem dX2_passNumber_14 : decode cX2_passNumber 14 = .ok (.aload_n 0, 1) := by decide +kernel
theorem dX2_passNumber_15 : decode cX2_passNumber 15 = .ok (.getfield 100, 3) := by decide +kernel
theorem dX2_passNumber_18 : decode cX2_passNumber 18 = .ok (.iload_n 1, 1) := by decide +kernel
theorem dX2_passNumber_19 : decode cX2_passNumber 19 = .ok (.if_icmp .lt 11, 3) := by decide +kernel
theorem dX2_passNumber_22 : decode cX2_passNumber 22 = .ok (.aload_n 0, 1) := by decide +kernel
theorem dX2_passNumber_23 : decode cX2_passNumber 23 = .ok (.getfield 100, 3) := by decide +kernel
theorem dX2_passNumber_26 : decode cX2_passNumber 26 = .ok (.iload_n 2, 1) := by decide +kernel
theorem dX2_passNumber_27 : decode cX2_passNumber 27 = .ok (.if_icmp .le 9, 3) := by decide +kernel
theorem dX2_passNumber_30 : decode cX2_passNumber 30 = .ok (.aload_n 0, 1) := by decide +kernel
theorem dX2_passNumber_31 : decode cX2_passNumber 31 = .ok (.iconst 2, 1) := by decide +kernel
theorem dX2_passNumber_32 : decode cX2_passNumber 32 = .ok (.invokevirtual 84, 3) := by decide +kernel
theorem dX2_passNumber_35 : decode cX2_passNumber 35 = .ok (.ireturn, 1) := by decide +kernel
theorem dX2_passNumber_36 : decode cX2_passNumber 36 = .ok (.aload_n 0, 1) := by decide +kernel
theorem dX2_passNumber_37 : decode cX2_passNumber 37 = .ok (.aload_n 0, 1) := by decide +kernel
theorem dX2_passNumber_38 : decode cX2_passNumber 38 = .ok (.getfield 100, 3) := by decide +kernel
theorem dX2_passNumber_41 : decode cX2_passNumber 41 = .ok (.putfield 62, 3) := by decide +kernel
theorem dX2_passNumber_44 : decode cX2_passNumber 44 = .ok (.aload_n 0, 1) := by decide +kernel
theorem dX2_passNumber_45 : decode cX2_passNumber 45 = .ok (.invokevirtual 37, 3) := by decide +kernel
theorem dX2_passNumber_48 : decode cX2_passNumber 48 = .ok (.iconst 1, 1) := by decide +kernel
theorem dX2_passNumber_49 : decode cX2_passNumber 49 = .ok (.ireturn, 1) := by decide +kernel
theorem dX2_passSign_0 : decode cX2_passSign 0 = .ok (.aload_n 0, 1) := by decide +kernel
theorem dX2_passSign_1 : decode cX2_passSign 1 = .ok (.getfield 40, 3) := by decide +kernel
theorem dX2_passSign_4 : decode cX2_passSign 4 = .ok (.iconst 3, 1) := by decide +kernel
theorem dX2_passSign_5 : decode cX2_passSign 5 = .ok (.if_icmp .eq 9, 3) := by decide +kernel
theorem dX2_passSign_8 : decode cX2_passSign 8 = .ok (.aload_n 0, 1) := by decide +kernel
theorem dX2_passSign_9 : decode cX2_passSign 9 = .ok (.iconst 1, 1) := by decide +kernel
theorem dX2_passSign_10 : decode cX2_passSign 10 = .ok (.invokevirtual 84, 3) := by decide +kernel
theorem dX2_passSign_13 : decode cX2_passSign 13 = .ok (.ireturn, 1) := by decide +kernel
theorem dX2_passSign_14 : decode cX2_passSign 14 = .ok (.aload_n 0, 1) := by decide +kernel
theorem dX2_passSign_15 : decode cX2_passSign 15 = .ok (.invokevirtual 37, 3) := by decide +kernel
theorem dX2_passSign_18 : decode cX2_passSign 18 = .ok (.iconst 1, 1) := by decide +kernel
theorem dX2_passSign_19 : decode cX2_passSign 19 = .ok (.ireturn, 1) := by decide +kernel
theorem dX2_kindOfWord_0 : decode cX2_kindOfWord 0 = .ok (.iconst 0, 1) := by decide +kernel
theorem dX2_kindOfWord_1 : decode cX2_kindOfWord 1 = .ok (.istore_n 1, 1) := by decide +kernel
theorem dX2_kindOfWord_2 : decode cX2_kindOfWord 2 = .ok (.iload_n 1, 1) := by decide +kernel
theorem dX2_kindOfWord_3 : decode cX2_kindOfWord 3 = .ok (.bipush 9, 2) := by decide +kernel
theorem dX2_kindOfWord_5 : decode cX2_kindOfWord 5 = .ok (.if_icmp .ge 22, 3) := by decide +kernel
theorem dX2_kindOfWord_8 : decode cX2_kindOfWord 8 = .ok (.aload_n 0, 1) := by decide +kernel
theorem dX2_kindOfWord_9 : decode cX2_kindOfWord 9 = .ok (.iload_n 1, 1) := by decide +kernel
theorem dX2_kindOfWord_10 : decode cX2_kindOfWord 10 = .ok (.invokestatic 117, 3) := by decide +kernel
theorem dX2_kindOfWord_13 : decode cX2_kindOfWord 13 = .ok (.invokevirtual 114, 3) := by decide +kernel
theorem dX2_kindOfWord_16 : decode cX2_kindOfWord 16 = .ok (.ifCond .eq 5, 3) := by decide +kernel
theorem dX2_kindOfWord_19 : decode cX2_kindOfWord 19 = .ok (.iload_n 1, 1) := by decide +kernel
theorem dX2_kindOfWord_20 : decode cX2_kindOfWord 20 = .ok (.ireturn, 1) := by decide +kernel
theorem dX2_kindOfWord_21 : decode cX2_kindOfWord 21 = .ok (.iinc 1 1, 3) := by decide +kernel
theorem dX2_kindOfWord_24 : decode cX2_kindOfWord 24 = .ok (.goto (-22), 3) := by decide +kernel
theorem dX2_kindOfWord_27 : decode cX2_kindOfWord 27 = .ok (.iconst (-1), 1) := by decide +kernel
theorem dX2_kindOfWord_28 : decode cX2_kindOfWord 28 = .ok (.ireturn, 1) := by decide +kernel
theorem dX2_wordOf_0 : decode cX2_wordOf 0 = .ok (.iload_n 0, 1) := by decide +kernel
theorem dX2_wordOf_1 : decode cX2_wordOf 1 = .ok (.tableswitch 71 0 7 #[47, 50, 53, 56, 59, 62, 65, 68], 47) := by decide +kernel
theorem dX2_wordOf_48 : decode cX2_wordOf 48 = .ok (.ldc 121, 2) := by decide +kernel
theorem dX2_wordOf_50 : decode cX2_wordOf 50 = .ok (.areturn, 1) := by decide +kernel
theorem dX2_wordOf_51 : decode cX2_wordOf 51 = .ok (.ldc 123, 2) := by decide +kernel
theorem dX2_wordOf_53 : decode cX2_wordOf 53 = .ok (.areturn, 1) := by decide +kernel
theorem dX2_wordOf_54 : decode cX2_wordOf 54 = .ok (.ldc 125, 2) := by decide +kernel
theorem dX2_wordOf_56 : decode cX2_wordOf 56 = .ok (.areturn, 1) := by decide +kernel
theorem dX2_wordOf_57 : decode cX2_wordOf 57 = .ok (.ldc 127, 2) := by decide +kernel
theorem dX2_wordOf_59 : decode cX2_wordOf 59 = .ok (.areturn, 1) := by decide +kernel
theorem dX2_wordOf_60 : decode cX2_wordOf 60 = .ok (.ldc 128, 2) := by decide +kernel
theorem dX2_wordOf_62 : decode cX2_wordOf 62 = .ok (.areturn, 1) := by decide +kernel
theorem dX2_wordOf_63 : decode cX2_wordOf 63 = .ok (.ldc 130, 2) := by decide +kernel
theorem dX2_wordOf_65 : decode cX2_wordOf 65 = .ok (.areturn, 1) := by decide +kernel
theorem dX2_wordOf_66 : decode cX2_wordOf 66 = .ok (.ldc 132, 2) := by decide +kernel
theorem dX2_wordOf_68 : decode cX2_wordOf 68 = .ok (.areturn, 1) := by decide +kernel
theorem dX2_wordOf_69 : decode cX2_wordOf 69 = .ok (.ldc 134, 2) := by decide +kernel
theorem dX2_wordOf_71 : decode cX2_wordOf 71 = .ok (.areturn, 1) := by decide +kernel
theorem dX2_wordOf_72 : decode cX2_wordOf 72 = .ok (.ldc 136, 2) := by decide +kernel
theorem dX2_wordOf_74 : decode cX2_wordOf 74 = .ok (.areturn, 1) := by decide +kernel
theorem dX2_isWord_0 : decode cX2_isWord 0 = .ok (.aload_n 0, 1) := by decide +kernel
theorem dX2_isWord_1 : decode cX2_isWord 1 = .ok (.getfield 40, 3) := by decide +kernel
theorem dX2_isWord_4 : decode cX2_isWord 4 = .ok (.iconst 1, 1) := by decide +kernel
theorem dX2_isWord_5 : decode cX2_isWord 5 = .ok (.if_icmp .ne 19, 3) := by decide +kernel
theorem dX2_isWord_8 : decode cX2_isWord 8 = .ok (.aload_n 0, 1) := by decide +kernel
theorem dX2_isWord_9 : decode cX2_isWord 9 = .ok (.getfield 29, 3) := by decide +kernel
theorem dX2_isWord_12 : decode cX2_isWord 12 = .ok (.aload_n 0, 1) := by decide +kernel
theorem dX2_isWord_13 : decode cX2_isWord 13 = .ok (.getfield 111, 3) := by decide +kernel
theorem dX2_isWord_16 : decode cX2_isWord 16 = .ok (.isub, 1) := by decide +kernel
theorem dX2_isWord_17 : decode cX2_isWord 17 = .ok (.aload_n 1, 1) := by decide +kernel
theorem dX2_isWord_18 : decode cX2_isWord 18 = .ok (.invokevirtual 138, 3) := by decide +kernel
theorem dX2_isWord_21 : decode cX2_isWord 21 = .ok (.if_icmp .eq 5, 3) := by decide +kernel
theorem dX2_isWord_24 : decode cX2_isWord 24 = .ok (.iconst 0, 1) := by decide +kernel
theorem dX2_isWord_25 : decode cX2_isWord 25 = .ok (.ireturn, 1) := by decide +kernel
theorem dX2_isWord_26 : decode cX2_isWord 26 = .ok (.iconst 0, 1) := by decide +kernel
theorem dX2_isWord_27 : decode cX2_isWord 27 = .ok (.istore_n 2, 1) := by decide +kernel
theorem dX2_isWord_28 : decode cX2_isWord 28 = .ok (.iload_n 2, 1) := by decide +kernel
theorem dX2_isWord_29 : decode cX2_isWord 29 = .ok (.aload_n 1, 1) := by decide +kernel
theorem dX2_isWord_30 : decode cX2_isWord 30 = .ok (.invokevirtual 138, 3) := by decide +kernel
theorem dX2_isWord_33 : decode cX2_isWord 33 = .ok (.if_icmp .ge 29, 3) := by decide +kernel
theorem dX2_isWord_36 : decode cX2_isWord 36 = .ok (.aload_n 0, 1) := by decide +kernel
theorem dX2_isWord_37 : decode cX2_isWord 37 = .ok (.aload_n 0, 1) := by decide +kernel
theorem dX2_isWord_38 : decode cX2_isWord 38 = .ok (.getfield 111, 3) := by decide +kernel
theorem dX2_isWord_41 : decode cX2_isWord 41 = .ok (.iload_n 2, 1) := by decide +kernel
theorem dX2_isWord_42 : decode cX2_isWord 42 = .ok (.iadd, 1) := by decide +kernel
theorem dX2_isWord_43 : decode cX2_isWord 43 = .ok (.invokevirtual 142, 3) := by decide +kernel
theorem dX2_isWord_46 : decode cX2_isWord 46 = .ok (.aload_n 1, 1) := by decide +kernel
theorem dX2_isWord_47 : decode cX2_isWord 47 = .ok (.iload_n 2, 1) := by decide +kernel
theorem dX2_isWord_48 : decode cX2_isWord 48 = .ok (.invokevirtual 146, 3) := by decide +kernel
theorem dX2_isWord_51 : decode cX2_isWord 51 = .ok (.if_icmp .eq 5, 3) := by decide +kernel
theorem dX2_isWord_54 : decode cX2_isWord 54 = .ok (.iconst 0, 1) := by decide +kernel
theorem dX2_isWord_55 : decode cX2_isWord 55 = .ok (.ireturn, 1) := by decide +kernel
theorem dX2_isWord_56 : decode cX2_isWord 56 = .ok (.iinc 2 1, 3) := by decide +kernel
theorem dX2_isWord_59 : decode cX2_isWord 59 = .ok (.goto (-31), 3) := by decide +kernel
theorem dX2_isWord_62 : decode cX2_isWord 62 = .ok (.iconst 1, 1) := by decide +kernel
theorem dX2_isWord_63 : decode cX2_isWord 63 = .ok (.ireturn, 1) := by decide +kernel
theorem dX2_byteAt_0 : decode cX2_byteAt 0 = .ok (.iload_n 1, 1) := by decide +kernel
theorem dX2_byteAt_1 : decode cX2_byteAt 1 = .ok (.ifCond .lt 27, 3) := by decide +kernel
theorem dX2_byteAt_4 : decode cX2_byteAt 4 = .ok (.iload_n 1, 1) := by decide +kernel
theorem dX2_byteAt_5 : decode cX2_byteAt 5 = .ok (.aload_n 0, 1) := by decide +kernel
theorem dX2_byteAt_6 : decode cX2_byteAt 6 = .ok (.getfield 23, 3) := by decide +kernel
theorem dX2_byteAt_9 : decode cX2_byteAt 9 = .ok (.if_icmp .ge 19, 3) := by decide +kernel
theorem dX2_byteAt_12 : decode cX2_byteAt 12 = .ok (.iload_n 1, 1) := by decide +kernel
theorem dX2_byteAt_13 : decode cX2_byteAt 13 = .ok (.sipush 700, 3) := by decide +kernel
theorem dX2_byteAt_16 : decode cX2_byteAt 16 = .ok (.if_icmp .ge 12, 3) := by decide +kernel
theorem dX2_byteAt_19 : decode cX2_byteAt 19 = .ok (.aload_n 0, 1) := by decide +kernel
theorem dX2_byteAt_20 : decode cX2_byteAt 20 = .ok (.getfield 15, 3) := by decide +kernel
theorem dX2_byteAt_23 : decode cX2_byteAt 23 = .ok (.iload_n 1, 1) := by decide +kernel
theorem dX2_byteAt_24 : decode cX2_byteAt 24 = .ok (.baload, 1) := by decide +kernel
theorem dX2_byteAt_25 : decode cX2_byteAt 25 = .ok (.goto 5, 3) := by decide +kernel
theorem dX2_byteAt_28 : decode cX2_byteAt 28 = .ok (.bipush 32, 2) := by decide +kernel
theorem dX2_byteAt_30 : decode cX2_byteAt 30 = .ok (.ireturn, 1) := by decide +kernel
theorem dX2_advance_0 : decode cX2_advance 0 = .ok (.aload_n 0, 1) := by decide +kernel
theorem dX2_advance_1 : decode cX2_advance 1 = .ok (.getfield 29, 3) := by decide +kernel
theorem dX2_advance_4 : decode cX2_advance 4 = .ok (.istore_n 1, 1) := by decide +kernel
theorem dX2_advance_5 : decode cX2_advance 5 = .ok (.iload_n 1, 1) := by decide +kernel
theorem dX2_advance_6 : decode cX2_advance 6 = .ok (.aload_n 0, 1) := by decide +kernel
theorem dX2_advance_7 : decode cX2_advance 7 = .ok (.getfield 23, 3) := by decide +kernel
theorem dX2_advance_10 : decode cX2_advance 10 = .ok (.if_icmp .ge 20, 3) := by decide +kernel
theorem dX2_advance_13 : decode cX2_advance 13 = .ok (.aload_n 0, 1) := by decide +kernel
theorem dX2_advance_14 : decode cX2_advance 14 = .ok (.iload_n 1, 1) := by decide +kernel
theorem dX2_advance_15 : decode cX2_advance 15 = .ok (.invokevirtual 142, 3) := by decide +kernel
theorem dX2_advance_18 : decode cX2_advance 18 = .ok (.invokestatic 150, 3) := by decide +kernel
theorem dX2_advance_21 : decode cX2_advance 21 = .ok (.ifCond .eq 9, 3) := by decide +kernel
theorem dX2_advance_24 : decode cX2_advance 24 = .ok (.iinc 1 1, 3) := by decide +kernel
theorem dX2_advance_27 : decode cX2_advance 27 = .ok (.goto (-22), 3) := by decide +kernel
theorem dX2_advance_30 : decode cX2_advance 30 = .ok (.aload_n 0, 1) := by decide +kernel
theorem dX2_advance_31 : decode cX2_advance 31 = .ok (.iload_n 1, 1) := by decide +kernel
theorem dX2_advance_32 : decode cX2_advance 32 = .ok (.putfield 111, 3) := by decide +kernel
theorem dX2_advance_35 : decode cX2_advance 35 = .ok (.aload_n 0, 1) := by decide +kernel
theorem dX2_advance_36 : decode cX2_advance 36 = .ok (.iload_n 1, 1) := by decide +kernel
theorem dX2_advance_37 : decode cX2_advance 37 = .ok (.invokevirtual 142, 3) := by decide +kernel
theorem dX2_advance_40 : decode cX2_advance 40 = .ok (.istore_n 2, 1) := by decide +kernel
theorem dX2_advance_41 : decode cX2_advance 41 = .ok (.iload_n 1, 1) := by decide +kernel
theorem dX2_advance_42 : decode cX2_advance 42 = .ok (.aload_n 0, 1) := by decide +kernel
theorem dX2_advance_43 : decode cX2_advance 43 = .ok (.getfield 23, 3) := by decide +kernel
theorem dX2_advance_46 : decode cX2_advance 46 = .ok (.if_icmp .lt 11, 3) := by decide +kernel
theorem dX2_advance_49 : decode cX2_advance 49 = .ok (.aload_n 0, 1) := by decide +kernel
theorem dX2_advance_50 : decode cX2_advance 50 = .ok (.iconst 0, 1) := by decide +kernel
theorem dX2_advance_51 : decode cX2_advance 51 = .ok (.putfield 40, 3) := by decide +kernel
theorem dX2_advance_54 : decode cX2_advance 54 = .ok (.goto 79, 3) := by decide +kernel
theorem dX2_advance_57 : decode cX2_advance 57 = .ok (.iload_n 2, 1) := by decide +kernel
theorem dX2_advance_58 : decode cX2_advance 58 = .ok (.invokestatic 153, 3) := by decide +kernel
theorem dX2_advance_61 : decode cX2_advance 61 = .ok (.ifCond .eq 33, 3) := by decide +kernel
theorem dX2_advance_64 : decode cX2_advance 64 = .ok (.aload_n 0, 1) := by decide +kernel
theorem dX2_advance_65 : decode cX2_advance 65 = .ok (.iconst 1, 1) := by decide +kernel
theorem dX2_advance_66 : decode cX2_advance 66 = .ok (.putfield 40, 3) := by decide +kernel
theorem dX2_advance_69 : decode cX2_advance 69 = .ok (.iload_n 1, 1) := by decide +kernel
theorem dX2_advance_70 : decode cX2_advance 70 = .ok (.aload_n 0, 1) := by decide +kernel
theorem dX2_advance_71 : decode cX2_advance 71 = .ok (.getfield 23, 3) := by decide +kernel
theorem dX2_advance_74 : decode cX2_advance 74 = .ok (.if_icmp .ge 59, 3) := by decide +kernel
theorem dX2_advance_77 : decode cX2_advance 77 = .ok (.aload_n 0, 1) := by decide +kernel
theorem dX2_advance_78 : decode cX2_advance 78 = .ok (.iload_n 1, 1) := by decide +kernel
theorem dX2_advance_79 : decode cX2_advance 79 = .ok (.invokevirtual 142, 3) := by decide +kernel
theorem dX2_advance_82 : decode cX2_advance 82 = .ok (.invokestatic 153, 3) := by decide +kernel
theorem dX2_advance_85 : decode cX2_advance 85 = .ok (.ifCond .eq 48, 3) := by decide +kernel
theorem dX2_advance_88 : decode cX2_advance 88 = .ok (.iinc 1 1, 3) := by decide +kernel
theorem dX2_advance_91 : decode cX2_advance 91 = .ok (.goto (-22), 3) := by decide +kernel
theorem dX2_advance_94 : decode cX2_advance 94 = .ok (.iload_n 2, 1) := by decide +kernel
theorem dX2_advance_95 : decode cX2_advance 95 = .ok (.invokestatic 156, 3) := by decide +kernel
theorem dX2_advance_98 : decode cX2_advance 98 = .ok (.ifCond .eq 17, 3) := by decide +kernel
theorem dX2_advance_101 : decode cX2_advance 101 = .ok (.aload_n 0, 1) := by decide +kernel
theorem dX2_advance_102 : decode cX2_advance 102 = .ok (.iconst 2, 1) := by decide +kernel
theorem dX2_advance_103 : decode cX2_advance 103 = .ok (.putfield 40, 3) := by decide +kernel
theorem dX2_advance_106 : decode cX2_advance 106 = .ok (.aload_n 0, 1) := by decide +kernel
theorem dX2_advance_107 : decode cX2_advance 107 = .ok (.iload_n 1, 1) := by decide +kernel
theorem dX2_advance_108 : decode cX2_advance 108 = .ok (.invokevirtual 159, 3) := by decide +kernel
theorem dX2_advance_111 : decode cX2_advance 111 = .ok (.istore_n 1, 1) := by decide +kernel
theorem dX2_advance_112 : decode cX2_advance 112 = .ok (.goto 21, 3) := by decide +kernel
theorem dX2_advance_115 : decode cX2_advance 115 = .ok (.aload_n 0, 1) := by decide +kernel
theorem dX2_advance_116 : decode cX2_advance 116 = .ok (.iload_n 2, 1) := by decide +kernel
theorem dX2_advance_117 : decode cX2_advance 117 = .ok (.bipush 59, 2) := by decide +kernel
theorem dX2_advance_119 : decode cX2_advance 119 = .ok (.if_icmp .ne 7, 3) := by decide +kernel
theorem dX2_advance_122 : decode cX2_advance 122 = .ok (.iconst 3, 1) := by decide +kernel
theorem dX2_advance_123 : decode cX2_advance 123 = .ok (.goto 4, 3) := by decide +kernel
theorem dX2_advance_126 : decode cX2_advance 126 = .ok (.iconst 4, 1) := by decide +kernel
theorem dX2_advance_127 : decode cX2_advance 127 = .ok (.putfield 40, 3) := by decide +kernel
theorem dX2_advance_130 : decode cX2_advance 130 = .ok (.iinc 1 1, 3) := by decide +kernel
theorem dX2_advance_133 : decode cX2_advance 133 = .ok (.aload_n 0, 1) := by decide +kernel
theorem dX2_advance_134 : decode cX2_advance 134 = .ok (.iload_n 1, 1) := by decide +kernel
theorem dX2_advance_135 : decode cX2_advance 135 = .ok (.putfield 29, 3) := by decide +kernel
theorem dX2_advance_138 : decode cX2_advance 138 = .ok (.return_, 1) := by decide +kernel
theorem dX2_advanceNumber_0 : decode cX2_advanceNumber 0 = .ok (.iload_n 1, 1) := by decide +kernel
theorem dX2_advanceNumber_1 : decode cX2_advanceNumber 1 = .ok (.istore_n 2, 1) := by decide +kernel
theorem dX2_advanceNumber_2 : decode cX2_advanceNumber 2 = .ok (.aload_n 0, 1) := by decide +kernel
theorem dX2_advanceNumber_3 : decode cX2_advanceNumber 3 = .ok (.iconst 0, 1) := by decide +kernel
theorem dX2_advanceNumber_4 : decode cX2_advanceNumber 4 = .ok (.putfield 100, 3) := by decide +kernel
theorem dX2_advanceNumber_7 : decode cX2_advanceNumber 7 = .ok (.iload_n 2, 1) := by decide +kernel
theorem dX2_advanceNumber_8 : decode cX2_advanceNumber 8 = .ok (.aload_n 0, 1) := by decide +kernel
theorem dX2_advanceNumber_9 : decode cX2_advanceNumber 9 = .ok (.getfield 23, 3) := by decide +kernel
theorem dX2_advanceNumber_12 : decode cX2_advanceNumber 12 = .ok (.if_icmp .ge 45, 3) := by decide +kernel
theorem dX2_advanceNumber_15 : decode cX2_advanceNumber 15 = .ok (.aload_n 0, 1) := by decide +kernel
theorem dX2_advanceNumber_16 : decode cX2_advanceNumber 16 = .ok (.iload_n 2, 1) := by decide +kernel
theorem dX2_advanceNumber_17 : decode cX2_advanceNumber 17 = .ok (.invokevirtual 142, 3) := by decide +kernel
theorem dX2_advanceNumber_20 : decode cX2_advanceNumber 20 = .ok (.invokestatic 156, 3) := by decide +kernel
theorem dX2_advanceNumber_23 : decode cX2_advanceNumber 23 = .ok (.ifCond .eq 34, 3) := by decide +kernel
theorem dX2_advanceNumber_26 : decode cX2_advanceNumber 26 = .ok (.aload_n 0, 1) := by decide +kernel
theorem dX2_advanceNumber_27 : decode cX2_advanceNumber 27 = .ok (.aload_n 0, 1) := by decide +kernel
theorem dX2_advanceNumber_28 : decode cX2_advanceNumber 28 = .ok (.getfield 100, 3) := by decide +kernel
theorem dX2_advanceNumber_31 : decode cX2_advanceNumber 31 = .ok (.bipush 10, 2) := by decide +kernel
theorem dX2_advanceNumber_33 : decode cX2_advanceNumber 33 = .ok (.imul, 1) := by decide +kernel
theorem dX2_advanceNumber_34 : decode cX2_advanceNumber 34 = .ok (.aload_n 0, 1) := by decide +kernel
theorem dX2_advanceNumber_35 : decode cX2_advanceNumber 35 = .ok (.iload_n 2, 1) := by decide +kernel
theorem dX2_advanceNumber_36 : decode cX2_advanceNumber 36 = .ok (.invokevirtual 142, 3) := by decide +kernel
theorem dX2_advanceNumber_39 : decode cX2_advanceNumber 39 = .ok (.bipush 48, 2) := by decide +kernel
theorem dX2_advanceNumber_41 : decode cX2_advanceNumber 41 = .ok (.isub, 1) := by decide +kernel
theorem dX2_advanceNumber_42 : decode cX2_advanceNumber 42 = .ok (.iadd, 1) := by decide +kernel
theorem dX2_advanceNumber_43 : decode cX2_advanceNumber 43 = .ok (.ldc 162, 2) := by decide +kernel
theorem dX2_advanceNumber_45 : decode cX2_advanceNumber 45 = .ok (.invokestatic 163, 3) := by decide +kernel
theorem dX2_advanceNumber_48 : decode cX2_advanceNumber 48 = .ok (.putfield 100, 3) := by decide +kernel
theorem dX2_advanceNumber_51 : decode cX2_advanceNumber 51 = .ok (.iinc 2 1, 3) := by decide +kernel
theorem dX2_advanceNumber_54 : decode cX2_advanceNumber 54 = .ok (.goto (-47), 3) := by decide +kernel
theorem dX2_advanceNumber_57 : decode cX2_advanceNumber 57 = .ok (.iload_n 2, 1) := by decide +kernel
theorem dX2_advanceNumber_58 : decode cX2_advanceNumber 58 = .ok (.ireturn, 1) := by decide +kernel
theorem dX2_isBlank_0 : decode cX2_isBlank 0 = .ok (.iload_n 0, 1) := by decide +kernel
theorem dX2_isBlank_1 : decode cX2_isBlank 1 = .ok (.bipush 32, 2) := by decide +kernel
theorem dX2_isBlank_3 : decode cX2_isBlank 3 = .ok (.if_icmp .eq 9, 3) := by decide +kernel
theorem dX2_isBlank_6 : decode cX2_isBlank 6 = .ok (.iload_n 0, 1) := by decide +kernel
theorem dX2_isBlank_7 : decode cX2_isBlank 7 = .ok (.bipush 10, 2) := by decide +kernel
theorem dX2_isBlank_9 : decode cX2_isBlank 9 = .ok (.if_icmp .ne 7, 3) := by decide +kernel
theorem dX2_isBlank_12 : decode cX2_isBlank 12 = .ok (.iconst 1, 1) := by decide +kernel
theorem dX2_isBlank_13 : decode cX2_isBlank 13 = .ok (.goto 4, 3) := by decide +kernel
theorem dX2_isBlank_16 : decode cX2_isBlank 16 = .ok (.iconst 0, 1) := by decide +kernel
theorem dX2_isBlank_17 : decode cX2_isBlank 17 = .ok (.ireturn, 1) := by decide +kernel
theorem dX2_isLetter_0 : decode cX2_isLetter 0 = .ok (.iload_n 0, 1) := by decide +kernel
theorem dX2_isLetter_1 : decode cX2_isLetter 1 = .ok (.bipush 97, 2) := by decide +kernel
theorem dX2_isLetter_3 : decode cX2_isLetter 3 = .ok (.if_icmp .lt 13, 3) := by decide +kernel
theorem dX2_isLetter_6 : decode cX2_isLetter 6 = .ok (.iload_n 0, 1) := by decide +kernel
theorem dX2_isLetter_7 : decode cX2_isLetter 7 = .ok (.bipush 122, 2) := by decide +kernel
theorem dX2_isLetter_9 : decode cX2_isLetter 9 = .ok (.if_icmp .gt 7, 3) := by decide +kernel
theorem dX2_isLetter_12 : decode cX2_isLetter 12 = .ok (.iconst 1, 1) := by decide +kernel
theorem dX2_isLetter_13 : decode cX2_isLetter 13 = .ok (.goto 4, 3) := by decide +kernel
theorem dX2_isLetter_16 : decode cX2_isLetter 16 = .ok (.iconst 0, 1) := by decide +kernel
theorem dX2_isLetter_17 : decode cX2_isLetter 17 = .ok (.ireturn, 1) := by decide +kernel
theorem dX2_isDigit_0 : decode cX2_isDigit 0 = .ok (.iload_n 0, 1) := by decide +kernel
theorem dX2_isDigit_1 : decode cX2_isDigit 1 = .ok (.bipush 48, 2) := by decide +kernel
theorem dX2_isDigit_3 : decode cX2_isDigit 3 = .ok (.if_icmp .lt 13, 3) := by decide +kernel
theorem dX2_isDigit_6 : decode cX2_isDigit 6 = .ok (.iload_n 0, 1) := by decide +kernel
theorem dX2_isDigit_7 : decode cX2_isDigit 7 = .ok (.bipush 57, 2) := by decide +kernel
theorem dX2_isDigit_9 : decode cX2_isDigit 9 = .ok (.if_icmp .gt 7, 3) := by decide +kernel
theorem dX2_isDigit_12 : decode cX2_isDigit 12 = .ok (.iconst 1, 1) := by decide +kernel
theorem dX2_isDigit_13 : decode cX2_isDigit 13 = .ok (.goto 4, 3) := by decide +kernel
theorem dX2_isDigit_16 : decode cX2_isDigit 16 = .ok (.iconst 0, 1) := by decide +kernel
theorem dX2_isDigit_17 : decode cX2_isDigit 17 = .ok (.ireturn, 1) := by decide +kernel
theorem dX3_init_0 : decode cX3_init 0 = .ok (.aload_n 0, 1) := by decide +kernel
theorem dX3_init_1 : decode cX3_init 1 = .ok (.invokespecial 3, 3) := by decide +kernel
theorem dX3_init_4 : decode cX3_init 4 = .ok (.aload_n 0, 1) := by decide +kernel
theorem dX3_init_5 : decode cX3_init 5 = .ok (.new 9, 3) := by decide +kernel
theorem dX3_init_8 : decode cX3_init 8 = .ok (.dup, 1) := by decide +kernel
theorem dX3_init_9 : decode cX3_init 9 = .ok (.invokespecial 11, 3) := by decide +kernel
theorem dX3_init_12 : decode cX3_init 12 = .ok (.putfield 12, 3) := by decide +kernel
theorem dX3_init_15 : decode cX3_init 15 = .ok (.aload_n 0, 1) := by decide +kernel
theorem dX3_init_16 : decode cX3_init 16 = .ok (.iconst (-1), 1) := by decide +kernel
theorem dX3_init_17 : decode cX3_init 17 = .ok (.putfield 18, 3) := by decide +kernel
theorem dX3_init_20 : decode cX3_init 20 = .ok (.aload_n 0, 1) := by decide +kernel
theorem dX3_init_21 : decode cX3_init 21 = .ok (.new 9, 3) := by decide +kernel
theorem dX3_init_24 : decode cX3_init 24 = .ok (.dup, 1) := by decide +kernel
theorem dX3_init_25 : decode cX3_init 25 = .ok (.invokespecial 11, 3) := by decide +kernel
theorem dX3_init_28 : decode cX3_init 28 = .ok (.putfield 22, 3) := by decide +kernel
theorem dX3_init_31 : decode cX3_init 31 = .ok (.aload_n 0, 1) := by decide +kernel
theorem dX3_init_32 : decode cX3_init 32 = .ok (.bipush 32, 2) := by decide +kernel
theorem dX3_init_34 : decode cX3_init 34 = .ok (.newarray .int, 2) := by decide +kernel
theorem dX3_init_36 : decode cX3_init 36 = .ok (.putfield 25, 3) := by decide +kernel
theorem dX3_init_39 : decode cX3_init 39 = .ok (.aload_n 0, 1) := by decide +kernel
theorem dX3_init_40 : decode cX3_init 40 = .ok (.bipush 60, 2) := by decide +kernel
theorem dX3_init_42 : decode cX3_init 42 = .ok (.newarray .int, 2) := by decide +kernel
theorem dX3_init_44 : decode cX3_init 44 = .ok (.putfield 29, 3) := by decide +kernel
theorem dX3_init_47 : decode cX3_init 47 = .ok (.aload_n 0, 1) := by decide +kernel
theorem dX3_init_48 : decode cX3_init 48 = .ok (.bipush 30, 2) := by decide +kernel
theorem dX3_init_50 : decode cX3_init 50 = .ok (.anewarray 32, 3) := by decide +kernel
theorem dX3_init_53 : decode cX3_init 53 = .ok (.putfield 34, 3) := by decide +kernel
theorem dX3_init_56 : decode cX3_init 56 = .ok (.iconst 0, 1) := by decide +kernel
theorem dX3_init_57 : decode cX3_init 57 = .ok (.istore_n 1, 1) := by decide +kernel
theorem dX3_init_58 : decode cX3_init 58 = .ok (.iload_n 1, 1) := by decide +kernel
theorem dX3_init_59 : decode cX3_init 59 = .ok (.bipush 30, 2) := by decide +kernel
theorem dX3_init_61 : decode cX3_init 61 = .ok (.if_icmp .ge 22, 3) := by decide +kernel
theorem dX3_init_64 : decode cX3_init 64 = .ok (.aload_n 0, 1) := by decide +kernel
theorem dX3_init_65 : decode cX3_init 65 = .ok (.getfield 34, 3) := by decide +kernel
theorem dX3_init_68 : decode cX3_init 68 = .ok (.iload_n 1, 1) := by decide +kernel
theorem dX3_init_69 : decode cX3_init 69 = .ok (.new 32, 3) := by decide +kernel
theorem dX3_init_72 : decode cX3_init 72 = .ok (.dup, 1) := by decide +kernel
theorem dX3_init_73 : decode cX3_init 73 = .ok (.invokespecial 38, 3) := by decide +kernel
theorem dX3_init_76 : decode cX3_init 76 = .ok (.aastore, 1) := by decide +kernel
theorem dX3_init_77 : decode cX3_init 77 = .ok (.iinc 1 1, 3) := by decide +kernel
theorem dX3_init_80 : decode cX3_init 80 = .ok (.goto (-22), 3) := by decide +kernel
theorem dX3_init_83 : decode cX3_init 83 = .ok (.return_, 1) := by decide +kernel
theorem dX3_clear_0 : decode cX3_clear 0 = .ok (.aload_n 0, 1) := by decide +kernel
theorem dX3_clear_1 : decode cX3_clear 1 = .ok (.iconst 0, 1) := by decide +kernel
theorem dX3_clear_2 : decode cX3_clear 2 = .ok (.iload_n 1, 1) := by decide +kernel
theorem dX3_clear_3 : decode cX3_clear 3 = .ok (.bipush 32, 2) := by decide +kernel
theorem dX3_clear_5 : decode cX3_clear 5 = .ok (.invokestatic 39, 3) := by decide +kernel
theorem dX3_clear_8 : decode cX3_clear 8 = .ok (.invokestatic 45, 3) := by decide +kernel
theorem dX3_clear_11 : decode cX3_clear 11 = .ok (.putfield 48, 3) := by decide +kernel
theorem dX3_clear_14 : decode cX3_clear 14 = .ok (.aload_n 0, 1) := by decide +kernel
theorem dX3_clear_15 : decode cX3_clear 15 = .ok (.iload_n 2, 1) := by decide +kernel
theorem dX3_clear_16 : decode cX3_clear 16 = .ok (.putfield 51, 3) := by decide +kernel
theorem dX3_clear_19 : decode cX3_clear 19 = .ok (.aload_n 0, 1) := by decide +kernel
theorem dX3_clear_20 : decode cX3_clear 20 = .ok (.getfield 12, 3) := by decide +kernel
theorem dX3_clear_23 : decode cX3_clear 23 = .ok (.aload_n 0, 1) := by decide +kernel
theorem dX3_clear_24 : decode cX3_clear 24 = .ok (.getfield 48, 3) := by decide +kernel
theorem dX3_clear_27 : decode cX3_clear 27 = .ok (.invokevirtual 54, 3) := by decide +kernel
theorem dX3_clear_30 : decode cX3_clear 30 = .ok (.aload_n 0, 1) := by decide +kernel
theorem dX3_clear_31 : decode cX3_clear 31 = .ok (.iconst 0, 1) := by decide +kernel
theorem dX3_clear_32 : decode cX3_clear 32 = .ok (.putfield 58, 3) := by decide +kernel
theorem dX3_clear_35 : decode cX3_clear 35 = .ok (.aload_n 0, 1) := by decide +kernel
theorem dX3_clear_36 : decode cX3_clear 36 = .ok (.iconst 0, 1) := by decide +kernel
theorem dX3_clear_37 : decode cX3_clear 37 = .ok (.putfield 61, 3) := by decide +kernel
theorem dX3_clear_40 : decode cX3_clear 40 = .ok (.aload_n 0, 1) := by decide +kernel
theorem dX3_clear_41 : decode cX3_clear 41 = .ok (.iconst 0, 1) := by decide +kernel
theorem dX3_clear_42 : decode cX3_clear 42 = .ok (.putfield 64, 3) := by decide +kernel
theorem dX3_clear_45 : decode cX3_clear 45 = .ok (.aload_n 0, 1) := by decide +kernel
theorem dX3_clear_46 : decode cX3_clear 46 = .ok (.iconst (-1), 1) := by decide +kernel
theorem dX3_clear_47 : decode cX3_clear 47 = .ok (.putfield 18, 3) := by decide +kernel
theorem dX3_clear_50 : decode cX3_clear 50 = .ok (.aload_n 0, 1) := by decide +kernel
theorem dX3_clear_51 : decode cX3_clear 51 = .ok (.iconst 0, 1) := by decide +kernel
theorem dX3_clear_52 : decode cX3_clear 52 = .ok (.putfield 67, 3) := by decide +kernel
theorem dX3_clear_55 : decode cX3_clear 55 = .ok (.aload_n 0, 1) := by decide +kernel
theorem dX3_clear_56 : decode cX3_clear 56 = .ok (.iconst 0, 1) := by decide +kernel
theorem dX3_clear_57 : decode cX3_clear 57 = .ok (.putfield 71, 3) := by decide +kernel
theorem dX3_clear_60 : decode cX3_clear 60 = .ok (.aload_n 0, 1) := by decide +kernel
theorem dX3_clear_61 : decode cX3_clear 61 = .ok (.iconst 0, 1) := by decide +kernel
theorem dX3_clear_62 : decode cX3_clear 62 = .ok (.putfield 74, 3) := by decide +kernel
theorem dX3_clear_65 : decode cX3_clear 65 = .ok (.aload_n 0, 1) := by decide +kernel
theorem dX3_clear_66 : decode cX3_clear 66 = .ok (.iconst 0, 1) := by decide +kernel
theorem dX3_clear_67 : decode cX3_clear 67 = .ok (.putfield 77, 3) := by decide +kernel
theorem dX3_clear_70 : decode cX3_clear 70 = .ok (.aload_n 0, 1) := by decide +kernel
theorem dX3_clear_71 : decode cX3_clear 71 = .ok (.getfield 25, 3) := by decide +kernel
theorem dX3_clear_74 : decode cX3_clear 74 = .ok (.iconst (-1), 1) := by decide +kernel
theorem dX3_clear_75 : decode cX3_clear 75 = .ok (.invokestatic 80, 3) := by decide +kernel
theorem dX3_clear_78 : decode cX3_clear 78 = .ok (.aload_n 0, 1) := by decide +kernel
theorem dX3_clear_79 : decode cX3_clear 79 = .ok (.getfield 29, 3) := by decide +kernel
theorem dX3_clear_82 : decode cX3_clear 82 = .ok (.iconst 0, 1) := by decide +kernel
theorem dX3_clear_83 : decode cX3_clear 83 = .ok (.invokestatic 80, 3) := by decide +kernel
theorem dX3_clear_86 : decode cX3_clear 86 = .ok (.return_, 1) := by decide +kernel
theorem dX3_play_0 : decode cX3_play 0 = .ok (.aload_n 0, 1) := by decide +kernel
theorem dX3_play_1 : decode cX3_play 1 = .ok (.aload_n 1, 1) := by decide +kernel
theorem dX3_play_2 : decode cX3_play 2 = .ok (.getfield 86, 3) := by decide +kernel
theorem dX3_play_5 : decode cX3_play 5 = .ok (.iload_n 2, 1) := by decide +kernel
theorem dX3_play_6 : decode cX3_play 6 = .ok (.invokevirtual 89, 3) := by decide +kernel
theorem dX3_play_9 : decode cX3_play 9 = .ok (.iconst 0, 1) := by decide +kernel
theorem dX3_play_10 : decode cX3_play 10 = .ok (.istore 5, 2) := by decide +kernel
theorem dX3_play_12 : decode cX3_play 12 = .ok (.iload 5, 2) := by decide +kernel
theorem dX3_play_14 : decode cX3_play 14 = .ok (.aload_n 1, 1) := by decide +kernel
theorem dX3_play_15 : decode cX3_play 15 = .ok (.invokevirtual 92, 3) := by decide +kernel
theorem dX3_play_18 : decode cX3_play 18 = .ok (.if_icmp .ge 32, 3) := by decide +kernel
theorem dX3_play_21 : decode cX3_play 21 = .ok (.iload 5, 2) := by decide +kernel
theorem dX3_play_23 : decode cX3_play 23 = .ok (.bipush 60, 2) := by decide +kernel
theorem dX3_play_25 : decode cX3_play 25 = .ok (.if_icmp .ge 25, 3) := by decide +kernel
theorem dX3_play_28 : decode cX3_play 28 = .ok (.lload_n 3, 1) := by decide +kernel
theorem dX3_play_29 : decode cX3_play 29 = .ok (.iload 5, 2) := by decide +kernel
theorem dX3_play_31 : decode cX3_play 31 = .ok (.invokestatic 96, 3) := by decide +kernel
theorem dX3_play_34 : decode cX3_play 34 = .ok (.ifCond .ne 10, 3) := by decide +kernel
theorem dX3_play_37 : decode cX3_play 37 = .ok (.aload_n 0, 1) := by decide +kernel
theorem dX3_play_38 : decode cX3_play 38 = .ok (.aload_n 1, 1) := by decide +kernel
theorem dX3_play_39 : decode cX3_play 39 = .ok (.iload 5, 2) := by decide +kernel
theorem dX3_play_41 : decode cX3_play 41 = .ok (.invokevirtual 100, 3) := by decide +kernel
theorem dX3_play_44 : decode cX3_play 44 = .ok (.iinc 5 1, 3) := by decide +kernel
theorem dX3_play_47 : decode cX3_play 47 = .ok (.goto (-35), 3) := by decide +kernel
theorem dX3_play_50 : decode cX3_play 50 = .ok (.return_, 1) := by decide +kernel
theorem dX3_step_0 : decode cX3_step 0 = .ok (.aload_n 0, 1) := by decide +kernel
theorem dX3_step_1 : decode cX3_step 1 = .ok (.iload_n 2, 1) := by decide +kernel
theorem dX3_step_2 : decode cX3_step 2 = .ok (.iconst 1, 1) := by decide +kernel
theorem dX3_step_3 : decode cX3_step 3 = .ok (.iadd, 1) := by decide +kernel
theorem dX3_step_4 : decode cX3_step 4 = .ok (.putfield 58, 3) := by decide +kernel
theorem dX3_step_7 : decode cX3_step 7 = .ok (.aload_n 0, 1) := by decide +kernel
theorem dX3_step_8 : decode cX3_step 8 = .ok (.iconst 0, 1) := by decide +kernel
theorem dX3_step_9 : decode cX3_step 9 = .ok (.putfield 74, 3) := by decide +kernel
theorem dX3_step_12 : decode cX3_step 12 = .ok (.aload_n 0, 1) := by decide +kernel
theorem dX3_step_13 : decode cX3_step 13 = .ok (.iconst 0, 1) := by decide +kernel
theorem dX3_step_14 : decode cX3_step 14 = .ok (.putfield 77, 3) := by decide +kernel
theorem dX3_step_17 : decode cX3_step 17 = .ok (.aload_n 1, 1) := by decide +kernel
theorem dX3_step_18 : decode cX3_step 18 = .ok (.iload_n 2, 1) := by decide +kernel
theorem dX3_step_19 : decode cX3_step 19 = .ok (.invokevirtual 104, 3) := by decide +kernel
theorem dX3_step_22 : decode cX3_step 22 = .ok (.istore_n 3, 1) := by decide +kernel
theorem dX3_step_23 : decode cX3_step 23 = .ok (.aload_n 0, 1) := by decide +kernel
theorem dX3_step_24 : decode cX3_step 24 = .ok (.aload_n 0, 1) := by decide +kernel
theorem dX3_step_25 : decode cX3_step 25 = .ok (.iload_n 3, 1) := by decide +kernel
theorem dX3_step_26 : decode cX3_step 26 = .ok (.invokevirtual 108, 3) := by decide +kernel
theorem dX3_step_29 : decode cX3_step 29 = .ok (.putfield 71, 3) := by decide +kernel
theorem dX3_step_32 : decode cX3_step 32 = .ok (.aload_n 0, 1) := by decide +kernel
theorem dX3_step_33 : decode cX3_step 33 = .ok (.getfield 71, 3) := by decide +kernel
theorem dX3_step_36 : decode cX3_step 36 = .ok (.ifCond .eq 4, 3) := by decide +kernel
theorem dX3_step_39 : decode cX3_step 39 = .ok (.return_, 1) := by decide +kernel
theorem dX3_step_40 : decode cX3_step 40 = .ok (.iload_n 3, 1) := by decide +kernel
theorem dX3_step_41 : decode cX3_step 41 = .ok (.tableswitch 101 4 8 #[35, 48, 61, 74, 90], 35) := by decide +kernel
theorem dX3_step_76 : decode cX3_step 76 = .ok (.aload_n 0, 1) := by decide +kernel
theorem dX3_step_77 : decode cX3_step 77 = .ok (.iconst 1, 1) := by decide +kernel
theorem dX3_step_78 : decode cX3_step 78 = .ok (.iload_n 2, 1) := by decide +kernel
theorem dX3_step_79 : decode cX3_step 79 = .ok (.aload_n 0, 1) := by decide +kernel
theorem dX3_step_80 : decode cX3_step 80 = .ok (.invokevirtual 111, 3) := by decide +kernel
theorem dX3_step_83 : decode cX3_step 83 = .ok (.invokevirtual 114, 3) := by decide +kernel
theorem dX3_step_86 : decode cX3_step 86 = .ok (.goto 62, 3) := by decide +kernel
theorem dX3_step_89 : decode cX3_step 89 = .ok (.aload_n 0, 1) := by decide +kernel
theorem dX3_step_90 : decode cX3_step 90 = .ok (.iconst 0, 1) := by decide +kernel
theorem dX3_step_91 : decode cX3_step 91 = .ok (.iload_n 2, 1) := by decide +kernel
theorem dX3_step_92 : decode cX3_step 92 = .ok (.aload_n 0, 1) := by decide +kernel
theorem dX3_step_93 : decode cX3_step 93 = .ok (.getfield 61, 3) := by decide +kernel
theorem dX3_step_96 : decode cX3_step 96 = .ok (.invokevirtual 114, 3) := by decide +kernel
theorem dX3_step_99 : decode cX3_step 99 = .ok (.goto 49, 3) := by decide +kernel
theorem dX3_step_102 : decode cX3_step 102 = .ok (.aload_n 0, 1) := by decide +kernel
theorem dX3_step_103 : decode cX3_step 103 = .ok (.aload_n 1, 1) := by decide +kernel
theorem dX3_step_104 : decode cX3_step 104 = .ok (.iload_n 2, 1) := by decide +kernel
theorem dX3_step_105 : decode cX3_step 105 = .ok (.iconst 0, 1) := by decide +kernel
theorem dX3_step_106 : decode cX3_step 106 = .ok (.invokevirtual 118, 3) := by decide +kernel
theorem dX3_step_109 : decode cX3_step 109 = .ok (.invokevirtual 121, 3) := by decide +kernel
theorem dX3_step_112 : decode cX3_step 112 = .ok (.goto 36, 3) := by decide +kernel
theorem dX3_step_115 : decode cX3_step 115 = .ok (.aload_n 0, 1) := by decide +kernel
theorem dX3_step_116 : decode cX3_step 116 = .ok (.bipush 32, 2) := by decide +kernel
theorem dX3_step_118 : decode cX3_step 118 = .ok (.invokevirtual 121, 3) := by decide +kernel
theorem dX3_step_121 : decode cX3_step 121 = .ok (.aload_n 0, 1) := by decide +kernel
theorem dX3_step_122 : decode cX3_step 122 = .ok (.iload_n 2, 1) := by decide +kernel
theorem dX3_step_123 : decode cX3_step 123 = .ok (.iconst 1, 1) := by decide +kernel
theorem dX3_step_124 : decode cX3_step 124 = .ok (.iadd, 1) := by decide +kernel
theorem dX3_step_125 : decode cX3_step 125 = .ok (.invokevirtual 124, 3) := by decide +kernel
theorem dX3_step_128 : decode cX3_step 128 = .ok (.goto 20, 3) := by decide +kernel
theorem dX3_step_131 : decode cX3_step 131 = .ok (.aload_n 0, 1) := by decide +kernel
theorem dX3_step_132 : decode cX3_step 132 = .ok (.iconst 2, 1) := by decide +kernel
theorem dX3_step_133 : decode cX3_step 133 = .ok (.iload_n 2, 1) := by decide +kernel
theorem dX3_step_134 : decode cX3_step 134 = .ok (.iconst 1, 1) := by decide +kernel
theorem dX3_step_135 : decode cX3_step 135 = .ok (.iadd, 1) := by decide +kernel
theorem dX3_step_136 : decode cX3_step 136 = .ok (.invokevirtual 127, 3) := by decide +kernel
theorem dX3_step_139 : decode cX3_step 139 = .ok (.goto 9, 3) := by decide +kernel
theorem dX3_step_142 : decode cX3_step 142 = .ok (.aload_n 0, 1) := by decide +kernel
theorem dX3_step_143 : decode cX3_step 143 = .ok (.aload_n 1, 1) := by decide +kernel
theorem dX3_step_144 : decode cX3_step 144 = .ok (.iload_n 2, 1) := by decide +kernel
theorem dX3_step_145 : decode cX3_step 145 = .ok (.invokevirtual 130, 3) := by decide +kernel
theorem dX3_step_148 : decode cX3_step 148 = .ok (.return_, 1) := by decide +kernel
theorem dX3_refusal_0 : decode cX3_refusal 0 = .ok (.aload_n 0, 1) := by decide +kernel
theorem dX3_refusal_1 : decode cX3_refusal 1 = .ok (.getfield 18, 3) := by decide +kernel
theorem dX3_refusal_4 : decode cX3_refusal 4 = .ok (.iconst (-1), 1) := by decide +kernel
theorem dX3_refusal_5 : decode cX3_refusal 5 = .ok (.if_icmp .eq 7, 3) := by decide +kernel
theorem dX3_refusal_8 : decode cX3_refusal 8 = .ok (.iconst 1, 1) := by decide +kernel
theorem dX3_refusal_9 : decode cX3_refusal 9 = .ok (.goto 4, 3) := by decide +kernel
theorem dX3_refusal_12 : decode cX3_refusal 12 = .ok (.iconst 0, 1) := by decide +kernel
theorem dX3_refusal_13 : decode cX3_refusal 13 = .ok (.istore_n 2, 1) := by decide +kernel
theorem dX3_refusal_14 : decode cX3_refusal 14 = .ok (.iload_n 1, 1) := by decide +kernel
theorem dX3_refusal_15 : decode cX3_refusal 15 = .ok (.iconst 4, 1) := by decide +kernel
theorem dX3_refusal_16 : decode cX3_refusal 16 = .ok (.if_icmp .eq 8, 3) := by decide +kernel
theorem dX3_refusal_19 : decode cX3_refusal 19 = .ok (.iload_n 1, 1) := by decide +kernel
theorem dX3_refusal_20 : decode cX3_refusal 20 = .ok (.iconst 5, 1) := by decide +kernel
theorem dX3_refusal_21 : decode cX3_refusal 21 = .ok (.if_icmp .ne 27, 3) := by decide +kernel
theorem dX3_refusal_24 : decode cX3_refusal 24 = .ok (.iload_n 2, 1) := by decide +kernel
theorem dX3_refusal_25 : decode cX3_refusal 25 = .ok (.ifCond .eq 5, 3) := by decide +kernel
theorem dX3_refusal_28 : decode cX3_refusal 28 = .ok (.iconst 1, 1) := by decide +kernel
theorem dX3_refusal_29 : decode cX3_refusal 29 = .ok (.ireturn, 1) := by decide +kernel
theorem dX3_refusal_30 : decode cX3_refusal 30 = .ok (.iload_n 1, 1) := by decide +kernel
theorem dX3_refusal_31 : decode cX3_refusal 31 = .ok (.iconst 5, 1) := by decide +kernel
theorem dX3_refusal_32 : decode cX3_refusal 32 = .ok (.if_icmp .ne 14, 3) := by decide +kernel
theorem dX3_refusal_35 : decode cX3_refusal 35 = .ok (.aload_n 0, 1) := by decide +kernel
theorem dX3_refusal_36 : decode cX3_refusal 36 = .ok (.getfield 67, 3) := by decide +kernel
theorem dX3_refusal_39 : decode cX3_refusal 39 = .ok (.ifCond .ne 7, 3) := by decide +kernel
theorem dX3_refusal_42 : decode cX3_refusal 42 = .ok (.iconst 3, 1) := by decide +kernel
theorem dX3_refusal_43 : decode cX3_refusal 43 = .ok (.goto 4, 3) := by decide +kernel
theorem dX3_refusal_46 : decode cX3_refusal 46 = .ok (.iconst 0, 1) := by decide +kernel
theorem dX3_refusal_47 : decode cX3_refusal 47 = .ok (.ireturn, 1) := by decide +kernel
theorem dX3_refusal_48 : decode cX3_refusal 48 = .ok (.iload_n 1, 1) := by decide +kernel
theorem dX3_refusal_49 : decode cX3_refusal 49 = .ok (.iconst 5, 1) := by decide +kernel
theorem dX3_refusal_50 : decode cX3_refusal 50 = .ok (.if_icmp .le 11, 3) := by decide +kernel
theorem dX3_refusal_53 : decode cX3_refusal 53 = .ok (.iload_n 2, 1) := by decide +kernel
theorem dX3_refusal_54 : decode cX3_refusal 54 = .ok (.ifCond .ne 7, 3) := by decide +kernel
theorem dX3_refusal_57 : decode cX3_refusal 57 = .ok (.iconst 2, 1) := by decide +kernel
theorem dX3_refusal_58 : decode cX3_refusal 58 = .ok (.goto 4, 3) := by decide +kernel
theorem dX3_refusal_61 : decode cX3_refusal 61 = .ok (.iconst 0, 1) := by decide +kernel
theorem dX3_refusal_62 : decode cX3_refusal 62 = .ok (.ireturn, 1) := by decide +kernel
theorem dX3_allCells_0 : decode cX3_allCells 0 = .ok (.lconst 1, 1) := by decide +kernel
theorem dX3_allCells_1 : decode cX3_allCells 1 = .ok (.aload_n 0, 1) := by decide +kernel
theorem dX3_allCells_2 : decode cX3_allCells 2 = .ok (.getfield 48, 3) := by decide +kernel
theorem dX3_allCells_5 : decode cX3_allCells 5 = .ok (.lshl, 1) := by decide +kernel
theorem dX3_allCells_6 : decode cX3_allCells 6 = .ok (.lconst 1, 1) := by decide +kernel
theorem dX3_allCells_7 : decode cX3_allCells 7 = .ok (.lsub, 1) := by decide +kernel
theorem dX3_allCells_8 : decode cX3_allCells 8 = .ok (.l2i, 1) := by decide +kernel
theorem dX3_allCells_9 : decode cX3_allCells 9 = .ok (.ireturn, 1) := by decide +kernel
theorem dX3_command_0 : decode cX3_command 0 = .ok (.aload_n 0, 1) := by decide +kernel
theorem dX3_command_1 : decode cX3_command 1 = .ok (.getfield 22, 3) := by decide +kernel
theorem dX3_command_4 : decode cX3_command 4 = .ok (.aload_n 0, 1) := by decide +kernel
theorem dX3_command_5 : decode cX3_command 5 = .ok (.getfield 12, 3) := by decide +kernel
theorem dX3_command_8 : decode cX3_command 8 = .ok (.invokevirtual 133, 3) := by decide +kernel
theorem dX3_command_11 : decode cX3_command 11 = .ok (.aload_n 0, 1) := by decide +kernel
theorem dX3_command_12 : decode cX3_command 12 = .ok (.aload_n 0, 1) := by decide +kernel
theorem dX3_command_13 : decode cX3_command 13 = .ok (.getfield 12, 3) := by decide +kernel
theorem dX3_command_16 : decode cX3_command 16 = .ok (.aload_n 1, 1) := by decide +kernel
theorem dX3_command_17 : decode cX3_command 17 = .ok (.iload_n 2, 1) := by decide +kernel
theorem dX3_command_18 : decode cX3_command 18 = .ok (.invokevirtual 137, 3) := by decide +kernel
theorem dX3_command_21 : decode cX3_command 21 = .ok (.putfield 74, 3) := by decide +kernel
theorem dX3_command_24 : decode cX3_command 24 = .ok (.aload_n 0, 1) := by decide +kernel
theorem dX3_command_25 : decode cX3_command 25 = .ok (.getfield 74, 3) := by decide +kernel
theorem dX3_command_28 : decode cX3_command 28 = .ok (.ifCond .eq 13, 3) := by decide +kernel
theorem dX3_command_31 : decode cX3_command 31 = .ok (.iload_n 2, 1) := by decide +kernel
theorem dX3_command_32 : decode cX3_command 32 = .ok (.ifCond .lt 9, 3) := by decide +kernel
theorem dX3_command_35 : decode cX3_command 35 = .ok (.iload_n 2, 1) := by decide +kernel
theorem dX3_command_36 : decode cX3_command 36 = .ok (.bipush 60, 2) := by decide +kernel
theorem dX3_command_38 : decode cX3_command 38 = .ok (.if_icmp .lt 4, 3) := by decide +kernel
theorem dX3_command_41 : decode cX3_command 41 = .ok (.return_, 1) := by decide +kernel
theorem dX3_command_42 : decode cX3_command 42 = .ok (.aload_n 0, 1) := by decide +kernel
theorem dX3_command_43 : decode cX3_command 43 = .ok (.getfield 29, 3) := by decide +kernel
theorem dX3_command_46 : decode cX3_command 46 = .ok (.iload_n 2, 1) := by decide +kernel
theorem dX3_command_47 : decode cX3_command 47 = .ok (.aload_n 0, 1) := by decide +kernel
theorem dX3_command_48 : decode cX3_command 48 = .ok (.getfield 74, 3) := by decide +kernel
theorem dX3_command_51 : decode cX3_command 51 = .ok (.iastore, 1) := by decide +kernel
theorem dX3_command_52 : decode cX3_command 52 = .ok (.aload_n 0, 1) := by decide +kernel
theorem dX3_command_53 : decode cX3_command 53 = .ok (.dup, 1) := by decide +kernel
theorem dX3_command_54 : decode cX3_command 54 = .ok (.getfield 61, 3) := by decide +kernel
theorem dX3_command_57 : decode cX3_command 57 = .ok (.aload_n 0, 1) := by decide +kernel
theorem dX3_command_58 : decode cX3_command 58 = .ok (.getfield 74, 3) := by decide +kernel
theorem dX3_command_61 : decode cX3_command 61 = .ok (.ior, 1) := by decide +kernel
theorem dX3_command_62 : decode cX3_command 62 = .ok (.putfield 61, 3) := by decide +kernel
theorem dX3_command_65 : decode cX3_command 65 = .ok (.iconst 0, 1) := by decide +kernel
theorem dX3_command_66 : decode cX3_command 66 = .ok (.istore_n 3, 1) := by decide +kernel
theorem dX3_command_67 : decode cX3_command 67 = .ok (.iload_n 3, 1) := by decide +kernel
theorem dX3_command_68 : decode cX3_command 68 = .ok (.aload_n 0, 1) := by decide +kernel
theorem dX3_command_69 : decode cX3_command 69 = .ok (.getfield 48, 3) := by decide +kernel
theorem dX3_command_72 : decode cX3_command 72 = .ok (.if_icmp .ge 27, 3) := by decide +kernel
theorem dX3_command_75 : decode cX3_command 75 = .ok (.aload_n 0, 1) := by decide +kernel
theorem dX3_command_76 : decode cX3_command 76 = .ok (.getfield 74, 3) := by decide +kernel
theorem dX3_command_79 : decode cX3_command 79 = .ok (.iload_n 3, 1) := by decide +kernel
theorem dX3_command_80 : decode cX3_command 80 = .ok (.invokestatic 141, 3) := by decide +kernel
theorem dX3_command_83 : decode cX3_command 83 = .ok (.ifCond .eq 10, 3) := by decide +kernel
theorem dX3_command_86 : decode cX3_command 86 = .ok (.aload_n 0, 1) := by decide +kernel
theorem dX3_command_87 : decode cX3_command 87 = .ok (.getfield 25, 3) := by decide +kernel
theorem dX3_command_90 : decode cX3_command 90 = .ok (.iload_n 3, 1) := by decide +kernel
theorem dX3_command_91 : decode cX3_command 91 = .ok (.iload_n 2, 1) := by decide +kernel
theorem dX3_command_92 : decode cX3_command 92 = .ok (.iastore, 1) := by decide +kernel
theorem dX3_command_93 : decode cX3_command 93 = .ok (.iinc 3 1, 3) := by decide +kernel
theorem dX3_command_96 : decode cX3_command 96 = .ok (.goto (-29), 3) := by decide +kernel
theorem dX3_command_99 : decode cX3_command 99 = .ok (.aload_n 0, 1) := by decide +kernel
theorem dX3_command_100 : decode cX3_command 100 = .ok (.aload_n 0, 1) := by decide +kernel
theorem dX3_command_101 : decode cX3_command 101 = .ok (.getfield 18, 3) := by decide +kernel
theorem dX3_command_104 : decode cX3_command 104 = .ok (.invokevirtual 145, 3) := by decide +kernel
theorem dX3_command_107 : decode cX3_command 107 = .ok (.astore_n 3, 1) := by decide +kernel
theorem dX3_command_108 : decode cX3_command 108 = .ok (.aload_n 3, 1) := by decide +kernel
theorem dX3_command_109 : decode cX3_command 109 = .ok (.ifnull 44, 3) := by decide +kernel
theorem dX3_command_112 : decode cX3_command 112 = .ok (.aload_n 0, 1) := by decide +kernel
theorem dX3_command_113 : decode cX3_command 113 = .ok (.aload_n 0, 1) := by decide +kernel
theorem dX3_command_114 : decode cX3_command 114 = .ok (.getfield 74, 3) := by decide +kernel
theorem dX3_command_117 : decode cX3_command 117 = .ok (.aload_n 3, 1) := by decide +kernel
theorem dX3_command_118 : decode cX3_command 118 = .ok (.invokevirtual 149, 3) := by decide +kernel
theorem dX3_command_121 : decode cX3_command 121 = .ok (.iand, 1) := by decide +kernel
theorem dX3_command_122 : decode cX3_command 122 = .ok (.putfield 77, 3) := by decide +kernel
theorem dX3_command_125 : decode cX3_command 125 = .ok (.aload_n 3, 1) := by decide +kernel
theorem dX3_command_126 : decode cX3_command 126 = .ok (.dup, 1) := by decide +kernel
theorem dX3_command_127 : decode cX3_command 127 = .ok (.getfield 152, 3) := by decide +kernel
theorem dX3_command_130 : decode cX3_command 130 = .ok (.aload_n 0, 1) := by decide +kernel
theorem dX3_command_131 : decode cX3_command 131 = .ok (.getfield 77, 3) := by decide +kernel
theorem dX3_command_134 : decode cX3_command 134 = .ok (.ior, 1) := by decide +kernel
theorem dX3_command_135 : decode cX3_command 135 = .ok (.putfield 152, 3) := by decide +kernel
theorem dX3_command_138 : decode cX3_command 138 = .ok (.aload_n 0, 1) := by decide +kernel
theorem dX3_command_139 : decode cX3_command 139 = .ok (.aload_n 3, 1) := by decide +kernel
theorem dX3_command_140 : decode cX3_command 140 = .ok (.aload_n 0, 1) := by decide +kernel
theorem dX3_command_141 : decode cX3_command 141 = .ok (.getfield 77, 3) := by decide +kernel
theorem dX3_command_144 : decode cX3_command 144 = .ok (.bipush 32, 2) := by decide +kernel
theorem dX3_command_146 : decode cX3_command 146 = .ok (.aload_n 0, 1) := by decide +kernel
theorem dX3_command_147 : decode cX3_command 147 = .ok (.getfield 22, 3) := by decide +kernel
theorem dX3_command_150 : decode cX3_command 150 = .ok (.invokevirtual 155, 3) := by decide +kernel
theorem dX3_command_153 : decode cX3_command 153 = .ok (.return_, 1) := by decide +kernel
theorem dX3_begin_0 : decode cX3_begin 0 = .ok (.aload_n 0, 1) := by decide +kernel
theorem dX3_begin_1 : decode cX3_begin 1 = .ok (.getfield 64, 3) := by decide +kernel
theorem dX3_begin_4 : decode cX3_begin 4 = .ok (.bipush 30, 2) := by decide +kernel
theorem dX3_begin_6 : decode cX3_begin 6 = .ok (.if_icmp .ge 36, 3) := by decide +kernel
theorem dX3_begin_9 : decode cX3_begin 9 = .ok (.aload_n 0, 1) := by decide +kernel
theorem dX3_begin_10 : decode cX3_begin 10 = .ok (.getfield 34, 3) := by decide +kernel
theorem dX3_begin_13 : decode cX3_begin 13 = .ok (.aload_n 0, 1) := by decide +kernel
theorem dX3_begin_14 : decode cX3_begin 14 = .ok (.getfield 64, 3) := by decide +kernel
theorem dX3_begin_17 : decode cX3_begin 17 = .ok (.aaload, 1) := by decide +kernel
theorem dX3_begin_18 : decode cX3_begin 18 = .ok (.iload_n 1, 1) := by decide +kernel
theorem dX3_begin_19 : decode cX3_begin 19 = .ok (.iload_n 2, 1) := by decide +kernel
theorem dX3_begin_20 : decode cX3_begin 20 = .ok (.iload_n 3, 1) := by decide +kernel
theorem dX3_begin_21 : decode cX3_begin 21 = .ok (.invokevirtual 159, 3) := by decide +kernel
theorem dX3_begin_24 : decode cX3_begin 24 = .ok (.aload_n 0, 1) := by decide +kernel
theorem dX3_begin_25 : decode cX3_begin 25 = .ok (.aload_n 0, 1) := by decide +kernel
theorem dX3_begin_26 : decode cX3_begin 26 = .ok (.getfield 64, 3) := by decide +kernel
theorem dX3_begin_29 : decode cX3_begin 29 = .ok (.putfield 18, 3) := by decide +kernel
theorem dX3_begin_32 : decode cX3_begin 32 = .ok (.aload_n 0, 1) := by decide +kernel
theorem dX3_begin_33 : decode cX3_begin 33 = .ok (.dup, 1) := by decide +kernel
theorem dX3_begin_34 : decode cX3_begin 34 = .ok (.getfield 64, 3) := by decide +kernel
theorem dX3_begin_37 : decode cX3_begin 37 = .ok (.iconst 1, 1) := by decide +kernel
theorem dX3_begin_38 : decode cX3_begin 38 = .ok (.iadd, 1) := by decide +kernel
theorem dX3_begin_39 : decode cX3_begin 39 = .ok (.putfield 64, 3) := by decide +kernel
theorem dX3_begin_42 : decode cX3_begin 42 = .ok (.return_, 1) := by decide +kernel
theorem dX3_keepNext_0 : decode cX3_keepNext 0 = .ok (.aload_n 0, 1) := by decide +kernel
theorem dX3_keepNext_1 : decode cX3_keepNext 1 = .ok (.aload_n 0, 1) := by decide +kernel
theorem dX3_keepNext_2 : decode cX3_keepNext 2 = .ok (.getfield 18, 3) := by decide +kernel
theorem dX3_keepNext_5 : decode cX3_keepNext 5 = .ok (.invokevirtual 145, 3) := by decide +kernel
theorem dX3_keepNext_8 : decode cX3_keepNext 8 = .ok (.astore_n 2, 1) := by decide +kernel
theorem dX3_keepNext_9 : decode cX3_keepNext 9 = .ok (.aload_n 2, 1) := by decide +kernel
theorem dX3_keepNext_10 : decode cX3_keepNext 10 = .ok (.ifnonnull 4, 3) := by decide +kernel
theorem dX3_keepNext_13 : decode cX3_keepNext 13 = .ok (.return_, 1) := by decide +kernel
theorem dX3_keepNext_14 : decode cX3_keepNext 14 = .ok (.aload_n 2, 1) := by decide +kernel
theorem dX3_keepNext_15 : decode cX3_keepNext 15 = .ok (.getfield 160, 3) := by decide +kernel
theorem dX3_keepNext_18 : decode cX3_keepNext 18 = .ok (.iload_n 1, 1) := by decide +kernel
theorem dX3_keepNext_19 : decode cX3_keepNext 19 = .ok (.iadd, 1) := by decide +kernel
theorem dX3_keepNext_20 : decode cX3_keepNext 20 = .ok (.istore_n 3, 1) := by decide +kernel
theorem dX3_keepNext_21 : decode cX3_keepNext 21 = .ok (.aload_n 0, 1) := by decide +kernel
theorem dX3_keepNext_22 : decode cX3_keepNext 22 = .ok (.getfield 51, 3) := by decide +kernel
theorem dX3_keepNext_25 : decode cX3_keepNext 25 = .ok (.iconst 1, 1) := by decide +kernel
theorem dX3_keepNext_26 : decode cX3_keepNext 26 = .ok (.if_icmp .ne 12, 3) := by decide +kernel
theorem dX3_keepNext_29 : decode cX3_keepNext 29 = .ok (.aload_n 0, 1) := by decide +kernel
theorem dX3_keepNext_30 : decode cX3_keepNext 30 = .ok (.aload_n 2, 1) := by decide +kernel
theorem dX3_keepNext_31 : decode cX3_keepNext 31 = .ok (.iload_n 3, 1) := by decide +kernel
theorem dX3_keepNext_32 : decode cX3_keepNext 32 = .ok (.invokevirtual 162, 3) := by decide +kernel
theorem dX3_keepNext_35 : decode cX3_keepNext 35 = .ok (.goto 85, 3) := by decide +kernel
theorem dX3_keepNext_38 : decode cX3_keepNext 38 = .ok (.aload_n 0, 1) := by decide +kernel
theorem dX3_keepNext_39 : decode cX3_keepNext 39 = .ok (.getfield 51, 3) := by decide +kernel
theorem dX3_keepNext_42 : decode cX3_keepNext 42 = .ok (.iconst 2, 1) := by decide +kernel
theorem dX3_keepNext_43 : decode cX3_keepNext 43 = .ok (.if_icmp .ne 52, 3) := by decide +kernel
theorem dX3_keepNext_46 : decode cX3_keepNext 46 = .ok (.aload_n 0, 1) := by decide +kernel
theorem dX3_keepNext_47 : decode cX3_keepNext 47 = .ok (.getfield 58, 3) := by decide +kernel
theorem dX3_keepNext_50 : decode cX3_keepNext 50 = .ok (.bipush 60, 2) := by decide +kernel
theorem dX3_keepNext_52 : decode cX3_keepNext 52 = .ok (.invokestatic 39, 3) := by decide +kernel
theorem dX3_keepNext_55 : decode cX3_keepNext 55 = .ok (.iconst 1, 1) := by decide +kernel
theorem dX3_keepNext_56 : decode cX3_keepNext 56 = .ok (.isub, 1) := by decide +kernel
theorem dX3_keepNext_57 : decode cX3_keepNext 57 = .ok (.istore 4, 2) := by decide +kernel
theorem dX3_keepNext_59 : decode cX3_keepNext 59 = .ok (.iload 4, 2) := by decide +kernel
theorem dX3_keepNext_61 : decode cX3_keepNext 61 = .ok (.ifCond .lt 31, 3) := by decide +kernel
theorem dX3_keepNext_64 : decode cX3_keepNext 64 = .ok (.aload_n 0, 1) := by decide +kernel
theorem dX3_keepNext_65 : decode cX3_keepNext 65 = .ok (.aload_n 2, 1) := by decide +kernel
theorem dX3_keepNext_66 : decode cX3_keepNext 66 = .ok (.aload_n 2, 1) := by decide +kernel
theorem dX3_keepNext_67 : decode cX3_keepNext 67 = .ok (.invokevirtual 149, 3) := by decide +kernel
theorem dX3_keepNext_70 : decode cX3_keepNext 70 = .ok (.aload_n 0, 1) := by decide +kernel
theorem dX3_keepNext_71 : decode cX3_keepNext 71 = .ok (.getfield 29, 3) := by decide +kernel
theorem dX3_keepNext_74 : decode cX3_keepNext 74 = .ok (.iload 4, 2) := by decide +kernel
theorem dX3_keepNext_76 : decode cX3_keepNext 76 = .ok (.iaload, 1) := by decide +kernel
theorem dX3_keepNext_77 : decode cX3_keepNext 77 = .ok (.iand, 1) := by decide +kernel
theorem dX3_keepNext_78 : decode cX3_keepNext 78 = .ok (.iload_n 3, 1) := by decide +kernel
theorem dX3_keepNext_79 : decode cX3_keepNext 79 = .ok (.aload_n 0, 1) := by decide +kernel
theorem dX3_keepNext_80 : decode cX3_keepNext 80 = .ok (.getfield 12, 3) := by decide +kernel
theorem dX3_keepNext_83 : decode cX3_keepNext 83 = .ok (.invokevirtual 155, 3) := by decide +kernel
theorem dX3_keepNext_86 : decode cX3_keepNext 86 = .ok (.iinc 4 (-1), 3) := by decide +kernel
theorem dX3_keepNext_89 : decode cX3_keepNext 89 = .ok (.goto (-30), 3) := by decide +kernel
theorem dX3_keepNext_92 : decode cX3_keepNext 92 = .ok (.goto 28, 3) := by decide +kernel
theorem dX3_keepNext_95 : decode cX3_keepNext 95 = .ok (.aload_n 0, 1) := by decide +kernel
theorem dX3_keepNext_96 : decode cX3_keepNext 96 = .ok (.getfield 51, 3) := by decide +kernel
theorem dX3_keepNext_99 : decode cX3_keepNext 99 = .ok (.iconst 3, 1) := by decide +kernel
theorem dX3_keepNext_100 : decode cX3_keepNext 100 = .ok (.if_icmp .ne 20, 3) := by decide +kernel
theorem dX3_keepNext_103 : decode cX3_keepNext 103 = .ok (.aload_n 0, 1) := by decide +kernel
theorem dX3_keepNext_104 : decode cX3_keepNext 104 = .ok (.aload_n 2, 1) := by decide +kernel
theorem dX3_keepNext_105 : decode cX3_keepNext 105 = .ok (.aload_n 2, 1) := by decide +kernel
theorem dX3_keepNext_106 : decode cX3_keepNext 106 = .ok (.invokevirtual 149, 3) := by decide +kernel
theorem dX3_keepNext_109 : decode cX3_keepNext 109 = .ok (.ldc 166, 2) := by decide +kernel
theorem dX3_keepNext_111 : decode cX3_keepNext 111 = .ok (.iand, 1) := by decide +kernel
theorem dX3_keepNext_112 : decode cX3_keepNext 112 = .ok (.iload_n 3, 1) := by decide +kernel
theorem dX3_keepNext_113 : decode cX3_keepNext 113 = .ok (.aload_n 0, 1) := by decide +kernel
theorem dX3_keepNext_114 : decode cX3_keepNext 114 = .ok (.getfield 12, 3) := by decide +kernel
theorem dX3_keepNext_117 : decode cX3_keepNext 117 = .ok (.invokevirtual 155, 3) := by decide +kernel
theorem dX3_keepNext_120 : decode cX3_keepNext 120 = .ok (.aload_n 0, 1) := by decide +kernel
theorem dX3_keepNext_121 : decode cX3_keepNext 121 = .ok (.aload_n 2, 1) := by decide +kernel
theorem dX3_keepNext_122 : decode cX3_keepNext 122 = .ok (.aload_n 2, 1) := by decide +kernel
theorem dX3_keepNext_123 : decode cX3_keepNext 123 = .ok (.invokevirtual 149, 3) := by decide +kernel
theorem dX3_keepNext_126 : decode cX3_keepNext 126 = .ok (.iload_n 3, 1) := by decide +kernel
theorem dX3_keepNext_127 : decode cX3_keepNext 127 = .ok (.aload_n 0, 1) := by decide +kernel
theorem dX3_keepNext_128 : decode cX3_keepNext 128 = .ok (.getfield 12, 3) := by decide +kernel
theorem dX3_keepNext_131 : decode cX3_keepNext 131 = .ok (.invokevirtual 155, 3) := by decide +kernel
theorem dX3_keepNext_134 : decode cX3_keepNext 134 = .ok (.return_, 1) := by decide +kernel
theorem dX3_keepLowest_0 : decode cX3_keepLowest 0 = .ok (.iconst 0, 1) := by decide +kernel
theorem dX3_keepLowest_1 : decode cX3_keepLowest 1 = .ok (.istore 5, 2) := by decide +kernel
theorem dX3_keepLowest_3 : decode cX3_keepLowest 3 = .ok (.iload 5, 2) := by decide +kernel
theorem dX3_keepLowest_5 : decode cX3_keepLowest 5 = .ok (.aload_n 0, 1) := by decide +kernel
theorem dX3_keepLowest_6 : decode cX3_keepLowest 6 = .ok (.getfield 48, 3) := by decide +kernel
theorem dX3_keepLowest_9 : decode cX3_keepLowest 9 = .ok (.if_icmp .ge 43, 3) := by decide +kernel
theorem dX3_keepLowest_12 : decode cX3_keepLowest 12 = .ok (.iload_n 2, 1) := by decide +kernel
theorem dX3_keepLowest_13 : decode cX3_keepLowest 13 = .ok (.ifCond .eq 39, 3) := by decide +kernel
theorem dX3_keepLowest_16 : decode cX3_keepLowest 16 = .ok (.aload_n 1, 1) := by decide +kernel
theorem dX3_keepLowest_17 : decode cX3_keepLowest 17 = .ok (.getfield 160, 3) := by decide +kernel
theorem dX3_keepLowest_20 : decode cX3_keepLowest 20 = .ok (.iload_n 3, 1) := by decide +kernel
theorem dX3_keepLowest_21 : decode cX3_keepLowest 21 = .ok (.if_icmp .ge 31, 3) := by decide +kernel
theorem dX3_keepLowest_24 : decode cX3_keepLowest 24 = .ok (.iload_n 2, 1) := by decide +kernel
theorem dX3_keepLowest_25 : decode cX3_keepLowest 25 = .ok (.iload 5, 2) := by decide +kernel
theorem dX3_keepLowest_27 : decode cX3_keepLowest 27 = .ok (.invokestatic 141, 3) := by decide +kernel
theorem dX3_keepLowest_30 : decode cX3_keepLowest 30 = .ok (.ifCond .eq 16, 3) := by decide +kernel
theorem dX3_keepLowest_33 : decode cX3_keepLowest 33 = .ok (.aload_n 1, 1) := by decide +kernel
theorem dX3_keepLowest_34 : decode cX3_keepLowest 34 = .ok (.iload 5, 2) := by decide +kernel
theorem dX3_keepLowest_36 : decode cX3_keepLowest 36 = .ok (.aload 4, 2) := by decide +kernel
theorem dX3_keepLowest_38 : decode cX3_keepLowest 38 = .ok (.iload 5, 2) := by decide +kernel
theorem dX3_keepLowest_40 : decode cX3_keepLowest 40 = .ok (.invokevirtual 167, 3) := by decide +kernel
theorem dX3_keepLowest_43 : decode cX3_keepLowest 43 = .ok (.invokevirtual 170, 3) := by decide +kernel
theorem dX3_keepLowest_46 : decode cX3_keepLowest 46 = .ok (.iinc 5 1, 3) := by decide +kernel
theorem dX3_keepLowest_49 : decode cX3_keepLowest 49 = .ok (.goto (-46), 3) := by decide +kernel
theorem dX3_keepLowest_52 : decode cX3_keepLowest 52 = .ok (.return_, 1) := by decide +kernel
theorem dX3_keepHighest_0 : decode cX3_keepHighest 0 = .ok (.aload_n 1, 1) := by decide +kernel
theorem dX3_keepHighest_1 : decode cX3_keepHighest 1 = .ok (.invokevirtual 149, 3) := by decide +kernel
theorem dX3_keepHighest_4 : decode cX3_keepHighest 4 = .ok (.istore_n 3, 1) := by decide +kernel
theorem dX3_keepHighest_5 : decode cX3_keepHighest 5 = .ok (.aload_n 0, 1) := by decide +kernel
theorem dX3_keepHighest_6 : decode cX3_keepHighest 6 = .ok (.getfield 48, 3) := by decide +kernel
theorem dX3_keepHighest_9 : decode cX3_keepHighest 9 = .ok (.iconst 1, 1) := by decide +kernel
theorem dX3_keepHighest_10 : decode cX3_keepHighest 10 = .ok (.isub, 1) := by decide +kernel
theorem dX3_keepHighest_11 : decode cX3_keepHighest 11 = .ok (.istore 4, 2) := by decide +kernel
theorem dX3_keepHighest_13 : decode cX3_keepHighest 13 = .ok (.iload 4, 2) := by decide +kernel
theorem dX3_keepHighest_15 : decode cX3_keepHighest 15 = .ok (.ifCond .lt 41, 3) := by decide +kernel
theorem dX3_keepHighest_18 : decode cX3_keepHighest 18 = .ok (.aload_n 1, 1) := by decide +kernel
theorem dX3_keepHighest_19 : decode cX3_keepHighest 19 = .ok (.getfield 160, 3) := by decide +kernel
theorem dX3_keepHighest_22 : decode cX3_keepHighest 22 = .ok (.iload_n 2, 1) := by decide +kernel
theorem dX3_keepHighest_23 : decode cX3_keepHighest 23 = .ok (.if_icmp .ge 33, 3) := by decide +kernel
theorem dX3_keepHighest_26 : decode cX3_keepHighest 26 = .ok (.iload_n 3, 1) := by decide +kernel
theorem dX3_keepHighest_27 : decode cX3_keepHighest 27 = .ok (.iload 4, 2) := by decide +kernel
theorem dX3_keepHighest_29 : decode cX3_keepHighest 29 = .ok (.invokestatic 141, 3) := by decide +kernel
theorem dX3_keepHighest_32 : decode cX3_keepHighest 32 = .ok (.ifCond .eq 18, 3) := by decide +kernel
theorem dX3_keepHighest_35 : decode cX3_keepHighest 35 = .ok (.aload_n 1, 1) := by decide +kernel
theorem dX3_keepHighest_36 : decode cX3_keepHighest 36 = .ok (.iload 4, 2) := by decide +kernel
theorem dX3_keepHighest_38 : decode cX3_keepHighest 38 = .ok (.aload_n 0, 1) := by decide +kernel
theorem dX3_keepHighest_39 : decode cX3_keepHighest 39 = .ok (.getfield 12, 3) := by decide +kernel
theorem dX3_keepHighest_42 : decode cX3_keepHighest 42 = .ok (.iload 4, 2) := by decide +kernel
theorem dX3_keepHighest_44 : decode cX3_keepHighest 44 = .ok (.invokevirtual 167, 3) := by decide +kernel
theorem dX3_keepHighest_47 : decode cX3_keepHighest 47 = .ok (.invokevirtual 170, 3) := by decide +kernel
theorem dX3_keepHighest_50 : decode cX3_keepHighest 50 = .ok (.iinc 4 (-1), 3) := by decide +kernel
theorem dX3_keepHighest_53 : decode cX3_keepHighest 53 = .ok (.goto (-40), 3) := by decide +kernel
theorem dX3_keepHighest_56 : decode cX3_keepHighest 56 = .ok (.return_, 1) := by decide +kernel
theorem dX3_finishWhole_0 : decode cX3_finishWhole 0 = .ok (.aload_n 0, 1) := by decide +kernel
theorem dX3_finishWhole_1 : decode cX3_finishWhole 1 = .ok (.aload_n 0, 1) := by decide +kernel
theorem dX3_finishWhole_2 : decode cX3_finishWhole 2 = .ok (.getfield 18, 3) := by decide +kernel
theorem dX3_finishWhole_5 : decode cX3_finishWhole 5 = .ok (.invokevirtual 145, 3) := by decide +kernel
theorem dX3_finishWhole_8 : decode cX3_finishWhole 8 = .ok (.astore_n 2, 1) := by decide +kernel
theorem dX3_finishWhole_9 : decode cX3_finishWhole 9 = .ok (.aload_n 2, 1) := by decide +kernel
theorem dX3_finishWhole_10 : decode cX3_finishWhole 10 = .ok (.ifnonnull 4, 3) := by decide +kernel
theorem dX3_finishWhole_13 : decode cX3_finishWhole 13 = .ok (.return_, 1) := by decide +kernel
theorem dX3_finishWhole_14 : decode cX3_finishWhole 14 = .ok (.aload_n 0, 1) := by decide +kernel
theorem dX3_finishWhole_15 : decode cX3_finishWhole 15 = .ok (.iconst 0, 1) := by decide +kernel
theorem dX3_finishWhole_16 : decode cX3_finishWhole 16 = .ok (.putfield 61, 3) := by decide +kernel
theorem dX3_finishWhole_19 : decode cX3_finishWhole 19 = .ok (.iconst 0, 1) := by decide +kernel
theorem dX3_finishWhole_20 : decode cX3_finishWhole 20 = .ok (.istore_n 3, 1) := by decide +kernel
theorem dX3_finishWhole_21 : decode cX3_finishWhole 21 = .ok (.iload_n 3, 1) := by decide +kernel
theorem dX3_finishWhole_22 : decode cX3_finishWhole 22 = .ok (.aload_n 0, 1) := by decide +kernel
theorem dX3_finishWhole_23 : decode cX3_finishWhole 23 = .ok (.getfield 48, 3) := by decide +kernel
theorem dX3_finishWhole_26 : decode cX3_finishWhole 26 = .ok (.if_icmp .ge 34, 3) := by decide +kernel
theorem dX3_finishWhole_29 : decode cX3_finishWhole 29 = .ok (.aload_n 0, 1) := by decide +kernel
theorem dX3_finishWhole_30 : decode cX3_finishWhole 30 = .ok (.getfield 25, 3) := by decide +kernel
theorem dX3_finishWhole_33 : decode cX3_finishWhole 33 = .ok (.iload_n 3, 1) := by decide +kernel
theorem dX3_finishWhole_34 : decode cX3_finishWhole 34 = .ok (.iaload, 1) := by decide +kernel
theorem dX3_finishWhole_35 : decode cX3_finishWhole 35 = .ok (.aload_n 2, 1) := by decide +kernel
theorem dX3_finishWhole_36 : decode cX3_finishWhole 36 = .ok (.getfield 173, 3) := by decide +kernel
theorem dX3_finishWhole_39 : decode cX3_finishWhole 39 = .ok (.if_icmp .lt 15, 3) := by decide +kernel
theorem dX3_finishWhole_42 : decode cX3_finishWhole 42 = .ok (.aload_n 0, 1) := by decide +kernel
theorem dX3_finishWhole_43 : decode cX3_finishWhole 43 = .ok (.dup, 1) := by decide +kernel
theorem dX3_finishWhole_44 : decode cX3_finishWhole 44 = .ok (.getfield 61, 3) := by decide +kernel
theorem dX3_finishWhole_47 : decode cX3_finishWhole 47 = .ok (.iconst 1, 1) := by decide +kernel
theorem dX3_finishWhole_48 : decode cX3_finishWhole 48 = .ok (.iload_n 3, 1) := by decide +kernel
theorem dX3_finishWhole_49 : decode cX3_finishWhole 49 = .ok (.ishl, 1) := by decide +kernel
theorem dX3_finishWhole_50 : decode cX3_finishWhole 50 = .ok (.ior, 1) := by decide +kernel
theorem dX3_finishWhole_51 : decode cX3_finishWhole 51 = .ok (.putfield 61, 3) := by decide +kernel
theorem dX3_finishWhole_54 : decode cX3_finishWhole 54 = .ok (.iinc 3 1, 3) := by decide +kernel
theorem dX3_finishWhole_57 : decode cX3_finishWhole 57 = .ok (.goto (-36), 3) := by decide +kernel
theorem dX3_finishWhole_60 : decode cX3_finishWhole 60 = .ok (.aload_n 0, 1) := by decide +kernel
theorem dX3_finishWhole_61 : decode cX3_finishWhole 61 = .ok (.iconst 1, 1) := by decide +kernel
theorem dX3_finishWhole_62 : decode cX3_finishWhole 62 = .ok (.putfield 67, 3) := by decide +kernel
theorem dX3_finishWhole_65 : decode cX3_finishWhole 65 = .ok (.aload_n 0, 1) := by decide +kernel
theorem dX3_finishWhole_66 : decode cX3_finishWhole 66 = .ok (.iconst 1, 1) := by decide +kernel
theorem dX3_finishWhole_67 : decode cX3_finishWhole 67 = .ok (.iload_n 1, 1) := by decide +kernel
theorem dX3_finishWhole_68 : decode cX3_finishWhole 68 = .ok (.invokevirtual 127, 3) := by decide +kernel
theorem dX3_finishWhole_71 : decode cX3_finishWhole 71 = .ok (.return_, 1) := by decide +kernel
theorem dX3_endOpen_0 : decode cX3_endOpen 0 = .ok (.aload_n 0, 1) := by decide +kernel
theorem dX3_endOpen_1 : decode cX3_endOpen 1 = .ok (.aload_n 0, 1) := by decide +kernel
theorem dX3_endOpen_2 : decode cX3_endOpen 2 = .ok (.getfield 18, 3) := by decide +kernel
theorem dX3_endOpen_5 : decode cX3_endOpen 5 = .ok (.invokevirtual 145, 3) := by decide +kernel
theorem dX3_endOpen_8 : decode cX3_endOpen 8 = .ok (.astore_n 3, 1) := by decide +kernel
theorem dX3_endOpen_9 : decode cX3_endOpen 9 = .ok (.aload_n 3, 1) := by decide +kernel
theorem dX3_endOpen_10 : decode cX3_endOpen 10 = .ok (.ifnull 9, 3) := by decide +kernel
theorem dX3_endOpen_13 : decode cX3_endOpen 13 = .ok (.aload_n 3, 1) := by decide +kernel
theorem dX3_endOpen_14 : decode cX3_endOpen 14 = .ok (.iload_n 1, 1) := by decide +kernel
theorem dX3_endOpen_15 : decode cX3_endOpen 15 = .ok (.iload_n 2, 1) := by decide +kernel
theorem dX3_endOpen_16 : decode cX3_endOpen 16 = .ok (.invokevirtual 176, 3) := by decide +kernel
theorem dX3_endOpen_19 : decode cX3_endOpen 19 = .ok (.aload_n 0, 1) := by decide +kernel
theorem dX3_endOpen_20 : decode cX3_endOpen 20 = .ok (.iconst (-1), 1) := by decide +kernel
theorem dX3_endOpen_21 : decode cX3_endOpen 21 = .ok (.putfield 18, 3) := by decide +kernel
theorem dX3_endOpen_24 : decode cX3_endOpen 24 = .ok (.return_, 1) := by decide +kernel
theorem dX3_latestChange_0 : decode cX3_latestChange 0 = .ok (.iload_n 1, 1) := by decide +kernel
theorem dX3_latestChange_1 : decode cX3_latestChange 1 = .ok (.ifCond .lt 18, 3) := by decide +kernel
theorem dX3_latestChange_4 : decode cX3_latestChange 4 = .ok (.iload_n 1, 1) := by decide +kernel
theorem dX3_latestChange_5 : decode cX3_latestChange 5 = .ok (.bipush 32, 2) := by decide +kernel
theorem dX3_latestChange_7 : decode cX3_latestChange 7 = .ok (.if_icmp .ge 12, 3) := by decide +kernel
theorem dX3_latestChange_10 : decode cX3_latestChange 10 = .ok (.aload_n 0, 1) := by decide +kernel
theorem dX3_latestChange_11 : decode cX3_latestChange 11 = .ok (.getfield 25, 3) := by decide +kernel
theorem dX3_latestChange_14 : decode cX3_latestChange 14 = .ok (.iload_n 1, 1) := by decide +kernel
theorem dX3_latestChange_15 : decode cX3_latestChange 15 = .ok (.iaload, 1) := by decide +kernel
theorem dX3_latestChange_16 : decode cX3_latestChange 16 = .ok (.goto 4, 3) := by decide +kernel
theorem dX3_latestChange_19 : decode cX3_latestChange 19 = .ok (.iconst (-1), 1) := by decide +kernel
theorem dX3_latestChange_20 : decode cX3_latestChange 20 = .ok (.ireturn, 1) := by decide +kernel
theorem dX3_copyOf_0 : decode cX3_copyOf 0 = .ok (.iload_n 1, 1) := by decide +kernel
theorem dX3_copyOf_1 : decode cX3_copyOf 1 = .ok (.ifCond .lt 26, 3) := by decide +kernel
theorem dX3_copyOf_4 : decode cX3_copyOf 4 = .ok (.iload_n 1, 1) := by decide +kernel
theorem dX3_copyOf_5 : decode cX3_copyOf 5 = .ok (.aload_n 0, 1) := by decide +kernel
theorem dX3_copyOf_6 : decode cX3_copyOf 6 = .ok (.getfield 64, 3) := by decide +kernel
theorem dX3_copyOf_9 : decode cX3_copyOf 9 = .ok (.if_icmp .ge 18, 3) := by decide +kernel
theorem dX3_copyOf_12 : decode cX3_copyOf 12 = .ok (.iload_n 1, 1) := by decide +kernel
theorem dX3_copyOf_13 : decode cX3_copyOf 13 = .ok (.bipush 30, 2) := by decide +kernel
theorem dX3_copyOf_15 : decode cX3_copyOf 15 = .ok (.if_icmp .ge 12, 3) := by decide +kernel
theorem dX3_copyOf_18 : decode cX3_copyOf 18 = .ok (.aload_n 0, 1) := by decide +kernel
theorem dX3_copyOf_19 : decode cX3_copyOf 19 = .ok (.getfield 34, 3) := by decide +kernel
theorem dX3_copyOf_22 : decode cX3_copyOf 22 = .ok (.iload_n 1, 1) := by decide +kernel
theorem dX3_copyOf_23 : decode cX3_copyOf 23 = .ok (.aaload, 1) := by decide +kernel
theorem dX3_copyOf_24 : decode cX3_copyOf 24 = .ok (.goto 4, 3) := by decide +kernel
theorem dX3_copyOf_27 : decode cX3_copyOf 27 = .ok (.aconst_null, 1) := by decide +kernel
theorem dX3_copyOf_28 : decode cX3_copyOf 28 = .ok (.areturn, 1) := by decide +kernel
theorem dX3_isWhole_0 : decode cX3_isWhole 0 = .ok (.aload_n 0, 1) := by decide +kernel
theorem dX3_isWhole_1 : decode cX3_isWhole 1 = .ok (.iload_n 1, 1) := by decide +kernel
theorem dX3_isWhole_2 : decode cX3_isWhole 2 = .ok (.invokevirtual 145, 3) := by decide +kernel
theorem dX3_isWhole_5 : decode cX3_isWhole 5 = .ok (.astore_n 2, 1) := by decide +kernel
theorem dX3_isWhole_6 : decode cX3_isWhole 6 = .ok (.aload_n 2, 1) := by decide +kernel
theorem dX3_isWhole_7 : decode cX3_isWhole 7 = .ok (.ifnull 15, 3) := by decide +kernel
theorem dX3_isWhole_10 : decode cX3_isWhole 10 = .ok (.aload_n 2, 1) := by decide +kernel
theorem dX3_isWhole_11 : decode cX3_isWhole 11 = .ok (.getfield 179, 3) := by decide +kernel
theorem dX3_isWhole_14 : decode cX3_isWhole 14 = .ok (.iconst 1, 1) := by decide +kernel
theorem dX3_isWhole_15 : decode cX3_isWhole 15 = .ok (.if_icmp .ne 7, 3) := by decide +kernel
theorem dX3_isWhole_18 : decode cX3_isWhole 18 = .ok (.iconst 1, 1) := by decide +kernel
theorem dX3_isWhole_19 : decode cX3_isWhole 19 = .ok (.goto 4, 3) := by decide +kernel
theorem dX3_isWhole_22 : decode cX3_isWhole 22 = .ok (.iconst 0, 1) := by decide +kernel
theorem dX3_isWhole_23 : decode cX3_isWhole 23 = .ok (.ireturn, 1) := by decide +kernel
theorem dX3_sizes_0 : decode cX3_sizes 0 = .ok (.iconst 0, 1) := by decide +kernel
theorem dX3_sizes_1 : decode cX3_sizes 1 = .ok (.istore_n 2, 1) := by decide +kernel
theorem dX3_sizes_2 : decode cX3_sizes 2 = .ok (.iconst 0, 1) := by decide +kernel
theorem dX3_sizes_3 : decode cX3_sizes 3 = .ok (.istore_n 3, 1) := by decide +kernel
theorem dX3_sizes_4 : decode cX3_sizes 4 = .ok (.iload_n 3, 1) := by decide +kernel
theorem dX3_sizes_5 : decode cX3_sizes 5 = .ok (.aload_n 0, 1) := by decide +kernel
theorem dX3_sizes_6 : decode cX3_sizes 6 = .ok (.getfield 64, 3) := by decide +kernel
theorem dX3_sizes_9 : decode cX3_sizes 9 = .ok (.if_icmp .ge 40, 3) := by decide +kernel
theorem dX3_sizes_12 : decode cX3_sizes 12 = .ok (.iload_n 3, 1) := by decide +kernel
theorem dX3_sizes_13 : decode cX3_sizes 13 = .ok (.bipush 30, 2) := by decide +kernel
theorem dX3_sizes_15 : decode cX3_sizes 15 = .ok (.if_icmp .ge 34, 3) := by decide +kernel
theorem dX3_sizes_18 : decode cX3_sizes 18 = .ok (.aload_n 0, 1) := by decide +kernel
theorem dX3_sizes_19 : decode cX3_sizes 19 = .ok (.getfield 34, 3) := by decide +kernel
theorem dX3_sizes_22 : decode cX3_sizes 22 = .ok (.iload_n 3, 1) := by decide +kernel
theorem dX3_sizes_23 : decode cX3_sizes 23 = .ok (.aaload, 1) := by decide +kernel
theorem dX3_sizes_24 : decode cX3_sizes 24 = .ok (.getfield 179, 3) := by decide +kernel
theorem dX3_sizes_27 : decode cX3_sizes 27 = .ok (.iload_n 1, 1) := by decide +kernel
theorem dX3_sizes_28 : decode cX3_sizes 28 = .ok (.if_icmp .ne 15, 3) := by decide +kernel
theorem dX3_sizes_31 : decode cX3_sizes 31 = .ok (.iload_n 2, 1) := by decide +kernel
theorem dX3_sizes_32 : decode cX3_sizes 32 = .ok (.aload_n 0, 1) := by decide +kernel
theorem dX3_sizes_33 : decode cX3_sizes 33 = .ok (.getfield 34, 3) := by decide +kernel
theorem dX3_sizes_36 : decode cX3_sizes 36 = .ok (.iload_n 3, 1) := by decide +kernel
theorem dX3_sizes_37 : decode cX3_sizes 37 = .ok (.aaload, 1) := by decide +kernel
theorem dX3_sizes_38 : decode cX3_sizes 38 = .ok (.getfield 160, 3) := by decide +kernel
theorem dX3_sizes_41 : decode cX3_sizes 41 = .ok (.iadd, 1) := by decide +kernel
theorem dX3_sizes_42 : decode cX3_sizes 42 = .ok (.istore_n 2, 1) := by decide +kernel
theorem dX3_sizes_43 : decode cX3_sizes 43 = .ok (.iinc 3 1, 3) := by decide +kernel
theorem dX3_sizes_46 : decode cX3_sizes 46 = .ok (.goto (-42), 3) := by decide +kernel
theorem dX3_sizes_49 : decode cX3_sizes 49 = .ok (.iload_n 2, 1) := by decide +kernel
theorem dX3_sizes_50 : decode cX3_sizes 50 = .ok (.ireturn, 1) := by decide +kernel
theorem dX3_allRescued_0 : decode cX3_allRescued 0 = .ok (.iconst 0, 1) := by decide +kernel
theorem dX3_allRescued_1 : decode cX3_allRescued 1 = .ok (.istore_n 1, 1) := by decide +kernel
theorem dX3_allRescued_2 : decode cX3_allRescued 2 = .ok (.iconst 0, 1) := by decide +kernel
theorem dX3_allRescued_3 : decode cX3_allRescued 3 = .ok (.istore_n 2, 1) := by decide +kernel
theorem dX3_allRescued_4 : decode cX3_allRescued 4 = .ok (.iload_n 2, 1) := by decide +kernel
theorem dX3_allRescued_5 : decode cX3_allRescued 5 = .ok (.aload_n 0, 1) := by decide +kernel
theorem dX3_allRescued_6 : decode cX3_allRescued 6 = .ok (.getfield 64, 3) := by decide +kernel
theorem dX3_allRescued_9 : decode cX3_allRescued 9 = .ok (.if_icmp .ge 30, 3) := by decide +kernel
theorem dX3_allRescued_12 : decode cX3_allRescued 12 = .ok (.iload_n 2, 1) := by decide +kernel
theorem dX3_allRescued_13 : decode cX3_allRescued 13 = .ok (.bipush 30, 2) := by decide +kernel
theorem dX3_allRescued_15 : decode cX3_allRescued 15 = .ok (.if_icmp .ge 24, 3) := by decide +kernel
theorem dX3_allRescued_18 : decode cX3_allRescued 18 = .ok (.iload_n 1, 1) := by decide +kernel
theorem dX3_allRescued_19 : decode cX3_allRescued 19 = .ok (.aload_n 0, 1) := by decide +kernel
theorem dX3_allRescued_20 : decode cX3_allRescued 20 = .ok (.getfield 34, 3) := by decide +kernel
theorem dX3_allRescued_23 : decode cX3_allRescued 23 = .ok (.iload_n 2, 1) := by decide +kernel
theorem dX3_allRescued_24 : decode cX3_allRescued 24 = .ok (.aaload, 1) := by decide +kernel
theorem dX3_allRescued_25 : decode cX3_allRescued 25 = .ok (.getfield 152, 3) := by decide +kernel
theorem dX3_allRescued_28 : decode cX3_allRescued 28 = .ok (.invokestatic 182, 3) := by decide +kernel
theorem dX3_allRescued_31 : decode cX3_allRescued 31 = .ok (.iadd, 1) := by decide +kernel
theorem dX3_allRescued_32 : decode cX3_allRescued 32 = .ok (.istore_n 1, 1) := by decide +kernel
theorem dX3_allRescued_33 : decode cX3_allRescued 33 = .ok (.iinc 2 1, 3) := by decide +kernel
theorem dX3_allRescued_36 : decode cX3_allRescued 36 = .ok (.goto (-32), 3) := by decide +kernel
theorem dX3_allRescued_39 : decode cX3_allRescued 39 = .ok (.iload_n 1, 1) := by decide +kernel
theorem dX3_allRescued_40 : decode cX3_allRescued 40 = .ok (.ireturn, 1) := by decide +kernel
theorem dX3_lastWhole_0 : decode cX3_lastWhole 0 = .ok (.aload_n 0, 1) := by decide +kernel
theorem dX3_lastWhole_1 : decode cX3_lastWhole 1 = .ok (.getfield 64, 3) := by decide +kernel
theorem dX3_lastWhole_4 : decode cX3_lastWhole 4 = .ok (.iconst 1, 1) := by decide +kernel
theorem dX3_lastWhole_5 : decode cX3_lastWhole 5 = .ok (.isub, 1) := by decide +kernel
theorem dX3_lastWhole_6 : decode cX3_lastWhole 6 = .ok (.istore_n 1, 1) := by decide +kernel
theorem dX3_lastWhole_7 : decode cX3_lastWhole 7 = .ok (.iload_n 1, 1) := by decide +kernel
theorem dX3_lastWhole_8 : decode cX3_lastWhole 8 = .ok (.ifCond .lt 19, 3) := by decide +kernel
theorem dX3_lastWhole_11 : decode cX3_lastWhole 11 = .ok (.aload_n 0, 1) := by decide +kernel
theorem dX3_lastWhole_12 : decode cX3_lastWhole 12 = .ok (.iload_n 1, 1) := by decide +kernel
theorem dX3_lastWhole_13 : decode cX3_lastWhole 13 = .ok (.invokevirtual 187, 3) := by decide +kernel
theorem dX3_lastWhole_16 : decode cX3_lastWhole 16 = .ok (.ifCond .eq 5, 3) := by decide +kernel
theorem dX3_lastWhole_19 : decode cX3_lastWhole 19 = .ok (.iload_n 1, 1) := by decide +kernel
theorem dX3_lastWhole_20 : decode cX3_lastWhole 20 = .ok (.ireturn, 1) := by decide +kernel
theorem dX3_lastWhole_21 : decode cX3_lastWhole 21 = .ok (.iinc 1 (-1), 3) := by decide +kernel
theorem dX3_lastWhole_24 : decode cX3_lastWhole 24 = .ok (.goto (-17), 3) := by decide +kernel
theorem dX3_lastWhole_27 : decode cX3_lastWhole 27 = .ok (.iconst (-1), 1) := by decide +kernel
theorem dX3_lastWhole_28 : decode cX3_lastWhole 28 = .ok (.ireturn, 1) := by decide +kernel
theorem dX3_chainHead_0 : decode cX3_chainHead 0 = .ok (.aload_n 0, 1) := by decide +kernel
theorem dX3_chainHead_1 : decode cX3_chainHead 1 = .ok (.getfield 64, 3) := by decide +kernel
theorem dX3_chainHead_4 : decode cX3_chainHead 4 = .ok (.iconst 1, 1) := by decide +kernel
theorem dX3_chainHead_5 : decode cX3_chainHead 5 = .ok (.isub, 1) := by decide +kernel
theorem dX3_chainHead_6 : decode cX3_chainHead 6 = .ok (.istore_n 1, 1) := by decide +kernel
theorem dX3_chainHead_7 : decode cX3_chainHead 7 = .ok (.iload_n 1, 1) := by decide +kernel
theorem dX3_chainHead_8 : decode cX3_chainHead 8 = .ok (.ifCond .lt 31, 3) := by decide +kernel
theorem dX3_chainHead_11 : decode cX3_chainHead 11 = .ok (.aload_n 0, 1) := by decide +kernel
theorem dX3_chainHead_12 : decode cX3_chainHead 12 = .ok (.iload_n 1, 1) := by decide +kernel
theorem dX3_chainHead_13 : decode cX3_chainHead 13 = .ok (.invokevirtual 187, 3) := by decide +kernel
theorem dX3_chainHead_16 : decode cX3_chainHead 16 = .ok (.ifCond .eq 17, 3) := by decide +kernel
theorem dX3_chainHead_19 : decode cX3_chainHead 19 = .ok (.aload_n 0, 1) := by decide +kernel
theorem dX3_chainHead_20 : decode cX3_chainHead 20 = .ok (.getfield 34, 3) := by decide +kernel
theorem dX3_chainHead_23 : decode cX3_chainHead 23 = .ok (.iload_n 1, 1) := by decide +kernel
theorem dX3_chainHead_24 : decode cX3_chainHead 24 = .ok (.aaload, 1) := by decide +kernel
theorem dX3_chainHead_25 : decode cX3_chainHead 25 = .ok (.getfield 191, 3) := by decide +kernel
theorem dX3_chainHead_28 : decode cX3_chainHead 28 = .ok (.ifCond .eq 5, 3) := by decide +kernel
theorem dX3_chainHead_31 : decode cX3_chainHead 31 = .ok (.iload_n 1, 1) := by decide +kernel
theorem dX3_chainHead_32 : decode cX3_chainHead 32 = .ok (.ireturn, 1) := by decide +kernel
theorem dX3_chainHead_33 : decode cX3_chainHead 33 = .ok (.iinc 1 (-1), 3) := by decide +kernel
theorem dX3_chainHead_36 : decode cX3_chainHead 36 = .ok (.goto (-29), 3) := by decide +kernel
theorem dX3_chainHead_39 : decode cX3_chainHead 39 = .ok (.iconst (-1), 1) := by decide +kernel
theorem dX3_chainHead_40 : decode cX3_chainHead 40 = .ok (.ireturn, 1) := by decide +kernel
theorem dX3_links_0 : decode cX3_links 0 = .ok (.aload_n 0, 1) := by decide +kernel
theorem dX3_links_1 : decode cX3_links 1 = .ok (.invokevirtual 194, 3) := by decide +kernel
theorem dX3_links_4 : decode cX3_links 4 = .ok (.istore_n 1, 1) := by decide +kernel
theorem dX3_links_5 : decode cX3_links 5 = .ok (.iconst 0, 1) := by decide +kernel
theorem dX3_links_6 : decode cX3_links 6 = .ok (.istore_n 2, 1) := by decide +kernel
theorem dX3_links_7 : decode cX3_links 7 = .ok (.iload_n 1, 1) := by decide +kernel
theorem dX3_links_8 : decode cX3_links 8 = .ok (.istore_n 3, 1) := by decide +kernel
theorem dX3_links_9 : decode cX3_links 9 = .ok (.iload_n 1, 1) := by decide +kernel
theorem dX3_links_10 : decode cX3_links 10 = .ok (.iconst (-1), 1) := by decide +kernel
theorem dX3_links_11 : decode cX3_links 11 = .ok (.if_icmp .eq 28, 3) := by decide +kernel
theorem dX3_links_14 : decode cX3_links 14 = .ok (.iload_n 3, 1) := by decide +kernel
theorem dX3_links_15 : decode cX3_links 15 = .ok (.aload_n 0, 1) := by decide +kernel
theorem dX3_links_16 : decode cX3_links 16 = .ok (.getfield 64, 3) := by decide +kernel
theorem dX3_links_19 : decode cX3_links 19 = .ok (.if_icmp .ge 20, 3) := by decide +kernel
theorem dX3_links_22 : decode cX3_links 22 = .ok (.aload_n 0, 1) := by decide +kernel
theorem dX3_links_23 : decode cX3_links 23 = .ok (.iload_n 3, 1) := by decide +kernel
theorem dX3_links_24 : decode cX3_links 24 = .ok (.invokevirtual 187, 3) := by decide +kernel
theorem dX3_links_27 : decode cX3_links 27 = .ok (.ifCond .eq 6, 3) := by decide +kernel
theorem dX3_links_30 : decode cX3_links 30 = .ok (.iinc 2 1, 3) := by decide +kernel
theorem dX3_links_33 : decode cX3_links 33 = .ok (.iinc 3 1, 3) := by decide +kernel
theorem dX3_links_36 : decode cX3_links 36 = .ok (.goto (-27), 3) := by decide +kernel
theorem dX3_links_39 : decode cX3_links 39 = .ok (.iload_n 2, 1) := by decide +kernel
theorem dX3_links_40 : decode cX3_links 40 = .ok (.ireturn, 1) := by decide +kernel
theorem dX3_link_0 : decode cX3_link 0 = .ok (.aload_n 0, 1) := by decide +kernel
theorem dX3_link_1 : decode cX3_link 1 = .ok (.invokevirtual 194, 3) := by decide +kernel
theorem dX3_link_4 : decode cX3_link 4 = .ok (.istore_n 2, 1) := by decide +kernel
theorem dX3_link_5 : decode cX3_link 5 = .ok (.iload_n 1, 1) := by decide +kernel
theorem dX3_link_6 : decode cX3_link 6 = .ok (.istore_n 3, 1) := by decide +kernel
theorem dX3_link_7 : decode cX3_link 7 = .ok (.iload_n 2, 1) := by decide +kernel
theorem dX3_link_8 : decode cX3_link 8 = .ok (.istore 4, 2) := by decide +kernel
theorem dX3_link_10 : decode cX3_link 10 = .ok (.iload_n 2, 1) := by decide +kernel
theorem dX3_link_11 : decode cX3_link 11 = .ok (.iconst (-1), 1) := by decide +kernel
theorem dX3_link_12 : decode cX3_link 12 = .ok (.if_icmp .eq 37, 3) := by decide +kernel
theorem dX3_link_15 : decode cX3_link 15 = .ok (.iload 4, 2) := by decide +kernel
theorem dX3_link_17 : decode cX3_link 17 = .ok (.aload_n 0, 1) := by decide +kernel
theorem dX3_link_18 : decode cX3_link 18 = .ok (.getfield 64, 3) := by decide +kernel
theorem dX3_link_21 : decode cX3_link 21 = .ok (.if_icmp .ge 28, 3) := by decide +kernel
theorem dX3_link_24 : decode cX3_link 24 = .ok (.aload_n 0, 1) := by decide +kernel
theorem dX3_link_25 : decode cX3_link 25 = .ok (.iload 4, 2) := by decide +kernel
theorem dX3_link_27 : decode cX3_link 27 = .ok (.invokevirtual 187, 3) := by decide +kernel
theorem dX3_link_30 : decode cX3_link 30 = .ok (.ifCond .eq 13, 3) := by decide +kernel
theorem dX3_link_33 : decode cX3_link 33 = .ok (.iload_n 3, 1) := by decide +kernel
theorem dX3_link_34 : decode cX3_link 34 = .ok (.ifCond .ne 6, 3) := by decide +kernel
theorem dX3_link_37 : decode cX3_link 37 = .ok (.iload 4, 2) := by decide +kernel
theorem dX3_link_39 : decode cX3_link 39 = .ok (.ireturn, 1) := by decide +kernel
theorem dX3_link_40 : decode cX3_link 40 = .ok (.iinc 3 (-1), 3) := by decide +kernel
theorem dX3_link_43 : decode cX3_link 43 = .ok (.iinc 4 1, 3) := by decide +kernel
theorem dX3_link_46 : decode cX3_link 46 = .ok (.goto (-36), 3) := by decide +kernel
theorem dX3_link_49 : decode cX3_link 49 = .ok (.iconst (-1), 1) := by decide +kernel
theorem dX3_link_50 : decode cX3_link 50 = .ok (.ireturn, 1) := by decide +kernel
theorem dX3_chainMark_0 : decode cX3_chainMark 0 = .ok (.aload_n 0, 1) := by decide +kernel
theorem dX3_chainMark_1 : decode cX3_chainMark 1 = .ok (.invokevirtual 194, 3) := by decide +kernel
theorem dX3_chainMark_4 : decode cX3_chainMark 4 = .ok (.iconst (-1), 1) := by decide +kernel
theorem dX3_chainMark_5 : decode cX3_chainMark 5 = .ok (.if_icmp .ne 7, 3) := by decide +kernel
theorem dX3_chainMark_8 : decode cX3_chainMark 8 = .ok (.aconst_null, 1) := by decide +kernel
theorem dX3_chainMark_9 : decode cX3_chainMark 9 = .ok (.goto 11, 3) := by decide +kernel
theorem dX3_chainMark_12 : decode cX3_chainMark 12 = .ok (.aload_n 0, 1) := by decide +kernel
theorem dX3_chainMark_13 : decode cX3_chainMark 13 = .ok (.aload_n 0, 1) := by decide +kernel
theorem dX3_chainMark_14 : decode cX3_chainMark 14 = .ok (.invokevirtual 197, 3) := by decide +kernel
theorem dX3_chainMark_17 : decode cX3_chainMark 17 = .ok (.invokevirtual 145, 3) := by decide +kernel
theorem dX3_chainMark_20 : decode cX3_chainMark 20 = .ok (.astore_n 1, 1) := by decide +kernel
theorem dX3_chainMark_21 : decode cX3_chainMark 21 = .ok (.aload_n 1, 1) := by decide +kernel
theorem dX3_chainMark_22 : decode cX3_chainMark 22 = .ok (.ifnonnull 7, 3) := by decide +kernel
theorem dX3_chainMark_25 : decode cX3_chainMark 25 = .ok (.iconst 0, 1) := by decide +kernel
theorem dX3_chainMark_26 : decode cX3_chainMark 26 = .ok (.goto 7, 3) := by decide +kernel
theorem dX3_chainMark_29 : decode cX3_chainMark 29 = .ok (.aload_n 1, 1) := by decide +kernel
theorem dX3_chainMark_30 : decode cX3_chainMark 30 = .ok (.getfield 173, 3) := by decide +kernel
theorem dX3_chainMark_33 : decode cX3_chainMark 33 = .ok (.ireturn, 1) := by decide +kernel
theorem dX3_sourceOf_0 : decode cX3_sourceOf 0 = .ok (.aload_n 0, 1) := by decide +kernel
theorem dX3_sourceOf_1 : decode cX3_sourceOf 1 = .ok (.invokevirtual 194, 3) := by decide +kernel
theorem dX3_sourceOf_4 : decode cX3_sourceOf 4 = .ok (.istore_n 2, 1) := by decide +kernel
theorem dX3_sourceOf_5 : decode cX3_sourceOf 5 = .ok (.aload_n 0, 1) := by decide +kernel
theorem dX3_sourceOf_6 : decode cX3_sourceOf 6 = .ok (.getfield 64, 3) := by decide +kernel
theorem dX3_sourceOf_9 : decode cX3_sourceOf 9 = .ok (.iconst 1, 1) := by decide +kernel
theorem dX3_sourceOf_10 : decode cX3_sourceOf 10 = .ok (.isub, 1) := by decide +kernel
theorem dX3_sourceOf_11 : decode cX3_sourceOf 11 = .ok (.istore_n 3, 1) := by decide +kernel
theorem dX3_sourceOf_12 : decode cX3_sourceOf 12 = .ok (.iload_n 2, 1) := by decide +kernel
theorem dX3_sourceOf_13 : decode cX3_sourceOf 13 = .ok (.iconst (-1), 1) := by decide +kernel
theorem dX3_sourceOf_14 : decode cX3_sourceOf 14 = .ok (.if_icmp .eq 40, 3) := by decide +kernel
theorem dX3_sourceOf_17 : decode cX3_sourceOf 17 = .ok (.iload_n 3, 1) := by decide +kernel
theorem dX3_sourceOf_18 : decode cX3_sourceOf 18 = .ok (.iload_n 2, 1) := by decide +kernel
theorem dX3_sourceOf_19 : decode cX3_sourceOf 19 = .ok (.if_icmp .lt 35, 3) := by decide +kernel
theorem dX3_sourceOf_22 : decode cX3_sourceOf 22 = .ok (.aload_n 0, 1) := by decide +kernel
theorem dX3_sourceOf_23 : decode cX3_sourceOf 23 = .ok (.iload_n 3, 1) := by decide +kernel
theorem dX3_sourceOf_24 : decode cX3_sourceOf 24 = .ok (.invokevirtual 187, 3) := by decide +kernel
theorem dX3_sourceOf_27 : decode cX3_sourceOf 27 = .ok (.ifCond .eq 21, 3) := by decide +kernel
theorem dX3_sourceOf_30 : decode cX3_sourceOf 30 = .ok (.aload_n 0, 1) := by decide +kernel
theorem dX3_sourceOf_31 : decode cX3_sourceOf 31 = .ok (.getfield 34, 3) := by decide +kernel
theorem dX3_sourceOf_34 : decode cX3_sourceOf 34 = .ok (.iload_n 3, 1) := by decide +kernel
theorem dX3_sourceOf_35 : decode cX3_sourceOf 35 = .ok (.aaload, 1) := by decide +kernel
theorem dX3_sourceOf_36 : decode cX3_sourceOf 36 = .ok (.getfield 200, 3) := by decide +kernel
theorem dX3_sourceOf_39 : decode cX3_sourceOf 39 = .ok (.iload_n 1, 1) := by decide +kernel
theorem dX3_sourceOf_40 : decode cX3_sourceOf 40 = .ok (.invokestatic 141, 3) := by decide +kernel
theorem dX3_sourceOf_43 : decode cX3_sourceOf 43 = .ok (.ifCond .eq 5, 3) := by decide +kernel
theorem dX3_sourceOf_46 : decode cX3_sourceOf 46 = .ok (.iload_n 3, 1) := by decide +kernel
theorem dX3_sourceOf_47 : decode cX3_sourceOf 47 = .ok (.ireturn, 1) := by decide +kernel
theorem dX3_sourceOf_48 : decode cX3_sourceOf 48 = .ok (.iinc 3 (-1), 3) := by decide +kernel
theorem dX3_sourceOf_51 : decode cX3_sourceOf 51 = .ok (.goto (-39), 3) := by decide +kernel
theorem dX3_sourceOf_54 : decode cX3_sourceOf 54 = .ok (.iconst (-1), 1) := by decide +kernel
theorem dX3_sourceOf_55 : decode cX3_sourceOf 55 = .ok (.ireturn, 1) := by decide +kernel
theorem dX3_raisedCell_0 : decode cX3_raisedCell 0 = .ok (.aload_n 0, 1) := by decide +kernel
theorem dX3_raisedCell_1 : decode cX3_raisedCell 1 = .ok (.aload_n 0, 1) := by decide +kernel
theorem dX3_raisedCell_2 : decode cX3_raisedCell 2 = .ok (.iload_n 1, 1) := by decide +kernel
theorem dX3_raisedCell_3 : decode cX3_raisedCell 3 = .ok (.invokevirtual 203, 3) := by decide +kernel
theorem dX3_raisedCell_6 : decode cX3_raisedCell 6 = .ok (.invokevirtual 145, 3) := by decide +kernel
theorem dX3_raisedCell_9 : decode cX3_raisedCell 9 = .ok (.astore_n 2, 1) := by decide +kernel
theorem dX3_raisedCell_10 : decode cX3_raisedCell 10 = .ok (.aload_n 2, 1) := by decide +kernel
theorem dX3_raisedCell_11 : decode cX3_raisedCell 11 = .ok (.ifnonnull 7, 3) := by decide +kernel
theorem dX3_raisedCell_14 : decode cX3_raisedCell 14 = .ok (.iconst 0, 1) := by decide +kernel
theorem dX3_raisedCell_15 : decode cX3_raisedCell 15 = .ok (.goto 8, 3) := by decide +kernel
theorem dX3_raisedCell_18 : decode cX3_raisedCell 18 = .ok (.aload_n 2, 1) := by decide +kernel
theorem dX3_raisedCell_19 : decode cX3_raisedCell 19 = .ok (.iload_n 1, 1) := by decide +kernel
theorem dX3_raisedCell_20 : decode cX3_raisedCell 20 = .ok (.invokevirtual 206, 3) := by decide +kernel
theorem dX3_raisedCell_23 : decode cX3_raisedCell 23 = .ok (.ireturn, 1) := by decide +kernel
theorem dX3_keptAgain_0 : decode cX3_keptAgain 0 = .ok (.aload_n 0, 1) := by decide +kernel
theorem dX3_keptAgain_1 : decode cX3_keptAgain 1 = .ok (.invokevirtual 194, 3) := by decide +kernel
theorem dX3_keptAgain_4 : decode cX3_keptAgain 4 = .ok (.istore_n 1, 1) := by decide +kernel
theorem dX3_keptAgain_5 : decode cX3_keptAgain 5 = .ok (.iconst 0, 1) := by decide +kernel
theorem dX3_keptAgain_6 : decode cX3_keptAgain 6 = .ok (.istore_n 2, 1) := by decide +kernel
theorem dX3_keptAgain_7 : decode cX3_keptAgain 7 = .ok (.iconst 0, 1) := by decide +kernel
theorem dX3_keptAgain_8 : decode cX3_keptAgain 8 = .ok (.istore_n 3, 1) := by decide +kernel
theorem dX3_keptAgain_9 : decode cX3_keptAgain 9 = .ok (.aload_n 0, 1) := by decide +kernel
theorem dX3_keptAgain_10 : decode cX3_keptAgain 10 = .ok (.getfield 64, 3) := by decide +kernel
theorem dX3_keptAgain_13 : decode cX3_keptAgain 13 = .ok (.iconst 1, 1) := by decide +kernel
theorem dX3_keptAgain_14 : decode cX3_keptAgain 14 = .ok (.isub, 1) := by decide +kernel
theorem dX3_keptAgain_15 : decode cX3_keptAgain 15 = .ok (.istore 4, 2) := by decide +kernel
theorem dX3_keptAgain_17 : decode cX3_keptAgain 17 = .ok (.iload_n 1, 1) := by decide +kernel
theorem dX3_keptAgain_18 : decode cX3_keptAgain 18 = .ok (.iconst (-1), 1) := by decide +kernel
theorem dX3_keptAgain_19 : decode cX3_keptAgain 19 = .ok (.if_icmp .eq 55, 3) := by decide +kernel
theorem dX3_keptAgain_22 : decode cX3_keptAgain 22 = .ok (.iload 4, 2) := by decide +kernel
theorem dX3_keptAgain_24 : decode cX3_keptAgain 24 = .ok (.iload_n 1, 1) := by decide +kernel
theorem dX3_keptAgain_25 : decode cX3_keptAgain 25 = .ok (.if_icmp .lt 49, 3) := by decide +kernel
theorem dX3_keptAgain_28 : decode cX3_keptAgain 28 = .ok (.aload_n 0, 1) := by decide +kernel
theorem dX3_keptAgain_29 : decode cX3_keptAgain 29 = .ok (.iload 4, 2) := by decide +kernel
theorem dX3_keptAgain_31 : decode cX3_keptAgain 31 = .ok (.invokevirtual 187, 3) := by decide +kernel
theorem dX3_keptAgain_34 : decode cX3_keptAgain 34 = .ok (.ifCond .eq 34, 3) := by decide +kernel
theorem dX3_keptAgain_37 : decode cX3_keptAgain 37 = .ok (.iload_n 3, 1) := by decide +kernel
theorem dX3_keptAgain_38 : decode cX3_keptAgain 38 = .ok (.aload_n 0, 1) := by decide +kernel
theorem dX3_keptAgain_39 : decode cX3_keptAgain 39 = .ok (.getfield 34, 3) := by decide +kernel
theorem dX3_keptAgain_42 : decode cX3_keptAgain 42 = .ok (.iload 4, 2) := by decide +kernel
theorem dX3_keptAgain_44 : decode cX3_keptAgain 44 = .ok (.aaload, 1) := by decide +kernel
theorem dX3_keptAgain_45 : decode cX3_keptAgain 45 = .ok (.getfield 200, 3) := by decide +kernel
theorem dX3_keptAgain_48 : decode cX3_keptAgain 48 = .ok (.iload_n 2, 1) := by decide +kernel
theorem dX3_keptAgain_49 : decode cX3_keptAgain 49 = .ok (.iand, 1) := by decide +kernel
theorem dX3_keptAgain_50 : decode cX3_keptAgain 50 = .ok (.invokestatic 182, 3) := by decide +kernel
theorem dX3_keptAgain_53 : decode cX3_keptAgain 53 = .ok (.iadd, 1) := by decide +kernel
theorem dX3_keptAgain_54 : decode cX3_keptAgain 54 = .ok (.istore_n 3, 1) := by decide +kernel
theorem dX3_keptAgain_55 : decode cX3_keptAgain 55 = .ok (.iload_n 2, 1) := by decide +kernel
theorem dX3_keptAgain_56 : decode cX3_keptAgain 56 = .ok (.aload_n 0, 1) := by decide +kernel
theorem dX3_keptAgain_57 : decode cX3_keptAgain 57 = .ok (.getfield 34, 3) := by decide +kernel
theorem dX3_keptAgain_60 : decode cX3_keptAgain 60 = .ok (.iload 4, 2) := by decide +kernel
theorem dX3_keptAgain_62 : decode cX3_keptAgain 62 = .ok (.aaload, 1) := by decide +kernel
theorem dX3_keptAgain_63 : decode cX3_keptAgain 63 = .ok (.getfield 200, 3) := by decide +kernel
theorem dX3_keptAgain_66 : decode cX3_keptAgain 66 = .ok (.ior, 1) := by decide +kernel
theorem dX3_keptAgain_67 : decode cX3_keptAgain 67 = .ok (.istore_n 2, 1) := by decide +kernel
theorem dX3_keptAgain_68 : decode cX3_keptAgain 68 = .ok (.iinc 4 (-1), 3) := by decide +kernel
theorem dX3_keptAgain_71 : decode cX3_keptAgain 71 = .ok (.goto (-54), 3) := by decide +kernel
theorem dX3_keptAgain_74 : decode cX3_keptAgain 74 = .ok (.iload_n 3, 1) := by decide +kernel
theorem dX3_keptAgain_75 : decode cX3_keptAgain 75 = .ok (.ireturn, 1) := by decide +kernel
theorem dX4_init_0 : decode cX4_init 0 = .ok (.aload_n 0, 1) := by decide +kernel
theorem dX4_init_1 : decode cX4_init 1 = .ok (.invokespecial 3, 3) := by decide +kernel
theorem dX4_init_4 : decode cX4_init 4 = .ok (.aload_n 0, 1) := by decide +kernel
theorem dX4_init_5 : decode cX4_init 5 = .ok (.bipush 60, 2) := by decide +kernel
theorem dX4_init_7 : decode cX4_init 7 = .ok (.newarray .int, 2) := by decide +kernel
theorem dX4_init_9 : decode cX4_init 9 = .ok (.putfield 9, 3) := by decide +kernel
theorem dX4_init_12 : decode cX4_init 12 = .ok (.aload_n 0, 1) := by decide +kernel
theorem dX4_init_13 : decode cX4_init 13 = .ok (.sipush 180, 3) := by decide +kernel
theorem dX4_init_16 : decode cX4_init 16 = .ok (.newarray .int, 2) := by decide +kernel
theorem dX4_init_18 : decode cX4_init 18 = .ok (.putfield 15, 3) := by decide +kernel
theorem dX4_init_21 : decode cX4_init 21 = .ok (.return_, 1) := by decide +kernel
theorem dX4_clear_0 : decode cX4_clear 0 = .ok (.aload_n 0, 1) := by decide +kernel
theorem dX4_clear_1 : decode cX4_clear 1 = .ok (.iconst 0, 1) := by decide +kernel
theorem dX4_clear_2 : decode cX4_clear 2 = .ok (.putfield 18, 3) := by decide +kernel
theorem dX4_clear_5 : decode cX4_clear 5 = .ok (.aload_n 0, 1) := by decide +kernel
theorem dX4_clear_6 : decode cX4_clear 6 = .ok (.iconst 0, 1) := by decide +kernel
theorem dX4_clear_7 : decode cX4_clear 7 = .ok (.putfield 22, 3) := by decide +kernel
theorem dX4_clear_10 : decode cX4_clear 10 = .ok (.aload_n 0, 1) := by decide +kernel
theorem dX4_clear_11 : decode cX4_clear 11 = .ok (.iconst 0, 1) := by decide +kernel
theorem dX4_clear_12 : decode cX4_clear 12 = .ok (.putfield 25, 3) := by decide +kernel
theorem dX4_clear_15 : decode cX4_clear 15 = .ok (.aload_n 0, 1) := by decide +kernel
theorem dX4_clear_16 : decode cX4_clear 16 = .ok (.iconst 0, 1) := by decide +kernel
theorem dX4_clear_17 : decode cX4_clear 17 = .ok (.putfield 28, 3) := by decide +kernel
theorem dX4_clear_20 : decode cX4_clear 20 = .ok (.aload_n 0, 1) := by decide +kernel
theorem dX4_clear_21 : decode cX4_clear 21 = .ok (.iconst 0, 1) := by decide +kernel
theorem dX4_clear_22 : decode cX4_clear 22 = .ok (.putfield 31, 3) := by decide +kernel
theorem dX4_clear_25 : decode cX4_clear 25 = .ok (.return_, 1) := by decide +kernel
theorem dX4_become_0 : decode cX4_become 0 = .ok (.aload_n 0, 1) := by decide +kernel
theorem dX4_become_1 : decode cX4_become 1 = .ok (.aload_n 1, 1) := by decide +kernel
theorem dX4_become_2 : decode cX4_become 2 = .ok (.getfield 18, 3) := by decide +kernel
theorem dX4_become_5 : decode cX4_become 5 = .ok (.putfield 18, 3) := by decide +kernel
theorem dX4_become_8 : decode cX4_become 8 = .ok (.aload_n 0, 1) := by decide +kernel
theorem dX4_become_9 : decode cX4_become 9 = .ok (.aload_n 1, 1) := by decide +kernel
theorem dX4_become_10 : decode cX4_become 10 = .ok (.getfield 22, 3) := by decide +kernel
theorem dX4_become_13 : decode cX4_become 13 = .ok (.putfield 22, 3) := by decide +kernel
theorem dX4_become_16 : decode cX4_become 16 = .ok (.aload_n 0, 1) := by decide +kernel
theorem dX4_become_17 : decode cX4_become 17 = .ok (.aload_n 1, 1) := by decide +kernel
theorem dX4_become_18 : decode cX4_become 18 = .ok (.getfield 25, 3) := by decide +kernel
theorem dX4_become_21 : decode cX4_become 21 = .ok (.putfield 25, 3) := by decide +kernel
theorem dX4_become_24 : decode cX4_become 24 = .ok (.aload_n 0, 1) := by decide +kernel
theorem dX4_become_25 : decode cX4_become 25 = .ok (.aload_n 1, 1) := by decide +kernel
theorem dX4_become_26 : decode cX4_become 26 = .ok (.getfield 28, 3) := by decide +kernel
theorem dX4_become_29 : decode cX4_become 29 = .ok (.putfield 28, 3) := by decide +kernel
theorem dX4_become_32 : decode cX4_become 32 = .ok (.aload_n 0, 1) := by decide +kernel
theorem dX4_become_33 : decode cX4_become 33 = .ok (.aload_n 1, 1) := by decide +kernel
theorem dX4_become_34 : decode cX4_become 34 = .ok (.getfield 31, 3) := by decide +kernel
theorem dX4_become_37 : decode cX4_become 37 = .ok (.putfield 31, 3) := by decide +kernel
theorem dX4_become_40 : decode cX4_become 40 = .ok (.aload_n 1, 1) := by decide +kernel
theorem dX4_become_41 : decode cX4_become 41 = .ok (.getfield 9, 3) := by decide +kernel
theorem dX4_become_44 : decode cX4_become 44 = .ok (.iconst 0, 1) := by decide +kernel
theorem dX4_become_45 : decode cX4_become 45 = .ok (.aload_n 0, 1) := by decide +kernel
theorem dX4_become_46 : decode cX4_become 46 = .ok (.getfield 9, 3) := by decide +kernel
theorem dX4_become_49 : decode cX4_become 49 = .ok (.iconst 0, 1) := by decide +kernel
theorem dX4_become_50 : decode cX4_become 50 = .ok (.bipush 60, 2) := by decide +kernel
theorem dX4_become_52 : decode cX4_become 52 = .ok (.invokestatic 34, 3) := by decide +kernel
theorem dX4_become_55 : decode cX4_become 55 = .ok (.aload_n 1, 1) := by decide +kernel
theorem dX4_become_56 : decode cX4_become 56 = .ok (.getfield 15, 3) := by decide +kernel
theorem dX4_become_59 : decode cX4_become 59 = .ok (.iconst 0, 1) := by decide +kernel
theorem dX4_become_60 : decode cX4_become 60 = .ok (.aload_n 0, 1) := by decide +kernel
theorem dX4_become_61 : decode cX4_become 61 = .ok (.getfield 15, 3) := by decide +kernel
theorem dX4_become_64 : decode cX4_become 64 = .ok (.iconst 0, 1) := by decide +kernel
theorem dX4_become_65 : decode cX4_become 65 = .ok (.sipush 180, 3) := by decide +kernel
theorem dX4_become_68 : decode cX4_become 68 = .ok (.invokestatic 34, 3) := by decide +kernel
theorem dX4_become_71 : decode cX4_become 71 = .ok (.return_, 1) := by decide +kernel
theorem dX4_exists_0 : decode cX4_exists 0 = .ok (.aload_n 0, 1) := by decide +kernel
theorem dX4_exists_1 : decode cX4_exists 1 = .ok (.getfield 18, 3) := by decide +kernel
theorem dX4_exists_4 : decode cX4_exists 4 = .ok (.ifCond .le 7, 3) := by decide +kernel
theorem dX4_exists_7 : decode cX4_exists 7 = .ok (.iconst 1, 1) := by decide +kernel
theorem dX4_exists_8 : decode cX4_exists 8 = .ok (.goto 4, 3) := by decide +kernel
theorem dX4_exists_11 : decode cX4_exists 11 = .ok (.iconst 0, 1) := by decide +kernel
theorem dX4_exists_12 : decode cX4_exists 12 = .ok (.ireturn, 1) := by decide +kernel
theorem dX4_lines_0 : decode cX4_lines 0 = .ok (.aload_n 0, 1) := by decide +kernel
theorem dX4_lines_1 : decode cX4_lines 1 = .ok (.getfield 18, 3) := by decide +kernel
theorem dX4_lines_4 : decode cX4_lines 4 = .ok (.ifCond .le 12, 3) := by decide +kernel
theorem dX4_lines_7 : decode cX4_lines 7 = .ok (.aload_n 0, 1) := by decide +kernel
theorem dX4_lines_8 : decode cX4_lines 8 = .ok (.getfield 28, 3) := by decide +kernel
theorem dX4_lines_11 : decode cX4_lines 11 = .ok (.iconst 1, 1) := by decide +kernel
theorem dX4_lines_12 : decode cX4_lines 12 = .ok (.iadd, 1) := by decide +kernel
theorem dX4_lines_13 : decode cX4_lines 13 = .ok (.goto 4, 3) := by decide +kernel
theorem dX4_lines_16 : decode cX4_lines 16 = .ok (.iconst 0, 1) := by decide +kernel
theorem dX4_lines_17 : decode cX4_lines 17 = .ok (.ireturn, 1) := by decide +kernel
theorem dX4_size_0 : decode cX4_size 0 = .ok (.aload_n 0, 1) := by decide +kernel
theorem dX4_size_1 : decode cX4_size 1 = .ok (.getfield 28, 3) := by decide +kernel
theorem dX4_size_4 : decode cX4_size 4 = .ok (.aload_n 0, 1) := by decide +kernel
theorem dX4_size_5 : decode cX4_size 5 = .ok (.getfield 31, 3) := by decide +kernel
theorem dX4_size_8 : decode cX4_size 8 = .ok (.iadd, 1) := by decide +kernel
theorem dX4_size_9 : decode cX4_size 9 = .ok (.ireturn, 1) := by decide +kernel
theorem dX4_isCommand_0 : decode cX4_isCommand 0 = .ok (.aload_n 0, 1) := by decide +kernel
theorem dX4_isCommand_1 : decode cX4_isCommand 1 = .ok (.iload_n 1, 1) := by decide +kernel
theorem dX4_isCommand_2 : decode cX4_isCommand 2 = .ok (.invokevirtual 40, 3) := by decide +kernel
theorem dX4_isCommand_5 : decode cX4_isCommand 5 = .ok (.iconst 3, 1) := by decide +kernel
theorem dX4_isCommand_6 : decode cX4_isCommand 6 = .ok (.if_icmp .gt 7, 3) := by decide +kernel
theorem dX4_isCommand_9 : decode cX4_isCommand 9 = .ok (.iconst 1, 1) := by decide +kernel
theorem dX4_isCommand_10 : decode cX4_isCommand 10 = .ok (.goto 4, 3) := by decide +kernel
theorem dX4_isCommand_13 : decode cX4_isCommand 13 = .ok (.iconst 0, 1) := by decide +kernel
theorem dX4_isCommand_14 : decode cX4_isCommand 14 = .ok (.ireturn, 1) := by decide +kernel
theorem dX4_commands_0 : decode cX4_commands 0 = .ok (.iconst 0, 1) := by decide +kernel
theorem dX4_commands_1 : decode cX4_commands 1 = .ok (.istore_n 1, 1) := by decide +kernel
theorem dX4_commands_2 : decode cX4_commands 2 = .ok (.iconst 0, 1) := by decide +kernel
theorem dX4_commands_3 : decode cX4_commands 3 = .ok (.istore_n 2, 1) := by decide +kernel
theorem dX4_commands_4 : decode cX4_commands 4 = .ok (.iload_n 2, 1) := by decide +kernel
theorem dX4_commands_5 : decode cX4_commands 5 = .ok (.aload_n 0, 1) := by decide +kernel
theorem dX4_commands_6 : decode cX4_commands 6 = .ok (.invokevirtual 44, 3) := by decide +kernel
theorem dX4_commands_9 : decode cX4_commands 9 = .ok (.if_icmp .ge 20, 3) := by decide +kernel
theorem dX4_commands_12 : decode cX4_commands 12 = .ok (.aload_n 0, 1) := by decide +kernel
theorem dX4_commands_13 : decode cX4_commands 13 = .ok (.iload_n 2, 1) := by decide +kernel
theorem dX4_commands_14 : decode cX4_commands 14 = .ok (.invokevirtual 48, 3) := by decide +kernel
theorem dX4_commands_17 : decode cX4_commands 17 = .ok (.ifCond .eq 6, 3) := by decide +kernel
theorem dX4_commands_20 : decode cX4_commands 20 = .ok (.iinc 1 1, 3) := by decide +kernel
theorem dX4_commands_23 : decode cX4_commands 23 = .ok (.iinc 2 1, 3) := by decide +kernel
theorem dX4_commands_26 : decode cX4_commands 26 = .ok (.goto (-22), 3) := by decide +kernel
theorem dX4_commands_29 : decode cX4_commands 29 = .ok (.iload_n 1, 1) := by decide +kernel
theorem dX4_commands_30 : decode cX4_commands 30 = .ok (.ireturn, 1) := by decide +kernel
theorem dX4_kindOf_0 : decode cX4_kindOf 0 = .ok (.iload_n 1, 1) := by decide +kernel
theorem dX4_kindOf_1 : decode cX4_kindOf 1 = .ok (.ifCond .lt 18, 3) := by decide +kernel
theorem dX4_kindOf_4 : decode cX4_kindOf 4 = .ok (.iload_n 1, 1) := by decide +kernel
theorem dX4_kindOf_5 : decode cX4_kindOf 5 = .ok (.bipush 60, 2) := by decide +kernel
theorem dX4_kindOf_7 : decode cX4_kindOf 7 = .ok (.if_icmp .ge 12, 3) := by decide +kernel
theorem dX4_kindOf_10 : decode cX4_kindOf 10 = .ok (.aload_n 0, 1) := by decide +kernel
theorem dX4_kindOf_11 : decode cX4_kindOf 11 = .ok (.getfield 9, 3) := by decide +kernel
theorem dX4_kindOf_14 : decode cX4_kindOf 14 = .ok (.iload_n 1, 1) := by decide +kernel
theorem dX4_kindOf_15 : decode cX4_kindOf 15 = .ok (.iaload, 1) := by decide +kernel
theorem dX4_kindOf_16 : decode cX4_kindOf 16 = .ok (.goto 5, 3) := by decide +kernel
theorem dX4_kindOf_19 : decode cX4_kindOf 19 = .ok (.bipush 8, 2) := by decide +kernel
theorem dX4_kindOf_21 : decode cX4_kindOf 21 = .ok (.ireturn, 1) := by decide +kernel
theorem dX4_numberOf_0 : decode cX4_numberOf 0 = .ok (.iload_n 1, 1) := by decide +kernel
theorem dX4_numberOf_1 : decode cX4_numberOf 1 = .ok (.ifCond .lt 27, 3) := by decide +kernel
theorem dX4_numberOf_4 : decode cX4_numberOf 4 = .ok (.iload_n 1, 1) := by decide +kernel
theorem dX4_numberOf_5 : decode cX4_numberOf 5 = .ok (.bipush 60, 2) := by decide +kernel
theorem dX4_numberOf_7 : decode cX4_numberOf 7 = .ok (.if_icmp .ge 21, 3) := by decide +kernel
theorem dX4_numberOf_10 : decode cX4_numberOf 10 = .ok (.iload_n 2, 1) := by decide +kernel
theorem dX4_numberOf_11 : decode cX4_numberOf 11 = .ok (.ifCond .lt 17, 3) := by decide +kernel
theorem dX4_numberOf_14 : decode cX4_numberOf 14 = .ok (.iload_n 2, 1) := by decide +kernel
theorem dX4_numberOf_15 : decode cX4_numberOf 15 = .ok (.getstatic 52, 3) := by decide +kernel
theorem dX4_numberOf_18 : decode cX4_numberOf 18 = .ok (.aload_n 0, 1) := by decide +kernel
theorem dX4_numberOf_19 : decode cX4_numberOf 19 = .ok (.getfield 9, 3) := by decide +kernel
theorem dX4_numberOf_22 : decode cX4_numberOf 22 = .ok (.iload_n 1, 1) := by decide +kernel
theorem dX4_numberOf_23 : decode cX4_numberOf 23 = .ok (.iaload, 1) := by decide +kernel
theorem dX4_numberOf_24 : decode cX4_numberOf 24 = .ok (.iaload, 1) := by decide +kernel
theorem dX4_numberOf_25 : decode cX4_numberOf 25 = .ok (.if_icmp .lt 5, 3) := by decide +kernel
theorem dX4_numberOf_28 : decode cX4_numberOf 28 = .ok (.iconst (-1), 1) := by decide +kernel
theorem dX4_numberOf_29 : decode cX4_numberOf 29 = .ok (.ireturn, 1) := by decide +kernel
theorem dX4_numberOf_30 : decode cX4_numberOf 30 = .ok (.aload_n 0, 1) := by decide +kernel
theorem dX4_numberOf_31 : decode cX4_numberOf 31 = .ok (.getfield 15, 3) := by decide +kernel
theorem dX4_numberOf_34 : decode cX4_numberOf 34 = .ok (.iload_n 1, 1) := by decide +kernel
theorem dX4_numberOf_35 : decode cX4_numberOf 35 = .ok (.iconst 3, 1) := by decide +kernel
theorem dX4_numberOf_36 : decode cX4_numberOf 36 = .ok (.imul, 1) := by decide +kernel
theorem dX4_numberOf_37 : decode cX4_numberOf 37 = .ok (.iload_n 2, 1) := by decide +kernel
theorem dX4_numberOf_38 : decode cX4_numberOf 38 = .ok (.iadd, 1) := by decide +kernel
theorem dX4_numberOf_39 : decode cX4_numberOf 39 = .ok (.iaload, 1) := by decide +kernel
theorem dX4_numberOf_40 : decode cX4_numberOf 40 = .ok (.ireturn, 1) := by decide +kernel
theorem dX4_putEvent_0 : decode cX4_putEvent 0 = .ok (.aload_n 0, 1) := by decide +kernel
theorem dX4_putEvent_1 : decode cX4_putEvent 1 = .ok (.invokevirtual 44, 3) := by decide +kernel
theorem dX4_putEvent_4 : decode cX4_putEvent 4 = .ok (.istore 5, 2) := by decide +kernel
theorem dX4_putEvent_6 : decode cX4_putEvent 6 = .ok (.iload 5, 2) := by decide +kernel
theorem dX4_putEvent_8 : decode cX4_putEvent 8 = .ok (.bipush 60, 2) := by decide +kernel
theorem dX4_putEvent_10 : decode cX4_putEvent 10 = .ok (.if_icmp .ge 56, 3) := by decide +kernel
theorem dX4_putEvent_13 : decode cX4_putEvent 13 = .ok (.iload_n 1, 1) := by decide +kernel
theorem dX4_putEvent_14 : decode cX4_putEvent 14 = .ok (.ifCond .lt 52, 3) := by decide +kernel
theorem dX4_putEvent_17 : decode cX4_putEvent 17 = .ok (.iload_n 1, 1) := by decide +kernel
theorem dX4_putEvent_18 : decode cX4_putEvent 18 = .ok (.bipush 9, 2) := by decide +kernel
theorem dX4_putEvent_20 : decode cX4_putEvent 20 = .ok (.if_icmp .ge 46, 3) := by decide +kernel
theorem dX4_putEvent_23 : decode cX4_putEvent 23 = .ok (.aload_n 0, 1) := by decide +kernel
theorem dX4_putEvent_24 : decode cX4_putEvent 24 = .ok (.getfield 9, 3) := by decide +kernel
theorem dX4_putEvent_27 : decode cX4_putEvent 27 = .ok (.iload 5, 2) := by decide +kernel
theorem dX4_putEvent_29 : decode cX4_putEvent 29 = .ok (.iload_n 1, 1) := by decide +kernel
theorem dX4_putEvent_30 : decode cX4_putEvent 30 = .ok (.iastore, 1) := by decide +kernel
theorem dX4_putEvent_31 : decode cX4_putEvent 31 = .ok (.aload_n 0, 1) := by decide +kernel
theorem dX4_putEvent_32 : decode cX4_putEvent 32 = .ok (.getfield 15, 3) := by decide +kernel
theorem dX4_putEvent_35 : decode cX4_putEvent 35 = .ok (.iload 5, 2) := by decide +kernel
theorem dX4_putEvent_37 : decode cX4_putEvent 37 = .ok (.iconst 3, 1) := by decide +kernel
theorem dX4_putEvent_38 : decode cX4_putEvent 38 = .ok (.imul, 1) := by decide +kernel
theorem dX4_putEvent_39 : decode cX4_putEvent 39 = .ok (.iload_n 2, 1) := by decide +kernel
theorem dX4_putEvent_40 : decode cX4_putEvent 40 = .ok (.iastore, 1) := by decide +kernel
theorem dX4_putEvent_41 : decode cX4_putEvent 41 = .ok (.aload_n 0, 1) := by decide +kernel
theorem dX4_putEvent_42 : decode cX4_putEvent 42 = .ok (.getfield 15, 3) := by decide +kernel
theorem dX4_putEvent_45 : decode cX4_putEvent 45 = .ok (.iload 5, 2) := by decide +kernel
theorem dX4_putEvent_47 : decode cX4_putEvent 47 = .ok (.iconst 3, 1) := by decide +kernel
theorem dX4_putEvent_48 : decode cX4_putEvent 48 = .ok (.imul, 1) := by decide +kernel
theorem dX4_putEvent_49 : decode cX4_putEvent 49 = .ok (.iconst 1, 1) := by decide +kernel
theorem dX4_putEvent_50 : decode cX4_putEvent 50 = .ok (.iadd, 1) := by decide +kernel
theorem dX4_putEvent_51 : decode cX4_putEvent 51 = .ok (.iload_n 3, 1) := by decide +kernel
theorem dX4_putEvent_52 : decode cX4_putEvent 52 = .ok (.iastore, 1) := by decide +kernel
theorem dX4_putEvent_53 : decode cX4_putEvent 53 = .ok (.aload_n 0, 1) := by decide +kernel
theorem dX4_putEvent_54 : decode cX4_putEvent 54 = .ok (.getfield 15, 3) := by decide +kernel
theorem dX4_putEvent_57 : decode cX4_putEvent 57 = .ok (.iload 5, 2) := by decide +kernel
theorem dX4_putEvent_59 : decode cX4_putEvent 59 = .ok (.iconst 3, 1) := by decide +kernel
theorem dX4_putEvent_60 : decode cX4_putEvent 60 = .ok (.imul, 1) := by decide +kernel
theorem dX4_putEvent_61 : decode cX4_putEvent 61 = .ok (.iconst 2, 1) := by decide +kernel
theorem dX4_putEvent_62 : decode cX4_putEvent 62 = .ok (.iadd, 1) := by decide +kernel
theorem dX4_putEvent_63 : decode cX4_putEvent 63 = .ok (.iload 4, 2) := by decide +kernel
theorem dX4_putEvent_65 : decode cX4_putEvent 65 = .ok (.iastore, 1) := by decide +kernel
theorem dX4_putEvent_66 : decode cX4_putEvent 66 = .ok (.return_, 1) := by decide +kernel
theorem dX5_init_0 : decode cX5_init 0 = .ok (.aload_n 0, 1) := by decide +kernel
theorem dX5_init_1 : decode cX5_init 1 = .ok (.invokespecial 3, 3) := by decide +kernel
theorem dX5_init_4 : decode cX5_init 4 = .ok (.aload_n 0, 1) := by decide +kernel
theorem dX5_init_5 : decode cX5_init 5 = .ok (.bipush 60, 2) := by decide +kernel
theorem dX5_init_7 : decode cX5_init 7 = .ok (.newarray .long, 2) := by decide +kernel
theorem dX5_init_9 : decode cX5_init 9 = .ok (.putfield 9, 3) := by decide +kernel
theorem dX5_init_12 : decode cX5_init 12 = .ok (.return_, 1) := by decide +kernel
theorem dX5_make_0 : decode cX5_make 0 = .ok (.aload_n 0, 1) := by decide +kernel
theorem dX5_make_1 : decode cX5_make 1 = .ok (.iconst 1, 1) := by decide +kernel
theorem dX5_make_2 : decode cX5_make 2 = .ok (.putfield 15, 3) := by decide +kernel
theorem dX5_make_5 : decode cX5_make 5 = .ok (.aload_n 0, 1) := by decide +kernel
theorem dX5_make_6 : decode cX5_make 6 = .ok (.iload_n 1, 1) := by decide +kernel
theorem dX5_make_7 : decode cX5_make 7 = .ok (.putfield 19, 3) := by decide +kernel
theorem dX5_make_10 : decode cX5_make 10 = .ok (.aload_n 0, 1) := by decide +kernel
theorem dX5_make_11 : decode cX5_make 11 = .ok (.iconst 0, 1) := by decide +kernel
theorem dX5_make_12 : decode cX5_make 12 = .ok (.iload_n 2, 1) := by decide +kernel
theorem dX5_make_13 : decode cX5_make 13 = .ok (.bipush 60, 2) := by decide +kernel
theorem dX5_make_15 : decode cX5_make 15 = .ok (.invokestatic 23, 3) := by decide +kernel
theorem dX5_make_18 : decode cX5_make 18 = .ok (.invokestatic 29, 3) := by decide +kernel
theorem dX5_make_21 : decode cX5_make 21 = .ok (.putfield 32, 3) := by decide +kernel
theorem dX5_make_24 : decode cX5_make 24 = .ok (.aload_n 0, 1) := by decide +kernel
theorem dX5_make_25 : decode cX5_make 25 = .ok (.getfield 9, 3) := by decide +kernel
theorem dX5_make_28 : decode cX5_make 28 = .ok (.lconst 0, 1) := by decide +kernel
theorem dX5_make_29 : decode cX5_make 29 = .ok (.invokestatic 35, 3) := by decide +kernel
theorem dX5_make_32 : decode cX5_make 32 = .ok (.return_, 1) := by decide +kernel
theorem dX5_put_0 : decode cX5_put 0 = .ok (.iload_n 1, 1) := by decide +kernel
theorem dX5_put_1 : decode cX5_put 1 = .ok (.ifCond .lt 22, 3) := by decide +kernel
theorem dX5_put_4 : decode cX5_put 4 = .ok (.iload_n 1, 1) := by decide +kernel
theorem dX5_put_5 : decode cX5_put 5 = .ok (.aload_n 0, 1) := by decide +kernel
theorem dX5_put_6 : decode cX5_put 6 = .ok (.getfield 32, 3) := by decide +kernel
theorem dX5_put_9 : decode cX5_put 9 = .ok (.if_icmp .ge 14, 3) := by decide +kernel
theorem dX5_put_12 : decode cX5_put 12 = .ok (.aload_n 0, 1) := by decide +kernel
theorem dX5_put_13 : decode cX5_put 13 = .ok (.getfield 9, 3) := by decide +kernel
theorem dX5_put_16 : decode cX5_put 16 = .ok (.iload_n 1, 1) := by decide +kernel
theorem dX5_put_17 : decode cX5_put 17 = .ok (.aload_n 0, 1) := by decide +kernel
theorem dX5_put_18 : decode cX5_put 18 = .ok (.lload_n 2, 1) := by decide +kernel
theorem dX5_put_19 : decode cX5_put 19 = .ok (.invokevirtual 41, 3) := by decide +kernel
theorem dX5_put_22 : decode cX5_put 22 = .ok (.lastore, 1) := by decide +kernel
theorem dX5_put_23 : decode cX5_put 23 = .ok (.return_, 1) := by decide +kernel
theorem dX5_numberAt_0 : decode cX5_numberAt 0 = .ok (.iload_n 1, 1) := by decide +kernel
theorem dX5_numberAt_1 : decode cX5_numberAt 1 = .ok (.ifCond .lt 20, 3) := by decide +kernel
theorem dX5_numberAt_4 : decode cX5_numberAt 4 = .ok (.iload_n 1, 1) := by decide +kernel
theorem dX5_numberAt_5 : decode cX5_numberAt 5 = .ok (.aload_n 0, 1) := by decide +kernel
theorem dX5_numberAt_6 : decode cX5_numberAt 6 = .ok (.getfield 32, 3) := by decide +kernel
theorem dX5_numberAt_9 : decode cX5_numberAt 9 = .ok (.if_icmp .ge 12, 3) := by decide +kernel
theorem dX5_numberAt_12 : decode cX5_numberAt 12 = .ok (.aload_n 0, 1) := by decide +kernel
theorem dX5_numberAt_13 : decode cX5_numberAt 13 = .ok (.getfield 9, 3) := by decide +kernel
theorem dX5_numberAt_16 : decode cX5_numberAt 16 = .ok (.iload_n 1, 1) := by decide +kernel
theorem dX5_numberAt_17 : decode cX5_numberAt 17 = .ok (.laload, 1) := by decide +kernel
theorem dX5_numberAt_18 : decode cX5_numberAt 18 = .ok (.goto 4, 3) := by decide +kernel
theorem dX5_numberAt_21 : decode cX5_numberAt 21 = .ok (.lconst 0, 1) := by decide +kernel
theorem dX5_numberAt_22 : decode cX5_numberAt 22 = .ok (.lreturn, 1) := by decide +kernel
theorem dX5_reaches_0 : decode cX5_reaches 0 = .ok (.iload_n 1, 1) := by decide +kernel
theorem dX5_reaches_1 : decode cX5_reaches 1 = .ok (.ifCond .lt 25, 3) := by decide +kernel
theorem dX5_reaches_4 : decode cX5_reaches 4 = .ok (.iload_n 2, 1) := by decide +kernel
theorem dX5_reaches_5 : decode cX5_reaches 5 = .ok (.ifCond .lt 21, 3) := by decide +kernel
theorem dX5_reaches_8 : decode cX5_reaches 8 = .ok (.iload_n 1, 1) := by decide +kernel
theorem dX5_reaches_9 : decode cX5_reaches 9 = .ok (.i2l, 1) := by decide +kernel
theorem dX5_reaches_10 : decode cX5_reaches 10 = .ok (.iload_n 2, 1) := by decide +kernel
theorem dX5_reaches_11 : decode cX5_reaches 11 = .ok (.i2l, 1) := by decide +kernel
theorem dX5_reaches_12 : decode cX5_reaches 12 = .ok (.ladd, 1) := by decide +kernel
theorem dX5_reaches_13 : decode cX5_reaches 13 = .ok (.aload_n 0, 1) := by decide +kernel
theorem dX5_reaches_14 : decode cX5_reaches 14 = .ok (.getfield 32, 3) := by decide +kernel
theorem dX5_reaches_17 : decode cX5_reaches 17 = .ok (.i2l, 1) := by decide +kernel
theorem dX5_reaches_18 : decode cX5_reaches 18 = .ok (.lcmp, 1) := by decide +kernel
theorem dX5_reaches_19 : decode cX5_reaches 19 = .ok (.ifCond .gt 7, 3) := by decide +kernel
theorem dX5_reaches_22 : decode cX5_reaches 22 = .ok (.iconst 1, 1) := by decide +kernel
theorem dX5_reaches_23 : decode cX5_reaches 23 = .ok (.goto 4, 3) := by decide +kernel
theorem dX5_reaches_26 : decode cX5_reaches 26 = .ok (.iconst 0, 1) := by decide +kernel
theorem dX5_reaches_27 : decode cX5_reaches 27 = .ok (.ireturn, 1) := by decide +kernel
theorem dX5_cut_0 : decode cX5_cut 0 = .ok (.aload_n 0, 1) := by decide +kernel
theorem dX5_cut_1 : decode cX5_cut 1 = .ok (.getfield 19, 3) := by decide +kernel
theorem dX5_cut_4 : decode cX5_cut 4 = .ok (.tableswitch 42 0 2 #[28, 33, 38], 28) := by decide +kernel
theorem dX5_cut_32 : decode cX5_cut 32 = .ok (.lload_n 1, 1) := by decide +kernel
theorem dX5_cut_33 : decode cX5_cut 33 = .ok (.l2i, 1) := by decide +kernel
theorem dX5_cut_34 : decode cX5_cut 34 = .ok (.i2b, 1) := by decide +kernel
theorem dX5_cut_35 : decode cX5_cut 35 = .ok (.i2l, 1) := by decide +kernel
theorem dX5_cut_36 : decode cX5_cut 36 = .ok (.lreturn, 1) := by decide +kernel
theorem dX5_cut_37 : decode cX5_cut 37 = .ok (.lload_n 1, 1) := by decide +kernel
theorem dX5_cut_38 : decode cX5_cut 38 = .ok (.l2i, 1) := by decide +kernel
theorem dX5_cut_39 : decode cX5_cut 39 = .ok (.i2s, 1) := by decide +kernel
theorem dX5_cut_40 : decode cX5_cut 40 = .ok (.i2l, 1) := by decide +kernel
theorem dX5_cut_41 : decode cX5_cut 41 = .ok (.lreturn, 1) := by decide +kernel
theorem dX5_cut_42 : decode cX5_cut 42 = .ok (.lload_n 1, 1) := by decide +kernel
theorem dX5_cut_43 : decode cX5_cut 43 = .ok (.l2i, 1) := by decide +kernel
theorem dX5_cut_44 : decode cX5_cut 44 = .ok (.i2l, 1) := by decide +kernel
theorem dX5_cut_45 : decode cX5_cut 45 = .ok (.lreturn, 1) := by decide +kernel
theorem dX5_cut_46 : decode cX5_cut 46 = .ok (.lload_n 1, 1) := by decide +kernel
theorem dX5_cut_47 : decode cX5_cut 47 = .ok (.lreturn, 1) := by decide +kernel
