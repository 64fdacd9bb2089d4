theorem dJ0_length_8abf5_0 : decode cJ0_length_8abf5 0 = .ok (.aload_n 0, 1) := by decide +kernel
theorem dJ0_length_8abf5_1 : decode cJ0_length_8abf5 1 = .ok (.getfield 9, 3) := by decide +kernel
theorem dJ0_length_8abf5_4 : decode cJ0_length_8abf5 4 = .ok (.arraylength, 1) := by decide +kernel
theorem dJ0_length_8abf5_5 : decode cJ0_length_8abf5 5 = .ok (.aload_n 0, 1) := by decide +kernel
theorem dJ0_length_8abf5_6 : decode cJ0_length_8abf5 6 = .ok (.invokevirtual 335, 3) := by decide +kernel
theorem dJ0_length_8abf5_9 : decode cJ0_length_8abf5 9 = .ok (.ishr, 1) := by decide +kernel
theorem dJ0_length_8abf5_10 : decode cJ0_length_8abf5 10 = .ok (.ireturn, 1) := by decide +kernel
theorem dJ0_charAt_5068e_0 : decode cJ0_charAt_5068e 0 = .ok (.aload_n 0, 1) := by decide +kernel
theorem dJ0_charAt_5068e_1 : decode cJ0_charAt_5068e 1 = .ok (.invokevirtual 492, 3) := by decide +kernel
theorem dJ0_charAt_5068e_4 : decode cJ0_charAt_5068e 4 = .ok (.ifCond .eq 12, 3) := by decide +kernel
theorem dJ0_charAt_5068e_7 : decode cJ0_charAt_5068e 7 = .ok (.aload_n 0, 1) := by decide +kernel
theorem dJ0_charAt_5068e_8 : decode cJ0_charAt_5068e 8 = .ok (.getfield 9, 3) := by decide +kernel
theorem dJ0_charAt_5068e_11 : decode cJ0_charAt_5068e 11 = .ok (.iload_n 1, 1) := by decide +kernel
theorem dJ0_charAt_5068e_12 : decode cJ0_charAt_5068e 12 = .ok (.invokestatic 495, 3) := by decide +kernel
theorem dJ0_charAt_5068e_15 : decode cJ0_charAt_5068e 15 = .ok (.ireturn, 1) := by decide +kernel
theorem dJ0_charAt_5068e_16 : decode cJ0_charAt_5068e 16 = .ok (.aload_n 0, 1) := by decide +kernel
theorem dJ0_charAt_5068e_17 : decode cJ0_charAt_5068e 17 = .ok (.getfield 9, 3) := by decide +kernel
theorem dJ0_charAt_5068e_20 : decode cJ0_charAt_5068e 20 = .ok (.iload_n 1, 1) := by decide +kernel
theorem dJ0_charAt_5068e_21 : decode cJ0_charAt_5068e 21 = .ok (.invokestatic 498, 3) := by decide +kernel
theorem dJ0_charAt_5068e_24 : decode cJ0_charAt_5068e 24 = .ok (.ireturn, 1) := by decide +kernel
theorem dJ0_indexOf_0f7a4_0 : decode cJ0_indexOf_0f7a4 0 = .ok (.aload_n 0, 1) := by decide +kernel
theorem dJ0_indexOf_0f7a4_1 : decode cJ0_indexOf_0f7a4 1 = .ok (.iload_n 1, 1) := by decide +kernel
theorem dJ0_indexOf_0f7a4_2 : decode cJ0_indexOf_0f7a4 2 = .ok (.iconst 0, 1) := by decide +kernel
theorem dJ0_indexOf_0f7a4_3 : decode cJ0_indexOf_0f7a4 3 = .ok (.invokevirtual 633, 3) := by decide +kernel
theorem dJ0_indexOf_0f7a4_6 : decode cJ0_indexOf_0f7a4 6 = .ok (.ireturn, 1) := by decide +kernel
theorem dJ0_indexOf_7cf53_0 : decode cJ0_indexOf_7cf53 0 = .ok (.aload_n 0, 1) := by decide +kernel
theorem dJ0_indexOf_7cf53_1 : decode cJ0_indexOf_7cf53 1 = .ok (.invokevirtual 492, 3) := by decide +kernel
theorem dJ0_indexOf_7cf53_4 : decode cJ0_indexOf_7cf53 4 = .ok (.ifCond .eq 19, 3) := by decide +kernel
theorem dJ0_indexOf_7cf53_7 : decode cJ0_indexOf_7cf53 7 = .ok (.aload_n 0, 1) := by decide +kernel
theorem dJ0_indexOf_7cf53_8 : decode cJ0_indexOf_7cf53 8 = .ok (.getfield 9, 3) := by decide +kernel
theorem dJ0_indexOf_7cf53_11 : decode cJ0_indexOf_7cf53 11 = .ok (.iload_n 1, 1) := by decide +kernel
theorem dJ0_indexOf_7cf53_12 : decode cJ0_indexOf_7cf53 12 = .ok (.iload_n 2, 1) := by decide +kernel
theorem dJ0_indexOf_7cf53_13 : decode cJ0_indexOf_7cf53 13 = .ok (.aload_n 0, 1) := by decide +kernel
theorem dJ0_indexOf_7cf53_14 : decode cJ0_indexOf_7cf53 14 = .ok (.invokevirtual 505, 3) := by decide +kernel
theorem dJ0_indexOf_7cf53_17 : decode cJ0_indexOf_7cf53 17 = .ok (.invokestatic 637, 3) := by decide +kernel
theorem dJ0_indexOf_7cf53_20 : decode cJ0_indexOf_7cf53 20 = .ok (.goto 16, 3) := by decide +kernel
theorem dJ0_indexOf_7cf53_23 : decode cJ0_indexOf_7cf53 23 = .ok (.aload_n 0, 1) := by decide +kernel
theorem dJ0_indexOf_7cf53_24 : decode cJ0_indexOf_7cf53 24 = .ok (.getfield 9, 3) := by decide +kernel
theorem dJ0_indexOf_7cf53_27 : decode cJ0_indexOf_7cf53 27 = .ok (.iload_n 1, 1) := by decide +kernel
theorem dJ0_indexOf_7cf53_28 : decode cJ0_indexOf_7cf53 28 = .ok (.iload_n 2, 1) := by decide +kernel
theorem dJ0_indexOf_7cf53_29 : decode cJ0_indexOf_7cf53 29 = .ok (.aload_n 0, 1) := by decide +kernel
theorem dJ0_indexOf_7cf53_30 : decode cJ0_indexOf_7cf53 30 = .ok (.invokevirtual 505, 3) := by decide +kernel
theorem dJ0_indexOf_7cf53_33 : decode cJ0_indexOf_7cf53 33 = .ok (.invokestatic 640, 3) := by decide +kernel
theorem dJ0_indexOf_7cf53_36 : decode cJ0_indexOf_7cf53 36 = .ok (.ireturn, 1) := by decide +kernel
theorem dJ0_coder_7d493_0 : decode cJ0_coder_7d493 0 = .ok (.getstatic 38, 3) := by decide +kernel
theorem dJ0_coder_7d493_3 : decode cJ0_coder_7d493 3 = .ok (.ifCond .eq 10, 3) := by decide +kernel
theorem dJ0_coder_7d493_6 : decode cJ0_coder_7d493 6 = .ok (.aload_n 0, 1) := by decide +kernel
theorem dJ0_coder_7d493_7 : decode cJ0_coder_7d493 7 = .ok (.getfield 15, 3) := by decide +kernel
theorem dJ0_coder_7d493_10 : decode cJ0_coder_7d493 10 = .ok (.goto 4, 3) := by decide +kernel
theorem dJ0_coder_7d493_13 : decode cJ0_coder_7d493 13 = .ok (.iconst 1, 1) := by decide +kernel
theorem dJ0_coder_7d493_14 : decode cJ0_coder_7d493 14 = .ok (.ireturn, 1) := by decide +kernel
theorem dJ0_isLatin1_aae02_0 : decode cJ0_isLatin1_aae02 0 = .ok (.getstatic 38, 3) := by decide +kernel
theorem dJ0_isLatin1_aae02_3 : decode cJ0_isLatin1_aae02 3 = .ok (.ifCond .eq 14, 3) := by decide +kernel
theorem dJ0_isLatin1_aae02_6 : decode cJ0_isLatin1_aae02 6 = .ok (.aload_n 0, 1) := by decide +kernel
theorem dJ0_isLatin1_aae02_7 : decode cJ0_isLatin1_aae02 7 = .ok (.getfield 15, 3) := by decide +kernel
theorem dJ0_isLatin1_aae02_10 : decode cJ0_isLatin1_aae02 10 = .ok (.ifCond .ne 7, 3) := by decide +kernel
theorem dJ0_isLatin1_aae02_13 : decode cJ0_isLatin1_aae02 13 = .ok (.iconst 1, 1) := by decide +kernel
theorem dJ0_isLatin1_aae02_14 : decode cJ0_isLatin1_aae02 14 = .ok (.goto 4, 3) := by decide +kernel
theorem dJ0_isLatin1_aae02_17 : decode cJ0_isLatin1_aae02 17 = .ok (.iconst 0, 1) := by decide +kernel
theorem dJ0_isLatin1_aae02_18 : decode cJ0_isLatin1_aae02 18 = .ok (.ireturn, 1) := by decide +kernel
theorem dJ0_checkIndex_df160_0 : decode cJ0_checkIndex_df160 0 = .ok (.iload_n 0, 1) := by decide +kernel
theorem dJ0_checkIndex_df160_1 : decode cJ0_checkIndex_df160 1 = .ok (.iload_n 1, 1) := by decide +kernel
theorem dJ0_checkIndex_df160_2 : decode cJ0_checkIndex_df160 2 = .ok (.getstatic 1053, 3) := by decide +kernel
theorem dJ0_checkIndex_df160_5 : decode cJ0_checkIndex_df160 5 = .ok (.invokestatic 1059, 3) := by decide +kernel
theorem dJ0_checkIndex_df160_8 : decode cJ0_checkIndex_df160 8 = .ok (.pop, 1) := by decide +kernel
theorem dJ0_checkIndex_df160_9 : decode cJ0_checkIndex_df160 9 = .ok (.return_, 1) := by decide +kernel
theorem dJ0_checkBoundsBeginEnd_23922_0 : decode cJ0_checkBoundsBeginEnd_23922 0 = .ok (.iload_n 0, 1) := by decide +kernel
theorem dJ0_checkBoundsBeginEnd_23922_1 : decode cJ0_checkBoundsBeginEnd_23922 1 = .ok (.iload_n 1, 1) := by decide +kernel
theorem dJ0_checkBoundsBeginEnd_23922_2 : decode cJ0_checkBoundsBeginEnd_23922 2 = .ok (.iload_n 2, 1) := by decide +kernel
theorem dJ0_checkBoundsBeginEnd_23922_3 : decode cJ0_checkBoundsBeginEnd_23922 3 = .ok (.getstatic 1053, 3) := by decide +kernel
theorem dJ0_checkBoundsBeginEnd_23922_6 : decode cJ0_checkBoundsBeginEnd_23922 6 = .ok (.invokestatic 1062, 3) := by decide +kernel
theorem dJ0_checkBoundsBeginEnd_23922_9 : decode cJ0_checkBoundsBeginEnd_23922 9 = .ok (.pop, 1) := by decide +kernel
theorem dJ0_checkBoundsBeginEnd_23922_10 : decode cJ0_checkBoundsBeginEnd_23922 10 = .ok (.return_, 1) := by decide +kernel
theorem dJ1_charAt_3b067_0 : decode cJ1_charAt_3b067 0 = .ok (.iload_n 1, 1) := by decide +kernel
theorem dJ1_charAt_3b067_1 : decode cJ1_charAt_3b067 1 = .ok (.aload_n 0, 1) := by decide +kernel
theorem dJ1_charAt_3b067_2 : decode cJ1_charAt_3b067 2 = .ok (.arraylength, 1) := by decide +kernel
theorem dJ1_charAt_3b067_3 : decode cJ1_charAt_3b067 3 = .ok (.invokestatic 9, 3) := by decide +kernel
theorem dJ1_charAt_3b067_6 : decode cJ1_charAt_3b067 6 = .ok (.aload_n 0, 1) := by decide +kernel
theorem dJ1_charAt_3b067_7 : decode cJ1_charAt_3b067 7 = .ok (.iload_n 1, 1) := by decide +kernel
theorem dJ1_charAt_3b067_8 : decode cJ1_charAt_3b067 8 = .ok (.baload, 1) := by decide +kernel
theorem dJ1_charAt_3b067_9 : decode cJ1_charAt_3b067 9 = .ok (.sipush 255, 3) := by decide +kernel
theorem dJ1_charAt_3b067_12 : decode cJ1_charAt_3b067 12 = .ok (.iand, 1) := by decide +kernel
theorem dJ1_charAt_3b067_13 : decode cJ1_charAt_3b067 13 = .ok (.i2c, 1) := by decide +kernel
theorem dJ1_charAt_3b067_14 : decode cJ1_charAt_3b067 14 = .ok (.ireturn, 1) := by decide +kernel
theorem dJ1_canEncode_9a6ad_0 : decode cJ1_canEncode_9a6ad 0 = .ok (.iload_n 0, 1) := by decide +kernel
theorem dJ1_canEncode_9a6ad_1 : decode cJ1_canEncode_9a6ad 1 = .ok (.ifCond .lt 14, 3) := by decide +kernel
theorem dJ1_canEncode_9a6ad_4 : decode cJ1_canEncode_9a6ad 4 = .ok (.iload_n 0, 1) := by decide +kernel
theorem dJ1_canEncode_9a6ad_5 : decode cJ1_canEncode_9a6ad 5 = .ok (.sipush 255, 3) := by decide +kernel
theorem dJ1_canEncode_9a6ad_8 : decode cJ1_canEncode_9a6ad 8 = .ok (.if_icmp .gt 7, 3) := by decide +kernel
theorem dJ1_canEncode_9a6ad_11 : decode cJ1_canEncode_9a6ad 11 = .ok (.iconst 1, 1) := by decide +kernel
theorem dJ1_canEncode_9a6ad_12 : decode cJ1_canEncode_9a6ad 12 = .ok (.goto 4, 3) := by decide +kernel
theorem dJ1_canEncode_9a6ad_15 : decode cJ1_canEncode_9a6ad 15 = .ok (.iconst 0, 1) := by decide +kernel
theorem dJ1_canEncode_9a6ad_16 : decode cJ1_canEncode_9a6ad 16 = .ok (.ireturn, 1) := by decide +kernel
theorem dJ1_indexOf_4cfef_0 : decode cJ1_indexOf_4cfef 0 = .ok (.iload_n 1, 1) := by decide +kernel
theorem dJ1_indexOf_4cfef_1 : decode cJ1_indexOf_4cfef 1 = .ok (.invokestatic 88, 3) := by decide +kernel
theorem dJ1_indexOf_4cfef_4 : decode cJ1_indexOf_4cfef 4 = .ok (.ifCond .ne 5, 3) := by decide +kernel
theorem dJ1_indexOf_4cfef_7 : decode cJ1_indexOf_4cfef 7 = .ok (.iconst (-1), 1) := by decide +kernel
theorem dJ1_indexOf_4cfef_8 : decode cJ1_indexOf_4cfef 8 = .ok (.ireturn, 1) := by decide +kernel
theorem dJ1_indexOf_4cfef_9 : decode cJ1_indexOf_4cfef 9 = .ok (.iload_n 2, 1) := by decide +kernel
theorem dJ1_indexOf_4cfef_10 : decode cJ1_indexOf_4cfef 10 = .ok (.iconst 0, 1) := by decide +kernel
theorem dJ1_indexOf_4cfef_11 : decode cJ1_indexOf_4cfef 11 = .ok (.invokestatic 92, 3) := by decide +kernel
theorem dJ1_indexOf_4cfef_14 : decode cJ1_indexOf_4cfef 14 = .ok (.istore_n 2, 1) := by decide +kernel
theorem dJ1_indexOf_4cfef_15 : decode cJ1_indexOf_4cfef 15 = .ok (.iload_n 3, 1) := by decide +kernel
theorem dJ1_indexOf_4cfef_16 : decode cJ1_indexOf_4cfef 16 = .ok (.aload_n 0, 1) := by decide +kernel
theorem dJ1_indexOf_4cfef_17 : decode cJ1_indexOf_4cfef 17 = .ok (.arraylength, 1) := by decide +kernel
theorem dJ1_indexOf_4cfef_18 : decode cJ1_indexOf_4cfef 18 = .ok (.invokestatic 38, 3) := by decide +kernel
theorem dJ1_indexOf_4cfef_21 : decode cJ1_indexOf_4cfef 21 = .ok (.istore_n 3, 1) := by decide +kernel
theorem dJ1_indexOf_4cfef_22 : decode cJ1_indexOf_4cfef 22 = .ok (.iload_n 2, 1) := by decide +kernel
theorem dJ1_indexOf_4cfef_23 : decode cJ1_indexOf_4cfef 23 = .ok (.iload_n 3, 1) := by decide +kernel
theorem dJ1_indexOf_4cfef_24 : decode cJ1_indexOf_4cfef 24 = .ok (.if_icmp .lt 5, 3) := by decide +kernel
theorem dJ1_indexOf_4cfef_27 : decode cJ1_indexOf_4cfef 27 = .ok (.iconst (-1), 1) := by decide +kernel
theorem dJ1_indexOf_4cfef_28 : decode cJ1_indexOf_4cfef 28 = .ok (.ireturn, 1) := by decide +kernel
theorem dJ1_indexOf_4cfef_29 : decode cJ1_indexOf_4cfef 29 = .ok (.aload_n 0, 1) := by decide +kernel
theorem dJ1_indexOf_4cfef_30 : decode cJ1_indexOf_4cfef 30 = .ok (.iload_n 1, 1) := by decide +kernel
theorem dJ1_indexOf_4cfef_31 : decode cJ1_indexOf_4cfef 31 = .ok (.iload_n 2, 1) := by decide +kernel
theorem dJ1_indexOf_4cfef_32 : decode cJ1_indexOf_4cfef 32 = .ok (.iload_n 3, 1) := by decide +kernel
theorem dJ1_indexOf_4cfef_33 : decode cJ1_indexOf_4cfef 33 = .ok (.invokestatic 95, 3) := by decide +kernel
theorem dJ1_indexOf_4cfef_36 : decode cJ1_indexOf_4cfef 36 = .ok (.ireturn, 1) := by decide +kernel
theorem dJ1_indexOfChar_4cfef_0 : decode cJ1_indexOfChar_4cfef 0 = .ok (.iload_n 1, 1) := by decide +kernel
theorem dJ1_indexOfChar_4cfef_1 : decode cJ1_indexOfChar_4cfef 1 = .ok (.i2b, 1) := by decide +kernel
theorem dJ1_indexOfChar_4cfef_2 : decode cJ1_indexOfChar_4cfef 2 = .ok (.istore 4, 2) := by decide +kernel
theorem dJ1_indexOfChar_4cfef_4 : decode cJ1_indexOfChar_4cfef 4 = .ok (.iload_n 2, 1) := by decide +kernel
theorem dJ1_indexOfChar_4cfef_5 : decode cJ1_indexOfChar_4cfef 5 = .ok (.istore 5, 2) := by decide +kernel
theorem dJ1_indexOfChar_4cfef_7 : decode cJ1_indexOfChar_4cfef 7 = .ok (.iload 5, 2) := by decide +kernel
theorem dJ1_indexOfChar_4cfef_9 : decode cJ1_indexOfChar_4cfef 9 = .ok (.iload_n 3, 1) := by decide +kernel
theorem dJ1_indexOfChar_4cfef_10 : decode cJ1_indexOfChar_4cfef 10 = .ok (.if_icmp .ge 21, 3) := by decide +kernel
theorem dJ1_indexOfChar_4cfef_13 : decode cJ1_indexOfChar_4cfef 13 = .ok (.aload_n 0, 1) := by decide +kernel
theorem dJ1_indexOfChar_4cfef_14 : decode cJ1_indexOfChar_4cfef 14 = .ok (.iload 5, 2) := by decide +kernel
theorem dJ1_indexOfChar_4cfef_16 : decode cJ1_indexOfChar_4cfef 16 = .ok (.baload, 1) := by decide +kernel
theorem dJ1_indexOfChar_4cfef_17 : decode cJ1_indexOfChar_4cfef 17 = .ok (.iload 4, 2) := by decide +kernel
theorem dJ1_indexOfChar_4cfef_19 : decode cJ1_indexOfChar_4cfef 19 = .ok (.if_icmp .ne 6, 3) := by decide +kernel
theorem dJ1_indexOfChar_4cfef_22 : decode cJ1_indexOfChar_4cfef 22 = .ok (.iload 5, 2) := by decide +kernel
theorem dJ1_indexOfChar_4cfef_24 : decode cJ1_indexOfChar_4cfef 24 = .ok (.ireturn, 1) := by decide +kernel
theorem dJ1_indexOfChar_4cfef_25 : decode cJ1_indexOfChar_4cfef 25 = .ok (.iinc 5 1, 3) := by decide +kernel
theorem dJ1_indexOfChar_4cfef_28 : decode cJ1_indexOfChar_4cfef 28 = .ok (.goto (-21), 3) := by decide +kernel
theorem dJ1_indexOfChar_4cfef_31 : decode cJ1_indexOfChar_4cfef 31 = .ok (.iconst (-1), 1) := by decide +kernel
theorem dJ1_indexOfChar_4cfef_32 : decode cJ1_indexOfChar_4cfef 32 = .ok (.ireturn, 1) := by decide +kernel
theorem dJ2_getChar_3b067_0 : decode cJ2_getChar_3b067 0 = .ok (.getstatic 44, 3) := by decide +kernel
theorem dJ2_getChar_3b067_3 : decode cJ2_getChar_3b067 3 = .ok (.ifCond .ne 25, 3) := by decide +kernel
theorem dJ2_getChar_3b067_6 : decode cJ2_getChar_3b067 6 = .ok (.iload_n 1, 1) := by decide +kernel
theorem dJ2_getChar_3b067_7 : decode cJ2_getChar_3b067 7 = .ok (.ifCond .lt 11, 3) := by decide +kernel
theorem dJ2_getChar_3b067_10 : decode cJ2_getChar_3b067 10 = .ok (.iload_n 1, 1) := by decide +kernel
theorem dJ2_getChar_3b067_11 : decode cJ2_getChar_3b067 11 = .ok (.aload_n 0, 1) := by decide +kernel
theorem dJ2_getChar_3b067_12 : decode cJ2_getChar_3b067 12 = .ok (.invokestatic 48, 3) := by decide +kernel
theorem dJ2_getChar_3b067_15 : decode cJ2_getChar_3b067 15 = .ok (.if_icmp .lt 13, 3) := by decide +kernel
theorem dJ2_getChar_3b067_18 : decode cJ2_getChar_3b067 18 = .ok (.new 52, 3) := by decide +kernel
theorem dJ2_getChar_3b067_21 : decode cJ2_getChar_3b067 21 = .ok (.dup, 1) := by decide +kernel
theorem dJ2_getChar_3b067_22 : decode cJ2_getChar_3b067 22 = .ok (.ldc 54, 2) := by decide +kernel
theorem dJ2_getChar_3b067_24 : decode cJ2_getChar_3b067 24 = .ok (.invokespecial 56, 3) := by decide +kernel
theorem dJ2_getChar_3b067_27 : decode cJ2_getChar_3b067 27 = .ok (.athrow, 1) := by decide +kernel
theorem dJ2_getChar_3b067_28 : decode cJ2_getChar_3b067 28 = .ok (.iload_n 1, 1) := by decide +kernel
theorem dJ2_getChar_3b067_29 : decode cJ2_getChar_3b067 29 = .ok (.iconst 1, 1) := by decide +kernel
theorem dJ2_getChar_3b067_30 : decode cJ2_getChar_3b067 30 = .ok (.ishl, 1) := by decide +kernel
theorem dJ2_getChar_3b067_31 : decode cJ2_getChar_3b067 31 = .ok (.istore_n 1, 1) := by decide +kernel
theorem dJ2_getChar_3b067_32 : decode cJ2_getChar_3b067 32 = .ok (.aload_n 0, 1) := by decide +kernel
theorem dJ2_getChar_3b067_33 : decode cJ2_getChar_3b067 33 = .ok (.iload_n 1, 1) := by decide +kernel
theorem dJ2_getChar_3b067_34 : decode cJ2_getChar_3b067 34 = .ok (.iinc 1 1, 3) := by decide +kernel
theorem dJ2_getChar_3b067_37 : decode cJ2_getChar_3b067 37 = .ok (.baload, 1) := by decide +kernel
theorem dJ2_getChar_3b067_38 : decode cJ2_getChar_3b067 38 = .ok (.sipush 255, 3) := by decide +kernel
theorem dJ2_getChar_3b067_41 : decode cJ2_getChar_3b067 41 = .ok (.iand, 1) := by decide +kernel
theorem dJ2_getChar_3b067_42 : decode cJ2_getChar_3b067 42 = .ok (.getstatic 59, 3) := by decide +kernel
theorem dJ2_getChar_3b067_45 : decode cJ2_getChar_3b067 45 = .ok (.ishl, 1) := by decide +kernel
theorem dJ2_getChar_3b067_46 : decode cJ2_getChar_3b067 46 = .ok (.aload_n 0, 1) := by decide +kernel
theorem dJ2_getChar_3b067_47 : decode cJ2_getChar_3b067 47 = .ok (.iload_n 1, 1) := by decide +kernel
theorem dJ2_getChar_3b067_48 : decode cJ2_getChar_3b067 48 = .ok (.baload, 1) := by decide +kernel
theorem dJ2_getChar_3b067_49 : decode cJ2_getChar_3b067 49 = .ok (.sipush 255, 3) := by decide +kernel
theorem dJ2_getChar_3b067_52 : decode cJ2_getChar_3b067 52 = .ok (.iand, 1) := by decide +kernel
theorem dJ2_getChar_3b067_53 : decode cJ2_getChar_3b067 53 = .ok (.getstatic 63, 3) := by decide +kernel
theorem dJ2_getChar_3b067_56 : decode cJ2_getChar_3b067 56 = .ok (.ishl, 1) := by decide +kernel
theorem dJ2_getChar_3b067_57 : decode cJ2_getChar_3b067 57 = .ok (.ior, 1) := by decide +kernel
theorem dJ2_getChar_3b067_58 : decode cJ2_getChar_3b067 58 = .ok (.i2c, 1) := by decide +kernel
theorem dJ2_getChar_3b067_59 : decode cJ2_getChar_3b067 59 = .ok (.ireturn, 1) := by decide +kernel
theorem dJ2_length_9d52b_0 : decode cJ2_length_9d52b 0 = .ok (.aload_n 0, 1) := by decide +kernel
theorem dJ2_length_9d52b_1 : decode cJ2_length_9d52b 1 = .ok (.arraylength, 1) := by decide +kernel
theorem dJ2_length_9d52b_2 : decode cJ2_length_9d52b 2 = .ok (.iconst 1, 1) := by decide +kernel
theorem dJ2_length_9d52b_3 : decode cJ2_length_9d52b 3 = .ok (.ishr, 1) := by decide +kernel
theorem dJ2_length_9d52b_4 : decode cJ2_length_9d52b 4 = .ok (.ireturn, 1) := by decide +kernel
theorem dJ2_indexOf_4cfef_0 : decode cJ2_indexOf_4cfef 0 = .ok (.iload_n 2, 1) := by decide +kernel
theorem dJ2_indexOf_4cfef_1 : decode cJ2_indexOf_4cfef 1 = .ok (.iconst 0, 1) := by decide +kernel
theorem dJ2_indexOf_4cfef_2 : decode cJ2_indexOf_4cfef 2 = .ok (.invokestatic 224, 3) := by decide +kernel
theorem dJ2_indexOf_4cfef_5 : decode cJ2_indexOf_4cfef 5 = .ok (.istore_n 2, 1) := by decide +kernel
theorem dJ2_indexOf_4cfef_6 : decode cJ2_indexOf_4cfef 6 = .ok (.iload_n 3, 1) := by decide +kernel
theorem dJ2_indexOf_4cfef_7 : decode cJ2_indexOf_4cfef 7 = .ok (.aload_n 0, 1) := by decide +kernel
theorem dJ2_indexOf_4cfef_8 : decode cJ2_indexOf_4cfef 8 = .ok (.arraylength, 1) := by decide +kernel
theorem dJ2_indexOf_4cfef_9 : decode cJ2_indexOf_4cfef 9 = .ok (.iconst 1, 1) := by decide +kernel
theorem dJ2_indexOf_4cfef_10 : decode cJ2_indexOf_4cfef 10 = .ok (.ishr, 1) := by decide +kernel
theorem dJ2_indexOf_4cfef_11 : decode cJ2_indexOf_4cfef 11 = .ok (.invokestatic 183, 3) := by decide +kernel
theorem dJ2_indexOf_4cfef_14 : decode cJ2_indexOf_4cfef 14 = .ok (.istore_n 3, 1) := by decide +kernel
theorem dJ2_indexOf_4cfef_15 : decode cJ2_indexOf_4cfef 15 = .ok (.iload_n 2, 1) := by decide +kernel
theorem dJ2_indexOf_4cfef_16 : decode cJ2_indexOf_4cfef 16 = .ok (.iload_n 3, 1) := by decide +kernel
theorem dJ2_indexOf_4cfef_17 : decode cJ2_indexOf_4cfef 17 = .ok (.if_icmp .lt 5, 3) := by decide +kernel
theorem dJ2_indexOf_4cfef_20 : decode cJ2_indexOf_4cfef 20 = .ok (.iconst (-1), 1) := by decide +kernel
theorem dJ2_indexOf_4cfef_21 : decode cJ2_indexOf_4cfef 21 = .ok (.ireturn, 1) := by decide +kernel
theorem dJ2_indexOf_4cfef_22 : decode cJ2_indexOf_4cfef 22 = .ok (.iload_n 1, 1) := by decide +kernel
theorem dJ2_indexOf_4cfef_23 : decode cJ2_indexOf_4cfef 23 = .ok (.ldc 227, 2) := by decide +kernel
theorem dJ2_indexOf_4cfef_25 : decode cJ2_indexOf_4cfef 25 = .ok (.if_icmp .ge 11, 3) := by decide +kernel
theorem dJ2_indexOf_4cfef_28 : decode cJ2_indexOf_4cfef 28 = .ok (.aload_n 0, 1) := by decide +kernel
theorem dJ2_indexOf_4cfef_29 : decode cJ2_indexOf_4cfef 29 = .ok (.iload_n 1, 1) := by decide +kernel
theorem dJ2_indexOf_4cfef_30 : decode cJ2_indexOf_4cfef 30 = .ok (.iload_n 2, 1) := by decide +kernel
theorem dJ2_indexOf_4cfef_31 : decode cJ2_indexOf_4cfef 31 = .ok (.iload_n 3, 1) := by decide +kernel
theorem dJ2_indexOf_4cfef_32 : decode cJ2_indexOf_4cfef 32 = .ok (.invokestatic 228, 3) := by decide +kernel
theorem dJ2_indexOf_4cfef_35 : decode cJ2_indexOf_4cfef 35 = .ok (.ireturn, 1) := by decide +kernel
theorem dJ2_indexOf_4cfef_36 : decode cJ2_indexOf_4cfef 36 = .ok (.aload_n 0, 1) := by decide +kernel
theorem dJ2_indexOf_4cfef_37 : decode cJ2_indexOf_4cfef 37 = .ok (.iload_n 1, 1) := by decide +kernel
theorem dJ2_indexOf_4cfef_38 : decode cJ2_indexOf_4cfef 38 = .ok (.iload_n 2, 1) := by decide +kernel
theorem dJ2_indexOf_4cfef_39 : decode cJ2_indexOf_4cfef 39 = .ok (.iload_n 3, 1) := by decide +kernel
theorem dJ2_indexOf_4cfef_40 : decode cJ2_indexOf_4cfef 40 = .ok (.invokestatic 232, 3) := by decide +kernel
theorem dJ2_indexOf_4cfef_43 : decode cJ2_indexOf_4cfef 43 = .ok (.ireturn, 1) := by decide +kernel
theorem dJ2_indexOfChar_4cfef_0 : decode cJ2_indexOfChar_4cfef 0 = .ok (.iload_n 2, 1) := by decide +kernel
theorem dJ2_indexOfChar_4cfef_1 : decode cJ2_indexOfChar_4cfef 1 = .ok (.iload_n 3, 1) := by decide +kernel
theorem dJ2_indexOfChar_4cfef_2 : decode cJ2_indexOfChar_4cfef 2 = .ok (.aload_n 0, 1) := by decide +kernel
theorem dJ2_indexOfChar_4cfef_3 : decode cJ2_indexOfChar_4cfef 3 = .ok (.invokestatic 96, 3) := by decide +kernel
theorem dJ2_indexOfChar_4cfef_6 : decode cJ2_indexOfChar_4cfef 6 = .ok (.aload_n 0, 1) := by decide +kernel
theorem dJ2_indexOfChar_4cfef_7 : decode cJ2_indexOfChar_4cfef 7 = .ok (.iload_n 1, 1) := by decide +kernel
theorem dJ2_indexOfChar_4cfef_8 : decode cJ2_indexOfChar_4cfef 8 = .ok (.iload_n 2, 1) := by decide +kernel
theorem dJ2_indexOfChar_4cfef_9 : decode cJ2_indexOfChar_4cfef 9 = .ok (.iload_n 3, 1) := by decide +kernel
theorem dJ2_indexOfChar_4cfef_10 : decode cJ2_indexOfChar_4cfef 10 = .ok (.invokestatic 244, 3) := by decide +kernel
theorem dJ2_indexOfChar_4cfef_13 : decode cJ2_indexOfChar_4cfef 13 = .ok (.ireturn, 1) := by decide +kernel
theorem dJ2_indexOfCharUnsafe_4cfef_0 : decode cJ2_indexOfCharUnsafe_4cfef 0 = .ok (.iload_n 2, 1) := by decide +kernel
theorem dJ2_indexOfCharUnsafe_4cfef_1 : decode cJ2_indexOfCharUnsafe_4cfef 1 = .ok (.istore 4, 2) := by decide +kernel
theorem dJ2_indexOfCharUnsafe_4cfef_3 : decode cJ2_indexOfCharUnsafe_4cfef 3 = .ok (.iload 4, 2) := by decide +kernel
theorem dJ2_indexOfCharUnsafe_4cfef_5 : decode cJ2_indexOfCharUnsafe_4cfef 5 = .ok (.iload_n 3, 1) := by decide +kernel
theorem dJ2_indexOfCharUnsafe_4cfef_6 : decode cJ2_indexOfCharUnsafe_4cfef 6 = .ok (.if_icmp .ge 22, 3) := by decide +kernel
theorem dJ2_indexOfCharUnsafe_4cfef_9 : decode cJ2_indexOfCharUnsafe_4cfef 9 = .ok (.aload_n 0, 1) := by decide +kernel
theorem dJ2_indexOfCharUnsafe_4cfef_10 : decode cJ2_indexOfCharUnsafe_4cfef 10 = .ok (.iload 4, 2) := by decide +kernel
theorem dJ2_indexOfCharUnsafe_4cfef_12 : decode cJ2_indexOfCharUnsafe_4cfef 12 = .ok (.invokestatic 71, 3) := by decide +kernel
theorem dJ2_indexOfCharUnsafe_4cfef_15 : decode cJ2_indexOfCharUnsafe_4cfef 15 = .ok (.iload_n 1, 1) := by decide +kernel
theorem dJ2_indexOfCharUnsafe_4cfef_16 : decode cJ2_indexOfCharUnsafe_4cfef 16 = .ok (.if_icmp .ne 6, 3) := by decide +kernel
theorem dJ2_indexOfCharUnsafe_4cfef_19 : decode cJ2_indexOfCharUnsafe_4cfef 19 = .ok (.iload 4, 2) := by decide +kernel
theorem dJ2_indexOfCharUnsafe_4cfef_21 : decode cJ2_indexOfCharUnsafe_4cfef 21 = .ok (.ireturn, 1) := by decide +kernel
theorem dJ2_indexOfCharUnsafe_4cfef_22 : decode cJ2_indexOfCharUnsafe_4cfef 22 = .ok (.iinc 4 1, 3) := by decide +kernel
theorem dJ2_indexOfCharUnsafe_4cfef_25 : decode cJ2_indexOfCharUnsafe_4cfef 25 = .ok (.goto (-22), 3) := by decide +kernel
theorem dJ2_indexOfCharUnsafe_4cfef_28 : decode cJ2_indexOfCharUnsafe_4cfef 28 = .ok (.iconst (-1), 1) := by decide +kernel
theorem dJ2_indexOfCharUnsafe_4cfef_29 : decode cJ2_indexOfCharUnsafe_4cfef 29 = .ok (.ireturn, 1) := by decide +kernel
theorem dJ2_indexOfSupplementary_4cfef_0 : decode cJ2_indexOfSupplementary_4cfef 0 = .ok (.iload_n 1, 1) := by decide +kernel
theorem dJ2_indexOfSupplementary_4cfef_1 : decode cJ2_indexOfSupplementary_4cfef 1 = .ok (.invokestatic 164, 3) := by decide +kernel
theorem dJ2_indexOfSupplementary_4cfef_4 : decode cJ2_indexOfSupplementary_4cfef 4 = .ok (.ifCond .eq 65, 3) := by decide +kernel
theorem dJ2_indexOfSupplementary_4cfef_7 : decode cJ2_indexOfSupplementary_4cfef 7 = .ok (.iload_n 1, 1) := by decide +kernel
theorem dJ2_indexOfSupplementary_4cfef_8 : decode cJ2_indexOfSupplementary_4cfef 8 = .ok (.invokestatic 157, 3) := by decide +kernel
theorem dJ2_indexOfSupplementary_4cfef_11 : decode cJ2_indexOfSupplementary_4cfef 11 = .ok (.istore 4, 2) := by decide +kernel
theorem dJ2_indexOfSupplementary_4cfef_13 : decode cJ2_indexOfSupplementary_4cfef 13 = .ok (.iload_n 1, 1) := by decide +kernel
theorem dJ2_indexOfSupplementary_4cfef_14 : decode cJ2_indexOfSupplementary_4cfef 14 = .ok (.invokestatic 161, 3) := by decide +kernel
theorem dJ2_indexOfSupplementary_4cfef_17 : decode cJ2_indexOfSupplementary_4cfef 17 = .ok (.istore 5, 2) := by decide +kernel
theorem dJ2_indexOfSupplementary_4cfef_19 : decode cJ2_indexOfSupplementary_4cfef 19 = .ok (.iload_n 2, 1) := by decide +kernel
theorem dJ2_indexOfSupplementary_4cfef_20 : decode cJ2_indexOfSupplementary_4cfef 20 = .ok (.iload_n 3, 1) := by decide +kernel
theorem dJ2_indexOfSupplementary_4cfef_21 : decode cJ2_indexOfSupplementary_4cfef 21 = .ok (.aload_n 0, 1) := by decide +kernel
theorem dJ2_indexOfSupplementary_4cfef_22 : decode cJ2_indexOfSupplementary_4cfef 22 = .ok (.invokestatic 96, 3) := by decide +kernel
theorem dJ2_indexOfSupplementary_4cfef_25 : decode cJ2_indexOfSupplementary_4cfef 25 = .ok (.iload_n 2, 1) := by decide +kernel
theorem dJ2_indexOfSupplementary_4cfef_26 : decode cJ2_indexOfSupplementary_4cfef 26 = .ok (.istore 6, 2) := by decide +kernel
theorem dJ2_indexOfSupplementary_4cfef_28 : decode cJ2_indexOfSupplementary_4cfef 28 = .ok (.iload 6, 2) := by decide +kernel
theorem dJ2_indexOfSupplementary_4cfef_30 : decode cJ2_indexOfSupplementary_4cfef 30 = .ok (.iload_n 3, 1) := by decide +kernel
theorem dJ2_indexOfSupplementary_4cfef_31 : decode cJ2_indexOfSupplementary_4cfef 31 = .ok (.iconst 1, 1) := by decide +kernel
theorem dJ2_indexOfSupplementary_4cfef_32 : decode cJ2_indexOfSupplementary_4cfef 32 = .ok (.isub, 1) := by decide +kernel
theorem dJ2_indexOfSupplementary_4cfef_33 : decode cJ2_indexOfSupplementary_4cfef 33 = .ok (.if_icmp .ge 36, 3) := by decide +kernel
theorem dJ2_indexOfSupplementary_4cfef_36 : decode cJ2_indexOfSupplementary_4cfef 36 = .ok (.aload_n 0, 1) := by decide +kernel
theorem dJ2_indexOfSupplementary_4cfef_37 : decode cJ2_indexOfSupplementary_4cfef 37 = .ok (.iload 6, 2) := by decide +kernel
theorem dJ2_indexOfSupplementary_4cfef_39 : decode cJ2_indexOfSupplementary_4cfef 39 = .ok (.invokestatic 71, 3) := by decide +kernel
theorem dJ2_indexOfSupplementary_4cfef_42 : decode cJ2_indexOfSupplementary_4cfef 42 = .ok (.iload 4, 2) := by decide +kernel
theorem dJ2_indexOfSupplementary_4cfef_44 : decode cJ2_indexOfSupplementary_4cfef 44 = .ok (.if_icmp .ne 19, 3) := by decide +kernel
theorem dJ2_indexOfSupplementary_4cfef_47 : decode cJ2_indexOfSupplementary_4cfef 47 = .ok (.aload_n 0, 1) := by decide +kernel
theorem dJ2_indexOfSupplementary_4cfef_48 : decode cJ2_indexOfSupplementary_4cfef 48 = .ok (.iload 6, 2) := by decide +kernel
theorem dJ2_indexOfSupplementary_4cfef_50 : decode cJ2_indexOfSupplementary_4cfef 50 = .ok (.iconst 1, 1) := by decide +kernel
theorem dJ2_indexOfSupplementary_4cfef_51 : decode cJ2_indexOfSupplementary_4cfef 51 = .ok (.iadd, 1) := by decide +kernel
theorem dJ2_indexOfSupplementary_4cfef_52 : decode cJ2_indexOfSupplementary_4cfef 52 = .ok (.invokestatic 71, 3) := by decide +kernel
theorem dJ2_indexOfSupplementary_4cfef_55 : decode cJ2_indexOfSupplementary_4cfef 55 = .ok (.iload 5, 2) := by decide +kernel
theorem dJ2_indexOfSupplementary_4cfef_57 : decode cJ2_indexOfSupplementary_4cfef 57 = .ok (.if_icmp .ne 6, 3) := by decide +kernel
theorem dJ2_indexOfSupplementary_4cfef_60 : decode cJ2_indexOfSupplementary_4cfef 60 = .ok (.iload 6, 2) := by decide +kernel
theorem dJ2_indexOfSupplementary_4cfef_62 : decode cJ2_indexOfSupplementary_4cfef 62 = .ok (.ireturn, 1) := by decide +kernel
theorem dJ2_indexOfSupplementary_4cfef_63 : decode cJ2_indexOfSupplementary_4cfef 63 = .ok (.iinc 6 1, 3) := by decide +kernel
theorem dJ2_indexOfSupplementary_4cfef_66 : decode cJ2_indexOfSupplementary_4cfef 66 = .ok (.goto (-38), 3) := by decide +kernel
theorem dJ2_indexOfSupplementary_4cfef_69 : decode cJ2_indexOfSupplementary_4cfef 69 = .ok (.iconst (-1), 1) := by decide +kernel
theorem dJ2_indexOfSupplementary_4cfef_70 : decode cJ2_indexOfSupplementary_4cfef 70 = .ok (.ireturn, 1) := by decide +kernel
theorem dJ2_charAt_3b067_0 : decode cJ2_charAt_3b067 0 = .ok (.iload_n 1, 1) := by decide +kernel
theorem dJ2_charAt_3b067_1 : decode cJ2_charAt_3b067 1 = .ok (.aload_n 0, 1) := by decide +kernel
theorem dJ2_charAt_3b067_2 : decode cJ2_charAt_3b067 2 = .ok (.invokestatic 67, 3) := by decide +kernel
theorem dJ2_charAt_3b067_5 : decode cJ2_charAt_3b067 5 = .ok (.aload_n 0, 1) := by decide +kernel
theorem dJ2_charAt_3b067_6 : decode cJ2_charAt_3b067 6 = .ok (.iload_n 1, 1) := by decide +kernel
theorem dJ2_charAt_3b067_7 : decode cJ2_charAt_3b067 7 = .ok (.invokestatic 71, 3) := by decide +kernel
theorem dJ2_charAt_3b067_10 : decode cJ2_charAt_3b067 10 = .ok (.ireturn, 1) := by decide +kernel
theorem dJ2_checkIndex_2214a_0 : decode cJ2_checkIndex_2214a 0 = .ok (.iload_n 0, 1) := by decide +kernel
theorem dJ2_checkIndex_2214a_1 : decode cJ2_checkIndex_2214a 1 = .ok (.aload_n 1, 1) := by decide +kernel
theorem dJ2_checkIndex_2214a_2 : decode cJ2_checkIndex_2214a 2 = .ok (.invokestatic 48, 3) := by decide +kernel
theorem dJ2_checkIndex_2214a_5 : decode cJ2_checkIndex_2214a 5 = .ok (.invokestatic 414, 3) := by decide +kernel
theorem dJ2_checkIndex_2214a_8 : decode cJ2_checkIndex_2214a 8 = .ok (.return_, 1) := by decide +kernel
theorem dJ2_checkBoundsBeginEnd_d044e_0 : decode cJ2_checkBoundsBeginEnd_d044e 0 = .ok (.iload_n 0, 1) := by decide +kernel
theorem dJ2_checkBoundsBeginEnd_d044e_1 : decode cJ2_checkBoundsBeginEnd_d044e 1 = .ok (.iload_n 1, 1) := by decide +kernel
theorem dJ2_checkBoundsBeginEnd_d044e_2 : decode cJ2_checkBoundsBeginEnd_d044e 2 = .ok (.aload_n 2, 1) := by decide +kernel
theorem dJ2_checkBoundsBeginEnd_d044e_3 : decode cJ2_checkBoundsBeginEnd_d044e 3 = .ok (.invokestatic 48, 3) := by decide +kernel
theorem dJ2_checkBoundsBeginEnd_d044e_6 : decode cJ2_checkBoundsBeginEnd_d044e 6 = .ok (.invokestatic 241, 3) := by decide +kernel
theorem dJ2_checkBoundsBeginEnd_d044e_9 : decode cJ2_checkBoundsBeginEnd_d044e 9 = .ok (.return_, 1) := by decide +kernel
theorem dJ3_checkIndex_8e157_0 : decode cJ3_checkIndex_8e157 0 = .ok (.iload_n 0, 1) := by decide +kernel
theorem dJ3_checkIndex_8e157_1 : decode cJ3_checkIndex_8e157 1 = .ok (.ifCond .lt 8, 3) := by decide +kernel
theorem dJ3_checkIndex_8e157_4 : decode cJ3_checkIndex_8e157 4 = .ok (.iload_n 0, 1) := by decide +kernel
theorem dJ3_checkIndex_8e157_5 : decode cJ3_checkIndex_8e157 5 = .ok (.iload_n 1, 1) := by decide +kernel
theorem dJ3_checkIndex_8e157_6 : decode cJ3_checkIndex_8e157 6 = .ok (.if_icmp .lt 10, 3) := by decide +kernel
theorem dJ3_checkIndex_8e157_9 : decode cJ3_checkIndex_8e157 9 = .ok (.aload_n 2, 1) := by decide +kernel
theorem dJ3_checkIndex_8e157_10 : decode cJ3_checkIndex_8e157 10 = .ok (.iload_n 0, 1) := by decide +kernel
theorem dJ3_checkIndex_8e157_11 : decode cJ3_checkIndex_8e157 11 = .ok (.iload_n 1, 1) := by decide +kernel
theorem dJ3_checkIndex_8e157_12 : decode cJ3_checkIndex_8e157 12 = .ok (.invokestatic 95, 3) := by decide +kernel
theorem dJ3_checkIndex_8e157_15 : decode cJ3_checkIndex_8e157 15 = .ok (.athrow, 1) := by decide +kernel
theorem dJ3_checkIndex_8e157_16 : decode cJ3_checkIndex_8e157 16 = .ok (.iload_n 0, 1) := by decide +kernel
theorem dJ3_checkIndex_8e157_17 : decode cJ3_checkIndex_8e157 17 = .ok (.ireturn, 1) := by decide +kernel
theorem dJ3_checkFromToIndex_8c36e_0 : decode cJ3_checkFromToIndex_8c36e 0 = .ok (.iload_n 0, 1) := by decide +kernel
theorem dJ3_checkFromToIndex_8c36e_1 : decode cJ3_checkFromToIndex_8c36e 1 = .ok (.ifCond .lt 13, 3) := by decide +kernel
theorem dJ3_checkFromToIndex_8c36e_4 : decode cJ3_checkFromToIndex_8c36e 4 = .ok (.iload_n 0, 1) := by decide +kernel
theorem dJ3_checkFromToIndex_8c36e_5 : decode cJ3_checkFromToIndex_8c36e 5 = .ok (.iload_n 1, 1) := by decide +kernel
theorem dJ3_checkFromToIndex_8c36e_6 : decode cJ3_checkFromToIndex_8c36e 6 = .ok (.if_icmp .gt 8, 3) := by decide +kernel
theorem dJ3_checkFromToIndex_8c36e_9 : decode cJ3_checkFromToIndex_8c36e 9 = .ok (.iload_n 1, 1) := by decide +kernel
theorem dJ3_checkFromToIndex_8c36e_10 : decode cJ3_checkFromToIndex_8c36e 10 = .ok (.iload_n 2, 1) := by decide +kernel
theorem dJ3_checkFromToIndex_8c36e_11 : decode cJ3_checkFromToIndex_8c36e 11 = .ok (.if_icmp .le 11, 3) := by decide +kernel
theorem dJ3_checkFromToIndex_8c36e_14 : decode cJ3_checkFromToIndex_8c36e 14 = .ok (.aload_n 3, 1) := by decide +kernel
theorem dJ3_checkFromToIndex_8c36e_15 : decode cJ3_checkFromToIndex_8c36e 15 = .ok (.iload_n 0, 1) := by decide +kernel
theorem dJ3_checkFromToIndex_8c36e_16 : decode cJ3_checkFromToIndex_8c36e 16 = .ok (.iload_n 1, 1) := by decide +kernel
theorem dJ3_checkFromToIndex_8c36e_17 : decode cJ3_checkFromToIndex_8c36e 17 = .ok (.iload_n 2, 1) := by decide +kernel
theorem dJ3_checkFromToIndex_8c36e_18 : decode cJ3_checkFromToIndex_8c36e 18 = .ok (.invokestatic 99, 3) := by decide +kernel
theorem dJ3_checkFromToIndex_8c36e_21 : decode cJ3_checkFromToIndex_8c36e 21 = .ok (.athrow, 1) := by decide +kernel
theorem dJ3_checkFromToIndex_8c36e_22 : decode cJ3_checkFromToIndex_8c36e 22 = .ok (.iload_n 0, 1) := by decide +kernel
theorem dJ3_checkFromToIndex_8c36e_23 : decode cJ3_checkFromToIndex_8c36e 23 = .ok (.ireturn, 1) := by decide +kernel
theorem dJ6_compare_7cf53_0 : decode cJ6_compare_7cf53 0 = .ok (.iload_n 0, 1) := by decide +kernel
theorem dJ6_compare_7cf53_1 : decode cJ6_compare_7cf53 1 = .ok (.iload_n 1, 1) := by decide +kernel
theorem dJ6_compare_7cf53_2 : decode cJ6_compare_7cf53 2 = .ok (.if_icmp .ge 7, 3) := by decide +kernel
theorem dJ6_compare_7cf53_5 : decode cJ6_compare_7cf53 5 = .ok (.iconst (-1), 1) := by decide +kernel
theorem dJ6_compare_7cf53_6 : decode cJ6_compare_7cf53 6 = .ok (.goto 13, 3) := by decide +kernel
theorem dJ6_compare_7cf53_9 : decode cJ6_compare_7cf53 9 = .ok (.iload_n 0, 1) := by decide +kernel
theorem dJ6_compare_7cf53_10 : decode cJ6_compare_7cf53 10 = .ok (.iload_n 1, 1) := by decide +kernel
theorem dJ6_compare_7cf53_11 : decode cJ6_compare_7cf53 11 = .ok (.if_icmp .ne 7, 3) := by decide +kernel
theorem dJ6_compare_7cf53_14 : decode cJ6_compare_7cf53 14 = .ok (.iconst 0, 1) := by decide +kernel
theorem dJ6_compare_7cf53_15 : decode cJ6_compare_7cf53 15 = .ok (.goto 4, 3) := by decide +kernel
theorem dJ6_compare_7cf53_18 : decode cJ6_compare_7cf53 18 = .ok (.iconst 1, 1) := by decide +kernel
theorem dJ6_compare_7cf53_19 : decode cJ6_compare_7cf53 19 = .ok (.ireturn, 1) := by decide +kernel
theorem dJ6_bitCount_0f7a4_0 : decode cJ6_bitCount_0f7a4 0 = .ok (.iload_n 0, 1) := by decide +kernel
theorem dJ6_bitCount_0f7a4_1 : decode cJ6_bitCount_0f7a4 1 = .ok (.iload_n 0, 1) := by decide +kernel
theorem dJ6_bitCount_0f7a4_2 : decode cJ6_bitCount_0f7a4 2 = .ok (.iconst 1, 1) := by decide +kernel
theorem dJ6_bitCount_0f7a4_3 : decode cJ6_bitCount_0f7a4 3 = .ok (.iushr, 1) := by decide +kernel
theorem dJ6_bitCount_0f7a4_4 : decode cJ6_bitCount_0f7a4 4 = .ok (.ldc_w 265, 3) := by decide +kernel
theorem dJ6_bitCount_0f7a4_7 : decode cJ6_bitCount_0f7a4 7 = .ok (.iand, 1) := by decide +kernel
theorem dJ6_bitCount_0f7a4_8 : decode cJ6_bitCount_0f7a4 8 = .ok (.isub, 1) := by decide +kernel
theorem dJ6_bitCount_0f7a4_9 : decode cJ6_bitCount_0f7a4 9 = .ok (.istore_n 0, 1) := by decide +kernel
theorem dJ6_bitCount_0f7a4_10 : decode cJ6_bitCount_0f7a4 10 = .ok (.iload_n 0, 1) := by decide +kernel
theorem dJ6_bitCount_0f7a4_11 : decode cJ6_bitCount_0f7a4 11 = .ok (.ldc_w 266, 3) := by decide +kernel
theorem dJ6_bitCount_0f7a4_14 : decode cJ6_bitCount_0f7a4 14 = .ok (.iand, 1) := by decide +kernel
theorem dJ6_bitCount_0f7a4_15 : decode cJ6_bitCount_0f7a4 15 = .ok (.iload_n 0, 1) := by decide +kernel
theorem dJ6_bitCount_0f7a4_16 : decode cJ6_bitCount_0f7a4 16 = .ok (.iconst 2, 1) := by decide +kernel
theorem dJ6_bitCount_0f7a4_17 : decode cJ6_bitCount_0f7a4 17 = .ok (.iushr, 1) := by decide +kernel
theorem dJ6_bitCount_0f7a4_18 : decode cJ6_bitCount_0f7a4 18 = .ok (.ldc_w 266, 3) := by decide +kernel
theorem dJ6_bitCount_0f7a4_21 : decode cJ6_bitCount_0f7a4 21 = .ok (.iand, 1) := by decide +kernel
theorem dJ6_bitCount_0f7a4_22 : decode cJ6_bitCount_0f7a4 22 = .ok (.iadd, 1) := by decide +kernel
theorem dJ6_bitCount_0f7a4_23 : decode cJ6_bitCount_0f7a4 23 = .ok (.istore_n 0, 1) := by decide +kernel
theorem dJ6_bitCount_0f7a4_24 : decode cJ6_bitCount_0f7a4 24 = .ok (.iload_n 0, 1) := by decide +kernel
theorem dJ6_bitCount_0f7a4_25 : decode cJ6_bitCount_0f7a4 25 = .ok (.iload_n 0, 1) := by decide +kernel
theorem dJ6_bitCount_0f7a4_26 : decode cJ6_bitCount_0f7a4 26 = .ok (.iconst 4, 1) := by decide +kernel
theorem dJ6_bitCount_0f7a4_27 : decode cJ6_bitCount_0f7a4 27 = .ok (.iushr, 1) := by decide +kernel
theorem dJ6_bitCount_0f7a4_28 : decode cJ6_bitCount_0f7a4 28 = .ok (.iadd, 1) := by decide +kernel
theorem dJ6_bitCount_0f7a4_29 : decode cJ6_bitCount_0f7a4 29 = .ok (.ldc_w 267, 3) := by decide +kernel
theorem dJ6_bitCount_0f7a4_32 : decode cJ6_bitCount_0f7a4 32 = .ok (.iand, 1) := by decide +kernel
theorem dJ6_bitCount_0f7a4_33 : decode cJ6_bitCount_0f7a4 33 = .ok (.istore_n 0, 1) := by decide +kernel
theorem dJ6_bitCount_0f7a4_34 : decode cJ6_bitCount_0f7a4 34 = .ok (.iload_n 0, 1) := by decide +kernel
theorem dJ6_bitCount_0f7a4_35 : decode cJ6_bitCount_0f7a4 35 = .ok (.iload_n 0, 1) := by decide +kernel
theorem dJ6_bitCount_0f7a4_36 : decode cJ6_bitCount_0f7a4 36 = .ok (.bipush 8, 2) := by decide +kernel
theorem dJ6_bitCount_0f7a4_38 : decode cJ6_bitCount_0f7a4 38 = .ok (.iushr, 1) := by decide +kernel
theorem dJ6_bitCount_0f7a4_39 : decode cJ6_bitCount_0f7a4 39 = .ok (.iadd, 1) := by decide +kernel
theorem dJ6_bitCount_0f7a4_40 : decode cJ6_bitCount_0f7a4 40 = .ok (.istore_n 0, 1) := by decide +kernel
theorem dJ6_bitCount_0f7a4_41 : decode cJ6_bitCount_0f7a4 41 = .ok (.iload_n 0, 1) := by decide +kernel
theorem dJ6_bitCount_0f7a4_42 : decode cJ6_bitCount_0f7a4 42 = .ok (.iload_n 0, 1) := by decide +kernel
theorem dJ6_bitCount_0f7a4_43 : decode cJ6_bitCount_0f7a4 43 = .ok (.bipush 16, 2) := by decide +kernel
theorem dJ6_bitCount_0f7a4_45 : decode cJ6_bitCount_0f7a4 45 = .ok (.iushr, 1) := by decide +kernel
theorem dJ6_bitCount_0f7a4_46 : decode cJ6_bitCount_0f7a4 46 = .ok (.iadd, 1) := by decide +kernel
theorem dJ6_bitCount_0f7a4_47 : decode cJ6_bitCount_0f7a4 47 = .ok (.istore_n 0, 1) := by decide +kernel
theorem dJ6_bitCount_0f7a4_48 : decode cJ6_bitCount_0f7a4 48 = .ok (.iload_n 0, 1) := by decide +kernel
theorem dJ6_bitCount_0f7a4_49 : decode cJ6_bitCount_0f7a4 49 = .ok (.bipush 63, 2) := by decide +kernel
theorem dJ6_bitCount_0f7a4_51 : decode cJ6_bitCount_0f7a4 51 = .ok (.iand, 1) := by decide +kernel
theorem dJ6_bitCount_0f7a4_52 : decode cJ6_bitCount_0f7a4 52 = .ok (.ireturn, 1) := by decide +kernel
theorem dJ7_fill_53178_0 : decode cJ7_fill_53178 0 = .ok (.iconst 0, 1) := by decide +kernel
theorem dJ7_fill_53178_1 : decode cJ7_fill_53178 1 = .ok (.istore_n 2, 1) := by decide +kernel
theorem dJ7_fill_53178_2 : decode cJ7_fill_53178 2 = .ok (.aload_n 0, 1) := by decide +kernel
theorem dJ7_fill_53178_3 : decode cJ7_fill_53178 3 = .ok (.arraylength, 1) := by decide +kernel
theorem dJ7_fill_53178_4 : decode cJ7_fill_53178 4 = .ok (.istore_n 3, 1) := by decide +kernel
theorem dJ7_fill_53178_5 : decode cJ7_fill_53178 5 = .ok (.iload_n 2, 1) := by decide +kernel
theorem dJ7_fill_53178_6 : decode cJ7_fill_53178 6 = .ok (.iload_n 3, 1) := by decide +kernel
theorem dJ7_fill_53178_7 : decode cJ7_fill_53178 7 = .ok (.if_icmp .ge 13, 3) := by decide +kernel
theorem dJ7_fill_53178_10 : decode cJ7_fill_53178 10 = .ok (.aload_n 0, 1) := by decide +kernel
theorem dJ7_fill_53178_11 : decode cJ7_fill_53178 11 = .ok (.iload_n 2, 1) := by decide +kernel
theorem dJ7_fill_53178_12 : decode cJ7_fill_53178 12 = .ok (.iload_n 1, 1) := by decide +kernel
theorem dJ7_fill_53178_13 : decode cJ7_fill_53178 13 = .ok (.iastore, 1) := by decide +kernel
theorem dJ7_fill_53178_14 : decode cJ7_fill_53178 14 = .ok (.iinc 2 1, 3) := by decide +kernel
theorem dJ7_fill_53178_17 : decode cJ7_fill_53178 17 = .ok (.goto (-12), 3) := by decide +kernel
theorem dJ7_fill_53178_20 : decode cJ7_fill_53178 20 = .ok (.return_, 1) := by decide +kernel
theorem dJ9_abs_0f7a4_0 : decode cJ9_abs_0f7a4 0 = .ok (.iload_n 0, 1) := by decide +kernel
theorem dJ9_abs_0f7a4_1 : decode cJ9_abs_0f7a4 1 = .ok (.ifCond .ge 8, 3) := by decide +kernel
theorem dJ9_abs_0f7a4_4 : decode cJ9_abs_0f7a4 4 = .ok (.iload_n 0, 1) := by decide +kernel
theorem dJ9_abs_0f7a4_5 : decode cJ9_abs_0f7a4 5 = .ok (.ineg, 1) := by decide +kernel
theorem dJ9_abs_0f7a4_6 : decode cJ9_abs_0f7a4 6 = .ok (.goto 4, 3) := by decide +kernel
theorem dJ9_abs_0f7a4_9 : decode cJ9_abs_0f7a4 9 = .ok (.iload_n 0, 1) := by decide +kernel
theorem dJ9_abs_0f7a4_10 : decode cJ9_abs_0f7a4 10 = .ok (.ireturn, 1) := by decide +kernel
theorem dJ9_max_7cf53_0 : decode cJ9_max_7cf53 0 = .ok (.iload_n 0, 1) := by decide +kernel
theorem dJ9_max_7cf53_1 : decode cJ9_max_7cf53 1 = .ok (.iload_n 1, 1) := by decide +kernel
theorem dJ9_max_7cf53_2 : decode cJ9_max_7cf53 2 = .ok (.if_icmp .lt 7, 3) := by decide +kernel
theorem dJ9_max_7cf53_5 : decode cJ9_max_7cf53 5 = .ok (.iload_n 0, 1) := by decide +kernel
theorem dJ9_max_7cf53_6 : decode cJ9_max_7cf53 6 = .ok (.goto 4, 3) := by decide +kernel
theorem dJ9_max_7cf53_9 : decode cJ9_max_7cf53 9 = .ok (.iload_n 1, 1) := by decide +kernel
theorem dJ9_max_7cf53_10 : decode cJ9_max_7cf53 10 = .ok (.ireturn, 1) := by decide +kernel
theorem dJ9_min_7cf53_0 : decode cJ9_min_7cf53 0 = .ok (.iload_n 0, 1) := by decide +kernel
theorem dJ9_min_7cf53_1 : decode cJ9_min_7cf53 1 = .ok (.iload_n 1, 1) := by decide +kernel
theorem dJ9_min_7cf53_2 : decode cJ9_min_7cf53 2 = .ok (.if_icmp .gt 7, 3) := by decide +kernel
theorem dJ9_min_7cf53_5 : decode cJ9_min_7cf53 5 = .ok (.iload_n 0, 1) := by decide +kernel
theorem dJ9_min_7cf53_6 : decode cJ9_min_7cf53 6 = .ok (.goto 4, 3) := by decide +kernel
theorem dJ9_min_7cf53_9 : decode cJ9_min_7cf53 9 = .ok (.iload_n 1, 1) := by decide +kernel
theorem dJ9_min_7cf53_10 : decode cJ9_min_7cf53 10 = .ok (.ireturn, 1) := by decide +kernel
theorem dJ11_isValidCodePoint_9a6ad_0 : decode cJ11_isValidCodePoint_9a6ad 0 = .ok (.iload_n 0, 1) := by decide +kernel
theorem dJ11_isValidCodePoint_9a6ad_1 : decode cJ11_isValidCodePoint_9a6ad 1 = .ok (.bipush 16, 2) := by decide +kernel
theorem dJ11_isValidCodePoint_9a6ad_3 : decode cJ11_isValidCodePoint_9a6ad 3 = .ok (.iushr, 1) := by decide +kernel
theorem dJ11_isValidCodePoint_9a6ad_4 : decode cJ11_isValidCodePoint_9a6ad 4 = .ok (.istore_n 1, 1) := by decide +kernel
theorem dJ11_isValidCodePoint_9a6ad_5 : decode cJ11_isValidCodePoint_9a6ad 5 = .ok (.iload_n 1, 1) := by decide +kernel
theorem dJ11_isValidCodePoint_9a6ad_6 : decode cJ11_isValidCodePoint_9a6ad 6 = .ok (.bipush 17, 2) := by decide +kernel
theorem dJ11_isValidCodePoint_9a6ad_8 : decode cJ11_isValidCodePoint_9a6ad 8 = .ok (.if_icmp .ge 7, 3) := by decide +kernel
theorem dJ11_isValidCodePoint_9a6ad_11 : decode cJ11_isValidCodePoint_9a6ad 11 = .ok (.iconst 1, 1) := by decide +kernel
theorem dJ11_isValidCodePoint_9a6ad_12 : decode cJ11_isValidCodePoint_9a6ad 12 = .ok (.goto 4, 3) := by decide +kernel
theorem dJ11_isValidCodePoint_9a6ad_15 : decode cJ11_isValidCodePoint_9a6ad 15 = .ok (.iconst 0, 1) := by decide +kernel
theorem dJ11_isValidCodePoint_9a6ad_16 : decode cJ11_isValidCodePoint_9a6ad 16 = .ok (.ireturn, 1) := by decide +kernel
theorem dJ11_highSurrogate_5068e_0 : decode cJ11_highSurrogate_5068e 0 = .ok (.iload_n 0, 1) := by decide +kernel
theorem dJ11_highSurrogate_5068e_1 : decode cJ11_highSurrogate_5068e 1 = .ok (.bipush 10, 2) := by decide +kernel
theorem dJ11_highSurrogate_5068e_3 : decode cJ11_highSurrogate_5068e 3 = .ok (.iushr, 1) := by decide +kernel
theorem dJ11_highSurrogate_5068e_4 : decode cJ11_highSurrogate_5068e 4 = .ok (.ldc 110, 2) := by decide +kernel
theorem dJ11_highSurrogate_5068e_6 : decode cJ11_highSurrogate_5068e 6 = .ok (.iadd, 1) := by decide +kernel
theorem dJ11_highSurrogate_5068e_7 : decode cJ11_highSurrogate_5068e 7 = .ok (.i2c, 1) := by decide +kernel
theorem dJ11_highSurrogate_5068e_8 : decode cJ11_highSurrogate_5068e 8 = .ok (.ireturn, 1) := by decide +kernel
theorem dJ11_lowSurrogate_5068e_0 : decode cJ11_lowSurrogate_5068e 0 = .ok (.iload_n 0, 1) := by decide +kernel
theorem dJ11_lowSurrogate_5068e_1 : decode cJ11_lowSurrogate_5068e 1 = .ok (.sipush 1023, 3) := by decide +kernel
theorem dJ11_lowSurrogate_5068e_4 : decode cJ11_lowSurrogate_5068e 4 = .ok (.iand, 1) := by decide +kernel
theorem dJ11_lowSurrogate_5068e_5 : decode cJ11_lowSurrogate_5068e 5 = .ok (.ldc 76, 2) := by decide +kernel
theorem dJ11_lowSurrogate_5068e_7 : decode cJ11_lowSurrogate_5068e 7 = .ok (.iadd, 1) := by decide +kernel
theorem dJ11_lowSurrogate_5068e_8 : decode cJ11_lowSurrogate_5068e 8 = .ok (.i2c, 1) := by decide +kernel
theorem dJ11_lowSurrogate_5068e_9 : decode cJ11_lowSurrogate_5068e 9 = .ok (.ireturn, 1) := by decide +kernel
theorem dX0_init_0 : decode cX0_init 0 = .ok (.aload_n 0, 1) := by decide +kernel
theorem dX0_init_1 : decode cX0_init 1 = .ok (.invokespecial 3, 3) := by decide +kernel
theorem dX0_init_4 : decode cX0_init 4 = .ok (.aload_n 0, 1) := by decide +kernel
theorem dX0_init_5 : decode cX0_init 5 = .ok (.sipush 732, 3) := by decide +kernel
theorem dX0_init_8 : decode cX0_init 8 = .ok (.newarray .long, 2) := by decide +kernel
theorem dX0_init_10 : decode cX0_init 10 = .ok (.putfield 9, 3) := by decide +kernel
theorem dX0_init_13 : decode cX0_init 13 = .ok (.aload_n 0, 1) := by decide +kernel
theorem dX0_init_14 : decode cX0_init 14 = .ok (.sipush 11424, 3) := by decide +kernel
theorem dX0_init_17 : decode cX0_init 17 = .ok (.newarray .int, 2) := by decide +kernel
theorem dX0_init_19 : decode cX0_init 19 = .ok (.putfield 15, 3) := by decide +kernel
theorem dX0_init_22 : decode cX0_init 22 = .ok (.aload_n 0, 1) := by decide +kernel
theorem dX0_init_23 : decode cX0_init 23 = .ok (.bipush 16, 2) := by decide +kernel
theorem dX0_init_25 : decode cX0_init 25 = .ok (.newarray .int, 2) := by decide +kernel
theorem dX0_init_27 : decode cX0_init 27 = .ok (.putfield 19, 3) := by decide +kernel
theorem dX0_init_30 : decode cX0_init 30 = .ok (.aload_n 0, 1) := by decide +kernel
theorem dX0_init_31 : decode cX0_init 31 = .ok (.getfield 19, 3) := by decide +kernel
theorem dX0_init_34 : decode cX0_init 34 = .ok (.sipush (-1000), 3) := by decide +kernel
theorem dX0_init_37 : decode cX0_init 37 = .ok (.invokestatic 22, 3) := by decide +kernel
theorem dX0_init_40 : decode cX0_init 40 = .ok (.return_, 1) := by decide +kernel
theorem dX0_open_0 : decode cX0_open 0 = .ok (.iload_n 1, 1) := by decide +kernel
theorem dX0_open_1 : decode cX0_open 1 = .ok (.ifCond .lt 9, 3) := by decide +kernel
theorem dX0_open_4 : decode cX0_open 4 = .ok (.iload_n 1, 1) := by decide +kernel
theorem dX0_open_5 : decode cX0_open 5 = .ok (.bipush 60, 2) := by decide +kernel
theorem dX0_open_7 : decode cX0_open 7 = .ok (.if_icmp .le 4, 3) := by decide +kernel
theorem dX0_open_10 : decode cX0_open 10 = .ok (.return_, 1) := by decide +kernel
theorem dX0_open_11 : decode cX0_open 11 = .ok (.iconst 0, 1) := by decide +kernel
theorem dX0_open_12 : decode cX0_open 12 = .ok (.istore_n 2, 1) := by decide +kernel
theorem dX0_open_13 : decode cX0_open 13 = .ok (.iload_n 2, 1) := by decide +kernel
theorem dX0_open_14 : decode cX0_open 14 = .ok (.bipush 12, 2) := by decide +kernel
theorem dX0_open_16 : decode cX0_open 16 = .ok (.if_icmp .ge 21, 3) := by decide +kernel
theorem dX0_open_19 : decode cX0_open 19 = .ok (.aload_n 0, 1) := by decide +kernel
theorem dX0_open_20 : decode cX0_open 20 = .ok (.getfield 9, 3) := by decide +kernel
theorem dX0_open_23 : decode cX0_open 23 = .ok (.iload_n 1, 1) := by decide +kernel
theorem dX0_open_24 : decode cX0_open 24 = .ok (.bipush 12, 2) := by decide +kernel
theorem dX0_open_26 : decode cX0_open 26 = .ok (.imul, 1) := by decide +kernel
theorem dX0_open_27 : decode cX0_open 27 = .ok (.iload_n 2, 1) := by decide +kernel
theorem dX0_open_28 : decode cX0_open 28 = .ok (.iadd, 1) := by decide +kernel
theorem dX0_open_29 : decode cX0_open 29 = .ok (.lconst 0, 1) := by decide +kernel
theorem dX0_open_30 : decode cX0_open 30 = .ok (.lastore, 1) := by decide +kernel
theorem dX0_open_31 : decode cX0_open 31 = .ok (.iinc 2 1, 3) := by decide +kernel
theorem dX0_open_34 : decode cX0_open 34 = .ok (.goto (-21), 3) := by decide +kernel
theorem dX0_open_37 : decode cX0_open 37 = .ok (.iload_n 1, 1) := by decide +kernel
theorem dX0_open_38 : decode cX0_open 38 = .ok (.bipush (-40), 2) := by decide +kernel
theorem dX0_open_40 : decode cX0_open 40 = .ok (.isub, 1) := by decide +kernel
theorem dX0_open_41 : decode cX0_open 41 = .ok (.bipush 112, 2) := by decide +kernel
theorem dX0_open_43 : decode cX0_open 43 = .ok (.imul, 1) := by decide +kernel
theorem dX0_open_44 : decode cX0_open 44 = .ok (.istore_n 2, 1) := by decide +kernel
theorem dX0_open_45 : decode cX0_open 45 = .ok (.aload_n 0, 1) := by decide +kernel
theorem dX0_open_46 : decode cX0_open 46 = .ok (.getfield 15, 3) := by decide +kernel
theorem dX0_open_49 : decode cX0_open 49 = .ok (.iload_n 2, 1) := by decide +kernel
theorem dX0_open_50 : decode cX0_open 50 = .ok (.aload_n 0, 1) := by decide +kernel
theorem dX0_open_51 : decode cX0_open 51 = .ok (.getfield 15, 3) := by decide +kernel
theorem dX0_open_54 : decode cX0_open 54 = .ok (.iload_n 2, 1) := by decide +kernel
theorem dX0_open_55 : decode cX0_open 55 = .ok (.bipush 112, 2) := by decide +kernel
theorem dX0_open_57 : decode cX0_open 57 = .ok (.iadd, 1) := by decide +kernel
theorem dX0_open_58 : decode cX0_open 58 = .ok (.bipush 112, 2) := by decide +kernel
theorem dX0_open_60 : decode cX0_open 60 = .ok (.invokestatic 28, 3) := by decide +kernel
theorem dX0_open_63 : decode cX0_open 63 = .ok (.aload_n 0, 1) := by decide +kernel
theorem dX0_open_64 : decode cX0_open 64 = .ok (.iload_n 1, 1) := by decide +kernel
theorem dX0_open_65 : decode cX0_open 65 = .ok (.putfield 34, 3) := by decide +kernel
theorem dX0_open_68 : decode cX0_open 68 = .ok (.return_, 1) := by decide +kernel
theorem dX0_give_0 : decode cX0_give 0 = .ok (.aload_n 0, 1) := by decide +kernel
theorem dX0_give_1 : decode cX0_give 1 = .ok (.getfield 9, 3) := by decide +kernel
theorem dX0_give_4 : decode cX0_give 4 = .ok (.aload_n 0, 1) := by decide +kernel
theorem dX0_give_5 : decode cX0_give 5 = .ok (.getfield 34, 3) := by decide +kernel
theorem dX0_give_8 : decode cX0_give 8 = .ok (.bipush 12, 2) := by decide +kernel
theorem dX0_give_10 : decode cX0_give 10 = .ok (.imul, 1) := by decide +kernel
theorem dX0_give_11 : decode cX0_give 11 = .ok (.iload_n 1, 1) := by decide +kernel
theorem dX0_give_12 : decode cX0_give 12 = .ok (.iload_n 2, 1) := by decide +kernel
theorem dX0_give_13 : decode cX0_give 13 = .ok (.iload_n 3, 1) := by decide +kernel
theorem dX0_give_14 : decode cX0_give 14 = .ok (.invokestatic 38, 3) := by decide +kernel
theorem dX0_give_17 : decode cX0_give 17 = .ok (.iadd, 1) := by decide +kernel
theorem dX0_give_18 : decode cX0_give 18 = .ok (.dup2, 1) := by decide +kernel
theorem dX0_give_19 : decode cX0_give 19 = .ok (.laload, 1) := by decide +kernel
theorem dX0_give_20 : decode cX0_give 20 = .ok (.lconst 1, 1) := by decide +kernel
theorem dX0_give_21 : decode cX0_give 21 = .ok (.iconst 4, 1) := by decide +kernel
theorem dX0_give_22 : decode cX0_give 22 = .ok (.iload 4, 2) := by decide +kernel
theorem dX0_give_24 : decode cX0_give 24 = .ok (.imul, 1) := by decide +kernel
theorem dX0_give_25 : decode cX0_give 25 = .ok (.lshl, 1) := by decide +kernel
theorem dX0_give_26 : decode cX0_give 26 = .ok (.ladd, 1) := by decide +kernel
theorem dX0_give_27 : decode cX0_give 27 = .ok (.lastore, 1) := by decide +kernel
theorem dX0_give_28 : decode cX0_give 28 = .ok (.aload_n 0, 1) := by decide +kernel
theorem dX0_give_29 : decode cX0_give 29 = .ok (.aload_n 0, 1) := by decide +kernel
theorem dX0_give_30 : decode cX0_give 30 = .ok (.getfield 34, 3) := by decide +kernel
theorem dX0_give_33 : decode cX0_give 33 = .ok (.iload_n 1, 1) := by decide +kernel
theorem dX0_give_34 : decode cX0_give 34 = .ok (.iload_n 2, 1) := by decide +kernel
theorem dX0_give_35 : decode cX0_give 35 = .ok (.iload_n 3, 1) := by decide +kernel
theorem dX0_give_36 : decode cX0_give 36 = .ok (.iload 4, 2) := by decide +kernel
theorem dX0_give_38 : decode cX0_give 38 = .ok (.iconst 1, 1) := by decide +kernel
theorem dX0_give_39 : decode cX0_give 39 = .ok (.invokevirtual 44, 3) := by decide +kernel
theorem dX0_give_42 : decode cX0_give 42 = .ok (.return_, 1) := by decide +kernel
theorem dX0_addSums_0 : decode cX0_addSums 0 = .ok (.iload_n 1, 1) := by decide +kernel
theorem dX0_addSums_1 : decode cX0_addSums 1 = .ok (.istore 7, 2) := by decide +kernel
theorem dX0_addSums_3 : decode cX0_addSums 3 = .ok (.iload 7, 2) := by decide +kernel
theorem dX0_addSums_5 : decode cX0_addSums 5 = .ok (.aload_n 0, 1) := by decide +kernel
theorem dX0_addSums_6 : decode cX0_addSums 6 = .ok (.getfield 34, 3) := by decide +kernel
theorem dX0_addSums_9 : decode cX0_addSums 9 = .ok (.if_icmp .gt 101, 3) := by decide +kernel
theorem dX0_addSums_12 : decode cX0_addSums 12 = .ok (.iload 7, 2) := by decide +kernel
theorem dX0_addSums_14 : decode cX0_addSums 14 = .ok (.bipush (-40), 2) := by decide +kernel
theorem dX0_addSums_16 : decode cX0_addSums 16 = .ok (.isub, 1) := by decide +kernel
theorem dX0_addSums_17 : decode cX0_addSums 17 = .ok (.iconst 1, 1) := by decide +kernel
theorem dX0_addSums_18 : decode cX0_addSums 18 = .ok (.iadd, 1) := by decide +kernel
theorem dX0_addSums_19 : decode cX0_addSums 19 = .ok (.bipush 112, 2) := by decide +kernel
theorem dX0_addSums_21 : decode cX0_addSums 21 = .ok (.imul, 1) := by decide +kernel
theorem dX0_addSums_22 : decode cX0_addSums 22 = .ok (.iload 5, 2) := by decide +kernel
theorem dX0_addSums_24 : decode cX0_addSums 24 = .ok (.iadd, 1) := by decide +kernel
theorem dX0_addSums_25 : decode cX0_addSums 25 = .ok (.istore 8, 2) := by decide +kernel
theorem dX0_addSums_27 : decode cX0_addSums 27 = .ok (.aload_n 0, 1) := by decide +kernel
theorem dX0_addSums_28 : decode cX0_addSums 28 = .ok (.getfield 15, 3) := by decide +kernel
theorem dX0_addSums_31 : decode cX0_addSums 31 = .ok (.iload 8, 2) := by decide +kernel
theorem dX0_addSums_33 : decode cX0_addSums 33 = .ok (.iconst 0, 1) := by decide +kernel
theorem dX0_addSums_34 : decode cX0_addSums 34 = .ok (.iload_n 2, 1) := by decide +kernel
theorem dX0_addSums_35 : decode cX0_addSums 35 = .ok (.iadd, 1) := by decide +kernel
theorem dX0_addSums_36 : decode cX0_addSums 36 = .ok (.bipush 16, 2) := by decide +kernel
theorem dX0_addSums_38 : decode cX0_addSums 38 = .ok (.imul, 1) := by decide +kernel
theorem dX0_addSums_39 : decode cX0_addSums 39 = .ok (.iadd, 1) := by decide +kernel
theorem dX0_addSums_40 : decode cX0_addSums 40 = .ok (.dup2, 1) := by decide +kernel
theorem dX0_addSums_41 : decode cX0_addSums 41 = .ok (.iaload, 1) := by decide +kernel
theorem dX0_addSums_42 : decode cX0_addSums 42 = .ok (.iload 6, 2) := by decide +kernel
theorem dX0_addSums_44 : decode cX0_addSums 44 = .ok (.iadd, 1) := by decide +kernel
theorem dX0_addSums_45 : decode cX0_addSums 45 = .ok (.iastore, 1) := by decide +kernel
theorem dX0_addSums_46 : decode cX0_addSums 46 = .ok (.aload_n 0, 1) := by decide +kernel
theorem dX0_addSums_47 : decode cX0_addSums 47 = .ok (.getfield 15, 3) := by decide +kernel
theorem dX0_addSums_50 : decode cX0_addSums 50 = .ok (.iload 8, 2) := by decide +kernel
theorem dX0_addSums_52 : decode cX0_addSums 52 = .ok (.iconst 3, 1) := by decide +kernel
theorem dX0_addSums_53 : decode cX0_addSums 53 = .ok (.iload_n 3, 1) := by decide +kernel
theorem dX0_addSums_54 : decode cX0_addSums 54 = .ok (.iadd, 1) := by decide +kernel
theorem dX0_addSums_55 : decode cX0_addSums 55 = .ok (.bipush 16, 2) := by decide +kernel
theorem dX0_addSums_57 : decode cX0_addSums 57 = .ok (.imul, 1) := by decide +kernel
theorem dX0_addSums_58 : decode cX0_addSums 58 = .ok (.iadd, 1) := by decide +kernel
theorem dX0_addSums_59 : decode cX0_addSums 59 = .ok (.dup2, 1) := by decide +kernel
theorem dX0_addSums_60 : decode cX0_addSums 60 = .ok (.iaload, 1) := by decide +kernel
theorem dX0_addSums_61 : decode cX0_addSums 61 = .ok (.iload 6, 2) := by decide +kernel
theorem dX0_addSums_63 : decode cX0_addSums 63 = .ok (.iadd, 1) := by decide +kernel
theorem dX0_addSums_64 : decode cX0_addSums 64 = .ok (.iastore, 1) := by decide +kernel
theorem dX0_addSums_65 : decode cX0_addSums 65 = .ok (.aload_n 0, 1) := by decide +kernel
theorem dX0_addSums_66 : decode cX0_addSums 66 = .ok (.getfield 15, 3) := by decide +kernel
theorem dX0_addSums_69 : decode cX0_addSums 69 = .ok (.iload 8, 2) := by decide +kernel
theorem dX0_addSums_71 : decode cX0_addSums 71 = .ok (.bipush 80, 2) := by decide +kernel
theorem dX0_addSums_73 : decode cX0_addSums 73 = .ok (.iadd, 1) := by decide +kernel
theorem dX0_addSums_74 : decode cX0_addSums 74 = .ok (.dup2, 1) := by decide +kernel
theorem dX0_addSums_75 : decode cX0_addSums 75 = .ok (.iaload, 1) := by decide +kernel
theorem dX0_addSums_76 : decode cX0_addSums 76 = .ok (.iload 4, 2) := by decide +kernel
theorem dX0_addSums_78 : decode cX0_addSums 78 = .ok (.ifCond .ne 8, 3) := by decide +kernel
theorem dX0_addSums_81 : decode cX0_addSums 81 = .ok (.iload 6, 2) := by decide +kernel
theorem dX0_addSums_83 : decode cX0_addSums 83 = .ok (.goto 4, 3) := by decide +kernel
theorem dX0_addSums_86 : decode cX0_addSums 86 = .ok (.iconst 0, 1) := by decide +kernel
theorem dX0_addSums_87 : decode cX0_addSums 87 = .ok (.iadd, 1) := by decide +kernel
theorem dX0_addSums_88 : decode cX0_addSums 88 = .ok (.iastore, 1) := by decide +kernel
theorem dX0_addSums_89 : decode cX0_addSums 89 = .ok (.aload_n 0, 1) := by decide +kernel
theorem dX0_addSums_90 : decode cX0_addSums 90 = .ok (.getfield 15, 3) := by decide +kernel
theorem dX0_addSums_93 : decode cX0_addSums 93 = .ok (.iload 8, 2) := by decide +kernel
theorem dX0_addSums_95 : decode cX0_addSums 95 = .ok (.bipush 96, 2) := by decide +kernel
theorem dX0_addSums_97 : decode cX0_addSums 97 = .ok (.iadd, 1) := by decide +kernel
theorem dX0_addSums_98 : decode cX0_addSums 98 = .ok (.dup2, 1) := by decide +kernel
theorem dX0_addSums_99 : decode cX0_addSums 99 = .ok (.iaload, 1) := by decide +kernel
theorem dX0_addSums_100 : decode cX0_addSums 100 = .ok (.iload 6, 2) := by decide +kernel
theorem dX0_addSums_102 : decode cX0_addSums 102 = .ok (.iadd, 1) := by decide +kernel
theorem dX0_addSums_103 : decode cX0_addSums 103 = .ok (.iastore, 1) := by decide +kernel
theorem dX0_addSums_104 : decode cX0_addSums 104 = .ok (.iinc 7 1, 3) := by decide +kernel
theorem dX0_addSums_107 : decode cX0_addSums 107 = .ok (.goto (-104), 3) := by decide +kernel
theorem dX0_addSums_110 : decode cX0_addSums 110 = .ok (.aload_n 0, 1) := by decide +kernel
theorem dX0_addSums_111 : decode cX0_addSums 111 = .ok (.getfield 19, 3) := by decide +kernel
theorem dX0_addSums_114 : decode cX0_addSums 114 = .ok (.iload 5, 2) := by decide +kernel
theorem dX0_addSums_116 : decode cX0_addSums 116 = .ok (.aload_n 0, 1) := by decide +kernel
theorem dX0_addSums_117 : decode cX0_addSums 117 = .ok (.getfield 19, 3) := by decide +kernel
theorem dX0_addSums_120 : decode cX0_addSums 120 = .ok (.iload 5, 2) := by decide +kernel
theorem dX0_addSums_122 : decode cX0_addSums 122 = .ok (.iaload, 1) := by decide +kernel
theorem dX0_addSums_123 : decode cX0_addSums 123 = .ok (.iload_n 1, 1) := by decide +kernel
theorem dX0_addSums_124 : decode cX0_addSums 124 = .ok (.invokestatic 48, 3) := by decide +kernel
theorem dX0_addSums_127 : decode cX0_addSums 127 = .ok (.iastore, 1) := by decide +kernel
theorem dX0_addSums_128 : decode cX0_addSums 128 = .ok (.return_, 1) := by decide +kernel
theorem dX0_inRow_0 : decode cX0_inRow 0 = .ok (.aload_n 0, 1) := by decide +kernel
theorem dX0_inRow_1 : decode cX0_inRow 1 = .ok (.getfield 9, 3) := by decide +kernel
theorem dX0_inRow_4 : decode cX0_inRow 4 = .ok (.iload_n 1, 1) := by decide +kernel
theorem dX0_inRow_5 : decode cX0_inRow 5 = .ok (.bipush 12, 2) := by decide +kernel
theorem dX0_inRow_7 : decode cX0_inRow 7 = .ok (.imul, 1) := by decide +kernel
theorem dX0_inRow_8 : decode cX0_inRow 8 = .ok (.iload_n 2, 1) := by decide +kernel
theorem dX0_inRow_9 : decode cX0_inRow 9 = .ok (.iadd, 1) := by decide +kernel
theorem dX0_inRow_10 : decode cX0_inRow 10 = .ok (.laload, 1) := by decide +kernel
theorem dX0_inRow_11 : decode cX0_inRow 11 = .ok (.iconst 4, 1) := by decide +kernel
theorem dX0_inRow_12 : decode cX0_inRow 12 = .ok (.iload_n 3, 1) := by decide +kernel
theorem dX0_inRow_13 : decode cX0_inRow 13 = .ok (.imul, 1) := by decide +kernel
theorem dX0_inRow_14 : decode cX0_inRow 14 = .ok (.lushr, 1) := by decide +kernel
theorem dX0_inRow_15 : decode cX0_inRow 15 = .ok (.l2i, 1) := by decide +kernel
theorem dX0_inRow_16 : decode cX0_inRow 16 = .ok (.bipush 15, 2) := by decide +kernel
theorem dX0_inRow_18 : decode cX0_inRow 18 = .ok (.iand, 1) := by decide +kernel
theorem dX0_inRow_19 : decode cX0_inRow 19 = .ok (.ireturn, 1) := by decide +kernel
theorem dX0_between_0 : decode cX0_between 0 = .ok (.iload_n 3, 1) := by decide +kernel
theorem dX0_between_1 : decode cX0_between 1 = .ok (.bipush (-40), 2) := by decide +kernel
theorem dX0_between_3 : decode cX0_between 3 = .ok (.if_icmp .ge 8, 3) := by decide +kernel
theorem dX0_between_6 : decode cX0_between 6 = .ok (.bipush (-40), 2) := by decide +kernel
theorem dX0_between_8 : decode cX0_between 8 = .ok (.goto 4, 3) := by decide +kernel
theorem dX0_between_11 : decode cX0_between 11 = .ok (.iload_n 3, 1) := by decide +kernel
theorem dX0_between_12 : decode cX0_between 12 = .ok (.istore 5, 2) := by decide +kernel
theorem dX0_between_14 : decode cX0_between 14 = .ok (.iload 4, 2) := by decide +kernel
theorem dX0_between_16 : decode cX0_between 16 = .ok (.aload_n 0, 1) := by decide +kernel
theorem dX0_between_17 : decode cX0_between 17 = .ok (.getfield 34, 3) := by decide +kernel
theorem dX0_between_20 : decode cX0_between 20 = .ok (.if_icmp .le 10, 3) := by decide +kernel
theorem dX0_between_23 : decode cX0_between 23 = .ok (.aload_n 0, 1) := by decide +kernel
theorem dX0_between_24 : decode cX0_between 24 = .ok (.getfield 34, 3) := by decide +kernel
theorem dX0_between_27 : decode cX0_between 27 = .ok (.goto 5, 3) := by decide +kernel
theorem dX0_between_30 : decode cX0_between 30 = .ok (.iload 4, 2) := by decide +kernel
theorem dX0_between_32 : decode cX0_between 32 = .ok (.istore 6, 2) := by decide +kernel
theorem dX0_between_34 : decode cX0_between 34 = .ok (.iload 6, 2) := by decide +kernel
theorem dX0_between_36 : decode cX0_between 36 = .ok (.iload 5, 2) := by decide +kernel
theorem dX0_between_38 : decode cX0_between 38 = .ok (.if_icmp .ge 5, 3) := by decide +kernel
theorem dX0_between_41 : decode cX0_between 41 = .ok (.iconst 0, 1) := by decide +kernel
theorem dX0_between_42 : decode cX0_between 42 = .ok (.ireturn, 1) := by decide +kernel
theorem dX0_between_43 : decode cX0_between 43 = .ok (.iload_n 1, 1) := by decide +kernel
theorem dX0_between_44 : decode cX0_between 44 = .ok (.bipush 16, 2) := by decide +kernel
theorem dX0_between_46 : decode cX0_between 46 = .ok (.imul, 1) := by decide +kernel
theorem dX0_between_47 : decode cX0_between 47 = .ok (.iload_n 2, 1) := by decide +kernel
theorem dX0_between_48 : decode cX0_between 48 = .ok (.iadd, 1) := by decide +kernel
theorem dX0_between_49 : decode cX0_between 49 = .ok (.istore 7, 2) := by decide +kernel
theorem dX0_between_51 : decode cX0_between 51 = .ok (.aload_n 0, 1) := by decide +kernel
theorem dX0_between_52 : decode cX0_between 52 = .ok (.getfield 15, 3) := by decide +kernel
theorem dX0_between_55 : decode cX0_between 55 = .ok (.iload 6, 2) := by decide +kernel
theorem dX0_between_57 : decode cX0_between 57 = .ok (.bipush (-40), 2) := by decide +kernel
theorem dX0_between_59 : decode cX0_between 59 = .ok (.isub, 1) := by decide +kernel
theorem dX0_between_60 : decode cX0_between 60 = .ok (.iconst 1, 1) := by decide +kernel
theorem dX0_between_61 : decode cX0_between 61 = .ok (.iadd, 1) := by decide +kernel
theorem dX0_between_62 : decode cX0_between 62 = .ok (.bipush 112, 2) := by decide +kernel
theorem dX0_between_64 : decode cX0_between 64 = .ok (.imul, 1) := by decide +kernel
theorem dX0_between_65 : decode cX0_between 65 = .ok (.iload 7, 2) := by decide +kernel
theorem dX0_between_67 : decode cX0_between 67 = .ok (.iadd, 1) := by decide +kernel
theorem dX0_between_68 : decode cX0_between 68 = .ok (.iaload, 1) := by decide +kernel
theorem dX0_between_69 : decode cX0_between 69 = .ok (.aload_n 0, 1) := by decide +kernel
theorem dX0_between_70 : decode cX0_between 70 = .ok (.getfield 15, 3) := by decide +kernel
theorem dX0_between_73 : decode cX0_between 73 = .ok (.iload 5, 2) := by decide +kernel
theorem dX0_between_75 : decode cX0_between 75 = .ok (.bipush (-40), 2) := by decide +kernel
theorem dX0_between_77 : decode cX0_between 77 = .ok (.isub, 1) := by decide +kernel
theorem dX0_between_78 : decode cX0_between 78 = .ok (.bipush 112, 2) := by decide +kernel
theorem dX0_between_80 : decode cX0_between 80 = .ok (.imul, 1) := by decide +kernel
theorem dX0_between_81 : decode cX0_between 81 = .ok (.iload 7, 2) := by decide +kernel
theorem dX0_between_83 : decode cX0_between 83 = .ok (.iadd, 1) := by decide +kernel
theorem dX0_between_84 : decode cX0_between 84 = .ok (.iaload, 1) := by decide +kernel
theorem dX0_between_85 : decode cX0_between 85 = .ok (.isub, 1) := by decide +kernel
theorem dX0_between_86 : decode cX0_between 86 = .ok (.ireturn, 1) := by decide +kernel
theorem dX0_groupTotal_0 : decode cX0_groupTotal 0 = .ok (.iconst 0, 1) := by decide +kernel
theorem dX0_groupTotal_1 : decode cX0_groupTotal 1 = .ok (.istore 4, 2) := by decide +kernel
theorem dX0_groupTotal_3 : decode cX0_groupTotal 3 = .ok (.iconst 0, 1) := by decide +kernel
theorem dX0_groupTotal_4 : decode cX0_groupTotal 4 = .ok (.istore 5, 2) := by decide +kernel
theorem dX0_groupTotal_6 : decode cX0_groupTotal 6 = .ok (.iload 5, 2) := by decide +kernel
theorem dX0_groupTotal_8 : decode cX0_groupTotal 8 = .ok (.bipush 16, 2) := by decide +kernel
theorem dX0_groupTotal_10 : decode cX0_groupTotal 10 = .ok (.if_icmp .ge 23, 3) := by decide +kernel
theorem dX0_groupTotal_13 : decode cX0_groupTotal 13 = .ok (.iload 4, 2) := by decide +kernel
theorem dX0_groupTotal_15 : decode cX0_groupTotal 15 = .ok (.aload_n 0, 1) := by decide +kernel
theorem dX0_groupTotal_16 : decode cX0_groupTotal 16 = .ok (.iload_n 1, 1) := by decide +kernel
theorem dX0_groupTotal_17 : decode cX0_groupTotal 17 = .ok (.iload 5, 2) := by decide +kernel
theorem dX0_groupTotal_19 : decode cX0_groupTotal 19 = .ok (.iload_n 2, 1) := by decide +kernel
theorem dX0_groupTotal_20 : decode cX0_groupTotal 20 = .ok (.iload_n 3, 1) := by decide +kernel
theorem dX0_groupTotal_21 : decode cX0_groupTotal 21 = .ok (.invokevirtual 54, 3) := by decide +kernel
theorem dX0_groupTotal_24 : decode cX0_groupTotal 24 = .ok (.iadd, 1) := by decide +kernel
theorem dX0_groupTotal_25 : decode cX0_groupTotal 25 = .ok (.istore 4, 2) := by decide +kernel
theorem dX0_groupTotal_27 : decode cX0_groupTotal 27 = .ok (.iinc 5 1, 3) := by decide +kernel
theorem dX0_groupTotal_30 : decode cX0_groupTotal 30 = .ok (.goto (-24), 3) := by decide +kernel
theorem dX0_groupTotal_33 : decode cX0_groupTotal 33 = .ok (.iload 4, 2) := by decide +kernel
theorem dX0_groupTotal_35 : decode cX0_groupTotal 35 = .ok (.ireturn, 1) := by decide +kernel
theorem dX0_since_0 : decode cX0_since 0 = .ok (.iload_n 2, 1) := by decide +kernel
theorem dX0_since_1 : decode cX0_since 1 = .ok (.aload_n 0, 1) := by decide +kernel
theorem dX0_since_2 : decode cX0_since 2 = .ok (.getfield 19, 3) := by decide +kernel
theorem dX0_since_5 : decode cX0_since 5 = .ok (.iload_n 1, 1) := by decide +kernel
theorem dX0_since_6 : decode cX0_since 6 = .ok (.iaload, 1) := by decide +kernel
theorem dX0_since_7 : decode cX0_since 7 = .ok (.isub, 1) := by decide +kernel
theorem dX0_since_8 : decode cX0_since 8 = .ok (.bipush 99, 2) := by decide +kernel
theorem dX0_since_10 : decode cX0_since 10 = .ok (.invokestatic 58, 3) := by decide +kernel
theorem dX0_since_13 : decode cX0_since 13 = .ok (.ireturn, 1) := by decide +kernel
theorem dX0_beginFrom_0 : decode cX0_beginFrom 0 = .ok (.aload_n 1, 1) := by decide +kernel
theorem dX0_beginFrom_1 : decode cX0_beginFrom 1 = .ok (.getfield 15, 3) := by decide +kernel
theorem dX0_beginFrom_4 : decode cX0_beginFrom 4 = .ok (.iconst 0, 1) := by decide +kernel
theorem dX0_beginFrom_5 : decode cX0_beginFrom 5 = .ok (.aload_n 0, 1) := by decide +kernel
theorem dX0_beginFrom_6 : decode cX0_beginFrom 6 = .ok (.getfield 15, 3) := by decide +kernel
theorem dX0_beginFrom_9 : decode cX0_beginFrom 9 = .ok (.iconst 0, 1) := by decide +kernel
theorem dX0_beginFrom_10 : decode cX0_beginFrom 10 = .ok (.sipush 4592, 3) := by decide +kernel
theorem dX0_beginFrom_13 : decode cX0_beginFrom 13 = .ok (.invokestatic 28, 3) := by decide +kernel
theorem dX0_beginFrom_16 : decode cX0_beginFrom 16 = .ok (.aload_n 0, 1) := by decide +kernel
theorem dX0_beginFrom_17 : decode cX0_beginFrom 17 = .ok (.iconst 0, 1) := by decide +kernel
theorem dX0_beginFrom_18 : decode cX0_beginFrom 18 = .ok (.invokevirtual 61, 3) := by decide +kernel
theorem dX0_beginFrom_21 : decode cX0_beginFrom 21 = .ok (.return_, 1) := by decide +kernel
theorem dX0_reopen_0 : decode cX0_reopen 0 = .ok (.aload_n 0, 1) := by decide +kernel
theorem dX0_reopen_1 : decode cX0_reopen 1 = .ok (.bipush 60, 2) := by decide +kernel
theorem dX0_reopen_3 : decode cX0_reopen 3 = .ok (.putfield 34, 3) := by decide +kernel
theorem dX0_reopen_6 : decode cX0_reopen 6 = .ok (.iconst 0, 1) := by decide +kernel
theorem dX0_reopen_7 : decode cX0_reopen 7 = .ok (.istore_n 2, 1) := by decide +kernel
theorem dX0_reopen_8 : decode cX0_reopen 8 = .ok (.iload_n 2, 1) := by decide +kernel
theorem dX0_reopen_9 : decode cX0_reopen 9 = .ok (.bipush 16, 2) := by decide +kernel
theorem dX0_reopen_11 : decode cX0_reopen 11 = .ok (.if_icmp .ge 65, 3) := by decide +kernel
theorem dX0_reopen_14 : decode cX0_reopen 14 = .ok (.aload_n 0, 1) := by decide +kernel
theorem dX0_reopen_15 : decode cX0_reopen 15 = .ok (.getfield 19, 3) := by decide +kernel
theorem dX0_reopen_18 : decode cX0_reopen 18 = .ok (.iload_n 2, 1) := by decide +kernel
theorem dX0_reopen_19 : decode cX0_reopen 19 = .ok (.sipush (-1000), 3) := by decide +kernel
theorem dX0_reopen_22 : decode cX0_reopen 22 = .ok (.iastore, 1) := by decide +kernel
theorem dX0_reopen_23 : decode cX0_reopen 23 = .ok (.iload_n 1, 1) := by decide +kernel
theorem dX0_reopen_24 : decode cX0_reopen 24 = .ok (.iconst 1, 1) := by decide +kernel
theorem dX0_reopen_25 : decode cX0_reopen 25 = .ok (.isub, 1) := by decide +kernel
theorem dX0_reopen_26 : decode cX0_reopen 26 = .ok (.istore_n 3, 1) := by decide +kernel
theorem dX0_reopen_27 : decode cX0_reopen 27 = .ok (.iload_n 3, 1) := by decide +kernel
theorem dX0_reopen_28 : decode cX0_reopen 28 = .ok (.bipush (-40), 2) := by decide +kernel
theorem dX0_reopen_30 : decode cX0_reopen 30 = .ok (.if_icmp .lt 40, 3) := by decide +kernel
theorem dX0_reopen_33 : decode cX0_reopen 33 = .ok (.aload_n 0, 1) := by decide +kernel
theorem dX0_reopen_34 : decode cX0_reopen 34 = .ok (.getfield 19, 3) := by decide +kernel
theorem dX0_reopen_37 : decode cX0_reopen 37 = .ok (.iload_n 2, 1) := by decide +kernel
theorem dX0_reopen_38 : decode cX0_reopen 38 = .ok (.iaload, 1) := by decide +kernel
theorem dX0_reopen_39 : decode cX0_reopen 39 = .ok (.sipush (-1000), 3) := by decide +kernel
theorem dX0_reopen_42 : decode cX0_reopen 42 = .ok (.if_icmp .ne 28, 3) := by decide +kernel
theorem dX0_reopen_45 : decode cX0_reopen 45 = .ok (.aload_n 0, 1) := by decide +kernel
theorem dX0_reopen_46 : decode cX0_reopen 46 = .ok (.bipush 6, 2) := by decide +kernel
theorem dX0_reopen_48 : decode cX0_reopen 48 = .ok (.iload_n 2, 1) := by decide +kernel
theorem dX0_reopen_49 : decode cX0_reopen 49 = .ok (.iload_n 3, 1) := by decide +kernel
theorem dX0_reopen_50 : decode cX0_reopen 50 = .ok (.iload_n 3, 1) := by decide +kernel
theorem dX0_reopen_51 : decode cX0_reopen 51 = .ok (.invokevirtual 54, 3) := by decide +kernel
theorem dX0_reopen_54 : decode cX0_reopen 54 = .ok (.ifCond .le 10, 3) := by decide +kernel
theorem dX0_reopen_57 : decode cX0_reopen 57 = .ok (.aload_n 0, 1) := by decide +kernel
theorem dX0_reopen_58 : decode cX0_reopen 58 = .ok (.getfield 19, 3) := by decide +kernel
theorem dX0_reopen_61 : decode cX0_reopen 61 = .ok (.iload_n 2, 1) := by decide +kernel
theorem dX0_reopen_62 : decode cX0_reopen 62 = .ok (.iload_n 3, 1) := by decide +kernel
theorem dX0_reopen_63 : decode cX0_reopen 63 = .ok (.iastore, 1) := by decide +kernel
theorem dX0_reopen_64 : decode cX0_reopen 64 = .ok (.iinc 3 (-1), 3) := by decide +kernel
theorem dX0_reopen_67 : decode cX0_reopen 67 = .ok (.goto (-40), 3) := by decide +kernel
theorem dX0_reopen_70 : decode cX0_reopen 70 = .ok (.iinc 2 1, 3) := by decide +kernel
theorem dX0_reopen_73 : decode cX0_reopen 73 = .ok (.goto (-65), 3) := by decide +kernel
theorem dX0_reopen_76 : decode cX0_reopen 76 = .ok (.aload_n 0, 1) := by decide +kernel
theorem dX0_reopen_77 : decode cX0_reopen 77 = .ok (.iload_n 1, 1) := by decide +kernel
theorem dX0_reopen_78 : decode cX0_reopen 78 = .ok (.invokevirtual 65, 3) := by decide +kernel
theorem dX0_reopen_81 : decode cX0_reopen 81 = .ok (.return_, 1) := by decide +kernel
theorem dX1_init_0 : decode cX1_init 0 = .ok (.aload_n 0, 1) := by decide +kernel
theorem dX1_init_1 : decode cX1_init 1 = .ok (.invokespecial 3, 3) := by decide +kernel
theorem dX1_init_4 : decode cX1_init 4 = .ok (.aload_n 0, 1) := by decide +kernel
theorem dX1_init_5 : decode cX1_init 5 = .ok (.aload_n 1, 1) := by decide +kernel
theorem dX1_init_6 : decode cX1_init 6 = .ok (.putfield 9, 3) := by decide +kernel
theorem dX1_init_9 : decode cX1_init 9 = .ok (.aload_n 0, 1) := by decide +kernel
theorem dX1_init_10 : decode cX1_init 10 = .ok (.aload_n 2, 1) := by decide +kernel
theorem dX1_init_11 : decode cX1_init 11 = .ok (.putfield 15, 3) := by decide +kernel
theorem dX1_init_14 : decode cX1_init 14 = .ok (.aload_n 0, 1) := by decide +kernel
theorem dX1_init_15 : decode cX1_init 15 = .ok (.aload_n 3, 1) := by decide +kernel
theorem dX1_init_16 : decode cX1_init 16 = .ok (.putfield 19, 3) := by decide +kernel
theorem dX1_init_19 : decode cX1_init 19 = .ok (.aload_n 0, 1) := by decide +kernel
theorem dX1_init_20 : decode cX1_init 20 = .ok (.aload 4, 2) := by decide +kernel
theorem dX1_init_22 : decode cX1_init 22 = .ok (.putfield 23, 3) := by decide +kernel
theorem dX1_init_25 : decode cX1_init 25 = .ok (.return_, 1) := by decide +kernel
theorem dX1_pass_0 : decode cX1_pass 0 = .ok (.iconst 0, 1) := by decide +kernel
theorem dX1_pass_1 : decode cX1_pass 1 = .ok (.istore 4, 2) := by decide +kernel
theorem dX1_pass_3 : decode cX1_pass 3 = .ok (.aload_n 1, 1) := by decide +kernel
theorem dX1_pass_4 : decode cX1_pass 4 = .ok (.iload_n 2, 1) := by decide +kernel
theorem dX1_pass_5 : decode cX1_pass 5 = .ok (.invokevirtual 27, 3) := by decide +kernel
theorem dX1_pass_8 : decode cX1_pass 8 = .ok (.iconst 0, 1) := by decide +kernel
theorem dX1_pass_9 : decode cX1_pass 9 = .ok (.istore 5, 2) := by decide +kernel
theorem dX1_pass_11 : decode cX1_pass 11 = .ok (.iload 5, 2) := by decide +kernel
theorem dX1_pass_13 : decode cX1_pass 13 = .ok (.bipush 12, 2) := by decide +kernel
theorem dX1_pass_15 : decode cX1_pass 15 = .ok (.if_icmp .ge 119, 3) := by decide +kernel
theorem dX1_pass_18 : decode cX1_pass 18 = .ok (.aload_n 0, 1) := by decide +kernel
theorem dX1_pass_19 : decode cX1_pass 19 = .ok (.getfield 15, 3) := by decide +kernel
theorem dX1_pass_22 : decode cX1_pass 22 = .ok (.iload_n 2, 1) := by decide +kernel
theorem dX1_pass_23 : decode cX1_pass 23 = .ok (.iload 5, 2) := by decide +kernel
theorem dX1_pass_25 : decode cX1_pass 25 = .ok (.invokevirtual 33, 3) := by decide +kernel
theorem dX1_pass_28 : decode cX1_pass 28 = .ok (.istore 6, 2) := by decide +kernel
theorem dX1_pass_30 : decode cX1_pass 30 = .ok (.iload 5, 2) := by decide +kernel
theorem dX1_pass_32 : decode cX1_pass 32 = .ok (.invokestatic 39, 3) := by decide +kernel
theorem dX1_pass_35 : decode cX1_pass 35 = .ok (.istore 7, 2) := by decide +kernel
theorem dX1_pass_37 : decode cX1_pass 37 = .ok (.iload_n 3, 1) := by decide +kernel
theorem dX1_pass_38 : decode cX1_pass 38 = .ok (.iconst (-1), 1) := by decide +kernel
theorem dX1_pass_39 : decode cX1_pass 39 = .ok (.if_icmp .ne 16, 3) := by decide +kernel
theorem dX1_pass_42 : decode cX1_pass 42 = .ok (.aload_n 0, 1) := by decide +kernel
theorem dX1_pass_43 : decode cX1_pass 43 = .ok (.getfield 15, 3) := by decide +kernel
theorem dX1_pass_46 : decode cX1_pass 46 = .ok (.iload_n 2, 1) := by decide +kernel
theorem dX1_pass_47 : decode cX1_pass 47 = .ok (.iload 7, 2) := by decide +kernel
theorem dX1_pass_49 : decode cX1_pass 49 = .ok (.invokevirtual 43, 3) := by decide +kernel
theorem dX1_pass_52 : decode cX1_pass 52 = .ok (.goto 4, 3) := by decide +kernel
theorem dX1_pass_55 : decode cX1_pass 55 = .ok (.iload_n 3, 1) := by decide +kernel
theorem dX1_pass_56 : decode cX1_pass 56 = .ok (.istore 8, 2) := by decide +kernel
theorem dX1_pass_58 : decode cX1_pass 58 = .ok (.iload 8, 2) := by decide +kernel
theorem dX1_pass_60 : decode cX1_pass 60 = .ok (.iconst (-1), 1) := by decide +kernel
theorem dX1_pass_61 : decode cX1_pass 61 = .ok (.if_icmp .ne 13, 3) := by decide +kernel
theorem dX1_pass_64 : decode cX1_pass 64 = .ok (.iload 4, 2) := by decide +kernel
theorem dX1_pass_66 : decode cX1_pass 66 = .ok (.iload 6, 2) := by decide +kernel
theorem dX1_pass_68 : decode cX1_pass 68 = .ok (.iadd, 1) := by decide +kernel
theorem dX1_pass_69 : decode cX1_pass 69 = .ok (.istore 4, 2) := by decide +kernel
theorem dX1_pass_71 : decode cX1_pass 71 = .ok (.goto 57, 3) := by decide +kernel
theorem dX1_pass_74 : decode cX1_pass 74 = .ok (.iload 6, 2) := by decide +kernel
theorem dX1_pass_76 : decode cX1_pass 76 = .ok (.ifCond .le 52, 3) := by decide +kernel
theorem dX1_pass_79 : decode cX1_pass 79 = .ok (.aload_n 0, 1) := by decide +kernel
theorem dX1_pass_80 : decode cX1_pass 80 = .ok (.getfield 23, 3) := by decide +kernel
theorem dX1_pass_83 : decode cX1_pass 83 = .ok (.aload_n 1, 1) := by decide +kernel
theorem dX1_pass_84 : decode cX1_pass 84 = .ok (.iload_n 2, 1) := by decide +kernel
theorem dX1_pass_85 : decode cX1_pass 85 = .ok (.iload 5, 2) := by decide +kernel
theorem dX1_pass_87 : decode cX1_pass 87 = .ok (.invokestatic 46, 3) := by decide +kernel
theorem dX1_pass_90 : decode cX1_pass 90 = .ok (.iload 7, 2) := by decide +kernel
theorem dX1_pass_92 : decode cX1_pass 92 = .ok (.iload 5, 2) := by decide +kernel
theorem dX1_pass_94 : decode cX1_pass 94 = .ok (.invokestatic 49, 3) := by decide +kernel
theorem dX1_pass_97 : decode cX1_pass 97 = .ok (.invokevirtual 52, 3) := by decide +kernel
theorem dX1_pass_100 : decode cX1_pass 100 = .ok (.aload_n 0, 1) := by decide +kernel
theorem dX1_pass_101 : decode cX1_pass 101 = .ok (.getfield 23, 3) := by decide +kernel
theorem dX1_pass_104 : decode cX1_pass 104 = .ok (.aload_n 0, 1) := by decide +kernel
theorem dX1_pass_105 : decode cX1_pass 105 = .ok (.getfield 19, 3) := by decide +kernel
theorem dX1_pass_108 : decode cX1_pass 108 = .ok (.iload 8, 2) := by decide +kernel
theorem dX1_pass_110 : decode cX1_pass 110 = .ok (.aaload, 1) := by decide +kernel
theorem dX1_pass_111 : decode cX1_pass 111 = .ok (.putfield 58, 3) := by decide +kernel
theorem dX1_pass_114 : decode cX1_pass 114 = .ok (.iload 4, 2) := by decide +kernel
theorem dX1_pass_116 : decode cX1_pass 116 = .ok (.iload 6, 2) := by decide +kernel
theorem dX1_pass_118 : decode cX1_pass 118 = .ok (.aload_n 0, 1) := by decide +kernel
theorem dX1_pass_119 : decode cX1_pass 119 = .ok (.iload 6, 2) := by decide +kernel
theorem dX1_pass_121 : decode cX1_pass 121 = .ok (.invokevirtual 62, 3) := by decide +kernel
theorem dX1_pass_124 : decode cX1_pass 124 = .ok (.isub, 1) := by decide +kernel
theorem dX1_pass_125 : decode cX1_pass 125 = .ok (.iadd, 1) := by decide +kernel
theorem dX1_pass_126 : decode cX1_pass 126 = .ok (.istore 4, 2) := by decide +kernel
theorem dX1_pass_128 : decode cX1_pass 128 = .ok (.iinc 5 1, 3) := by decide +kernel
theorem dX1_pass_131 : decode cX1_pass 131 = .ok (.goto (-120), 3) := by decide +kernel
theorem dX1_pass_134 : decode cX1_pass 134 = .ok (.iload 4, 2) := by decide +kernel
theorem dX1_pass_136 : decode cX1_pass 136 = .ok (.ireturn, 1) := by decide +kernel
theorem dX1_fill_0 : decode cX1_fill 0 = .ok (.iconst 0, 1) := by decide +kernel
theorem dX1_fill_1 : decode cX1_fill 1 = .ok (.istore_n 2, 1) := by decide +kernel
theorem dX1_fill_2 : decode cX1_fill 2 = .ok (.iload_n 2, 1) := by decide +kernel
theorem dX1_fill_3 : decode cX1_fill 3 = .ok (.aload_n 0, 1) := by decide +kernel
theorem dX1_fill_4 : decode cX1_fill 4 = .ok (.getfield 9, 3) := by decide +kernel
theorem dX1_fill_7 : decode cX1_fill 7 = .ok (.getfield 65, 3) := by decide +kernel
theorem dX1_fill_10 : decode cX1_fill 10 = .ok (.if_icmp .ge 38, 3) := by decide +kernel
theorem dX1_fill_13 : decode cX1_fill 13 = .ok (.aload_n 0, 1) := by decide +kernel
theorem dX1_fill_14 : decode cX1_fill 14 = .ok (.getfield 23, 3) := by decide +kernel
theorem dX1_fill_17 : decode cX1_fill 17 = .ok (.getfield 71, 3) := by decide +kernel
theorem dX1_fill_20 : decode cX1_fill 20 = .ok (.iload_n 2, 1) := by decide +kernel
theorem dX1_fill_21 : decode cX1_fill 21 = .ok (.iconst 0, 1) := by decide +kernel
theorem dX1_fill_22 : decode cX1_fill 22 = .ok (.bastore, 1) := by decide +kernel
theorem dX1_fill_23 : decode cX1_fill 23 = .ok (.aload_n 0, 1) := by decide +kernel
theorem dX1_fill_24 : decode cX1_fill 24 = .ok (.getfield 23, 3) := by decide +kernel
theorem dX1_fill_27 : decode cX1_fill 27 = .ok (.iload_n 2, 1) := by decide +kernel
theorem dX1_fill_28 : decode cX1_fill 28 = .ok (.invokevirtual 75, 3) := by decide +kernel
theorem dX1_fill_31 : decode cX1_fill 31 = .ok (.ifCond .eq 11, 3) := by decide +kernel
theorem dX1_fill_34 : decode cX1_fill 34 = .ok (.aload_n 0, 1) := by decide +kernel
theorem dX1_fill_35 : decode cX1_fill 35 = .ok (.getfield 23, 3) := by decide +kernel
theorem dX1_fill_38 : decode cX1_fill 38 = .ok (.iload_n 2, 1) := by decide +kernel
theorem dX1_fill_39 : decode cX1_fill 39 = .ok (.invokevirtual 79, 3) := by decide +kernel
theorem dX1_fill_42 : decode cX1_fill 42 = .ok (.iinc 2 1, 3) := by decide +kernel
theorem dX1_fill_45 : decode cX1_fill 45 = .ok (.goto (-43), 3) := by decide +kernel
theorem dX1_fill_48 : decode cX1_fill 48 = .ok (.iconst 0, 1) := by decide +kernel
theorem dX1_fill_49 : decode cX1_fill 49 = .ok (.istore_n 2, 1) := by decide +kernel
theorem dX1_fill_50 : decode cX1_fill 50 = .ok (.iload_n 2, 1) := by decide +kernel
theorem dX1_fill_51 : decode cX1_fill 51 = .ok (.iload_n 1, 1) := by decide +kernel
theorem dX1_fill_52 : decode cX1_fill 52 = .ok (.if_icmp .ge 40, 3) := by decide +kernel
theorem dX1_fill_55 : decode cX1_fill 55 = .ok (.aload_n 0, 1) := by decide +kernel
theorem dX1_fill_56 : decode cX1_fill 56 = .ok (.getfield 23, 3) := by decide +kernel
theorem dX1_fill_59 : decode cX1_fill 59 = .ok (.invokevirtual 82, 3) := by decide +kernel
theorem dX1_fill_62 : decode cX1_fill 62 = .ok (.istore_n 3, 1) := by decide +kernel
theorem dX1_fill_63 : decode cX1_fill 63 = .ok (.iload_n 3, 1) := by decide +kernel
theorem dX1_fill_64 : decode cX1_fill 64 = .ok (.iconst (-1), 1) := by decide +kernel
theorem dX1_fill_65 : decode cX1_fill 65 = .ok (.if_icmp .ne 5, 3) := by decide +kernel
theorem dX1_fill_68 : decode cX1_fill 68 = .ok (.iload_n 2, 1) := by decide +kernel
theorem dX1_fill_69 : decode cX1_fill 69 = .ok (.ireturn, 1) := by decide +kernel
theorem dX1_fill_70 : decode cX1_fill 70 = .ok (.aload_n 0, 1) := by decide +kernel
theorem dX1_fill_71 : decode cX1_fill 71 = .ok (.getfield 23, 3) := by decide +kernel
theorem dX1_fill_74 : decode cX1_fill 74 = .ok (.iload_n 3, 1) := by decide +kernel
theorem dX1_fill_75 : decode cX1_fill 75 = .ok (.invokevirtual 86, 3) := by decide +kernel
theorem dX1_fill_78 : decode cX1_fill 78 = .ok (.aload_n 0, 1) := by decide +kernel
theorem dX1_fill_79 : decode cX1_fill 79 = .ok (.getfield 23, 3) := by decide +kernel
theorem dX1_fill_82 : decode cX1_fill 82 = .ok (.iload_n 3, 1) := by decide +kernel
theorem dX1_fill_83 : decode cX1_fill 83 = .ok (.invokevirtual 79, 3) := by decide +kernel
theorem dX1_fill_86 : decode cX1_fill 86 = .ok (.iinc 2 1, 3) := by decide +kernel
theorem dX1_fill_89 : decode cX1_fill 89 = .ok (.goto (-39), 3) := by decide +kernel
theorem dX1_fill_92 : decode cX1_fill 92 = .ok (.iload_n 1, 1) := by decide +kernel
theorem dX1_fill_93 : decode cX1_fill 93 = .ok (.ireturn, 1) := by decide +kernel
theorem dX2_init_0 : decode cX2_init 0 = .ok (.aload_n 0, 1) := by decide +kernel
theorem dX2_init_1 : decode cX2_init 1 = .ok (.invokespecial 3, 3) := by decide +kernel
theorem dX2_init_4 : decode cX2_init 4 = .ok (.aload_n 0, 1) := by decide +kernel
theorem dX2_init_5 : decode cX2_init 5 = .ok (.bipush 12, 2) := by decide +kernel
theorem dX2_init_7 : decode cX2_init 7 = .ok (.newarray .int, 2) := by decide +kernel
theorem dX2_init_9 : decode cX2_init 9 = .ok (.putfield 9, 3) := by decide +kernel
theorem dX2_init_12 : decode cX2_init 12 = .ok (.aload_n 0, 1) := by decide +kernel
theorem dX2_init_13 : decode cX2_init 13 = .ok (.iconst 2, 1) := by decide +kernel
theorem dX2_init_14 : decode cX2_init 14 = .ok (.newarray .int, 2) := by decide +kernel
theorem dX2_init_16 : decode cX2_init 16 = .ok (.putfield 15, 3) := by decide +kernel
theorem dX2_init_19 : decode cX2_init 19 = .ok (.aload_n 0, 1) := by decide +kernel
theorem dX2_init_20 : decode cX2_init 20 = .ok (.sipush 7680, 3) := by decide +kernel
theorem dX2_init_23 : decode cX2_init 23 = .ok (.newarray .int, 2) := by decide +kernel
theorem dX2_init_25 : decode cX2_init 25 = .ok (.putfield 18, 3) := by decide +kernel
theorem dX2_init_28 : decode cX2_init 28 = .ok (.aload_n 0, 1) := by decide +kernel
theorem dX2_init_29 : decode cX2_init 29 = .ok (.sipush 4592, 3) := by decide +kernel
theorem dX2_init_32 : decode cX2_init 32 = .ok (.newarray .int, 2) := by decide +kernel
theorem dX2_init_34 : decode cX2_init 34 = .ok (.putfield 21, 3) := by decide +kernel
theorem dX2_init_37 : decode cX2_init 37 = .ok (.return_, 1) := by decide +kernel
theorem dX2_keep_0 : decode cX2_keep 0 = .ok (.aload_n 0, 1) := by decide +kernel
theorem dX2_keep_1 : decode cX2_keep 1 = .ok (.aload_n 1, 1) := by decide +kernel
theorem dX2_keep_2 : decode cX2_keep 2 = .ok (.getfield 24, 3) := by decide +kernel
theorem dX2_keep_5 : decode cX2_keep 5 = .ok (.putfield 30, 3) := by decide +kernel
theorem dX2_keep_8 : decode cX2_keep 8 = .ok (.aload_n 0, 1) := by decide +kernel
theorem dX2_keep_9 : decode cX2_keep 9 = .ok (.aload_n 1, 1) := by decide +kernel
theorem dX2_keep_10 : decode cX2_keep 10 = .ok (.getfield 31, 3) := by decide +kernel
theorem dX2_keep_13 : decode cX2_keep 13 = .ok (.putfield 34, 3) := by decide +kernel
theorem dX2_keep_16 : decode cX2_keep 16 = .ok (.aload_n 0, 1) := by decide +kernel
theorem dX2_keep_17 : decode cX2_keep 17 = .ok (.aload_n 1, 1) := by decide +kernel
theorem dX2_keep_18 : decode cX2_keep 18 = .ok (.getfield 35, 3) := by decide +kernel
theorem dX2_keep_21 : decode cX2_keep 21 = .ok (.putfield 38, 3) := by decide +kernel
theorem dX2_keep_24 : decode cX2_keep 24 = .ok (.aload_n 0, 1) := by decide +kernel
theorem dX2_keep_25 : decode cX2_keep 25 = .ok (.aload_n 1, 1) := by decide +kernel
theorem dX2_keep_26 : decode cX2_keep 26 = .ok (.getfield 41, 3) := by decide +kernel
theorem dX2_keep_29 : decode cX2_keep 29 = .ok (.putfield 44, 3) := by decide +kernel
theorem dX2_keep_32 : decode cX2_keep 32 = .ok (.aload_n 1, 1) := by decide +kernel
theorem dX2_keep_33 : decode cX2_keep 33 = .ok (.getfield 47, 3) := by decide +kernel
theorem dX2_keep_36 : decode cX2_keep 36 = .ok (.iconst 0, 1) := by decide +kernel
theorem dX2_keep_37 : decode cX2_keep 37 = .ok (.aload_n 0, 1) := by decide +kernel
theorem dX2_keep_38 : decode cX2_keep 38 = .ok (.getfield 9, 3) := by decide +kernel
theorem dX2_keep_41 : decode cX2_keep 41 = .ok (.iconst 0, 1) := by decide +kernel
theorem dX2_keep_42 : decode cX2_keep 42 = .ok (.bipush 12, 2) := by decide +kernel
theorem dX2_keep_44 : decode cX2_keep 44 = .ok (.invokestatic 50, 3) := by decide +kernel
theorem dX2_keep_47 : decode cX2_keep 47 = .ok (.aload_n 1, 1) := by decide +kernel
theorem dX2_keep_48 : decode cX2_keep 48 = .ok (.getfield 56, 3) := by decide +kernel
theorem dX2_keep_51 : decode cX2_keep 51 = .ok (.iconst 0, 1) := by decide +kernel
theorem dX2_keep_52 : decode cX2_keep 52 = .ok (.aload_n 0, 1) := by decide +kernel
theorem dX2_keep_53 : decode cX2_keep 53 = .ok (.getfield 15, 3) := by decide +kernel
theorem dX2_keep_56 : decode cX2_keep 56 = .ok (.iconst 0, 1) := by decide +kernel
theorem dX2_keep_57 : decode cX2_keep 57 = .ok (.iconst 2, 1) := by decide +kernel
theorem dX2_keep_58 : decode cX2_keep 58 = .ok (.invokestatic 50, 3) := by decide +kernel
theorem dX2_keep_61 : decode cX2_keep 61 = .ok (.aload_n 1, 1) := by decide +kernel
theorem dX2_keep_62 : decode cX2_keep 62 = .ok (.getfield 59, 3) := by decide +kernel
theorem dX2_keep_65 : decode cX2_keep 65 = .ok (.iconst 0, 1) := by decide +kernel
theorem dX2_keep_66 : decode cX2_keep 66 = .ok (.aload_n 0, 1) := by decide +kernel
theorem dX2_keep_67 : decode cX2_keep 67 = .ok (.getfield 18, 3) := by decide +kernel
theorem dX2_keep_70 : decode cX2_keep 70 = .ok (.iconst 0, 1) := by decide +kernel
theorem dX2_keep_71 : decode cX2_keep 71 = .ok (.aload_n 0, 1) := by decide +kernel
theorem dX2_keep_72 : decode cX2_keep 72 = .ok (.getfield 18, 3) := by decide +kernel
theorem dX2_keep_75 : decode cX2_keep 75 = .ok (.arraylength, 1) := by decide +kernel
theorem dX2_keep_76 : decode cX2_keep 76 = .ok (.invokestatic 50, 3) := by decide +kernel
theorem dX2_keep_79 : decode cX2_keep 79 = .ok (.aload_n 2, 1) := by decide +kernel
theorem dX2_keep_80 : decode cX2_keep 80 = .ok (.getfield 60, 3) := by decide +kernel
theorem dX2_keep_83 : decode cX2_keep 83 = .ok (.iconst 0, 1) := by decide +kernel
theorem dX2_keep_84 : decode cX2_keep 84 = .ok (.aload_n 0, 1) := by decide +kernel
theorem dX2_keep_85 : decode cX2_keep 85 = .ok (.getfield 21, 3) := by decide +kernel
theorem dX2_keep_88 : decode cX2_keep 88 = .ok (.iconst 0, 1) := by decide +kernel
theorem dX2_keep_89 : decode cX2_keep 89 = .ok (.aload_n 0, 1) := by decide +kernel
theorem dX2_keep_90 : decode cX2_keep 90 = .ok (.getfield 21, 3) := by decide +kernel
theorem dX2_keep_93 : decode cX2_keep 93 = .ok (.arraylength, 1) := by decide +kernel
theorem dX2_keep_94 : decode cX2_keep 94 = .ok (.invokestatic 50, 3) := by decide +kernel
theorem dX2_keep_97 : decode cX2_keep 97 = .ok (.return_, 1) := by decide +kernel
theorem dX2_restore_0 : decode cX2_restore 0 = .ok (.aload_n 1, 1) := by decide +kernel
theorem dX2_restore_1 : decode cX2_restore 1 = .ok (.aload_n 0, 1) := by decide +kernel
theorem dX2_restore_2 : decode cX2_restore 2 = .ok (.getfield 30, 3) := by decide +kernel
theorem dX2_restore_5 : decode cX2_restore 5 = .ok (.putfield 24, 3) := by decide +kernel
theorem dX2_restore_8 : decode cX2_restore 8 = .ok (.aload_n 1, 1) := by decide +kernel
theorem dX2_restore_9 : decode cX2_restore 9 = .ok (.aload_n 0, 1) := by decide +kernel
theorem dX2_restore_10 : decode cX2_restore 10 = .ok (.getfield 34, 3) := by decide +kernel
theorem dX2_restore_13 : decode cX2_restore 13 = .ok (.putfield 31, 3) := by decide +kernel
theorem dX2_restore_16 : decode cX2_restore 16 = .ok (.aload_n 1, 1) := by decide +kernel
theorem dX2_restore_17 : decode cX2_restore 17 = .ok (.aload_n 0, 1) := by decide +kernel
theorem dX2_restore_18 : decode cX2_restore 18 = .ok (.getfield 38, 3) := by decide +kernel
theorem dX2_restore_21 : decode cX2_restore 21 = .ok (.putfield 35, 3) := by decide +kernel
theorem dX2_restore_24 : decode cX2_restore 24 = .ok (.aload_n 1, 1) := by decide +kernel
theorem dX2_restore_25 : decode cX2_restore 25 = .ok (.aload_n 0, 1) := by decide +kernel
theorem dX2_restore_26 : decode cX2_restore 26 = .ok (.getfield 44, 3) := by decide +kernel
theorem dX2_restore_29 : decode cX2_restore 29 = .ok (.putfield 41, 3) := by decide +kernel
theorem dX2_restore_32 : decode cX2_restore 32 = .ok (.aload_n 0, 1) := by decide +kernel
theorem dX2_restore_33 : decode cX2_restore 33 = .ok (.getfield 9, 3) := by decide +kernel
theorem dX2_restore_36 : decode cX2_restore 36 = .ok (.iconst 0, 1) := by decide +kernel
theorem dX2_restore_37 : decode cX2_restore 37 = .ok (.aload_n 1, 1) := by decide +kernel
theorem dX2_restore_38 : decode cX2_restore 38 = .ok (.getfield 47, 3) := by decide +kernel
theorem dX2_restore_41 : decode cX2_restore 41 = .ok (.iconst 0, 1) := by decide +kernel
theorem dX2_restore_42 : decode cX2_restore 42 = .ok (.bipush 12, 2) := by decide +kernel
theorem dX2_restore_44 : decode cX2_restore 44 = .ok (.invokestatic 50, 3) := by decide +kernel
theorem dX2_restore_47 : decode cX2_restore 47 = .ok (.aload_n 0, 1) := by decide +kernel
theorem dX2_restore_48 : decode cX2_restore 48 = .ok (.getfield 15, 3) := by decide +kernel
theorem dX2_restore_51 : decode cX2_restore 51 = .ok (.iconst 0, 1) := by decide +kernel
theorem dX2_restore_52 : decode cX2_restore 52 = .ok (.aload_n 1, 1) := by decide +kernel
theorem dX2_restore_53 : decode cX2_restore 53 = .ok (.getfield 56, 3) := by decide +kernel
theorem dX2_restore_56 : decode cX2_restore 56 = .ok (.iconst 0, 1) := by decide +kernel
theorem dX2_restore_57 : decode cX2_restore 57 = .ok (.iconst 2, 1) := by decide +kernel
theorem dX2_restore_58 : decode cX2_restore 58 = .ok (.invokestatic 50, 3) := by decide +kernel
theorem dX2_restore_61 : decode cX2_restore 61 = .ok (.aload_n 0, 1) := by decide +kernel
theorem dX2_restore_62 : decode cX2_restore 62 = .ok (.getfield 18, 3) := by decide +kernel
theorem dX2_restore_65 : decode cX2_restore 65 = .ok (.iconst 0, 1) := by decide +kernel
theorem dX2_restore_66 : decode cX2_restore 66 = .ok (.aload_n 1, 1) := by decide +kernel
theorem dX2_restore_67 : decode cX2_restore 67 = .ok (.getfield 59, 3) := by decide +kernel
theorem dX2_restore_70 : decode cX2_restore 70 = .ok (.iconst 0, 1) := by decide +kernel
theorem dX2_restore_71 : decode cX2_restore 71 = .ok (.aload_n 0, 1) := by decide +kernel
theorem dX2_restore_72 : decode cX2_restore 72 = .ok (.getfield 18, 3) := by decide +kernel
theorem dX2_restore_75 : decode cX2_restore 75 = .ok (.arraylength, 1) := by decide +kernel
theorem dX2_restore_76 : decode cX2_restore 76 = .ok (.invokestatic 50, 3) := by decide +kernel
theorem dX2_restore_79 : decode cX2_restore 79 = .ok (.aload_n 0, 1) := by decide +kernel
theorem dX2_restore_80 : decode cX2_restore 80 = .ok (.getfield 21, 3) := by decide +kernel
theorem dX2_restore_83 : decode cX2_restore 83 = .ok (.iconst 0, 1) := by decide +kernel
theorem dX2_restore_84 : decode cX2_restore 84 = .ok (.aload_n 2, 1) := by decide +kernel
theorem dX2_restore_85 : decode cX2_restore 85 = .ok (.getfield 60, 3) := by decide +kernel
theorem dX2_restore_88 : decode cX2_restore 88 = .ok (.iconst 0, 1) := by decide +kernel
theorem dX2_restore_89 : decode cX2_restore 89 = .ok (.aload_n 0, 1) := by decide +kernel
theorem dX2_restore_90 : decode cX2_restore 90 = .ok (.getfield 21, 3) := by decide +kernel
theorem dX2_restore_93 : decode cX2_restore 93 = .ok (.arraylength, 1) := by decide +kernel
theorem dX2_restore_94 : decode cX2_restore 94 = .ok (.invokestatic 50, 3) := by decide +kernel
theorem dX2_restore_97 : decode cX2_restore 97 = .ok (.aload_n 2, 1) := by decide +kernel
theorem dX2_restore_98 : decode cX2_restore 98 = .ok (.aload_n 0, 1) := by decide +kernel
theorem dX2_restore_99 : decode cX2_restore 99 = .ok (.getfield 30, 3) := by decide +kernel
theorem dX2_restore_102 : decode cX2_restore 102 = .ok (.invokevirtual 65, 3) := by decide +kernel
theorem dX2_restore_105 : decode cX2_restore 105 = .ok (.return_, 1) := by decide +kernel
theorem dX3_init_0 : decode cX3_init 0 = .ok (.aload_n 0, 1) := by decide +kernel
theorem dX3_init_1 : decode cX3_init 1 = .ok (.invokespecial 3, 3) := by decide +kernel
theorem dX3_init_4 : decode cX3_init 4 = .ok (.aload_n 0, 1) := by decide +kernel
theorem dX3_init_5 : decode cX3_init 5 = .ok (.bipush 64, 2) := by decide +kernel
theorem dX3_init_7 : decode cX3_init 7 = .ok (.newarray .int, 2) := by decide +kernel
theorem dX3_init_9 : decode cX3_init 9 = .ok (.putfield 11, 3) := by decide +kernel
theorem dX3_init_12 : decode cX3_init 12 = .ok (.aload_n 0, 1) := by decide +kernel
theorem dX3_init_13 : decode cX3_init 13 = .ok (.bipush 16, 2) := by decide +kernel
theorem dX3_init_15 : decode cX3_init 15 = .ok (.newarray .int, 2) := by decide +kernel
theorem dX3_init_17 : decode cX3_init 17 = .ok (.putfield 15, 3) := by decide +kernel
theorem dX3_init_20 : decode cX3_init 20 = .ok (.aload_n 0, 1) := by decide +kernel
theorem dX3_init_21 : decode cX3_init 21 = .ok (.bipush 16, 2) := by decide +kernel
theorem dX3_init_23 : decode cX3_init 23 = .ok (.newarray .boolean, 2) := by decide +kernel
theorem dX3_init_25 : decode cX3_init 25 = .ok (.putfield 18, 3) := by decide +kernel
theorem dX3_init_28 : decode cX3_init 28 = .ok (.aload_n 0, 1) := by decide +kernel
theorem dX3_init_29 : decode cX3_init 29 = .ok (.iconst (-1), 1) := by decide +kernel
theorem dX3_init_30 : decode cX3_init 30 = .ok (.putfield 22, 3) := by decide +kernel
theorem dX3_init_33 : decode cX3_init 33 = .ok (.aload_n 0, 1) := by decide +kernel
theorem dX3_init_34 : decode cX3_init 34 = .ok (.aload_n 1, 1) := by decide +kernel
theorem dX3_init_35 : decode cX3_init 35 = .ok (.putfield 26, 3) := by decide +kernel
theorem dX3_init_38 : decode cX3_init 38 = .ok (.aload_n 0, 1) := by decide +kernel
theorem dX3_init_39 : decode cX3_init 39 = .ok (.aload_n 2, 1) := by decide +kernel
theorem dX3_init_40 : decode cX3_init 40 = .ok (.putfield 30, 3) := by decide +kernel
theorem dX3_init_43 : decode cX3_init 43 = .ok (.aload_n 0, 1) := by decide +kernel
theorem dX3_init_44 : decode cX3_init 44 = .ok (.aload_n 3, 1) := by decide +kernel
theorem dX3_init_45 : decode cX3_init 45 = .ok (.putfield 34, 3) := by decide +kernel
theorem dX3_init_48 : decode cX3_init 48 = .ok (.aload_n 0, 1) := by decide +kernel
theorem dX3_init_49 : decode cX3_init 49 = .ok (.aload 4, 2) := by decide +kernel
theorem dX3_init_51 : decode cX3_init 51 = .ok (.putfield 38, 3) := by decide +kernel
theorem dX3_init_54 : decode cX3_init 54 = .ok (.return_, 1) := by decide +kernel
theorem dX3_stand_0 : decode cX3_stand 0 = .ok (.aload_n 0, 1) := by decide +kernel
theorem dX3_stand_1 : decode cX3_stand 1 = .ok (.aload_n 1, 1) := by decide +kernel
theorem dX3_stand_2 : decode cX3_stand 2 = .ok (.putfield 34, 3) := by decide +kernel
theorem dX3_stand_5 : decode cX3_stand 5 = .ok (.aload_n 0, 1) := by decide +kernel
theorem dX3_stand_6 : decode cX3_stand 6 = .ok (.iload_n 2, 1) := by decide +kernel
theorem dX3_stand_7 : decode cX3_stand 7 = .ok (.putfield 42, 3) := by decide +kernel
theorem dX3_stand_10 : decode cX3_stand 10 = .ok (.aload_n 0, 1) := by decide +kernel
theorem dX3_stand_11 : decode cX3_stand 11 = .ok (.iload_n 3, 1) := by decide +kernel
theorem dX3_stand_12 : decode cX3_stand 12 = .ok (.putfield 45, 3) := by decide +kernel
theorem dX3_stand_15 : decode cX3_stand 15 = .ok (.aload_n 0, 1) := by decide +kernel
theorem dX3_stand_16 : decode cX3_stand 16 = .ok (.iload 4, 2) := by decide +kernel
theorem dX3_stand_18 : decode cX3_stand 18 = .ok (.putfield 48, 3) := by decide +kernel
theorem dX3_stand_21 : decode cX3_stand 21 = .ok (.aload_n 0, 1) := by decide +kernel
theorem dX3_stand_22 : decode cX3_stand 22 = .ok (.iload 5, 2) := by decide +kernel
theorem dX3_stand_24 : decode cX3_stand 24 = .ok (.putfield 51, 3) := by decide +kernel
theorem dX3_stand_27 : decode cX3_stand 27 = .ok (.aload_n 0, 1) := by decide +kernel
theorem dX3_stand_28 : decode cX3_stand 28 = .ok (.aload_n 0, 1) := by decide +kernel
theorem dX3_stand_29 : decode cX3_stand 29 = .ok (.getfield 30, 3) := by decide +kernel
theorem dX3_stand_32 : decode cX3_stand 32 = .ok (.iload_n 2, 1) := by decide +kernel
theorem dX3_stand_33 : decode cX3_stand 33 = .ok (.invokevirtual 54, 3) := by decide +kernel
theorem dX3_stand_36 : decode cX3_stand 36 = .ok (.putfield 60, 3) := by decide +kernel
theorem dX3_stand_39 : decode cX3_stand 39 = .ok (.return_, 1) := by decide +kernel
theorem dX3_fits_0 : decode cX3_fits 0 = .ok (.aload_n 0, 1) := by decide +kernel
theorem dX3_fits_1 : decode cX3_fits 1 = .ok (.getfield 26, 3) := by decide +kernel
theorem dX3_fits_4 : decode cX3_fits 4 = .ok (.getfield 63, 3) := by decide +kernel
theorem dX3_fits_7 : decode cX3_fits 7 = .ok (.iload_n 1, 1) := by decide +kernel
theorem dX3_fits_8 : decode cX3_fits 8 = .ok (.iaload, 1) := by decide +kernel
theorem dX3_fits_9 : decode cX3_fits 9 = .ok (.aload_n 0, 1) := by decide +kernel
theorem dX3_fits_10 : decode cX3_fits 10 = .ok (.getfield 42, 3) := by decide +kernel
theorem dX3_fits_13 : decode cX3_fits 13 = .ok (.if_icmp .gt 39, 3) := by decide +kernel
theorem dX3_fits_16 : decode cX3_fits 16 = .ok (.aload_n 0, 1) := by decide +kernel
theorem dX3_fits_17 : decode cX3_fits 17 = .ok (.getfield 26, 3) := by decide +kernel
theorem dX3_fits_20 : decode cX3_fits 20 = .ok (.getfield 68, 3) := by decide +kernel
theorem dX3_fits_23 : decode cX3_fits 23 = .ok (.iload_n 1, 1) := by decide +kernel
theorem dX3_fits_24 : decode cX3_fits 24 = .ok (.iaload, 1) := by decide +kernel
theorem dX3_fits_25 : decode cX3_fits 25 = .ok (.aload_n 0, 1) := by decide +kernel
theorem dX3_fits_26 : decode cX3_fits 26 = .ok (.getfield 51, 3) := by decide +kernel
theorem dX3_fits_29 : decode cX3_fits 29 = .ok (.ishr, 1) := by decide +kernel
theorem dX3_fits_30 : decode cX3_fits 30 = .ok (.iconst 1, 1) := by decide +kernel
theorem dX3_fits_31 : decode cX3_fits 31 = .ok (.iand, 1) := by decide +kernel
theorem dX3_fits_32 : decode cX3_fits 32 = .ok (.iconst 1, 1) := by decide +kernel
theorem dX3_fits_33 : decode cX3_fits 33 = .ok (.if_icmp .ne 19, 3) := by decide +kernel
theorem dX3_fits_36 : decode cX3_fits 36 = .ok (.aload_n 0, 1) := by decide +kernel
theorem dX3_fits_37 : decode cX3_fits 37 = .ok (.getfield 60, 3) := by decide +kernel
theorem dX3_fits_40 : decode cX3_fits 40 = .ok (.iload_n 1, 1) := by decide +kernel
theorem dX3_fits_41 : decode cX3_fits 41 = .ok (.ishr, 1) := by decide +kernel
theorem dX3_fits_42 : decode cX3_fits 42 = .ok (.iconst 1, 1) := by decide +kernel
theorem dX3_fits_43 : decode cX3_fits 43 = .ok (.iand, 1) := by decide +kernel
theorem dX3_fits_44 : decode cX3_fits 44 = .ok (.iconst 1, 1) := by decide +kernel
theorem dX3_fits_45 : decode cX3_fits 45 = .ok (.if_icmp .ne 7, 3) := by decide +kernel
theorem dX3_fits_48 : decode cX3_fits 48 = .ok (.iconst 1, 1) := by decide +kernel
theorem dX3_fits_49 : decode cX3_fits 49 = .ok (.goto 4, 3) := by decide +kernel
theorem dX3_fits_52 : decode cX3_fits 52 = .ok (.iconst 0, 1) := by decide +kernel
theorem dX3_fits_53 : decode cX3_fits 53 = .ok (.ireturn, 1) := by decide +kernel
theorem dX3_pick_0 : decode cX3_pick 0 = .ok (.iconst (-1), 1) := by decide +kernel
theorem dX3_pick_1 : decode cX3_pick 1 = .ok (.istore_n 1, 1) := by decide +kernel
theorem dX3_pick_2 : decode cX3_pick 2 = .ok (.iconst 0, 1) := by decide +kernel
theorem dX3_pick_3 : decode cX3_pick 3 = .ok (.istore_n 2, 1) := by decide +kernel
theorem dX3_pick_4 : decode cX3_pick 4 = .ok (.iload_n 2, 1) := by decide +kernel
theorem dX3_pick_5 : decode cX3_pick 5 = .ok (.aload_n 0, 1) := by decide +kernel
theorem dX3_pick_6 : decode cX3_pick 6 = .ok (.getfield 26, 3) := by decide +kernel
theorem dX3_pick_9 : decode cX3_pick 9 = .ok (.getfield 71, 3) := by decide +kernel
theorem dX3_pick_12 : decode cX3_pick 12 = .ok (.if_icmp .ge 40, 3) := by decide +kernel
theorem dX3_pick_15 : decode cX3_pick 15 = .ok (.aload_n 0, 1) := by decide +kernel
theorem dX3_pick_16 : decode cX3_pick 16 = .ok (.getfield 18, 3) := by decide +kernel
theorem dX3_pick_19 : decode cX3_pick 19 = .ok (.iload_n 2, 1) := by decide +kernel
theorem dX3_pick_20 : decode cX3_pick 20 = .ok (.baload, 1) := by decide +kernel
theorem dX3_pick_21 : decode cX3_pick 21 = .ok (.ifCond .eq 25, 3) := by decide +kernel
theorem dX3_pick_24 : decode cX3_pick 24 = .ok (.iload_n 1, 1) := by decide +kernel
theorem dX3_pick_25 : decode cX3_pick 25 = .ok (.iconst (-1), 1) := by decide +kernel
theorem dX3_pick_26 : decode cX3_pick 26 = .ok (.if_icmp .eq 18, 3) := by decide +kernel
theorem dX3_pick_29 : decode cX3_pick 29 = .ok (.aload_n 0, 1) := by decide +kernel
theorem dX3_pick_30 : decode cX3_pick 30 = .ok (.getfield 15, 3) := by decide +kernel
theorem dX3_pick_33 : decode cX3_pick 33 = .ok (.iload_n 2, 1) := by decide +kernel
theorem dX3_pick_34 : decode cX3_pick 34 = .ok (.iaload, 1) := by decide +kernel
theorem dX3_pick_35 : decode cX3_pick 35 = .ok (.aload_n 0, 1) := by decide +kernel
theorem dX3_pick_36 : decode cX3_pick 36 = .ok (.getfield 15, 3) := by decide +kernel
theorem dX3_pick_39 : decode cX3_pick 39 = .ok (.iload_n 1, 1) := by decide +kernel
theorem dX3_pick_40 : decode cX3_pick 40 = .ok (.iaload, 1) := by decide +kernel
theorem dX3_pick_41 : decode cX3_pick 41 = .ok (.if_icmp .le 5, 3) := by decide +kernel
theorem dX3_pick_44 : decode cX3_pick 44 = .ok (.iload_n 2, 1) := by decide +kernel
theorem dX3_pick_45 : decode cX3_pick 45 = .ok (.istore_n 1, 1) := by decide +kernel
theorem dX3_pick_46 : decode cX3_pick 46 = .ok (.iinc 2 1, 3) := by decide +kernel
theorem dX3_pick_49 : decode cX3_pick 49 = .ok (.goto (-45), 3) := by decide +kernel
theorem dX3_pick_52 : decode cX3_pick 52 = .ok (.iload_n 1, 1) := by decide +kernel
theorem dX3_pick_53 : decode cX3_pick 53 = .ok (.ireturn, 1) := by decide +kernel
theorem dX3_give_0 : decode cX3_give 0 = .ok (.aload_n 0, 1) := by decide +kernel
theorem dX3_give_1 : decode cX3_give 1 = .ok (.getfield 34, 3) := by decide +kernel
theorem dX3_give_4 : decode cX3_give 4 = .ok (.aload_n 0, 1) := by decide +kernel
theorem dX3_give_5 : decode cX3_give 5 = .ok (.getfield 45, 3) := by decide +kernel
theorem dX3_give_8 : decode cX3_give 8 = .ok (.aload_n 0, 1) := by decide +kernel
theorem dX3_give_9 : decode cX3_give 9 = .ok (.getfield 48, 3) := by decide +kernel
theorem dX3_give_12 : decode cX3_give 12 = .ok (.aload_n 0, 1) := by decide +kernel
theorem dX3_give_13 : decode cX3_give 13 = .ok (.getfield 51, 3) := by decide +kernel
theorem dX3_give_16 : decode cX3_give 16 = .ok (.iload_n 1, 1) := by decide +kernel
theorem dX3_give_17 : decode cX3_give 17 = .ok (.invokevirtual 74, 3) := by decide +kernel
theorem dX3_give_20 : decode cX3_give 20 = .ok (.return_, 1) := by decide +kernel
theorem dX3_weigh_0 : decode cX3_weigh 0 = .ok (.iconst 0, 1) := by decide +kernel
theorem dX3_weigh_1 : decode cX3_weigh 1 = .ok (.istore_n 2, 1) := by decide +kernel
theorem dX3_weigh_2 : decode cX3_weigh 2 = .ok (.iconst 0, 1) := by decide +kernel
theorem dX3_weigh_3 : decode cX3_weigh 3 = .ok (.istore_n 3, 1) := by decide +kernel
theorem dX3_weigh_4 : decode cX3_weigh 4 = .ok (.iconst 0, 1) := by decide +kernel
theorem dX3_weigh_5 : decode cX3_weigh 5 = .ok (.istore 4, 2) := by decide +kernel
theorem dX3_weigh_7 : decode cX3_weigh 7 = .ok (.iconst 0, 1) := by decide +kernel
theorem dX3_weigh_8 : decode cX3_weigh 8 = .ok (.istore 5, 2) := by decide +kernel
theorem dX3_weigh_10 : decode cX3_weigh 10 = .ok (.iload 5, 2) := by decide +kernel
theorem dX3_weigh_12 : decode cX3_weigh 12 = .ok (.aload_n 0, 1) := by decide +kernel
theorem dX3_weigh_13 : decode cX3_weigh 13 = .ok (.getfield 38, 3) := by decide +kernel
theorem dX3_weigh_16 : decode cX3_weigh 16 = .ok (.getfield 80, 3) := by decide +kernel
theorem dX3_weigh_19 : decode cX3_weigh 19 = .ok (.if_icmp .ge 233, 3) := by decide +kernel
theorem dX3_weigh_22 : decode cX3_weigh 22 = .ok (.aload_n 0, 1) := by decide +kernel
theorem dX3_weigh_23 : decode cX3_weigh 23 = .ok (.getfield 38, 3) := by decide +kernel
theorem dX3_weigh_26 : decode cX3_weigh 26 = .ok (.getfield 85, 3) := by decide +kernel
theorem dX3_weigh_29 : decode cX3_weigh 29 = .ok (.iload 5, 2) := by decide +kernel
theorem dX3_weigh_31 : decode cX3_weigh 31 = .ok (.iaload, 1) := by decide +kernel
theorem dX3_weigh_32 : decode cX3_weigh 32 = .ok (.istore 6, 2) := by decide +kernel
theorem dX3_weigh_34 : decode cX3_weigh 34 = .ok (.iload 6, 2) := by decide +kernel
theorem dX3_weigh_36 : decode cX3_weigh 36 = .ok (.bipush 100, 2) := by decide +kernel
theorem dX3_weigh_38 : decode cX3_weigh 38 = .ok (.if_icmp .ge 10, 3) := by decide +kernel
theorem dX3_weigh_41 : decode cX3_weigh 41 = .ok (.iload 6, 2) := by decide +kernel
theorem dX3_weigh_43 : decode cX3_weigh 43 = .ok (.bipush 14, 2) := by decide +kernel
theorem dX3_weigh_45 : decode cX3_weigh 45 = .ok (.if_icmp .ge 43, 3) := by decide +kernel
theorem dX3_weigh_48 : decode cX3_weigh 48 = .ok (.iload_n 2, 1) := by decide +kernel
theorem dX3_weigh_49 : decode cX3_weigh 49 = .ok (.bipush 64, 2) := by decide +kernel
theorem dX3_weigh_51 : decode cX3_weigh 51 = .ok (.if_icmp .ge 195, 3) := by decide +kernel
theorem dX3_weigh_54 : decode cX3_weigh 54 = .ok (.aload_n 0, 1) := by decide +kernel
theorem dX3_weigh_55 : decode cX3_weigh 55 = .ok (.getfield 11, 3) := by decide +kernel
theorem dX3_weigh_58 : decode cX3_weigh 58 = .ok (.iload_n 2, 1) := by decide +kernel
theorem dX3_weigh_59 : decode cX3_weigh 59 = .ok (.iload 6, 2) := by decide +kernel
theorem dX3_weigh_61 : decode cX3_weigh 61 = .ok (.bipush 100, 2) := by decide +kernel
theorem dX3_weigh_63 : decode cX3_weigh 63 = .ok (.if_icmp .lt 11, 3) := by decide +kernel
theorem dX3_weigh_66 : decode cX3_weigh 66 = .ok (.iload 6, 2) := by decide +kernel
theorem dX3_weigh_68 : decode cX3_weigh 68 = .ok (.bipush 100, 2) := by decide +kernel
theorem dX3_weigh_70 : decode cX3_weigh 70 = .ok (.isub, 1) := by decide +kernel
theorem dX3_weigh_71 : decode cX3_weigh 71 = .ok (.goto 10, 3) := by decide +kernel
theorem dX3_weigh_74 : decode cX3_weigh 74 = .ok (.aload_n 0, 1) := by decide +kernel
theorem dX3_weigh_75 : decode cX3_weigh 75 = .ok (.iload 6, 2) := by decide +kernel
theorem dX3_weigh_77 : decode cX3_weigh 77 = .ok (.iload_n 1, 1) := by decide +kernel
theorem dX3_weigh_78 : decode cX3_weigh 78 = .ok (.invokevirtual 88, 3) := by decide +kernel
theorem dX3_weigh_81 : decode cX3_weigh 81 = .ok (.iastore, 1) := by decide +kernel
theorem dX3_weigh_82 : decode cX3_weigh 82 = .ok (.iinc 2 1, 3) := by decide +kernel
theorem dX3_weigh_85 : decode cX3_weigh 85 = .ok (.goto 161, 3) := by decide +kernel
theorem dX3_weigh_88 : decode cX3_weigh 88 = .ok (.iload_n 2, 1) := by decide +kernel
theorem dX3_weigh_89 : decode cX3_weigh 89 = .ok (.iconst 1, 1) := by decide +kernel
theorem dX3_weigh_90 : decode cX3_weigh 90 = .ok (.if_icmp .lt 57, 3) := by decide +kernel
theorem dX3_weigh_93 : decode cX3_weigh 93 = .ok (.iload 6, 2) := by decide +kernel
theorem dX3_weigh_95 : decode cX3_weigh 95 = .ok (.bipush 40, 2) := by decide +kernel
theorem dX3_weigh_97 : decode cX3_weigh 97 = .ok (.if_icmp .eq 10, 3) := by decide +kernel
theorem dX3_weigh_100 : decode cX3_weigh 100 = .ok (.iload 6, 2) := by decide +kernel
theorem dX3_weigh_102 : decode cX3_weigh 102 = .ok (.bipush 19, 2) := by decide +kernel
theorem dX3_weigh_104 : decode cX3_weigh 104 = .ok (.if_icmp .ne 43, 3) := by decide +kernel
theorem dX3_weigh_107 : decode cX3_weigh 107 = .ok (.aload_n 0, 1) := by decide +kernel
theorem dX3_weigh_108 : decode cX3_weigh 108 = .ok (.getfield 11, 3) := by decide +kernel
theorem dX3_weigh_111 : decode cX3_weigh 111 = .ok (.iload_n 2, 1) := by decide +kernel
theorem dX3_weigh_112 : decode cX3_weigh 112 = .ok (.iconst 1, 1) := by decide +kernel
theorem dX3_weigh_113 : decode cX3_weigh 113 = .ok (.isub, 1) := by decide +kernel
theorem dX3_weigh_114 : decode cX3_weigh 114 = .ok (.iload 6, 2) := by decide +kernel
theorem dX3_weigh_116 : decode cX3_weigh 116 = .ok (.bipush 40, 2) := by decide +kernel
theorem dX3_weigh_118 : decode cX3_weigh 118 = .ok (.if_icmp .ne 15, 3) := by decide +kernel
theorem dX3_weigh_121 : decode cX3_weigh 121 = .ok (.aload_n 0, 1) := by decide +kernel
theorem dX3_weigh_122 : decode cX3_weigh 122 = .ok (.getfield 11, 3) := by decide +kernel
theorem dX3_weigh_125 : decode cX3_weigh 125 = .ok (.iload_n 2, 1) := by decide +kernel
theorem dX3_weigh_126 : decode cX3_weigh 126 = .ok (.iconst 1, 1) := by decide +kernel
theorem dX3_weigh_127 : decode cX3_weigh 127 = .ok (.isub, 1) := by decide +kernel
theorem dX3_weigh_128 : decode cX3_weigh 128 = .ok (.iaload, 1) := by decide +kernel
theorem dX3_weigh_129 : decode cX3_weigh 129 = .ok (.ineg, 1) := by decide +kernel
theorem dX3_weigh_130 : decode cX3_weigh 130 = .ok (.goto 13, 3) := by decide +kernel
theorem dX3_weigh_133 : decode cX3_weigh 133 = .ok (.iconst 1, 1) := by decide +kernel
theorem dX3_weigh_134 : decode cX3_weigh 134 = .ok (.aload_n 0, 1) := by decide +kernel
theorem dX3_weigh_135 : decode cX3_weigh 135 = .ok (.getfield 11, 3) := by decide +kernel
theorem dX3_weigh_138 : decode cX3_weigh 138 = .ok (.iload_n 2, 1) := by decide +kernel
theorem dX3_weigh_139 : decode cX3_weigh 139 = .ok (.iconst 1, 1) := by decide +kernel
theorem dX3_weigh_140 : decode cX3_weigh 140 = .ok (.isub, 1) := by decide +kernel
theorem dX3_weigh_141 : decode cX3_weigh 141 = .ok (.iaload, 1) := by decide +kernel
theorem dX3_weigh_142 : decode cX3_weigh 142 = .ok (.isub, 1) := by decide +kernel
theorem dX3_weigh_143 : decode cX3_weigh 143 = .ok (.iastore, 1) := by decide +kernel
theorem dX3_weigh_144 : decode cX3_weigh 144 = .ok (.goto 102, 3) := by decide +kernel
theorem dX3_weigh_147 : decode cX3_weigh 147 = .ok (.iload_n 2, 1) := by decide +kernel
theorem dX3_weigh_148 : decode cX3_weigh 148 = .ok (.iconst 1, 1) := by decide +kernel
theorem dX3_weigh_149 : decode cX3_weigh 149 = .ok (.if_icmp .lt 23, 3) := by decide +kernel
theorem dX3_weigh_152 : decode cX3_weigh 152 = .ok (.iload 6, 2) := by decide +kernel
theorem dX3_weigh_154 : decode cX3_weigh 154 = .ok (.bipush 14, 2) := by decide +kernel
theorem dX3_weigh_156 : decode cX3_weigh 156 = .ok (.if_icmp .ne 16, 3) := by decide +kernel
theorem dX3_weigh_159 : decode cX3_weigh 159 = .ok (.iinc 2 (-1), 3) := by decide +kernel
theorem dX3_weigh_162 : decode cX3_weigh 162 = .ok (.aload_n 0, 1) := by decide +kernel
theorem dX3_weigh_163 : decode cX3_weigh 163 = .ok (.getfield 11, 3) := by decide +kernel
theorem dX3_weigh_166 : decode cX3_weigh 166 = .ok (.iload_n 2, 1) := by decide +kernel
theorem dX3_weigh_167 : decode cX3_weigh 167 = .ok (.iaload, 1) := by decide +kernel
theorem dX3_weigh_168 : decode cX3_weigh 168 = .ok (.istore_n 3, 1) := by decide +kernel
theorem dX3_weigh_169 : decode cX3_weigh 169 = .ok (.goto 77, 3) := by decide +kernel
theorem dX3_weigh_172 : decode cX3_weigh 172 = .ok (.iload_n 2, 1) := by decide +kernel
theorem dX3_weigh_173 : decode cX3_weigh 173 = .ok (.iconst 1, 1) := by decide +kernel
theorem dX3_weigh_174 : decode cX3_weigh 174 = .ok (.if_icmp .lt 37, 3) := by decide +kernel
theorem dX3_weigh_177 : decode cX3_weigh 177 = .ok (.iload 6, 2) := by decide +kernel
theorem dX3_weigh_179 : decode cX3_weigh 179 = .ok (.bipush 15, 2) := by decide +kernel
theorem dX3_weigh_181 : decode cX3_weigh 181 = .ok (.if_icmp .ne 30, 3) := by decide +kernel
theorem dX3_weigh_184 : decode cX3_weigh 184 = .ok (.iinc 2 (-1), 3) := by decide +kernel
theorem dX3_weigh_187 : decode cX3_weigh 187 = .ok (.iload 4, 2) := by decide +kernel
theorem dX3_weigh_189 : decode cX3_weigh 189 = .ok (.ifCond .ne 12, 3) := by decide +kernel
theorem dX3_weigh_192 : decode cX3_weigh 192 = .ok (.aload_n 0, 1) := by decide +kernel
theorem dX3_weigh_193 : decode cX3_weigh 193 = .ok (.getfield 11, 3) := by decide +kernel
theorem dX3_weigh_196 : decode cX3_weigh 196 = .ok (.iload_n 2, 1) := by decide +kernel
theorem dX3_weigh_197 : decode cX3_weigh 197 = .ok (.iaload, 1) := by decide +kernel
theorem dX3_weigh_198 : decode cX3_weigh 198 = .ok (.ifCond .eq 7, 3) := by decide +kernel
theorem dX3_weigh_201 : decode cX3_weigh 201 = .ok (.iconst 1, 1) := by decide +kernel
theorem dX3_weigh_202 : decode cX3_weigh 202 = .ok (.goto 4, 3) := by decide +kernel
theorem dX3_weigh_205 : decode cX3_weigh 205 = .ok (.iconst 0, 1) := by decide +kernel
theorem dX3_weigh_206 : decode cX3_weigh 206 = .ok (.istore 4, 2) := by decide +kernel
theorem dX3_weigh_208 : decode cX3_weigh 208 = .ok (.goto 38, 3) := by decide +kernel
theorem dX3_weigh_211 : decode cX3_weigh 211 = .ok (.iload_n 2, 1) := by decide +kernel
theorem dX3_weigh_212 : decode cX3_weigh 212 = .ok (.iconst 2, 1) := by decide +kernel
theorem dX3_weigh_213 : decode cX3_weigh 213 = .ok (.if_icmp .lt 33, 3) := by decide +kernel
theorem dX3_weigh_216 : decode cX3_weigh 216 = .ok (.iinc 2 (-1), 3) := by decide +kernel
theorem dX3_weigh_219 : decode cX3_weigh 219 = .ok (.aload_n 0, 1) := by decide +kernel
theorem dX3_weigh_220 : decode cX3_weigh 220 = .ok (.getfield 11, 3) := by decide +kernel
theorem dX3_weigh_223 : decode cX3_weigh 223 = .ok (.iload_n 2, 1) := by decide +kernel
theorem dX3_weigh_224 : decode cX3_weigh 224 = .ok (.iconst 1, 1) := by decide +kernel
theorem dX3_weigh_225 : decode cX3_weigh 225 = .ok (.isub, 1) := by decide +kernel
theorem dX3_weigh_226 : decode cX3_weigh 226 = .ok (.iload 6, 2) := by decide +kernel
theorem dX3_weigh_228 : decode cX3_weigh 228 = .ok (.aload_n 0, 1) := by decide +kernel
theorem dX3_weigh_229 : decode cX3_weigh 229 = .ok (.getfield 11, 3) := by decide +kernel
theorem dX3_weigh_232 : decode cX3_weigh 232 = .ok (.iload_n 2, 1) := by decide +kernel
theorem dX3_weigh_233 : decode cX3_weigh 233 = .ok (.iconst 1, 1) := by decide +kernel
theorem dX3_weigh_234 : decode cX3_weigh 234 = .ok (.isub, 1) := by decide +kernel
theorem dX3_weigh_235 : decode cX3_weigh 235 = .ok (.iaload, 1) := by decide +kernel
theorem dX3_weigh_236 : decode cX3_weigh 236 = .ok (.aload_n 0, 1) := by decide +kernel
theorem dX3_weigh_237 : decode cX3_weigh 237 = .ok (.getfield 11, 3) := by decide +kernel
theorem dX3_weigh_240 : decode cX3_weigh 240 = .ok (.iload_n 2, 1) := by decide +kernel
theorem dX3_weigh_241 : decode cX3_weigh 241 = .ok (.iaload, 1) := by decide +kernel
theorem dX3_weigh_242 : decode cX3_weigh 242 = .ok (.invokestatic 92, 3) := by decide +kernel
theorem dX3_weigh_245 : decode cX3_weigh 245 = .ok (.iastore, 1) := by decide +kernel
theorem dX3_weigh_246 : decode cX3_weigh 246 = .ok (.iinc 5 1, 3) := by decide +kernel
theorem dX3_weigh_249 : decode cX3_weigh 249 = .ok (.goto (-239), 3) := by decide +kernel
theorem dX3_weigh_252 : decode cX3_weigh 252 = .ok (.aload_n 0, 1) := by decide +kernel
theorem dX3_weigh_253 : decode cX3_weigh 253 = .ok (.getfield 15, 3) := by decide +kernel
theorem dX3_weigh_256 : decode cX3_weigh 256 = .ok (.iload_n 1, 1) := by decide +kernel
theorem dX3_weigh_257 : decode cX3_weigh 257 = .ok (.iload_n 3, 1) := by decide +kernel
theorem dX3_weigh_258 : decode cX3_weigh 258 = .ok (.iastore, 1) := by decide +kernel
theorem dX3_weigh_259 : decode cX3_weigh 259 = .ok (.aload_n 0, 1) := by decide +kernel
theorem dX3_weigh_260 : decode cX3_weigh 260 = .ok (.getfield 18, 3) := by decide +kernel
theorem dX3_weigh_263 : decode cX3_weigh 263 = .ok (.iload_n 1, 1) := by decide +kernel
theorem dX3_weigh_264 : decode cX3_weigh 264 = .ok (.iload 4, 2) := by decide +kernel
theorem dX3_weigh_266 : decode cX3_weigh 266 = .ok (.ifCond .ne 15, 3) := by decide +kernel
theorem dX3_weigh_269 : decode cX3_weigh 269 = .ok (.aload_n 0, 1) := by decide +kernel
theorem dX3_weigh_270 : decode cX3_weigh 270 = .ok (.iload_n 1, 1) := by decide +kernel
theorem dX3_weigh_271 : decode cX3_weigh 271 = .ok (.invokevirtual 96, 3) := by decide +kernel
theorem dX3_weigh_274 : decode cX3_weigh 274 = .ok (.ifCond .eq 7, 3) := by decide +kernel
theorem dX3_weigh_277 : decode cX3_weigh 277 = .ok (.iconst 1, 1) := by decide +kernel
theorem dX3_weigh_278 : decode cX3_weigh 278 = .ok (.goto 4, 3) := by decide +kernel
theorem dX3_weigh_281 : decode cX3_weigh 281 = .ok (.iconst 0, 1) := by decide +kernel
theorem dX3_weigh_282 : decode cX3_weigh 282 = .ok (.bastore, 1) := by decide +kernel
theorem dX3_weigh_283 : decode cX3_weigh 283 = .ok (.return_, 1) := by decide +kernel
theorem dX3_join_0 : decode cX3_join 0 = .ok (.iload_n 0, 1) := by decide +kernel
theorem dX3_join_1 : decode cX3_join 1 = .ok (.tableswitch 200 17 31 #[196, 192, 200, 114, 120, 126, 137, 148, 159, 170, 181, 75, 84, 93, 102], 75) := by decide +kernel
theorem dX3_join_76 : decode cX3_join 76 = .ok (.iload_n 1, 1) := by decide +kernel
theorem dX3_join_77 : decode cX3_join 77 = .ok (.i2l, 1) := by decide +kernel
theorem dX3_join_78 : decode cX3_join 78 = .ok (.iload_n 2, 1) := by decide +kernel
theorem dX3_join_79 : decode cX3_join 79 = .ok (.i2l, 1) := by decide +kernel
theorem dX3_join_80 : decode cX3_join 80 = .ok (.ladd, 1) := by decide +kernel
theorem dX3_join_81 : decode cX3_join 81 = .ok (.invokestatic 100, 3) := by decide +kernel
theorem dX3_join_84 : decode cX3_join 84 = .ok (.ireturn, 1) := by decide +kernel
theorem dX3_join_85 : decode cX3_join 85 = .ok (.iload_n 1, 1) := by decide +kernel
theorem dX3_join_86 : decode cX3_join 86 = .ok (.i2l, 1) := by decide +kernel
theorem dX3_join_87 : decode cX3_join 87 = .ok (.iload_n 2, 1) := by decide +kernel
theorem dX3_join_88 : decode cX3_join 88 = .ok (.i2l, 1) := by decide +kernel
theorem dX3_join_89 : decode cX3_join 89 = .ok (.lsub, 1) := by decide +kernel
theorem dX3_join_90 : decode cX3_join 90 = .ok (.invokestatic 100, 3) := by decide +kernel
theorem dX3_join_93 : decode cX3_join 93 = .ok (.ireturn, 1) := by decide +kernel
theorem dX3_join_94 : decode cX3_join 94 = .ok (.iload_n 1, 1) := by decide +kernel
theorem dX3_join_95 : decode cX3_join 95 = .ok (.i2l, 1) := by decide +kernel
theorem dX3_join_96 : decode cX3_join 96 = .ok (.iload_n 2, 1) := by decide +kernel
theorem dX3_join_97 : decode cX3_join 97 = .ok (.i2l, 1) := by decide +kernel
theorem dX3_join_98 : decode cX3_join 98 = .ok (.lmul, 1) := by decide +kernel
theorem dX3_join_99 : decode cX3_join 99 = .ok (.invokestatic 100, 3) := by decide +kernel
theorem dX3_join_102 : decode cX3_join 102 = .ok (.ireturn, 1) := by decide +kernel
theorem dX3_join_103 : decode cX3_join 103 = .ok (.iload_n 2, 1) := by decide +kernel
theorem dX3_join_104 : decode cX3_join 104 = .ok (.ifCond .ne 7, 3) := by decide +kernel
theorem dX3_join_107 : decode cX3_join 107 = .ok (.iconst 0, 1) := by decide +kernel
theorem dX3_join_108 : decode cX3_join 108 = .ok (.goto 6, 3) := by decide +kernel
theorem dX3_join_111 : decode cX3_join 111 = .ok (.iload_n 1, 1) := by decide +kernel
theorem dX3_join_112 : decode cX3_join 112 = .ok (.iload_n 2, 1) := by decide +kernel
theorem dX3_join_113 : decode cX3_join 113 = .ok (.idiv, 1) := by decide +kernel
theorem dX3_join_114 : decode cX3_join 114 = .ok (.ireturn, 1) := by decide +kernel
theorem dX3_join_115 : decode cX3_join 115 = .ok (.iload_n 1, 1) := by decide +kernel
theorem dX3_join_116 : decode cX3_join 116 = .ok (.iload_n 2, 1) := by decide +kernel
theorem dX3_join_117 : decode cX3_join 117 = .ok (.invokestatic 104, 3) := by decide +kernel
theorem dX3_join_120 : decode cX3_join 120 = .ok (.ireturn, 1) := by decide +kernel
theorem dX3_join_121 : decode cX3_join 121 = .ok (.iload_n 1, 1) := by decide +kernel
theorem dX3_join_122 : decode cX3_join 122 = .ok (.iload_n 2, 1) := by decide +kernel
theorem dX3_join_123 : decode cX3_join 123 = .ok (.invokestatic 109, 3) := by decide +kernel
theorem dX3_join_126 : decode cX3_join 126 = .ok (.ireturn, 1) := by decide +kernel
theorem dX3_join_127 : decode cX3_join 127 = .ok (.iload_n 1, 1) := by decide +kernel
theorem dX3_join_128 : decode cX3_join 128 = .ok (.iload_n 2, 1) := by decide +kernel
theorem dX3_join_129 : decode cX3_join 129 = .ok (.if_icmp .ge 7, 3) := by decide +kernel
theorem dX3_join_132 : decode cX3_join 132 = .ok (.iconst 1, 1) := by decide +kernel
theorem dX3_join_133 : decode cX3_join 133 = .ok (.goto 4, 3) := by decide +kernel
theorem dX3_join_136 : decode cX3_join 136 = .ok (.iconst 0, 1) := by decide +kernel
theorem dX3_join_137 : decode cX3_join 137 = .ok (.ireturn, 1) := by decide +kernel
theorem dX3_join_138 : decode cX3_join 138 = .ok (.iload_n 1, 1) := by decide +kernel
theorem dX3_join_139 : decode cX3_join 139 = .ok (.iload_n 2, 1) := by decide +kernel
theorem dX3_join_140 : decode cX3_join 140 = .ok (.if_icmp .gt 7, 3) := by decide +kernel
theorem dX3_join_143 : decode cX3_join 143 = .ok (.iconst 1, 1) := by decide +kernel
theorem dX3_join_144 : decode cX3_join 144 = .ok (.goto 4, 3) := by decide +kernel
theorem dX3_join_147 : decode cX3_join 147 = .ok (.iconst 0, 1) := by decide +kernel
theorem dX3_join_148 : decode cX3_join 148 = .ok (.ireturn, 1) := by decide +kernel
theorem dX3_join_149 : decode cX3_join 149 = .ok (.iload_n 1, 1) := by decide +kernel
theorem dX3_join_150 : decode cX3_join 150 = .ok (.iload_n 2, 1) := by decide +kernel
theorem dX3_join_151 : decode cX3_join 151 = .ok (.if_icmp .le 7, 3) := by decide +kernel
theorem dX3_join_154 : decode cX3_join 154 = .ok (.iconst 1, 1) := by decide +kernel
theorem dX3_join_155 : decode cX3_join 155 = .ok (.goto 4, 3) := by decide +kernel
theorem dX3_join_158 : decode cX3_join 158 = .ok (.iconst 0, 1) := by decide +kernel
theorem dX3_join_159 : decode cX3_join 159 = .ok (.ireturn, 1) := by decide +kernel
theorem dX3_join_160 : decode cX3_join 160 = .ok (.iload_n 1, 1) := by decide +kernel
theorem dX3_join_161 : decode cX3_join 161 = .ok (.iload_n 2, 1) := by decide +kernel
theorem dX3_join_162 : decode cX3_join 162 = .ok (.if_icmp .lt 7, 3) := by decide +kernel
theorem dX3_join_165 : decode cX3_join 165 = .ok (.iconst 1, 1) := by decide +kernel
theorem dX3_join_166 : decode cX3_join 166 = .ok (.goto 4, 3) := by decide +kernel
theorem dX3_join_169 : decode cX3_join 169 = .ok (.iconst 0, 1) := by decide +kernel
theorem dX3_join_170 : decode cX3_join 170 = .ok (.ireturn, 1) := by decide +kernel
theorem dX3_join_171 : decode cX3_join 171 = .ok (.iload_n 1, 1) := by decide +kernel
theorem dX3_join_172 : decode cX3_join 172 = .ok (.iload_n 2, 1) := by decide +kernel
theorem dX3_join_173 : decode cX3_join 173 = .ok (.if_icmp .ne 7, 3) := by decide +kernel
theorem dX3_join_176 : decode cX3_join 176 = .ok (.iconst 1, 1) := by decide +kernel
theorem dX3_join_177 : decode cX3_join 177 = .ok (.goto 4, 3) := by decide +kernel
theorem dX3_join_180 : decode cX3_join 180 = .ok (.iconst 0, 1) := by decide +kernel
theorem dX3_join_181 : decode cX3_join 181 = .ok (.ireturn, 1) := by decide +kernel
theorem dX3_join_182 : decode cX3_join 182 = .ok (.iload_n 1, 1) := by decide +kernel
theorem dX3_join_183 : decode cX3_join 183 = .ok (.iload_n 2, 1) := by decide +kernel
theorem dX3_join_184 : decode cX3_join 184 = .ok (.if_icmp .eq 7, 3) := by decide +kernel
theorem dX3_join_187 : decode cX3_join 187 = .ok (.iconst 1, 1) := by decide +kernel
theorem dX3_join_188 : decode cX3_join 188 = .ok (.goto 4, 3) := by decide +kernel
theorem dX3_join_191 : decode cX3_join 191 = .ok (.iconst 0, 1) := by decide +kernel
theorem dX3_join_192 : decode cX3_join 192 = .ok (.ireturn, 1) := by decide +kernel
theorem dX3_join_193 : decode cX3_join 193 = .ok (.iload_n 1, 1) := by decide +kernel
theorem dX3_join_194 : decode cX3_join 194 = .ok (.iload_n 2, 1) := by decide +kernel
theorem dX3_join_195 : decode cX3_join 195 = .ok (.iand, 1) := by decide +kernel
theorem dX3_join_196 : decode cX3_join 196 = .ok (.ireturn, 1) := by decide +kernel
theorem dX3_join_197 : decode cX3_join 197 = .ok (.iload_n 1, 1) := by decide +kernel
theorem dX3_join_198 : decode cX3_join 198 = .ok (.iload_n 2, 1) := by decide +kernel
theorem dX3_join_199 : decode cX3_join 199 = .ok (.ior, 1) := by decide +kernel
theorem dX3_join_200 : decode cX3_join 200 = .ok (.ireturn, 1) := by decide +kernel
theorem dX3_join_201 : decode cX3_join 201 = .ok (.iconst 0, 1) := by decide +kernel
theorem dX3_join_202 : decode cX3_join 202 = .ok (.ireturn, 1) := by decide +kernel
theorem dX3_bounded_0 : decode cX3_bounded 0 = .ok (.lload_n 0, 1) := by decide +kernel
theorem dX3_bounded_1 : decode cX3_bounded 1 = .ok (.ldc2_w 112, 3) := by decide +kernel
theorem dX3_bounded_4 : decode cX3_bounded 4 = .ok (.lcmp, 1) := by decide +kernel
theorem dX3_bounded_5 : decode cX3_bounded 5 = .ok (.ifCond .le 6, 3) := by decide +kernel
theorem dX3_bounded_8 : decode cX3_bounded 8 = .ok (.ldc 114, 2) := by decide +kernel
theorem dX3_bounded_10 : decode cX3_bounded 10 = .ok (.ireturn, 1) := by decide +kernel
theorem dX3_bounded_11 : decode cX3_bounded 11 = .ok (.lload_n 0, 1) := by decide +kernel
theorem dX3_bounded_12 : decode cX3_bounded 12 = .ok (.ldc2_w 115, 3) := by decide +kernel
theorem dX3_bounded_15 : decode cX3_bounded 15 = .ok (.lcmp, 1) := by decide +kernel
theorem dX3_bounded_16 : decode cX3_bounded 16 = .ok (.ifCond .ge 8, 3) := by decide +kernel
theorem dX3_bounded_19 : decode cX3_bounded 19 = .ok (.ldc 117, 2) := by decide +kernel
theorem dX3_bounded_21 : decode cX3_bounded 21 = .ok (.goto 5, 3) := by decide +kernel
theorem dX3_bounded_24 : decode cX3_bounded 24 = .ok (.lload_n 0, 1) := by decide +kernel
theorem dX3_bounded_25 : decode cX3_bounded 25 = .ok (.l2i, 1) := by decide +kernel
theorem dX3_bounded_26 : decode cX3_bounded 26 = .ok (.ireturn, 1) := by decide +kernel
theorem dX3_heard_0 : decode cX3_heard 0 = .ok (.aload_n 0, 1) := by decide +kernel
theorem dX3_heard_1 : decode cX3_heard 1 = .ok (.getfield 42, 3) := by decide +kernel
theorem dX3_heard_4 : decode cX3_heard 4 = .ok (.aload_n 0, 1) := by decide +kernel
theorem dX3_heard_5 : decode cX3_heard 5 = .ok (.getfield 38, 3) := by decide +kernel
theorem dX3_heard_8 : decode cX3_heard 8 = .ok (.getfield 118, 3) := by decide +kernel
theorem dX3_heard_11 : decode cX3_heard 11 = .ok (.isub, 1) := by decide +kernel
theorem dX3_heard_12 : decode cX3_heard 12 = .ok (.iconst 1, 1) := by decide +kernel
theorem dX3_heard_13 : decode cX3_heard 13 = .ok (.iadd, 1) := by decide +kernel
theorem dX3_heard_14 : decode cX3_heard 14 = .ok (.istore_n 3, 1) := by decide +kernel
theorem dX3_heard_15 : decode cX3_heard 15 = .ok (.aload_n 0, 1) := by decide +kernel
theorem dX3_heard_16 : decode cX3_heard 16 = .ok (.getfield 42, 3) := by decide +kernel
theorem dX3_heard_19 : decode cX3_heard 19 = .ok (.aload_n 0, 1) := by decide +kernel
theorem dX3_heard_20 : decode cX3_heard 20 = .ok (.getfield 30, 3) := by decide +kernel
theorem dX3_heard_23 : decode cX3_heard 23 = .ok (.getfield 121, 3) := by decide +kernel
theorem dX3_heard_26 : decode cX3_heard 26 = .ok (.isub, 1) := by decide +kernel
theorem dX3_heard_27 : decode cX3_heard 27 = .ok (.iconst 1, 1) := by decide +kernel
theorem dX3_heard_28 : decode cX3_heard 28 = .ok (.iadd, 1) := by decide +kernel
theorem dX3_heard_29 : decode cX3_heard 29 = .ok (.istore 4, 2) := by decide +kernel
theorem dX3_heard_31 : decode cX3_heard 31 = .ok (.iload_n 1, 1) := by decide +kernel
theorem dX3_heard_32 : decode cX3_heard 32 = .ok (.tableswitch 373 0 13 #[72, 92, 128, 154, 174, 190, 223, 248, 265, 278, 324, 341, 358, 368], 72) := by decide +kernel
theorem dX3_heard_104 : decode cX3_heard 104 = .ok (.aload_n 0, 1) := by decide +kernel
theorem dX3_heard_105 : decode cX3_heard 105 = .ok (.getfield 34, 3) := by decide +kernel
theorem dX3_heard_108 : decode cX3_heard 108 = .ok (.iconst 0, 1) := by decide +kernel
theorem dX3_heard_109 : decode cX3_heard 109 = .ok (.aload_n 0, 1) := by decide +kernel
theorem dX3_heard_110 : decode cX3_heard 110 = .ok (.getfield 45, 3) := by decide +kernel
theorem dX3_heard_113 : decode cX3_heard 113 = .ok (.iadd, 1) := by decide +kernel
theorem dX3_heard_114 : decode cX3_heard 114 = .ok (.iload_n 2, 1) := by decide +kernel
theorem dX3_heard_115 : decode cX3_heard 115 = .ok (.iload_n 3, 1) := by decide +kernel
theorem dX3_heard_116 : decode cX3_heard 116 = .ok (.aload_n 0, 1) := by decide +kernel
theorem dX3_heard_117 : decode cX3_heard 117 = .ok (.getfield 42, 3) := by decide +kernel
theorem dX3_heard_120 : decode cX3_heard 120 = .ok (.invokevirtual 124, 3) := by decide +kernel
theorem dX3_heard_123 : decode cX3_heard 123 = .ok (.ireturn, 1) := by decide +kernel
theorem dX3_heard_124 : decode cX3_heard 124 = .ok (.aload_n 0, 1) := by decide +kernel
theorem dX3_heard_125 : decode cX3_heard 125 = .ok (.getfield 34, 3) := by decide +kernel
theorem dX3_heard_128 : decode cX3_heard 128 = .ok (.bipush 6, 2) := by decide +kernel
theorem dX3_heard_130 : decode cX3_heard 130 = .ok (.iload_n 2, 1) := by decide +kernel
theorem dX3_heard_131 : decode cX3_heard 131 = .ok (.iload_n 3, 1) := by decide +kernel
theorem dX3_heard_132 : decode cX3_heard 132 = .ok (.aload_n 0, 1) := by decide +kernel
theorem dX3_heard_133 : decode cX3_heard 133 = .ok (.getfield 42, 3) := by decide +kernel
theorem dX3_heard_136 : decode cX3_heard 136 = .ok (.invokevirtual 124, 3) := by decide +kernel
theorem dX3_heard_139 : decode cX3_heard 139 = .ok (.aload_n 0, 1) := by decide +kernel
theorem dX3_heard_140 : decode cX3_heard 140 = .ok (.getfield 34, 3) := by decide +kernel
theorem dX3_heard_143 : decode cX3_heard 143 = .ok (.iconst 0, 1) := by decide +kernel
theorem dX3_heard_144 : decode cX3_heard 144 = .ok (.aload_n 0, 1) := by decide +kernel
theorem dX3_heard_145 : decode cX3_heard 145 = .ok (.getfield 45, 3) := by decide +kernel
theorem dX3_heard_148 : decode cX3_heard 148 = .ok (.iadd, 1) := by decide +kernel
theorem dX3_heard_149 : decode cX3_heard 149 = .ok (.iload_n 2, 1) := by decide +kernel
theorem dX3_heard_150 : decode cX3_heard 150 = .ok (.iload_n 3, 1) := by decide +kernel
theorem dX3_heard_151 : decode cX3_heard 151 = .ok (.aload_n 0, 1) := by decide +kernel
theorem dX3_heard_152 : decode cX3_heard 152 = .ok (.getfield 42, 3) := by decide +kernel
theorem dX3_heard_155 : decode cX3_heard 155 = .ok (.invokevirtual 124, 3) := by decide +kernel
theorem dX3_heard_158 : decode cX3_heard 158 = .ok (.isub, 1) := by decide +kernel
theorem dX3_heard_159 : decode cX3_heard 159 = .ok (.ireturn, 1) := by decide +kernel
theorem dX3_heard_160 : decode cX3_heard 160 = .ok (.aload_n 0, 1) := by decide +kernel
theorem dX3_heard_161 : decode cX3_heard 161 = .ok (.getfield 48, 3) := by decide +kernel
theorem dX3_heard_164 : decode cX3_heard 164 = .ok (.ifCond .ne 7, 3) := by decide +kernel
theorem dX3_heard_167 : decode cX3_heard 167 = .ok (.iconst 0, 1) := by decide +kernel
theorem dX3_heard_168 : decode cX3_heard 168 = .ok (.goto 17, 3) := by decide +kernel
theorem dX3_heard_171 : decode cX3_heard 171 = .ok (.aload_n 0, 1) := by decide +kernel
theorem dX3_heard_172 : decode cX3_heard 172 = .ok (.getfield 34, 3) := by decide +kernel
theorem dX3_heard_175 : decode cX3_heard 175 = .ok (.iconst 3, 1) := by decide +kernel
theorem dX3_heard_176 : decode cX3_heard 176 = .ok (.iload_n 2, 1) := by decide +kernel
theorem dX3_heard_177 : decode cX3_heard 177 = .ok (.iload_n 3, 1) := by decide +kernel
theorem dX3_heard_178 : decode cX3_heard 178 = .ok (.aload_n 0, 1) := by decide +kernel
theorem dX3_heard_179 : decode cX3_heard 179 = .ok (.getfield 42, 3) := by decide +kernel
theorem dX3_heard_182 : decode cX3_heard 182 = .ok (.invokevirtual 124, 3) := by decide +kernel
theorem dX3_heard_185 : decode cX3_heard 185 = .ok (.ireturn, 1) := by decide +kernel
theorem dX3_heard_186 : decode cX3_heard 186 = .ok (.aload_n 0, 1) := by decide +kernel
theorem dX3_heard_187 : decode cX3_heard 187 = .ok (.getfield 34, 3) := by decide +kernel
theorem dX3_heard_190 : decode cX3_heard 190 = .ok (.iconst 3, 1) := by decide +kernel
theorem dX3_heard_191 : decode cX3_heard 191 = .ok (.aload_n 0, 1) := by decide +kernel
theorem dX3_heard_192 : decode cX3_heard 192 = .ok (.getfield 48, 3) := by decide +kernel
theorem dX3_heard_195 : decode cX3_heard 195 = .ok (.iadd, 1) := by decide +kernel
theorem dX3_heard_196 : decode cX3_heard 196 = .ok (.iload_n 2, 1) := by decide +kernel
theorem dX3_heard_197 : decode cX3_heard 197 = .ok (.iload_n 3, 1) := by decide +kernel
theorem dX3_heard_198 : decode cX3_heard 198 = .ok (.aload_n 0, 1) := by decide +kernel
theorem dX3_heard_199 : decode cX3_heard 199 = .ok (.getfield 42, 3) := by decide +kernel
theorem dX3_heard_202 : decode cX3_heard 202 = .ok (.invokevirtual 124, 3) := by decide +kernel
theorem dX3_heard_205 : decode cX3_heard 205 = .ok (.ireturn, 1) := by decide +kernel
theorem dX3_heard_206 : decode cX3_heard 206 = .ok (.aload_n 0, 1) := by decide +kernel
theorem dX3_heard_207 : decode cX3_heard 207 = .ok (.getfield 34, 3) := by decide +kernel
theorem dX3_heard_210 : decode cX3_heard 210 = .ok (.iconst 5, 1) := by decide +kernel
theorem dX3_heard_211 : decode cX3_heard 211 = .ok (.iload_n 2, 1) := by decide +kernel
theorem dX3_heard_212 : decode cX3_heard 212 = .ok (.iload 4, 2) := by decide +kernel
theorem dX3_heard_214 : decode cX3_heard 214 = .ok (.aload_n 0, 1) := by decide +kernel
theorem dX3_heard_215 : decode cX3_heard 215 = .ok (.getfield 42, 3) := by decide +kernel
theorem dX3_heard_218 : decode cX3_heard 218 = .ok (.invokevirtual 124, 3) := by decide +kernel
theorem dX3_heard_221 : decode cX3_heard 221 = .ok (.ireturn, 1) := by decide +kernel
theorem dX3_heard_222 : decode cX3_heard 222 = .ok (.aload_n 0, 1) := by decide +kernel
theorem dX3_heard_223 : decode cX3_heard 223 = .ok (.getfield 34, 3) := by decide +kernel
theorem dX3_heard_226 : decode cX3_heard 226 = .ok (.bipush 6, 2) := by decide +kernel
theorem dX3_heard_228 : decode cX3_heard 228 = .ok (.iload_n 2, 1) := by decide +kernel
theorem dX3_heard_229 : decode cX3_heard 229 = .ok (.iload 4, 2) := by decide +kernel
theorem dX3_heard_231 : decode cX3_heard 231 = .ok (.aload_n 0, 1) := by decide +kernel
theorem dX3_heard_232 : decode cX3_heard 232 = .ok (.getfield 42, 3) := by decide +kernel
theorem dX3_heard_235 : decode cX3_heard 235 = .ok (.invokevirtual 124, 3) := by decide +kernel
theorem dX3_heard_238 : decode cX3_heard 238 = .ok (.aload_n 0, 1) := by decide +kernel
theorem dX3_heard_239 : decode cX3_heard 239 = .ok (.getfield 34, 3) := by decide +kernel
theorem dX3_heard_242 : decode cX3_heard 242 = .ok (.iconst 5, 1) := by decide +kernel
theorem dX3_heard_243 : decode cX3_heard 243 = .ok (.iload_n 2, 1) := by decide +kernel
theorem dX3_heard_244 : decode cX3_heard 244 = .ok (.iload 4, 2) := by decide +kernel
theorem dX3_heard_246 : decode cX3_heard 246 = .ok (.aload_n 0, 1) := by decide +kernel
theorem dX3_heard_247 : decode cX3_heard 247 = .ok (.getfield 42, 3) := by decide +kernel
theorem dX3_heard_250 : decode cX3_heard 250 = .ok (.invokevirtual 124, 3) := by decide +kernel
theorem dX3_heard_253 : decode cX3_heard 253 = .ok (.isub, 1) := by decide +kernel
theorem dX3_heard_254 : decode cX3_heard 254 = .ok (.ireturn, 1) := by decide +kernel
theorem dX3_heard_255 : decode cX3_heard 255 = .ok (.aload_n 0, 1) := by decide +kernel
theorem dX3_heard_256 : decode cX3_heard 256 = .ok (.getfield 34, 3) := by decide +kernel
theorem dX3_heard_259 : decode cX3_heard 259 = .ok (.bipush 6, 2) := by decide +kernel
theorem dX3_heard_261 : decode cX3_heard 261 = .ok (.iload_n 2, 1) := by decide +kernel
theorem dX3_heard_262 : decode cX3_heard 262 = .ok (.iload 4, 2) := by decide +kernel
theorem dX3_heard_264 : decode cX3_heard 264 = .ok (.aload_n 0, 1) := by decide +kernel
theorem dX3_heard_265 : decode cX3_heard 265 = .ok (.getfield 42, 3) := by decide +kernel
theorem dX3_heard_268 : decode cX3_heard 268 = .ok (.aload_n 0, 1) := by decide +kernel
theorem dX3_heard_269 : decode cX3_heard 269 = .ok (.getfield 38, 3) := by decide +kernel
theorem dX3_heard_272 : decode cX3_heard 272 = .ok (.getfield 128, 3) := by decide +kernel
theorem dX3_heard_275 : decode cX3_heard 275 = .ok (.isub, 1) := by decide +kernel
theorem dX3_heard_276 : decode cX3_heard 276 = .ok (.invokevirtual 124, 3) := by decide +kernel
theorem dX3_heard_279 : decode cX3_heard 279 = .ok (.ireturn, 1) := by decide +kernel
theorem dX3_heard_280 : decode cX3_heard 280 = .ok (.aload_n 0, 1) := by decide +kernel
theorem dX3_heard_281 : decode cX3_heard 281 = .ok (.getfield 34, 3) := by decide +kernel
theorem dX3_heard_284 : decode cX3_heard 284 = .ok (.bipush 6, 2) := by decide +kernel
theorem dX3_heard_286 : decode cX3_heard 286 = .ok (.iload_n 2, 1) := by decide +kernel
theorem dX3_heard_287 : decode cX3_heard 287 = .ok (.iload 4, 2) := by decide +kernel
theorem dX3_heard_289 : decode cX3_heard 289 = .ok (.aload_n 0, 1) := by decide +kernel
theorem dX3_heard_290 : decode cX3_heard 290 = .ok (.getfield 42, 3) := by decide +kernel
theorem dX3_heard_293 : decode cX3_heard 293 = .ok (.invokevirtual 124, 3) := by decide +kernel
theorem dX3_heard_296 : decode cX3_heard 296 = .ok (.ireturn, 1) := by decide +kernel
theorem dX3_heard_297 : decode cX3_heard 297 = .ok (.aload_n 0, 1) := by decide +kernel
theorem dX3_heard_298 : decode cX3_heard 298 = .ok (.getfield 34, 3) := by decide +kernel
theorem dX3_heard_301 : decode cX3_heard 301 = .ok (.iload_n 2, 1) := by decide +kernel
theorem dX3_heard_302 : decode cX3_heard 302 = .ok (.aload_n 0, 1) := by decide +kernel
theorem dX3_heard_303 : decode cX3_heard 303 = .ok (.getfield 42, 3) := by decide +kernel
theorem dX3_heard_306 : decode cX3_heard 306 = .ok (.invokevirtual 131, 3) := by decide +kernel
theorem dX3_heard_309 : decode cX3_heard 309 = .ok (.ireturn, 1) := by decide +kernel
theorem dX3_heard_310 : decode cX3_heard 310 = .ok (.aload_n 0, 1) := by decide +kernel
theorem dX3_heard_311 : decode cX3_heard 311 = .ok (.getfield 34, 3) := by decide +kernel
theorem dX3_heard_314 : decode cX3_heard 314 = .ok (.bipush 6, 2) := by decide +kernel
theorem dX3_heard_316 : decode cX3_heard 316 = .ok (.iload_n 2, 1) := by decide +kernel
theorem dX3_heard_317 : decode cX3_heard 317 = .ok (.aload_n 0, 1) := by decide +kernel
theorem dX3_heard_318 : decode cX3_heard 318 = .ok (.getfield 42, 3) := by decide +kernel
theorem dX3_heard_321 : decode cX3_heard 321 = .ok (.iconst 1, 1) := by decide +kernel
theorem dX3_heard_322 : decode cX3_heard 322 = .ok (.isub, 1) := by decide +kernel
theorem dX3_heard_323 : decode cX3_heard 323 = .ok (.aload_n 0, 1) := by decide +kernel
theorem dX3_heard_324 : decode cX3_heard 324 = .ok (.getfield 42, 3) := by decide +kernel
theorem dX3_heard_327 : decode cX3_heard 327 = .ok (.iconst 1, 1) := by decide +kernel
theorem dX3_heard_328 : decode cX3_heard 328 = .ok (.isub, 1) := by decide +kernel
theorem dX3_heard_329 : decode cX3_heard 329 = .ok (.invokevirtual 124, 3) := by decide +kernel
theorem dX3_heard_332 : decode cX3_heard 332 = .ok (.aload_n 0, 1) := by decide +kernel
theorem dX3_heard_333 : decode cX3_heard 333 = .ok (.getfield 34, 3) := by decide +kernel
theorem dX3_heard_336 : decode cX3_heard 336 = .ok (.bipush 6, 2) := by decide +kernel
theorem dX3_heard_338 : decode cX3_heard 338 = .ok (.iload_n 2, 1) := by decide +kernel
theorem dX3_heard_339 : decode cX3_heard 339 = .ok (.aload_n 0, 1) := by decide +kernel
theorem dX3_heard_340 : decode cX3_heard 340 = .ok (.getfield 42, 3) := by decide +kernel
theorem dX3_heard_343 : decode cX3_heard 343 = .ok (.iconst 2, 1) := by decide +kernel
theorem dX3_heard_344 : decode cX3_heard 344 = .ok (.isub, 1) := by decide +kernel
theorem dX3_heard_345 : decode cX3_heard 345 = .ok (.aload_n 0, 1) := by decide +kernel
theorem dX3_heard_346 : decode cX3_heard 346 = .ok (.getfield 42, 3) := by decide +kernel
theorem dX3_heard_349 : decode cX3_heard 349 = .ok (.iconst 2, 1) := by decide +kernel
theorem dX3_heard_350 : decode cX3_heard 350 = .ok (.isub, 1) := by decide +kernel
theorem dX3_heard_351 : decode cX3_heard 351 = .ok (.invokevirtual 124, 3) := by decide +kernel
theorem dX3_heard_354 : decode cX3_heard 354 = .ok (.isub, 1) := by decide +kernel
theorem dX3_heard_355 : decode cX3_heard 355 = .ok (.ireturn, 1) := by decide +kernel
theorem dX3_heard_356 : decode cX3_heard 356 = .ok (.aload_n 0, 1) := by decide +kernel
theorem dX3_heard_357 : decode cX3_heard 357 = .ok (.getfield 134, 3) := by decide +kernel
theorem dX3_heard_360 : decode cX3_heard 360 = .ok (.ifCond .eq 7, 3) := by decide +kernel
theorem dX3_heard_363 : decode cX3_heard 363 = .ok (.iconst 0, 1) := by decide +kernel
theorem dX3_heard_364 : decode cX3_heard 364 = .ok (.goto 8, 3) := by decide +kernel
theorem dX3_heard_367 : decode cX3_heard 367 = .ok (.aload_n 0, 1) := by decide +kernel
theorem dX3_heard_368 : decode cX3_heard 368 = .ok (.iload_n 2, 1) := by decide +kernel
theorem dX3_heard_369 : decode cX3_heard 369 = .ok (.invokevirtual 138, 3) := by decide +kernel
theorem dX3_heard_372 : decode cX3_heard 372 = .ok (.ireturn, 1) := by decide +kernel
theorem dX3_heard_373 : decode cX3_heard 373 = .ok (.aload_n 0, 1) := by decide +kernel
theorem dX3_heard_374 : decode cX3_heard 374 = .ok (.getfield 30, 3) := by decide +kernel
theorem dX3_heard_377 : decode cX3_heard 377 = .ok (.iload_n 2, 1) := by decide +kernel
theorem dX3_heard_378 : decode cX3_heard 378 = .ok (.aload_n 0, 1) := by decide +kernel
theorem dX3_heard_379 : decode cX3_heard 379 = .ok (.getfield 42, 3) := by decide +kernel
theorem dX3_heard_382 : decode cX3_heard 382 = .ok (.aload_n 0, 1) := by decide +kernel
theorem dX3_heard_383 : decode cX3_heard 383 = .ok (.getfield 22, 3) := by decide +kernel
theorem dX3_heard_386 : decode cX3_heard 386 = .ok (.invokevirtual 141, 3) := by decide +kernel
theorem dX3_heard_389 : decode cX3_heard 389 = .ok (.ireturn, 1) := by decide +kernel
theorem dX3_heard_390 : decode cX3_heard 390 = .ok (.aload_n 0, 1) := by decide +kernel
theorem dX3_heard_391 : decode cX3_heard 391 = .ok (.getfield 26, 3) := by decide +kernel
theorem dX3_heard_394 : decode cX3_heard 394 = .ok (.getfield 144, 3) := by decide +kernel
theorem dX3_heard_397 : decode cX3_heard 397 = .ok (.iload_n 2, 1) := by decide +kernel
theorem dX3_heard_398 : decode cX3_heard 398 = .ok (.iaload, 1) := by decide +kernel
theorem dX3_heard_399 : decode cX3_heard 399 = .ok (.ireturn, 1) := by decide +kernel
theorem dX3_heard_400 : decode cX3_heard 400 = .ok (.aload_n 0, 1) := by decide +kernel
theorem dX3_heard_401 : decode cX3_heard 401 = .ok (.getfield 42, 3) := by decide +kernel
theorem dX3_heard_404 : decode cX3_heard 404 = .ok (.ireturn, 1) := by decide +kernel
theorem dX3_heard_405 : decode cX3_heard 405 = .ok (.iconst 0, 1) := by decide +kernel
theorem dX3_heard_406 : decode cX3_heard 406 = .ok (.ireturn, 1) := by decide +kernel
theorem dX3_heardOfEnding_0 : decode cX3_heardOfEnding 0 = .ok (.iconst 0, 1) := by decide +kernel
theorem dX3_heardOfEnding_1 : decode cX3_heardOfEnding 1 = .ok (.istore_n 2, 1) := by decide +kernel
theorem dX3_heardOfEnding_2 : decode cX3_heardOfEnding 2 = .ok (.iconst 0, 1) := by decide +kernel
theorem dX3_heardOfEnding_3 : decode cX3_heardOfEnding 3 = .ok (.istore_n 3, 1) := by decide +kernel
theorem dX3_heardOfEnding_4 : decode cX3_heardOfEnding 4 = .ok (.iload_n 3, 1) := by decide +kernel
theorem dX3_heardOfEnding_5 : decode cX3_heardOfEnding 5 = .ok (.aload_n 0, 1) := by decide +kernel
theorem dX3_heardOfEnding_6 : decode cX3_heardOfEnding 6 = .ok (.getfield 26, 3) := by decide +kernel
theorem dX3_heardOfEnding_9 : decode cX3_heardOfEnding 9 = .ok (.getfield 71, 3) := by decide +kernel
theorem dX3_heardOfEnding_12 : decode cX3_heardOfEnding 12 = .ok (.if_icmp .ge 51, 3) := by decide +kernel
theorem dX3_heardOfEnding_15 : decode cX3_heardOfEnding 15 = .ok (.iload_n 3, 1) := by decide +kernel
theorem dX3_heardOfEnding_16 : decode cX3_heardOfEnding 16 = .ok (.iload_n 1, 1) := by decide +kernel
theorem dX3_heardOfEnding_17 : decode cX3_heardOfEnding 17 = .ok (.if_icmp .eq 40, 3) := by decide +kernel
theorem dX3_heardOfEnding_20 : decode cX3_heardOfEnding 20 = .ok (.aload_n 0, 1) := by decide +kernel
theorem dX3_heardOfEnding_21 : decode cX3_heardOfEnding 21 = .ok (.getfield 26, 3) := by decide +kernel
theorem dX3_heardOfEnding_24 : decode cX3_heardOfEnding 24 = .ok (.iload_n 3, 1) := by decide +kernel
theorem dX3_heardOfEnding_25 : decode cX3_heardOfEnding 25 = .ok (.iload_n 1, 1) := by decide +kernel
theorem dX3_heardOfEnding_26 : decode cX3_heardOfEnding 26 = .ok (.invokevirtual 147, 3) := by decide +kernel
theorem dX3_heardOfEnding_29 : decode cX3_heardOfEnding 29 = .ok (.ifCond .eq 28, 3) := by decide +kernel
theorem dX3_heardOfEnding_32 : decode cX3_heardOfEnding 32 = .ok (.iload_n 2, 1) := by decide +kernel
theorem dX3_heardOfEnding_33 : decode cX3_heardOfEnding 33 = .ok (.aload_n 0, 1) := by decide +kernel
theorem dX3_heardOfEnding_34 : decode cX3_heardOfEnding 34 = .ok (.getfield 34, 3) := by decide +kernel
theorem dX3_heardOfEnding_37 : decode cX3_heardOfEnding 37 = .ok (.bipush 6, 2) := by decide +kernel
theorem dX3_heardOfEnding_39 : decode cX3_heardOfEnding 39 = .ok (.iload_n 3, 1) := by decide +kernel
theorem dX3_heardOfEnding_40 : decode cX3_heardOfEnding 40 = .ok (.aload_n 0, 1) := by decide +kernel
theorem dX3_heardOfEnding_41 : decode cX3_heardOfEnding 41 = .ok (.getfield 42, 3) := by decide +kernel
theorem dX3_heardOfEnding_44 : decode cX3_heardOfEnding 44 = .ok (.iconst 1, 1) := by decide +kernel
theorem dX3_heardOfEnding_45 : decode cX3_heardOfEnding 45 = .ok (.isub, 1) := by decide +kernel
theorem dX3_heardOfEnding_46 : decode cX3_heardOfEnding 46 = .ok (.aload_n 0, 1) := by decide +kernel
theorem dX3_heardOfEnding_47 : decode cX3_heardOfEnding 47 = .ok (.getfield 42, 3) := by decide +kernel
theorem dX3_heardOfEnding_50 : decode cX3_heardOfEnding 50 = .ok (.iconst 1, 1) := by decide +kernel
theorem dX3_heardOfEnding_51 : decode cX3_heardOfEnding 51 = .ok (.isub, 1) := by decide +kernel
theorem dX3_heardOfEnding_52 : decode cX3_heardOfEnding 52 = .ok (.invokevirtual 124, 3) := by decide +kernel
theorem dX3_heardOfEnding_55 : decode cX3_heardOfEnding 55 = .ok (.iadd, 1) := by decide +kernel
theorem dX3_heardOfEnding_56 : decode cX3_heardOfEnding 56 = .ok (.istore_n 2, 1) := by decide +kernel
theorem dX3_heardOfEnding_57 : decode cX3_heardOfEnding 57 = .ok (.iinc 3 1, 3) := by decide +kernel
theorem dX3_heardOfEnding_60 : decode cX3_heardOfEnding 60 = .ok (.goto (-56), 3) := by decide +kernel
theorem dX3_heardOfEnding_63 : decode cX3_heardOfEnding 63 = .ok (.iload_n 2, 1) := by decide +kernel
theorem dX3_heardOfEnding_64 : decode cX3_heardOfEnding 64 = .ok (.ireturn, 1) := by decide +kernel
theorem dX4_init_0 : decode cX4_init 0 = .ok (.aload_n 0, 1) := by decide +kernel
theorem dX4_init_1 : decode cX4_init 1 = .ok (.invokespecial 3, 3) := by decide +kernel
theorem dX4_init_4 : decode cX4_init 4 = .ok (.aload_n 0, 1) := by decide +kernel
theorem dX4_init_5 : decode cX4_init 5 = .ok (.bipush 60, 2) := by decide +kernel
theorem dX4_init_7 : decode cX4_init 7 = .ok (.putfield 9, 3) := by decide +kernel
theorem dX4_init_10 : decode cX4_init 10 = .ok (.aload_n 0, 1) := by decide +kernel
theorem dX4_init_11 : decode cX4_init 11 = .ok (.sipush 7680, 3) := by decide +kernel
theorem dX4_init_14 : decode cX4_init 14 = .ok (.newarray .int, 2) := by decide +kernel
theorem dX4_init_16 : decode cX4_init 16 = .ok (.putfield 15, 3) := by decide +kernel
theorem dX4_init_19 : decode cX4_init 19 = .ok (.aload_n 0, 1) := by decide +kernel
theorem dX4_init_20 : decode cX4_init 20 = .ok (.bipush 12, 2) := by decide +kernel
theorem dX4_init_22 : decode cX4_init 22 = .ok (.newarray .int, 2) := by decide +kernel
theorem dX4_init_24 : decode cX4_init 24 = .ok (.putfield 19, 3) := by decide +kernel
theorem dX4_init_27 : decode cX4_init 27 = .ok (.aload_n 0, 1) := by decide +kernel
theorem dX4_init_28 : decode cX4_init 28 = .ok (.sipush 732, 3) := by decide +kernel
theorem dX4_init_31 : decode cX4_init 31 = .ok (.newarray .int, 2) := by decide +kernel
theorem dX4_init_33 : decode cX4_init 33 = .ok (.putfield 22, 3) := by decide +kernel
theorem dX4_init_36 : decode cX4_init 36 = .ok (.aload_n 0, 1) := by decide +kernel
theorem dX4_init_37 : decode cX4_init 37 = .ok (.iconst 2, 1) := by decide +kernel
theorem dX4_init_38 : decode cX4_init 38 = .ok (.newarray .int, 2) := by decide +kernel
theorem dX4_init_40 : decode cX4_init 40 = .ok (.dup, 1) := by decide +kernel
theorem dX4_init_41 : decode cX4_init 41 = .ok (.iconst 0, 1) := by decide +kernel
theorem dX4_init_42 : decode cX4_init 42 = .ok (.iconst (-1), 1) := by decide +kernel
theorem dX4_init_43 : decode cX4_init 43 = .ok (.iastore, 1) := by decide +kernel
theorem dX4_init_44 : decode cX4_init 44 = .ok (.dup, 1) := by decide +kernel
theorem dX4_init_45 : decode cX4_init 45 = .ok (.iconst 1, 1) := by decide +kernel
theorem dX4_init_46 : decode cX4_init 46 = .ok (.iconst (-1), 1) := by decide +kernel
theorem dX4_init_47 : decode cX4_init 47 = .ok (.iastore, 1) := by decide +kernel
theorem dX4_init_48 : decode cX4_init 48 = .ok (.putfield 25, 3) := by decide +kernel
theorem dX4_init_51 : decode cX4_init 51 = .ok (.aload_n 0, 1) := by decide +kernel
theorem dX4_init_52 : decode cX4_init 52 = .ok (.bipush 122, 2) := by decide +kernel
theorem dX4_init_54 : decode cX4_init 54 = .ok (.newarray .int, 2) := by decide +kernel
theorem dX4_init_56 : decode cX4_init 56 = .ok (.putfield 28, 3) := by decide +kernel
theorem dX4_init_59 : decode cX4_init 59 = .ok (.aload_n 0, 1) := by decide +kernel
theorem dX4_init_60 : decode cX4_init 60 = .ok (.bipush 61, 2) := by decide +kernel
theorem dX4_init_62 : decode cX4_init 62 = .ok (.newarray .int, 2) := by decide +kernel
theorem dX4_init_64 : decode cX4_init 64 = .ok (.putfield 31, 3) := by decide +kernel
theorem dX4_init_67 : decode cX4_init 67 = .ok (.aload_n 0, 1) := by decide +kernel
theorem dX4_init_68 : decode cX4_init 68 = .ok (.bipush 8, 2) := by decide +kernel
theorem dX4_init_70 : decode cX4_init 70 = .ok (.newarray .int, 2) := by decide +kernel
theorem dX4_init_72 : decode cX4_init 72 = .ok (.putfield 34, 3) := by decide +kernel
theorem dX4_init_75 : decode cX4_init 75 = .ok (.aload_n 0, 1) := by decide +kernel
theorem dX4_init_76 : decode cX4_init 76 = .ok (.bipush 8, 2) := by decide +kernel
theorem dX4_init_78 : decode cX4_init 78 = .ok (.newarray .int, 2) := by decide +kernel
theorem dX4_init_80 : decode cX4_init 80 = .ok (.putfield 37, 3) := by decide +kernel
theorem dX4_init_83 : decode cX4_init 83 = .ok (.aload_n 0, 1) := by decide +kernel
theorem dX4_init_84 : decode cX4_init 84 = .ok (.bipush 8, 2) := by decide +kernel
theorem dX4_init_86 : decode cX4_init 86 = .ok (.newarray .int, 2) := by decide +kernel
theorem dX4_init_88 : decode cX4_init 88 = .ok (.putfield 40, 3) := by decide +kernel
theorem dX4_init_91 : decode cX4_init 91 = .ok (.aload_n 0, 1) := by decide +kernel
theorem dX4_init_92 : decode cX4_init 92 = .ok (.bipush 8, 2) := by decide +kernel
theorem dX4_init_94 : decode cX4_init 94 = .ok (.newarray .int, 2) := by decide +kernel
theorem dX4_init_96 : decode cX4_init 96 = .ok (.putfield 43, 3) := by decide +kernel
theorem dX4_init_99 : decode cX4_init 99 = .ok (.aload_n 0, 1) := by decide +kernel
theorem dX4_init_100 : decode cX4_init 100 = .ok (.bipush 8, 2) := by decide +kernel
theorem dX4_init_102 : decode cX4_init 102 = .ok (.newarray .int, 2) := by decide +kernel
theorem dX4_init_104 : decode cX4_init 104 = .ok (.putfield 46, 3) := by decide +kernel
theorem dX4_init_107 : decode cX4_init 107 = .ok (.return_, 1) := by decide +kernel
theorem dX4_row_0 : decode cX4_row 0 = .ok (.iload_n 0, 1) := by decide +kernel
theorem dX4_row_1 : decode cX4_row 1 = .ok (.iconst 2, 1) := by decide +kernel
theorem dX4_row_2 : decode cX4_row 2 = .ok (.imul, 1) := by decide +kernel
theorem dX4_row_3 : decode cX4_row 3 = .ok (.iload_n 1, 1) := by decide +kernel
theorem dX4_row_4 : decode cX4_row 4 = .ok (.iadd, 1) := by decide +kernel
theorem dX4_row_5 : decode cX4_row 5 = .ok (.iconst 2, 1) := by decide +kernel
theorem dX4_row_6 : decode cX4_row 6 = .ok (.imul, 1) := by decide +kernel
theorem dX4_row_7 : decode cX4_row 7 = .ok (.iload_n 2, 1) := by decide +kernel
theorem dX4_row_8 : decode cX4_row 8 = .ok (.iadd, 1) := by decide +kernel
theorem dX4_row_9 : decode cX4_row 9 = .ok (.ireturn, 1) := by decide +kernel
theorem dX4_placeOf_0 : decode cX4_placeOf 0 = .ok (.iload_n 0, 1) := by decide +kernel
theorem dX4_placeOf_1 : decode cX4_placeOf 1 = .ok (.iconst 4, 1) := by decide +kernel
theorem dX4_placeOf_2 : decode cX4_placeOf 2 = .ok (.idiv, 1) := by decide +kernel
theorem dX4_placeOf_3 : decode cX4_placeOf 3 = .ok (.ireturn, 1) := by decide +kernel
theorem dX4_standingOf_0 : decode cX4_standingOf 0 = .ok (.iload_n 0, 1) := by decide +kernel
theorem dX4_standingOf_1 : decode cX4_standingOf 1 = .ok (.iconst 2, 1) := by decide +kernel
theorem dX4_standingOf_2 : decode cX4_standingOf 2 = .ok (.idiv, 1) := by decide +kernel
theorem dX4_standingOf_3 : decode cX4_standingOf 3 = .ok (.iconst 2, 1) := by decide +kernel
theorem dX4_standingOf_4 : decode cX4_standingOf 4 = .ok (.irem, 1) := by decide +kernel
theorem dX4_standingOf_5 : decode cX4_standingOf 5 = .ok (.ireturn, 1) := by decide +kernel
theorem dX4_sexOf_0 : decode cX4_sexOf 0 = .ok (.iload_n 0, 1) := by decide +kernel
theorem dX4_sexOf_1 : decode cX4_sexOf 1 = .ok (.iconst 2, 1) := by decide +kernel
theorem dX4_sexOf_2 : decode cX4_sexOf 2 = .ok (.irem, 1) := by decide +kernel
theorem dX4_sexOf_3 : decode cX4_sexOf 3 = .ok (.ireturn, 1) := by decide +kernel
theorem dX4_toldCell_0 : decode cX4_toldCell 0 = .ok (.iload_n 0, 1) := by decide +kernel
theorem dX4_toldCell_1 : decode cX4_toldCell 1 = .ok (.bipush (-40), 2) := by decide +kernel
theorem dX4_toldCell_3 : decode cX4_toldCell 3 = .ok (.isub, 1) := by decide +kernel
theorem dX4_toldCell_4 : decode cX4_toldCell 4 = .ok (.bipush 12, 2) := by decide +kernel
theorem dX4_toldCell_6 : decode cX4_toldCell 6 = .ok (.imul, 1) := by decide +kernel
theorem dX4_toldCell_7 : decode cX4_toldCell 7 = .ok (.iload_n 1, 1) := by decide +kernel
theorem dX4_toldCell_8 : decode cX4_toldCell 8 = .ok (.iadd, 1) := by decide +kernel
theorem dX4_toldCell_9 : decode cX4_toldCell 9 = .ok (.bipush 16, 2) := by decide +kernel
theorem dX4_toldCell_11 : decode cX4_toldCell 11 = .ok (.imul, 1) := by decide +kernel
theorem dX4_toldCell_12 : decode cX4_toldCell 12 = .ok (.iload_n 2, 1) := by decide +kernel
theorem dX4_toldCell_13 : decode cX4_toldCell 13 = .ok (.iadd, 1) := by decide +kernel
theorem dX4_toldCell_14 : decode cX4_toldCell 14 = .ok (.ireturn, 1) := by decide +kernel
theorem dX4_wentBy_0 : decode cX4_wentBy 0 = .ok (.iload_n 1, 1) := by decide +kernel
theorem dX4_wentBy_1 : decode cX4_wentBy 1 = .ok (.ifCond .lt 15, 3) := by decide +kernel
theorem dX4_wentBy_4 : decode cX4_wentBy 4 = .ok (.iload_n 1, 1) := by decide +kernel
theorem dX4_wentBy_5 : decode cX4_wentBy 5 = .ok (.aload_n 0, 1) := by decide +kernel
theorem dX4_wentBy_6 : decode cX4_wentBy 6 = .ok (.getfield 49, 3) := by decide +kernel
theorem dX4_wentBy_9 : decode cX4_wentBy 9 = .ok (.if_icmp .ge 7, 3) := by decide +kernel
theorem dX4_wentBy_12 : decode cX4_wentBy 12 = .ok (.iconst 1, 1) := by decide +kernel
theorem dX4_wentBy_13 : decode cX4_wentBy 13 = .ok (.goto 4, 3) := by decide +kernel
theorem dX4_wentBy_16 : decode cX4_wentBy 16 = .ok (.iconst 0, 1) := by decide +kernel
theorem dX4_wentBy_17 : decode cX4_wentBy 17 = .ok (.ireturn, 1) := by decide +kernel
theorem dX4_addList_0 : decode cX4_addList 0 = .ok (.aload_n 0, 1) := by decide +kernel
theorem dX4_addList_1 : decode cX4_addList 1 = .ok (.getfield 52, 3) := by decide +kernel
theorem dX4_addList_4 : decode cX4_addList 4 = .ok (.bipush 8, 2) := by decide +kernel
theorem dX4_addList_6 : decode cX4_addList 6 = .ok (.if_icmp .ge 33, 3) := by decide +kernel
theorem dX4_addList_9 : decode cX4_addList 9 = .ok (.aload_n 0, 1) := by decide +kernel
theorem dX4_addList_10 : decode cX4_addList 10 = .ok (.getfield 34, 3) := by decide +kernel
theorem dX4_addList_13 : decode cX4_addList 13 = .ok (.aload_n 0, 1) := by decide +kernel
theorem dX4_addList_14 : decode cX4_addList 14 = .ok (.getfield 52, 3) := by decide +kernel
theorem dX4_addList_17 : decode cX4_addList 17 = .ok (.iload_n 1, 1) := by decide +kernel
theorem dX4_addList_18 : decode cX4_addList 18 = .ok (.iastore, 1) := by decide +kernel
theorem dX4_addList_19 : decode cX4_addList 19 = .ok (.aload_n 0, 1) := by decide +kernel
theorem dX4_addList_20 : decode cX4_addList 20 = .ok (.getfield 37, 3) := by decide +kernel
theorem dX4_addList_23 : decode cX4_addList 23 = .ok (.aload_n 0, 1) := by decide +kernel
theorem dX4_addList_24 : decode cX4_addList 24 = .ok (.getfield 52, 3) := by decide +kernel
theorem dX4_addList_27 : decode cX4_addList 27 = .ok (.iload_n 2, 1) := by decide +kernel
theorem dX4_addList_28 : decode cX4_addList 28 = .ok (.iastore, 1) := by decide +kernel
theorem dX4_addList_29 : decode cX4_addList 29 = .ok (.aload_n 0, 1) := by decide +kernel
theorem dX4_addList_30 : decode cX4_addList 30 = .ok (.dup, 1) := by decide +kernel
theorem dX4_addList_31 : decode cX4_addList 31 = .ok (.getfield 52, 3) := by decide +kernel
theorem dX4_addList_34 : decode cX4_addList 34 = .ok (.iconst 1, 1) := by decide +kernel
theorem dX4_addList_35 : decode cX4_addList 35 = .ok (.iadd, 1) := by decide +kernel
theorem dX4_addList_36 : decode cX4_addList 36 = .ok (.putfield 52, 3) := by decide +kernel
theorem dX4_addList_39 : decode cX4_addList 39 = .ok (.aload_n 0, 1) := by decide +kernel
theorem dX4_addList_40 : decode cX4_addList 40 = .ok (.getfield 52, 3) := by decide +kernel
theorem dX4_addList_43 : decode cX4_addList 43 = .ok (.ireturn, 1) := by decide +kernel
theorem dX4_addFilm_0 : decode cX4_addFilm 0 = .ok (.aload_n 0, 1) := by decide +kernel
theorem dX4_addFilm_1 : decode cX4_addFilm 1 = .ok (.getfield 55, 3) := by decide +kernel
theorem dX4_addFilm_4 : decode cX4_addFilm 4 = .ok (.bipush 8, 2) := by decide +kernel
theorem dX4_addFilm_6 : decode cX4_addFilm 6 = .ok (.if_icmp .lt 5, 3) := by decide +kernel
theorem dX4_addFilm_9 : decode cX4_addFilm 9 = .ok (.iconst (-1), 1) := by decide +kernel
theorem dX4_addFilm_10 : decode cX4_addFilm 10 = .ok (.ireturn, 1) := by decide +kernel
theorem dX4_addFilm_11 : decode cX4_addFilm 11 = .ok (.aload_n 0, 1) := by decide +kernel
theorem dX4_addFilm_12 : decode cX4_addFilm 12 = .ok (.getfield 40, 3) := by decide +kernel
theorem dX4_addFilm_15 : decode cX4_addFilm 15 = .ok (.aload_n 0, 1) := by decide +kernel
theorem dX4_addFilm_16 : decode cX4_addFilm 16 = .ok (.getfield 55, 3) := by decide +kernel
theorem dX4_addFilm_19 : decode cX4_addFilm 19 = .ok (.iload_n 1, 1) := by decide +kernel
theorem dX4_addFilm_20 : decode cX4_addFilm 20 = .ok (.iastore, 1) := by decide +kernel
theorem dX4_addFilm_21 : decode cX4_addFilm 21 = .ok (.aload_n 0, 1) := by decide +kernel
theorem dX4_addFilm_22 : decode cX4_addFilm 22 = .ok (.getfield 43, 3) := by decide +kernel
theorem dX4_addFilm_25 : decode cX4_addFilm 25 = .ok (.aload_n 0, 1) := by decide +kernel
theorem dX4_addFilm_26 : decode cX4_addFilm 26 = .ok (.getfield 55, 3) := by decide +kernel
theorem dX4_addFilm_29 : decode cX4_addFilm 29 = .ok (.iload_n 2, 1) := by decide +kernel
theorem dX4_addFilm_30 : decode cX4_addFilm 30 = .ok (.iastore, 1) := by decide +kernel
theorem dX4_addFilm_31 : decode cX4_addFilm 31 = .ok (.aload_n 0, 1) := by decide +kernel
theorem dX4_addFilm_32 : decode cX4_addFilm 32 = .ok (.getfield 46, 3) := by decide +kernel
theorem dX4_addFilm_35 : decode cX4_addFilm 35 = .ok (.aload_n 0, 1) := by decide +kernel
theorem dX4_addFilm_36 : decode cX4_addFilm 36 = .ok (.getfield 55, 3) := by decide +kernel
theorem dX4_addFilm_39 : decode cX4_addFilm 39 = .ok (.iload_n 3, 1) := by decide +kernel
theorem dX4_addFilm_40 : decode cX4_addFilm 40 = .ok (.iastore, 1) := by decide +kernel
theorem dX4_addFilm_41 : decode cX4_addFilm 41 = .ok (.aload_n 0, 1) := by decide +kernel
theorem dX4_addFilm_42 : decode cX4_addFilm 42 = .ok (.dup, 1) := by decide +kernel
theorem dX4_addFilm_43 : decode cX4_addFilm 43 = .ok (.getfield 55, 3) := by decide +kernel
theorem dX4_addFilm_46 : decode cX4_addFilm 46 = .ok (.iconst 1, 1) := by decide +kernel
theorem dX4_addFilm_47 : decode cX4_addFilm 47 = .ok (.iadd, 1) := by decide +kernel
theorem dX4_addFilm_48 : decode cX4_addFilm 48 = .ok (.putfield 55, 3) := by decide +kernel
theorem dX4_addFilm_51 : decode cX4_addFilm 51 = .ok (.aload_n 0, 1) := by decide +kernel
theorem dX4_addFilm_52 : decode cX4_addFilm 52 = .ok (.getfield 55, 3) := by decide +kernel
theorem dX4_addFilm_55 : decode cX4_addFilm 55 = .ok (.iconst 1, 1) := by decide +kernel
theorem dX4_addFilm_56 : decode cX4_addFilm 56 = .ok (.isub, 1) := by decide +kernel
theorem dX4_addFilm_57 : decode cX4_addFilm 57 = .ok (.ireturn, 1) := by decide +kernel
theorem dX4_listedIn_0 : decode cX4_listedIn 0 = .ok (.aload_n 0, 1) := by decide +kernel
theorem dX4_listedIn_1 : decode cX4_listedIn 1 = .ok (.getfield 52, 3) := by decide +kernel
theorem dX4_listedIn_4 : decode cX4_listedIn 4 = .ok (.iconst 1, 1) := by decide +kernel
theorem dX4_listedIn_5 : decode cX4_listedIn 5 = .ok (.isub, 1) := by decide +kernel
theorem dX4_listedIn_6 : decode cX4_listedIn 6 = .ok (.istore_n 2, 1) := by decide +kernel
theorem dX4_listedIn_7 : decode cX4_listedIn 7 = .ok (.iload_n 2, 1) := by decide +kernel
theorem dX4_listedIn_8 : decode cX4_listedIn 8 = .ok (.ifCond .lt 40, 3) := by decide +kernel
theorem dX4_listedIn_11 : decode cX4_listedIn 11 = .ok (.aload_n 0, 1) := by decide +kernel
theorem dX4_listedIn_12 : decode cX4_listedIn 12 = .ok (.getfield 34, 3) := by decide +kernel
theorem dX4_listedIn_15 : decode cX4_listedIn 15 = .ok (.iload_n 2, 1) := by decide +kernel
theorem dX4_listedIn_16 : decode cX4_listedIn 16 = .ok (.iaload, 1) := by decide +kernel
theorem dX4_listedIn_17 : decode cX4_listedIn 17 = .ok (.iload_n 1, 1) := by decide +kernel
theorem dX4_listedIn_18 : decode cX4_listedIn 18 = .ok (.if_icmp .gt 24, 3) := by decide +kernel
theorem dX4_listedIn_21 : decode cX4_listedIn 21 = .ok (.aload_n 0, 1) := by decide +kernel
theorem dX4_listedIn_22 : decode cX4_listedIn 22 = .ok (.getfield 37, 3) := by decide +kernel
theorem dX4_listedIn_25 : decode cX4_listedIn 25 = .ok (.iload_n 2, 1) := by decide +kernel
theorem dX4_listedIn_26 : decode cX4_listedIn 26 = .ok (.iaload, 1) := by decide +kernel
theorem dX4_listedIn_27 : decode cX4_listedIn 27 = .ok (.ifCond .ne 8, 3) := by decide +kernel
theorem dX4_listedIn_30 : decode cX4_listedIn 30 = .ok (.ldc 58, 2) := by decide +kernel
theorem dX4_listedIn_32 : decode cX4_listedIn 32 = .ok (.goto 9, 3) := by decide +kernel
theorem dX4_listedIn_35 : decode cX4_listedIn 35 = .ok (.aload_n 0, 1) := by decide +kernel
theorem dX4_listedIn_36 : decode cX4_listedIn 36 = .ok (.getfield 37, 3) := by decide +kernel
theorem dX4_listedIn_39 : decode cX4_listedIn 39 = .ok (.iload_n 2, 1) := by decide +kernel
theorem dX4_listedIn_40 : decode cX4_listedIn 40 = .ok (.iaload, 1) := by decide +kernel
theorem dX4_listedIn_41 : decode cX4_listedIn 41 = .ok (.ireturn, 1) := by decide +kernel
theorem dX4_listedIn_42 : decode cX4_listedIn 42 = .ok (.iinc 2 (-1), 3) := by decide +kernel
theorem dX4_listedIn_45 : decode cX4_listedIn 45 = .ok (.goto (-38), 3) := by decide +kernel
theorem dX4_listedIn_48 : decode cX4_listedIn 48 = .ok (.ldc 58, 2) := by decide +kernel
theorem dX4_listedIn_50 : decode cX4_listedIn 50 = .ok (.ireturn, 1) := by decide +kernel
theorem dX4_filmOf_0 : decode cX4_filmOf 0 = .ok (.iconst 0, 1) := by decide +kernel
theorem dX4_filmOf_1 : decode cX4_filmOf 1 = .ok (.istore 4, 2) := by decide +kernel
theorem dX4_filmOf_3 : decode cX4_filmOf 3 = .ok (.iconst 0, 1) := by decide +kernel
theorem dX4_filmOf_4 : decode cX4_filmOf 4 = .ok (.istore 5, 2) := by decide +kernel
theorem dX4_filmOf_6 : decode cX4_filmOf 6 = .ok (.iload 5, 2) := by decide +kernel
theorem dX4_filmOf_8 : decode cX4_filmOf 8 = .ok (.aload_n 0, 1) := by decide +kernel
theorem dX4_filmOf_9 : decode cX4_filmOf 9 = .ok (.getfield 55, 3) := by decide +kernel
theorem dX4_filmOf_12 : decode cX4_filmOf 12 = .ok (.if_icmp .ge 64, 3) := by decide +kernel
theorem dX4_filmOf_15 : decode cX4_filmOf 15 = .ok (.iload_n 2, 1) := by decide +kernel
theorem dX4_filmOf_16 : decode cX4_filmOf 16 = .ok (.aload_n 0, 1) := by decide +kernel
theorem dX4_filmOf_17 : decode cX4_filmOf 17 = .ok (.getfield 43, 3) := by decide +kernel
theorem dX4_filmOf_20 : decode cX4_filmOf 20 = .ok (.iload 5, 2) := by decide +kernel
theorem dX4_filmOf_22 : decode cX4_filmOf 22 = .ok (.iaload, 1) := by decide +kernel
theorem dX4_filmOf_23 : decode cX4_filmOf 23 = .ok (.isub, 1) := by decide +kernel
theorem dX4_filmOf_24 : decode cX4_filmOf 24 = .ok (.istore 6, 2) := by decide +kernel
theorem dX4_filmOf_26 : decode cX4_filmOf 26 = .ok (.iload 5, 2) := by decide +kernel
theorem dX4_filmOf_28 : decode cX4_filmOf 28 = .ok (.iload_n 3, 1) := by decide +kernel
theorem dX4_filmOf_29 : decode cX4_filmOf 29 = .ok (.if_icmp .eq 41, 3) := by decide +kernel
theorem dX4_filmOf_32 : decode cX4_filmOf 32 = .ok (.aload_n 0, 1) := by decide +kernel
theorem dX4_filmOf_33 : decode cX4_filmOf 33 = .ok (.getfield 40, 3) := by decide +kernel
theorem dX4_filmOf_36 : decode cX4_filmOf 36 = .ok (.iload 5, 2) := by decide +kernel
theorem dX4_filmOf_38 : decode cX4_filmOf 38 = .ok (.iaload, 1) := by decide +kernel
theorem dX4_filmOf_39 : decode cX4_filmOf 39 = .ok (.iload_n 1, 1) := by decide +kernel
theorem dX4_filmOf_40 : decode cX4_filmOf 40 = .ok (.if_icmp .ne 30, 3) := by decide +kernel
theorem dX4_filmOf_43 : decode cX4_filmOf 43 = .ok (.iload 6, 2) := by decide +kernel
theorem dX4_filmOf_45 : decode cX4_filmOf 45 = .ok (.ifCond .lt 25, 3) := by decide +kernel
theorem dX4_filmOf_48 : decode cX4_filmOf 48 = .ok (.iload 6, 2) := by decide +kernel
theorem dX4_filmOf_50 : decode cX4_filmOf 50 = .ok (.bipush 10, 2) := by decide +kernel
theorem dX4_filmOf_52 : decode cX4_filmOf 52 = .ok (.if_icmp .ge 18, 3) := by decide +kernel
theorem dX4_filmOf_55 : decode cX4_filmOf 55 = .ok (.iload 4, 2) := by decide +kernel
theorem dX4_filmOf_57 : decode cX4_filmOf 57 = .ok (.aload_n 0, 1) := by decide +kernel
theorem dX4_filmOf_58 : decode cX4_filmOf 58 = .ok (.getfield 46, 3) := by decide +kernel
theorem dX4_filmOf_61 : decode cX4_filmOf 61 = .ok (.iload 5, 2) := by decide +kernel
theorem dX4_filmOf_63 : decode cX4_filmOf 63 = .ok (.iaload, 1) := by decide +kernel
theorem dX4_filmOf_64 : decode cX4_filmOf 64 = .ok (.iload 6, 2) := by decide +kernel
theorem dX4_filmOf_66 : decode cX4_filmOf 66 = .ok (.ishr, 1) := by decide +kernel
theorem dX4_filmOf_67 : decode cX4_filmOf 67 = .ok (.iadd, 1) := by decide +kernel
theorem dX4_filmOf_68 : decode cX4_filmOf 68 = .ok (.istore 4, 2) := by decide +kernel
theorem dX4_filmOf_70 : decode cX4_filmOf 70 = .ok (.iinc 5 1, 3) := by decide +kernel
theorem dX4_filmOf_73 : decode cX4_filmOf 73 = .ok (.goto (-67), 3) := by decide +kernel
theorem dX4_filmOf_76 : decode cX4_filmOf 76 = .ok (.iload 4, 2) := by decide +kernel
theorem dX4_filmOf_78 : decode cX4_filmOf 78 = .ok (.ireturn, 1) := by decide +kernel
theorem dX4_cradlesIn_0 : decode cX4_cradlesIn 0 = .ok (.aload_n 0, 1) := by decide +kernel
theorem dX4_cradlesIn_1 : decode cX4_cradlesIn 1 = .ok (.iload_n 1, 1) := by decide +kernel
theorem dX4_cradlesIn_2 : decode cX4_cradlesIn 2 = .ok (.invokevirtual 59, 3) := by decide +kernel
theorem dX4_cradlesIn_5 : decode cX4_cradlesIn 5 = .ok (.ifCond .eq 17, 3) := by decide +kernel
theorem dX4_cradlesIn_8 : decode cX4_cradlesIn 8 = .ok (.aload_n 0, 1) := by decide +kernel
theorem dX4_cradlesIn_9 : decode cX4_cradlesIn 9 = .ok (.getfield 22, 3) := by decide +kernel
theorem dX4_cradlesIn_12 : decode cX4_cradlesIn 12 = .ok (.iload_n 1, 1) := by decide +kernel
theorem dX4_cradlesIn_13 : decode cX4_cradlesIn 13 = .ok (.bipush 12, 2) := by decide +kernel
theorem dX4_cradlesIn_15 : decode cX4_cradlesIn 15 = .ok (.imul, 1) := by decide +kernel
theorem dX4_cradlesIn_16 : decode cX4_cradlesIn 16 = .ok (.iload_n 2, 1) := by decide +kernel
theorem dX4_cradlesIn_17 : decode cX4_cradlesIn 17 = .ok (.iadd, 1) := by decide +kernel
theorem dX4_cradlesIn_18 : decode cX4_cradlesIn 18 = .ok (.iaload, 1) := by decide +kernel
theorem dX4_cradlesIn_19 : decode cX4_cradlesIn 19 = .ok (.goto 9, 3) := by decide +kernel
theorem dX4_cradlesIn_22 : decode cX4_cradlesIn 22 = .ok (.aload_n 0, 1) := by decide +kernel
theorem dX4_cradlesIn_23 : decode cX4_cradlesIn 23 = .ok (.getfield 19, 3) := by decide +kernel
theorem dX4_cradlesIn_26 : decode cX4_cradlesIn 26 = .ok (.iload_n 2, 1) := by decide +kernel
theorem dX4_cradlesIn_27 : decode cX4_cradlesIn 27 = .ok (.iaload, 1) := by decide +kernel
theorem dX4_cradlesIn_28 : decode cX4_cradlesIn 28 = .ok (.ireturn, 1) := by decide +kernel
theorem dX4_heldIn_0 : decode cX4_heldIn 0 = .ok (.aload_n 0, 1) := by decide +kernel
theorem dX4_heldIn_1 : decode cX4_heldIn 1 = .ok (.iload_n 1, 1) := by decide +kernel
theorem dX4_heldIn_2 : decode cX4_heldIn 2 = .ok (.invokevirtual 59, 3) := by decide +kernel
theorem dX4_heldIn_5 : decode cX4_heldIn 5 = .ok (.ifCond .eq 16, 3) := by decide +kernel
theorem dX4_heldIn_8 : decode cX4_heldIn 8 = .ok (.aload_n 0, 1) := by decide +kernel
theorem dX4_heldIn_9 : decode cX4_heldIn 9 = .ok (.getfield 28, 3) := by decide +kernel
theorem dX4_heldIn_12 : decode cX4_heldIn 12 = .ok (.iload_n 1, 1) := by decide +kernel
theorem dX4_heldIn_13 : decode cX4_heldIn 13 = .ok (.iconst 2, 1) := by decide +kernel
theorem dX4_heldIn_14 : decode cX4_heldIn 14 = .ok (.imul, 1) := by decide +kernel
theorem dX4_heldIn_15 : decode cX4_heldIn 15 = .ok (.iload_n 2, 1) := by decide +kernel
theorem dX4_heldIn_16 : decode cX4_heldIn 16 = .ok (.iadd, 1) := by decide +kernel
theorem dX4_heldIn_17 : decode cX4_heldIn 17 = .ok (.iaload, 1) := by decide +kernel
theorem dX4_heldIn_18 : decode cX4_heldIn 18 = .ok (.goto 9, 3) := by decide +kernel
theorem dX4_heldIn_21 : decode cX4_heldIn 21 = .ok (.aload_n 0, 1) := by decide +kernel
theorem dX4_heldIn_22 : decode cX4_heldIn 22 = .ok (.getfield 25, 3) := by decide +kernel
theorem dX4_heldIn_25 : decode cX4_heldIn 25 = .ok (.iload_n 2, 1) := by decide +kernel
theorem dX4_heldIn_26 : decode cX4_heldIn 26 = .ok (.iaload, 1) := by decide +kernel
theorem dX4_heldIn_27 : decode cX4_heldIn 27 = .ok (.ireturn, 1) := by decide +kernel
theorem dX4_closeYear_0 : decode cX4_closeYear 0 = .ok (.aload_n 0, 1) := by decide +kernel
theorem dX4_closeYear_1 : decode cX4_closeYear 1 = .ok (.getfield 49, 3) := by decide +kernel
theorem dX4_closeYear_4 : decode cX4_closeYear 4 = .ok (.bipush 60, 2) := by decide +kernel
theorem dX4_closeYear_6 : decode cX4_closeYear 6 = .ok (.if_icmp .le 4, 3) := by decide +kernel
theorem dX4_closeYear_9 : decode cX4_closeYear 9 = .ok (.return_, 1) := by decide +kernel
theorem dX4_closeYear_10 : decode cX4_closeYear 10 = .ok (.aload_n 0, 1) := by decide +kernel
theorem dX4_closeYear_11 : decode cX4_closeYear 11 = .ok (.getfield 19, 3) := by decide +kernel
theorem dX4_closeYear_14 : decode cX4_closeYear 14 = .ok (.iconst 0, 1) := by decide +kernel
theorem dX4_closeYear_15 : decode cX4_closeYear 15 = .ok (.aload_n 0, 1) := by decide +kernel
theorem dX4_closeYear_16 : decode cX4_closeYear 16 = .ok (.getfield 22, 3) := by decide +kernel
theorem dX4_closeYear_19 : decode cX4_closeYear 19 = .ok (.aload_n 0, 1) := by decide +kernel
theorem dX4_closeYear_20 : decode cX4_closeYear 20 = .ok (.getfield 49, 3) := by decide +kernel
theorem dX4_closeYear_23 : decode cX4_closeYear 23 = .ok (.bipush 12, 2) := by decide +kernel
theorem dX4_closeYear_25 : decode cX4_closeYear 25 = .ok (.imul, 1) := by decide +kernel
theorem dX4_closeYear_26 : decode cX4_closeYear 26 = .ok (.bipush 12, 2) := by decide +kernel
theorem dX4_closeYear_28 : decode cX4_closeYear 28 = .ok (.invokestatic 63, 3) := by decide +kernel
theorem dX4_closeYear_31 : decode cX4_closeYear 31 = .ok (.aload_n 0, 1) := by decide +kernel
theorem dX4_closeYear_32 : decode cX4_closeYear 32 = .ok (.getfield 25, 3) := by decide +kernel
theorem dX4_closeYear_35 : decode cX4_closeYear 35 = .ok (.iconst 0, 1) := by decide +kernel
theorem dX4_closeYear_36 : decode cX4_closeYear 36 = .ok (.aload_n 0, 1) := by decide +kernel
theorem dX4_closeYear_37 : decode cX4_closeYear 37 = .ok (.getfield 28, 3) := by decide +kernel
theorem dX4_closeYear_40 : decode cX4_closeYear 40 = .ok (.aload_n 0, 1) := by decide +kernel
theorem dX4_closeYear_41 : decode cX4_closeYear 41 = .ok (.getfield 49, 3) := by decide +kernel
theorem dX4_closeYear_44 : decode cX4_closeYear 44 = .ok (.iconst 2, 1) := by decide +kernel
theorem dX4_closeYear_45 : decode cX4_closeYear 45 = .ok (.imul, 1) := by decide +kernel
theorem dX4_closeYear_46 : decode cX4_closeYear 46 = .ok (.iconst 2, 1) := by decide +kernel
theorem dX4_closeYear_47 : decode cX4_closeYear 47 = .ok (.invokestatic 63, 3) := by decide +kernel
theorem dX4_closeYear_50 : decode cX4_closeYear 50 = .ok (.aload_n 0, 1) := by decide +kernel
theorem dX4_closeYear_51 : decode cX4_closeYear 51 = .ok (.getfield 31, 3) := by decide +kernel
theorem dX4_closeYear_54 : decode cX4_closeYear 54 = .ok (.aload_n 0, 1) := by decide +kernel
theorem dX4_closeYear_55 : decode cX4_closeYear 55 = .ok (.getfield 49, 3) := by decide +kernel
theorem dX4_closeYear_58 : decode cX4_closeYear 58 = .ok (.iload_n 1, 1) := by decide +kernel
theorem dX4_closeYear_59 : decode cX4_closeYear 59 = .ok (.iastore, 1) := by decide +kernel
theorem dX4_closeYear_60 : decode cX4_closeYear 60 = .ok (.aload_n 0, 1) := by decide +kernel
theorem dX4_closeYear_61 : decode cX4_closeYear 61 = .ok (.dup, 1) := by decide +kernel
theorem dX4_closeYear_62 : decode cX4_closeYear 62 = .ok (.getfield 49, 3) := by decide +kernel
theorem dX4_closeYear_65 : decode cX4_closeYear 65 = .ok (.iconst 1, 1) := by decide +kernel
theorem dX4_closeYear_66 : decode cX4_closeYear 66 = .ok (.iadd, 1) := by decide +kernel
theorem dX4_closeYear_67 : decode cX4_closeYear 67 = .ok (.putfield 49, 3) := by decide +kernel
theorem dX4_closeYear_70 : decode cX4_closeYear 70 = .ok (.return_, 1) := by decide +kernel
theorem dX5_init_0 : decode cX5_init 0 = .ok (.aload_n 0, 1) := by decide +kernel
theorem dX5_init_1 : decode cX5_init 1 = .ok (.invokespecial 3, 3) := by decide +kernel
theorem dX5_init_4 : decode cX5_init 4 = .ok (.aload_n 0, 1) := by decide +kernel
theorem dX5_init_5 : decode cX5_init 5 = .ok (.bipush 16, 2) := by decide +kernel
theorem dX5_init_7 : decode cX5_init 7 = .ok (.newarray .long, 2) := by decide +kernel
theorem dX5_init_9 : decode cX5_init 9 = .ok (.putfield 9, 3) := by decide +kernel
theorem dX5_init_12 : decode cX5_init 12 = .ok (.aload_n 0, 1) := by decide +kernel
theorem dX5_init_13 : decode cX5_init 13 = .ok (.bipush 16, 2) := by decide +kernel
theorem dX5_init_15 : decode cX5_init 15 = .ok (.newarray .int, 2) := by decide +kernel
theorem dX5_init_17 : decode cX5_init 17 = .ok (.putfield 15, 3) := by decide +kernel
theorem dX5_init_20 : decode cX5_init 20 = .ok (.aload_n 0, 1) := by decide +kernel
theorem dX5_init_21 : decode cX5_init 21 = .ok (.bipush 16, 2) := by decide +kernel
theorem dX5_init_23 : decode cX5_init 23 = .ok (.newarray .int, 2) := by decide +kernel
theorem dX5_init_25 : decode cX5_init 25 = .ok (.putfield 19, 3) := by decide +kernel
theorem dX5_init_28 : decode cX5_init 28 = .ok (.aload_n 0, 1) := by decide +kernel
theorem dX5_init_29 : decode cX5_init 29 = .ok (.bipush 16, 2) := by decide +kernel
theorem dX5_init_31 : decode cX5_init 31 = .ok (.newarray .int, 2) := by decide +kernel
theorem dX5_init_33 : decode cX5_init 33 = .ok (.putfield 22, 3) := by decide +kernel
theorem dX5_init_36 : decode cX5_init 36 = .ok (.aload_n 0, 1) := by decide +kernel
theorem dX5_init_37 : decode cX5_init 37 = .ok (.bipush 16, 2) := by decide +kernel
theorem dX5_init_39 : decode cX5_init 39 = .ok (.newarray .long, 2) := by decide +kernel
theorem dX5_init_41 : decode cX5_init 41 = .ok (.putfield 25, 3) := by decide +kernel
theorem dX5_init_44 : decode cX5_init 44 = .ok (.aload_n 0, 1) := by decide +kernel
theorem dX5_init_45 : decode cX5_init 45 = .ok (.sipush 160, 3) := by decide +kernel
theorem dX5_init_48 : decode cX5_init 48 = .ok (.newarray .int, 2) := by decide +kernel
theorem dX5_init_50 : decode cX5_init 50 = .ok (.putfield 28, 3) := by decide +kernel
theorem dX5_init_53 : decode cX5_init 53 = .ok (.aload_n 0, 1) := by decide +kernel
theorem dX5_init_54 : decode cX5_init 54 = .ok (.bipush 16, 2) := by decide +kernel
theorem dX5_init_56 : decode cX5_init 56 = .ok (.newarray .int, 2) := by decide +kernel
theorem dX5_init_58 : decode cX5_init 58 = .ok (.putfield 31, 3) := by decide +kernel
theorem dX5_init_61 : decode cX5_init 61 = .ok (.return_, 1) := by decide +kernel
theorem dX5_lengthOf_0 : decode cX5_lengthOf 0 = .ok (.lload_n 0, 1) := by decide +kernel
theorem dX5_lengthOf_1 : decode cX5_lengthOf 1 = .ok (.lstore_n 2, 1) := by decide +kernel
theorem dX5_lengthOf_2 : decode cX5_lengthOf 2 = .ok (.iconst 0, 1) := by decide +kernel
theorem dX5_lengthOf_3 : decode cX5_lengthOf 3 = .ok (.istore 4, 2) := by decide +kernel
theorem dX5_lengthOf_5 : decode cX5_lengthOf 5 = .ok (.iconst 0, 1) := by decide +kernel
theorem dX5_lengthOf_6 : decode cX5_lengthOf 6 = .ok (.istore 5, 2) := by decide +kernel
theorem dX5_lengthOf_8 : decode cX5_lengthOf 8 = .ok (.iload 5, 2) := by decide +kernel
theorem dX5_lengthOf_10 : decode cX5_lengthOf 10 = .ok (.bipush 10, 2) := by decide +kernel
theorem dX5_lengthOf_12 : decode cX5_lengthOf 12 = .ok (.if_icmp .ge 47, 3) := by decide +kernel
theorem dX5_lengthOf_15 : decode cX5_lengthOf 15 = .ok (.lload_n 2, 1) := by decide +kernel
theorem dX5_lengthOf_16 : decode cX5_lengthOf 16 = .ok (.lconst 0, 1) := by decide +kernel
theorem dX5_lengthOf_17 : decode cX5_lengthOf 17 = .ok (.lcmp, 1) := by decide +kernel
theorem dX5_lengthOf_18 : decode cX5_lengthOf 18 = .ok (.ifCond .eq 41, 3) := by decide +kernel
theorem dX5_lengthOf_21 : decode cX5_lengthOf 21 = .ok (.lload_n 2, 1) := by decide +kernel
theorem dX5_lengthOf_22 : decode cX5_lengthOf 22 = .ok (.ldc2_w 34, 3) := by decide +kernel
theorem dX5_lengthOf_25 : decode cX5_lengthOf 25 = .ok (.land, 1) := by decide +kernel
theorem dX5_lengthOf_26 : decode cX5_lengthOf 26 = .ok (.lstore 6, 2) := by decide +kernel
theorem dX5_lengthOf_28 : decode cX5_lengthOf 28 = .ok (.lload 6, 2) := by decide +kernel
theorem dX5_lengthOf_30 : decode cX5_lengthOf 30 = .ok (.lconst 1, 1) := by decide +kernel
theorem dX5_lengthOf_31 : decode cX5_lengthOf 31 = .ok (.lcmp, 1) := by decide +kernel
theorem dX5_lengthOf_32 : decode cX5_lengthOf 32 = .ok (.ifCond .lt 12, 3) := by decide +kernel
theorem dX5_lengthOf_35 : decode cX5_lengthOf 35 = .ok (.lload 6, 2) := by decide +kernel
theorem dX5_lengthOf_37 : decode cX5_lengthOf 37 = .ok (.ldc2_w 36, 3) := by decide +kernel
theorem dX5_lengthOf_40 : decode cX5_lengthOf 40 = .ok (.lcmp, 1) := by decide +kernel
theorem dX5_lengthOf_41 : decode cX5_lengthOf 41 = .ok (.ifCond .le 5, 3) := by decide +kernel
theorem dX5_lengthOf_44 : decode cX5_lengthOf 44 = .ok (.iconst 0, 1) := by decide +kernel
theorem dX5_lengthOf_45 : decode cX5_lengthOf 45 = .ok (.ireturn, 1) := by decide +kernel
theorem dX5_lengthOf_46 : decode cX5_lengthOf 46 = .ok (.lload_n 2, 1) := by decide +kernel
theorem dX5_lengthOf_47 : decode cX5_lengthOf 47 = .ok (.iconst 5, 1) := by decide +kernel
theorem dX5_lengthOf_48 : decode cX5_lengthOf 48 = .ok (.lushr, 1) := by decide +kernel
theorem dX5_lengthOf_49 : decode cX5_lengthOf 49 = .ok (.lstore_n 2, 1) := by decide +kernel
theorem dX5_lengthOf_50 : decode cX5_lengthOf 50 = .ok (.iinc 4 1, 3) := by decide +kernel
theorem dX5_lengthOf_53 : decode cX5_lengthOf 53 = .ok (.iinc 5 1, 3) := by decide +kernel
theorem dX5_lengthOf_56 : decode cX5_lengthOf 56 = .ok (.goto (-48), 3) := by decide +kernel
theorem dX5_lengthOf_59 : decode cX5_lengthOf 59 = .ok (.lload_n 2, 1) := by decide +kernel
theorem dX5_lengthOf_60 : decode cX5_lengthOf 60 = .ok (.lconst 0, 1) := by decide +kernel
theorem dX5_lengthOf_61 : decode cX5_lengthOf 61 = .ok (.lcmp, 1) := by decide +kernel
theorem dX5_lengthOf_62 : decode cX5_lengthOf 62 = .ok (.ifCond .ne 14, 3) := by decide +kernel
theorem dX5_lengthOf_65 : decode cX5_lengthOf 65 = .ok (.iload 4, 2) := by decide +kernel
theorem dX5_lengthOf_67 : decode cX5_lengthOf 67 = .ok (.iconst 2, 1) := by decide +kernel
theorem dX5_lengthOf_68 : decode cX5_lengthOf 68 = .ok (.if_icmp .lt 8, 3) := by decide +kernel
theorem dX5_lengthOf_71 : decode cX5_lengthOf 71 = .ok (.iload 4, 2) := by decide +kernel
theorem dX5_lengthOf_73 : decode cX5_lengthOf 73 = .ok (.goto 4, 3) := by decide +kernel
theorem dX5_lengthOf_76 : decode cX5_lengthOf 76 = .ok (.iconst 0, 1) := by decide +kernel
theorem dX5_lengthOf_77 : decode cX5_lengthOf 77 = .ok (.ireturn, 1) := by decide +kernel
theorem dX5_has_0 : decode cX5_has 0 = .ok (.iload_n 1, 1) := by decide +kernel
theorem dX5_has_1 : decode cX5_has 1 = .ok (.ifCond .lt 15, 3) := by decide +kernel
theorem dX5_has_4 : decode cX5_has 4 = .ok (.iload_n 1, 1) := by decide +kernel
theorem dX5_has_5 : decode cX5_has 5 = .ok (.aload_n 0, 1) := by decide +kernel
theorem dX5_has_6 : decode cX5_has 6 = .ok (.getfield 38, 3) := by decide +kernel
theorem dX5_has_9 : decode cX5_has 9 = .ok (.if_icmp .ge 7, 3) := by decide +kernel
theorem dX5_has_12 : decode cX5_has 12 = .ok (.iconst 1, 1) := by decide +kernel
theorem dX5_has_13 : decode cX5_has 13 = .ok (.goto 4, 3) := by decide +kernel
theorem dX5_has_16 : decode cX5_has 16 = .ok (.iconst 0, 1) := by decide +kernel
theorem dX5_has_17 : decode cX5_has 17 = .ok (.ireturn, 1) := by decide +kernel
theorem dX5_knows_0 : decode cX5_knows 0 = .ok (.iconst 0, 1) := by decide +kernel
theorem dX5_knows_1 : decode cX5_knows 1 = .ok (.istore_n 3, 1) := by decide +kernel
theorem dX5_knows_2 : decode cX5_knows 2 = .ok (.iload_n 3, 1) := by decide +kernel
theorem dX5_knows_3 : decode cX5_knows 3 = .ok (.aload_n 0, 1) := by decide +kernel
theorem dX5_knows_4 : decode cX5_knows 4 = .ok (.getfield 38, 3) := by decide +kernel
theorem dX5_knows_7 : decode cX5_knows 7 = .ok (.if_icmp .ge 22, 3) := by decide +kernel
theorem dX5_knows_10 : decode cX5_knows 10 = .ok (.aload_n 0, 1) := by decide +kernel
theorem dX5_knows_11 : decode cX5_knows 11 = .ok (.getfield 9, 3) := by decide +kernel
theorem dX5_knows_14 : decode cX5_knows 14 = .ok (.iload_n 3, 1) := by decide +kernel
theorem dX5_knows_15 : decode cX5_knows 15 = .ok (.laload, 1) := by decide +kernel
theorem dX5_knows_16 : decode cX5_knows 16 = .ok (.lload_n 1, 1) := by decide +kernel
theorem dX5_knows_17 : decode cX5_knows 17 = .ok (.lcmp, 1) := by decide +kernel
theorem dX5_knows_18 : decode cX5_knows 18 = .ok (.ifCond .ne 5, 3) := by decide +kernel
theorem dX5_knows_21 : decode cX5_knows 21 = .ok (.iconst 1, 1) := by decide +kernel
theorem dX5_knows_22 : decode cX5_knows 22 = .ok (.ireturn, 1) := by decide +kernel
theorem dX5_knows_23 : decode cX5_knows 23 = .ok (.iinc 3 1, 3) := by decide +kernel
theorem dX5_knows_26 : decode cX5_knows 26 = .ok (.goto (-24), 3) := by decide +kernel
theorem dX5_knows_29 : decode cX5_knows 29 = .ok (.iconst 0, 1) := by decide +kernel
theorem dX5_knows_30 : decode cX5_knows 30 = .ok (.ireturn, 1) := by decide +kernel
theorem dX5_add_0 : decode cX5_add 0 = .ok (.aload_n 0, 1) := by decide +kernel
theorem dX5_add_1 : decode cX5_add 1 = .ok (.getfield 38, 3) := by decide +kernel
theorem dX5_add_4 : decode cX5_add 4 = .ok (.bipush 16, 2) := by decide +kernel
theorem dX5_add_6 : decode cX5_add 6 = .ok (.if_icmp .lt 5, 3) := by decide +kernel
theorem dX5_add_9 : decode cX5_add 9 = .ok (.iconst (-1), 1) := by decide +kernel
theorem dX5_add_10 : decode cX5_add 10 = .ok (.ireturn, 1) := by decide +kernel
theorem dX5_add_11 : decode cX5_add 11 = .ok (.aload_n 0, 1) := by decide +kernel
theorem dX5_add_12 : decode cX5_add 12 = .ok (.getfield 9, 3) := by decide +kernel
theorem dX5_add_15 : decode cX5_add 15 = .ok (.aload_n 0, 1) := by decide +kernel
theorem dX5_add_16 : decode cX5_add 16 = .ok (.getfield 38, 3) := by decide +kernel
theorem dX5_add_19 : decode cX5_add 19 = .ok (.lload_n 1, 1) := by decide +kernel
theorem dX5_add_20 : decode cX5_add 20 = .ok (.lastore, 1) := by decide +kernel
theorem dX5_add_21 : decode cX5_add 21 = .ok (.aload_n 0, 1) := by decide +kernel
theorem dX5_add_22 : decode cX5_add 22 = .ok (.getfield 15, 3) := by decide +kernel
theorem dX5_add_25 : decode cX5_add 25 = .ok (.aload_n 0, 1) := by decide +kernel
theorem dX5_add_26 : decode cX5_add 26 = .ok (.getfield 38, 3) := by decide +kernel
theorem dX5_add_29 : decode cX5_add 29 = .ok (.iload_n 3, 1) := by decide +kernel
theorem dX5_add_30 : decode cX5_add 30 = .ok (.iastore, 1) := by decide +kernel
theorem dX5_add_31 : decode cX5_add 31 = .ok (.aload_n 0, 1) := by decide +kernel
theorem dX5_add_32 : decode cX5_add 32 = .ok (.getfield 19, 3) := by decide +kernel
theorem dX5_add_35 : decode cX5_add 35 = .ok (.aload_n 0, 1) := by decide +kernel
theorem dX5_add_36 : decode cX5_add 36 = .ok (.getfield 38, 3) := by decide +kernel
theorem dX5_add_39 : decode cX5_add 39 = .ok (.iload 4, 2) := by decide +kernel
theorem dX5_add_41 : decode cX5_add 41 = .ok (.iastore, 1) := by decide +kernel
theorem dX5_add_42 : decode cX5_add 42 = .ok (.aload_n 0, 1) := by decide +kernel
theorem dX5_add_43 : decode cX5_add 43 = .ok (.getfield 22, 3) := by decide +kernel
theorem dX5_add_46 : decode cX5_add 46 = .ok (.aload_n 0, 1) := by decide +kernel
theorem dX5_add_47 : decode cX5_add 47 = .ok (.getfield 38, 3) := by decide +kernel
theorem dX5_add_50 : decode cX5_add 50 = .ok (.iload 5, 2) := by decide +kernel
theorem dX5_add_52 : decode cX5_add 52 = .ok (.iastore, 1) := by decide +kernel
theorem dX5_add_53 : decode cX5_add 53 = .ok (.aload_n 0, 1) := by decide +kernel
theorem dX5_add_54 : decode cX5_add 54 = .ok (.getfield 25, 3) := by decide +kernel
theorem dX5_add_57 : decode cX5_add 57 = .ok (.aload_n 0, 1) := by decide +kernel
theorem dX5_add_58 : decode cX5_add 58 = .ok (.getfield 38, 3) := by decide +kernel
theorem dX5_add_61 : decode cX5_add 61 = .ok (.lload_n 1, 1) := by decide +kernel
theorem dX5_add_62 : decode cX5_add 62 = .ok (.iload_n 3, 1) := by decide +kernel
theorem dX5_add_63 : decode cX5_add 63 = .ok (.invokestatic 42, 3) := by decide +kernel
theorem dX5_add_66 : decode cX5_add 66 = .ok (.lastore, 1) := by decide +kernel
theorem dX5_add_67 : decode cX5_add 67 = .ok (.aload_n 0, 1) := by decide +kernel
theorem dX5_add_68 : decode cX5_add 68 = .ok (.aload_n 0, 1) := by decide +kernel
theorem dX5_add_69 : decode cX5_add 69 = .ok (.getfield 38, 3) := by decide +kernel
theorem dX5_add_72 : decode cX5_add 72 = .ok (.invokevirtual 46, 3) := by decide +kernel
theorem dX5_add_75 : decode cX5_add 75 = .ok (.aload_n 0, 1) := by decide +kernel
theorem dX5_add_76 : decode cX5_add 76 = .ok (.dup, 1) := by decide +kernel
theorem dX5_add_77 : decode cX5_add 77 = .ok (.getfield 38, 3) := by decide +kernel
theorem dX5_add_80 : decode cX5_add 80 = .ok (.iconst 1, 1) := by decide +kernel
theorem dX5_add_81 : decode cX5_add 81 = .ok (.iadd, 1) := by decide +kernel
theorem dX5_add_82 : decode cX5_add 82 = .ok (.putfield 38, 3) := by decide +kernel
theorem dX5_add_85 : decode cX5_add 85 = .ok (.aload_n 0, 1) := by decide +kernel
theorem dX5_add_86 : decode cX5_add 86 = .ok (.getfield 38, 3) := by decide +kernel
theorem dX5_add_89 : decode cX5_add 89 = .ok (.iconst 1, 1) := by decide +kernel
theorem dX5_add_90 : decode cX5_add 90 = .ok (.isub, 1) := by decide +kernel
theorem dX5_add_91 : decode cX5_add 91 = .ok (.ireturn, 1) := by decide +kernel
theorem dX5_letterAt_0 : decode cX5_letterAt 0 = .ok (.bipush 96, 2) := by decide +kernel
theorem dX5_letterAt_2 : decode cX5_letterAt 2 = .ok (.lload_n 0, 1) := by decide +kernel
theorem dX5_letterAt_3 : decode cX5_letterAt 3 = .ok (.iconst 5, 1) := by decide +kernel
theorem dX5_letterAt_4 : decode cX5_letterAt 4 = .ok (.iload_n 2, 1) := by decide +kernel
theorem dX5_letterAt_5 : decode cX5_letterAt 5 = .ok (.imul, 1) := by decide +kernel
theorem dX5_letterAt_6 : decode cX5_letterAt 6 = .ok (.lushr, 1) := by decide +kernel
theorem dX5_letterAt_7 : decode cX5_letterAt 7 = .ok (.ldc2_w 34, 3) := by decide +kernel
theorem dX5_letterAt_10 : decode cX5_letterAt 10 = .ok (.land, 1) := by decide +kernel
theorem dX5_letterAt_11 : decode cX5_letterAt 11 = .ok (.l2i, 1) := by decide +kernel
theorem dX5_letterAt_12 : decode cX5_letterAt 12 = .ok (.iadd, 1) := by decide +kernel
theorem dX5_letterAt_13 : decode cX5_letterAt 13 = .ok (.i2c, 1) := by decide +kernel
theorem dX5_letterAt_14 : decode cX5_letterAt 14 = .ok (.ireturn, 1) := by decide +kernel
theorem dX5_endingOf_0 : decode cX5_endingOf 0 = .ok (.iload_n 2, 1) := by decide +kernel
theorem dX5_endingOf_1 : decode cX5_endingOf 1 = .ok (.iconst 1, 1) := by decide +kernel
theorem dX5_endingOf_2 : decode cX5_endingOf 2 = .ok (.isub, 1) := by decide +kernel
theorem dX5_endingOf_3 : decode cX5_endingOf 3 = .ok (.istore_n 3, 1) := by decide +kernel
theorem dX5_endingOf_4 : decode cX5_endingOf 4 = .ok (.iload_n 3, 1) := by decide +kernel
theorem dX5_endingOf_5 : decode cX5_endingOf 5 = .ok (.ifCond .lt 28, 3) := by decide +kernel
theorem dX5_endingOf_8 : decode cX5_endingOf 8 = .ok (.ldc 50, 2) := by decide +kernel
theorem dX5_endingOf_10 : decode cX5_endingOf 10 = .ok (.lload_n 0, 1) := by decide +kernel
theorem dX5_endingOf_11 : decode cX5_endingOf 11 = .ok (.iload_n 3, 1) := by decide +kernel
theorem dX5_endingOf_12 : decode cX5_endingOf 12 = .ok (.invokestatic 52, 3) := by decide +kernel
theorem dX5_endingOf_15 : decode cX5_endingOf 15 = .ok (.invokevirtual 56, 3) := by decide +kernel
theorem dX5_endingOf_18 : decode cX5_endingOf 18 = .ok (.ifCond .lt 9, 3) := by decide +kernel
theorem dX5_endingOf_21 : decode cX5_endingOf 21 = .ok (.lload_n 0, 1) := by decide +kernel
theorem dX5_endingOf_22 : decode cX5_endingOf 22 = .ok (.iconst 5, 1) := by decide +kernel
theorem dX5_endingOf_23 : decode cX5_endingOf 23 = .ok (.iload_n 3, 1) := by decide +kernel
theorem dX5_endingOf_24 : decode cX5_endingOf 24 = .ok (.imul, 1) := by decide +kernel
theorem dX5_endingOf_25 : decode cX5_endingOf 25 = .ok (.lushr, 1) := by decide +kernel
theorem dX5_endingOf_26 : decode cX5_endingOf 26 = .ok (.lreturn, 1) := by decide +kernel
theorem dX5_endingOf_27 : decode cX5_endingOf 27 = .ok (.iinc 3 (-1), 3) := by decide +kernel
theorem dX5_endingOf_30 : decode cX5_endingOf 30 = .ok (.goto (-26), 3) := by decide +kernel
theorem dX5_endingOf_33 : decode cX5_endingOf 33 = .ok (.lload_n 0, 1) := by decide +kernel
theorem dX5_endingOf_34 : decode cX5_endingOf 34 = .ok (.lreturn, 1) := by decide +kernel
theorem dX5_hear_0 : decode cX5_hear 0 = .ok (.iconst 0, 1) := by decide +kernel
theorem dX5_hear_1 : decode cX5_hear 1 = .ok (.istore_n 2, 1) := by decide +kernel
theorem dX5_hear_2 : decode cX5_hear 2 = .ok (.iconst 0, 1) := by decide +kernel
theorem dX5_hear_3 : decode cX5_hear 3 = .ok (.istore_n 3, 1) := by decide +kernel
theorem dX5_hear_4 : decode cX5_hear 4 = .ok (.iconst 0, 1) := by decide +kernel
theorem dX5_hear_5 : decode cX5_hear 5 = .ok (.istore 4, 2) := by decide +kernel
theorem dX5_hear_7 : decode cX5_hear 7 = .ok (.iload 4, 2) := by decide +kernel
theorem dX5_hear_9 : decode cX5_hear 9 = .ok (.aload_n 0, 1) := by decide +kernel
theorem dX5_hear_10 : decode cX5_hear 10 = .ok (.getfield 15, 3) := by decide +kernel
theorem dX5_hear_13 : decode cX5_hear 13 = .ok (.iload_n 1, 1) := by decide +kernel
theorem dX5_hear_14 : decode cX5_hear 14 = .ok (.iaload, 1) := by decide +kernel
theorem dX5_hear_15 : decode cX5_hear 15 = .ok (.if_icmp .ge 74, 3) := by decide +kernel
theorem dX5_hear_18 : decode cX5_hear 18 = .ok (.aload_n 0, 1) := by decide +kernel
theorem dX5_hear_19 : decode cX5_hear 19 = .ok (.getfield 9, 3) := by decide +kernel
theorem dX5_hear_22 : decode cX5_hear 22 = .ok (.iload_n 1, 1) := by decide +kernel
theorem dX5_hear_23 : decode cX5_hear 23 = .ok (.laload, 1) := by decide +kernel
theorem dX5_hear_24 : decode cX5_hear 24 = .ok (.iload 4, 2) := by decide +kernel
theorem dX5_hear_26 : decode cX5_hear 26 = .ok (.invokestatic 52, 3) := by decide +kernel
theorem dX5_hear_29 : decode cX5_hear 29 = .ok (.bipush 97, 2) := by decide +kernel
theorem dX5_hear_31 : decode cX5_hear 31 = .ok (.isub, 1) := by decide +kernel
theorem dX5_hear_32 : decode cX5_hear 32 = .ok (.istore 5, 2) := by decide +kernel
theorem dX5_hear_34 : decode cX5_hear 34 = .ok (.iload 5, 2) := by decide +kernel
theorem dX5_hear_36 : decode cX5_hear 36 = .ok (.ifCond .lt 47, 3) := by decide +kernel
theorem dX5_hear_39 : decode cX5_hear 39 = .ok (.iload 5, 2) := by decide +kernel
theorem dX5_hear_41 : decode cX5_hear 41 = .ok (.ldc 62, 2) := by decide +kernel
theorem dX5_hear_43 : decode cX5_hear 43 = .ok (.invokevirtual 64, 3) := by decide +kernel
theorem dX5_hear_46 : decode cX5_hear 46 = .ok (.if_icmp .ge 37, 3) := by decide +kernel
theorem dX5_hear_49 : decode cX5_hear 49 = .ok (.ldc 62, 2) := by decide +kernel
theorem dX5_hear_51 : decode cX5_hear 51 = .ok (.iload 5, 2) := by decide +kernel
theorem dX5_hear_53 : decode cX5_hear 53 = .ok (.invokevirtual 68, 3) := by decide +kernel
theorem dX5_hear_56 : decode cX5_hear 56 = .ok (.istore 6, 2) := by decide +kernel
theorem dX5_hear_58 : decode cX5_hear 58 = .ok (.iload 6, 2) := by decide +kernel
theorem dX5_hear_60 : decode cX5_hear 60 = .ok (.iload_n 3, 1) := by decide +kernel
theorem dX5_hear_61 : decode cX5_hear 61 = .ok (.if_icmp .eq 22, 3) := by decide +kernel
theorem dX5_hear_64 : decode cX5_hear 64 = .ok (.aload_n 0, 1) := by decide +kernel
theorem dX5_hear_65 : decode cX5_hear 65 = .ok (.getfield 28, 3) := by decide +kernel
theorem dX5_hear_68 : decode cX5_hear 68 = .ok (.iload_n 1, 1) := by decide +kernel
theorem dX5_hear_69 : decode cX5_hear 69 = .ok (.bipush 10, 2) := by decide +kernel
theorem dX5_hear_71 : decode cX5_hear 71 = .ok (.imul, 1) := by decide +kernel
theorem dX5_hear_72 : decode cX5_hear 72 = .ok (.iload_n 2, 1) := by decide +kernel
theorem dX5_hear_73 : decode cX5_hear 73 = .ok (.iadd, 1) := by decide +kernel
theorem dX5_hear_74 : decode cX5_hear 74 = .ok (.iload 6, 2) := by decide +kernel
theorem dX5_hear_76 : decode cX5_hear 76 = .ok (.iastore, 1) := by decide +kernel
theorem dX5_hear_77 : decode cX5_hear 77 = .ok (.iinc 2 1, 3) := by decide +kernel
theorem dX5_hear_80 : decode cX5_hear 80 = .ok (.iload 6, 2) := by decide +kernel
theorem dX5_hear_82 : decode cX5_hear 82 = .ok (.istore_n 3, 1) := by decide +kernel
theorem dX5_hear_83 : decode cX5_hear 83 = .ok (.iinc 4 1, 3) := by decide +kernel
theorem dX5_hear_86 : decode cX5_hear 86 = .ok (.goto (-79), 3) := by decide +kernel
theorem dX5_hear_89 : decode cX5_hear 89 = .ok (.aload_n 0, 1) := by decide +kernel
theorem dX5_hear_90 : decode cX5_hear 90 = .ok (.getfield 31, 3) := by decide +kernel
theorem dX5_hear_93 : decode cX5_hear 93 = .ok (.iload_n 1, 1) := by decide +kernel
theorem dX5_hear_94 : decode cX5_hear 94 = .ok (.iload_n 2, 1) := by decide +kernel
theorem dX5_hear_95 : decode cX5_hear 95 = .ok (.iastore, 1) := by decide +kernel
theorem dX5_hear_96 : decode cX5_hear 96 = .ok (.return_, 1) := by decide +kernel
theorem dX5_sameEnding_0 : decode cX5_sameEnding 0 = .ok (.aload_n 0, 1) := by decide +kernel
theorem dX5_sameEnding_1 : decode cX5_sameEnding 1 = .ok (.getfield 25, 3) := by decide +kernel
theorem dX5_sameEnding_4 : decode cX5_sameEnding 4 = .ok (.iload_n 1, 1) := by decide +kernel
theorem dX5_sameEnding_5 : decode cX5_sameEnding 5 = .ok (.laload, 1) := by decide +kernel
theorem dX5_sameEnding_6 : decode cX5_sameEnding 6 = .ok (.aload_n 0, 1) := by decide +kernel
theorem dX5_sameEnding_7 : decode cX5_sameEnding 7 = .ok (.getfield 25, 3) := by decide +kernel
theorem dX5_sameEnding_10 : decode cX5_sameEnding 10 = .ok (.iload_n 2, 1) := by decide +kernel
theorem dX5_sameEnding_11 : decode cX5_sameEnding 11 = .ok (.laload, 1) := by decide +kernel
theorem dX5_sameEnding_12 : decode cX5_sameEnding 12 = .ok (.lcmp, 1) := by decide +kernel
theorem dX5_sameEnding_13 : decode cX5_sameEnding 13 = .ok (.ifCond .ne 7, 3) := by decide +kernel
theorem dX5_sameEnding_16 : decode cX5_sameEnding 16 = .ok (.iconst 1, 1) := by decide +kernel
theorem dX5_sameEnding_17 : decode cX5_sameEnding 17 = .ok (.goto 4, 3) := by decide +kernel
theorem dX5_sameEnding_20 : decode cX5_sameEnding 20 = .ok (.iconst 0, 1) := by decide +kernel
theorem dX5_sameEnding_21 : decode cX5_sameEnding 21 = .ok (.ireturn, 1) := by decide +kernel
theorem dX5_lowestOfEnding_0 : decode cX5_lowestOfEnding 0 = .ok (.iconst 0, 1) := by decide +kernel
theorem dX5_lowestOfEnding_1 : decode cX5_lowestOfEnding 1 = .ok (.istore_n 2, 1) := by decide +kernel
theorem dX5_lowestOfEnding_2 : decode cX5_lowestOfEnding 2 = .ok (.iload_n 2, 1) := by decide +kernel
theorem dX5_lowestOfEnding_3 : decode cX5_lowestOfEnding 3 = .ok (.iload_n 1, 1) := by decide +kernel
theorem dX5_lowestOfEnding_4 : decode cX5_lowestOfEnding 4 = .ok (.if_icmp .ge 20, 3) := by decide +kernel
theorem dX5_lowestOfEnding_7 : decode cX5_lowestOfEnding 7 = .ok (.aload_n 0, 1) := by decide +kernel
theorem dX5_lowestOfEnding_8 : decode cX5_lowestOfEnding 8 = .ok (.iload_n 2, 1) := by decide +kernel
theorem dX5_lowestOfEnding_9 : decode cX5_lowestOfEnding 9 = .ok (.iload_n 1, 1) := by decide +kernel
theorem dX5_lowestOfEnding_10 : decode cX5_lowestOfEnding 10 = .ok (.invokevirtual 72, 3) := by decide +kernel
theorem dX5_lowestOfEnding_13 : decode cX5_lowestOfEnding 13 = .ok (.ifCond .eq 5, 3) := by decide +kernel
theorem dX5_lowestOfEnding_16 : decode cX5_lowestOfEnding 16 = .ok (.iload_n 2, 1) := by decide +kernel
theorem dX5_lowestOfEnding_17 : decode cX5_lowestOfEnding 17 = .ok (.ireturn, 1) := by decide +kernel
theorem dX5_lowestOfEnding_18 : decode cX5_lowestOfEnding 18 = .ok (.iinc 2 1, 3) := by decide +kernel
theorem dX5_lowestOfEnding_21 : decode cX5_lowestOfEnding 21 = .ok (.goto (-19), 3) := by decide +kernel
theorem dX5_lowestOfEnding_24 : decode cX5_lowestOfEnding 24 = .ok (.iload_n 1, 1) := by decide +kernel
theorem dX5_lowestOfEnding_25 : decode cX5_lowestOfEnding 25 = .ok (.ireturn, 1) := by decide +kernel
theorem dX5_akin_0 : decode cX5_akin 0 = .ok (.aload_n 0, 1) := by decide +kernel
theorem dX5_akin_1 : decode cX5_akin 1 = .ok (.getfield 31, 3) := by decide +kernel
theorem dX5_akin_4 : decode cX5_akin 4 = .ok (.iload_n 1, 1) := by decide +kernel
theorem dX5_akin_5 : decode cX5_akin 5 = .ok (.iaload, 1) := by decide +kernel
theorem dX5_akin_6 : decode cX5_akin 6 = .ok (.istore_n 3, 1) := by decide +kernel
theorem dX5_akin_7 : decode cX5_akin 7 = .ok (.aload_n 0, 1) := by decide +kernel
theorem dX5_akin_8 : decode cX5_akin 8 = .ok (.getfield 31, 3) := by decide +kernel
theorem dX5_akin_11 : decode cX5_akin 11 = .ok (.iload_n 2, 1) := by decide +kernel
theorem dX5_akin_12 : decode cX5_akin 12 = .ok (.iaload, 1) := by decide +kernel
theorem dX5_akin_13 : decode cX5_akin 13 = .ok (.istore 4, 2) := by decide +kernel
theorem dX5_akin_15 : decode cX5_akin 15 = .ok (.iload_n 3, 1) := by decide +kernel
theorem dX5_akin_16 : decode cX5_akin 16 = .ok (.iload 4, 2) := by decide +kernel
theorem dX5_akin_18 : decode cX5_akin 18 = .ok (.invokestatic 76, 3) := by decide +kernel
theorem dX5_akin_21 : decode cX5_akin 21 = .ok (.istore 5, 2) := by decide +kernel
theorem dX5_akin_23 : decode cX5_akin 23 = .ok (.iconst 0, 1) := by decide +kernel
theorem dX5_akin_24 : decode cX5_akin 24 = .ok (.istore 6, 2) := by decide +kernel
theorem dX5_akin_26 : decode cX5_akin 26 = .ok (.iload 6, 2) := by decide +kernel
theorem dX5_akin_28 : decode cX5_akin 28 = .ok (.iload 5, 2) := by decide +kernel
theorem dX5_akin_30 : decode cX5_akin 30 = .ok (.if_icmp .ge 36, 3) := by decide +kernel
theorem dX5_akin_33 : decode cX5_akin 33 = .ok (.aload_n 0, 1) := by decide +kernel
theorem dX5_akin_34 : decode cX5_akin 34 = .ok (.getfield 28, 3) := by decide +kernel
theorem dX5_akin_37 : decode cX5_akin 37 = .ok (.iload_n 1, 1) := by decide +kernel
theorem dX5_akin_38 : decode cX5_akin 38 = .ok (.bipush 10, 2) := by decide +kernel
theorem dX5_akin_40 : decode cX5_akin 40 = .ok (.imul, 1) := by decide +kernel
theorem dX5_akin_41 : decode cX5_akin 41 = .ok (.iload 6, 2) := by decide +kernel
theorem dX5_akin_43 : decode cX5_akin 43 = .ok (.iadd, 1) := by decide +kernel
theorem dX5_akin_44 : decode cX5_akin 44 = .ok (.iaload, 1) := by decide +kernel
theorem dX5_akin_45 : decode cX5_akin 45 = .ok (.aload_n 0, 1) := by decide +kernel
theorem dX5_akin_46 : decode cX5_akin 46 = .ok (.getfield 28, 3) := by decide +kernel
theorem dX5_akin_49 : decode cX5_akin 49 = .ok (.iload_n 2, 1) := by decide +kernel
theorem dX5_akin_50 : decode cX5_akin 50 = .ok (.bipush 10, 2) := by decide +kernel
theorem dX5_akin_52 : decode cX5_akin 52 = .ok (.imul, 1) := by decide +kernel
theorem dX5_akin_53 : decode cX5_akin 53 = .ok (.iload 6, 2) := by decide +kernel
theorem dX5_akin_55 : decode cX5_akin 55 = .ok (.iadd, 1) := by decide +kernel
theorem dX5_akin_56 : decode cX5_akin 56 = .ok (.iaload, 1) := by decide +kernel
theorem dX5_akin_57 : decode cX5_akin 57 = .ok (.if_icmp .ne 9, 3) := by decide +kernel
theorem dX5_akin_60 : decode cX5_akin 60 = .ok (.iinc 6 1, 3) := by decide +kernel
theorem dX5_akin_63 : decode cX5_akin 63 = .ok (.goto (-37), 3) := by decide +kernel
theorem dX5_akin_66 : decode cX5_akin 66 = .ok (.iconst 0, 1) := by decide +kernel
theorem dX5_akin_67 : decode cX5_akin 67 = .ok (.istore 7, 2) := by decide +kernel
theorem dX5_akin_69 : decode cX5_akin 69 = .ok (.iload 7, 2) := by decide +kernel
theorem dX5_akin_71 : decode cX5_akin 71 = .ok (.iload 5, 2) := by decide +kernel
theorem dX5_akin_73 : decode cX5_akin 73 = .ok (.iload 6, 2) := by decide +kernel
theorem dX5_akin_75 : decode cX5_akin 75 = .ok (.isub, 1) := by decide +kernel
theorem dX5_akin_76 : decode cX5_akin 76 = .ok (.if_icmp .ge 45, 3) := by decide +kernel
theorem dX5_akin_79 : decode cX5_akin 79 = .ok (.aload_n 0, 1) := by decide +kernel
theorem dX5_akin_80 : decode cX5_akin 80 = .ok (.getfield 28, 3) := by decide +kernel
theorem dX5_akin_83 : decode cX5_akin 83 = .ok (.iload_n 1, 1) := by decide +kernel
theorem dX5_akin_84 : decode cX5_akin 84 = .ok (.bipush 10, 2) := by decide +kernel
theorem dX5_akin_86 : decode cX5_akin 86 = .ok (.imul, 1) := by decide +kernel
theorem dX5_akin_87 : decode cX5_akin 87 = .ok (.iload_n 3, 1) := by decide +kernel
theorem dX5_akin_88 : decode cX5_akin 88 = .ok (.iadd, 1) := by decide +kernel
theorem dX5_akin_89 : decode cX5_akin 89 = .ok (.iconst 1, 1) := by decide +kernel
theorem dX5_akin_90 : decode cX5_akin 90 = .ok (.isub, 1) := by decide +kernel
theorem dX5_akin_91 : decode cX5_akin 91 = .ok (.iload 7, 2) := by decide +kernel
theorem dX5_akin_93 : decode cX5_akin 93 = .ok (.isub, 1) := by decide +kernel
theorem dX5_akin_94 : decode cX5_akin 94 = .ok (.iaload, 1) := by decide +kernel
theorem dX5_akin_95 : decode cX5_akin 95 = .ok (.aload_n 0, 1) := by decide +kernel
theorem dX5_akin_96 : decode cX5_akin 96 = .ok (.getfield 28, 3) := by decide +kernel
theorem dX5_akin_99 : decode cX5_akin 99 = .ok (.iload_n 2, 1) := by decide +kernel
theorem dX5_akin_100 : decode cX5_akin 100 = .ok (.bipush 10, 2) := by decide +kernel
theorem dX5_akin_102 : decode cX5_akin 102 = .ok (.imul, 1) := by decide +kernel
theorem dX5_akin_103 : decode cX5_akin 103 = .ok (.iload 4, 2) := by decide +kernel
theorem dX5_akin_105 : decode cX5_akin 105 = .ok (.iadd, 1) := by decide +kernel
theorem dX5_akin_106 : decode cX5_akin 106 = .ok (.iconst 1, 1) := by decide +kernel
theorem dX5_akin_107 : decode cX5_akin 107 = .ok (.isub, 1) := by decide +kernel
theorem dX5_akin_108 : decode cX5_akin 108 = .ok (.iload 7, 2) := by decide +kernel
theorem dX5_akin_110 : decode cX5_akin 110 = .ok (.isub, 1) := by decide +kernel
theorem dX5_akin_111 : decode cX5_akin 111 = .ok (.iaload, 1) := by decide +kernel
theorem dX5_akin_112 : decode cX5_akin 112 = .ok (.if_icmp .ne 9, 3) := by decide +kernel
theorem dX5_akin_115 : decode cX5_akin 115 = .ok (.iinc 7 1, 3) := by decide +kernel
theorem dX5_akin_118 : decode cX5_akin 118 = .ok (.goto (-49), 3) := by decide +kernel
theorem dX5_akin_121 : decode cX5_akin 121 = .ok (.iload_n 3, 1) := by decide +kernel
theorem dX5_akin_122 : decode cX5_akin 122 = .ok (.iload 4, 2) := by decide +kernel
theorem dX5_akin_124 : decode cX5_akin 124 = .ok (.invokestatic 82, 3) := by decide +kernel
theorem dX5_akin_127 : decode cX5_akin 127 = .ok (.iload 6, 2) := by decide +kernel
theorem dX5_akin_129 : decode cX5_akin 129 = .ok (.isub, 1) := by decide +kernel
theorem dX5_akin_130 : decode cX5_akin 130 = .ok (.iload 7, 2) := by decide +kernel
theorem dX5_akin_132 : decode cX5_akin 132 = .ok (.isub, 1) := by decide +kernel
theorem dX5_akin_133 : decode cX5_akin 133 = .ok (.iconst 1, 1) := by decide +kernel
theorem dX5_akin_134 : decode cX5_akin 134 = .ok (.if_icmp .gt 7, 3) := by decide +kernel
theorem dX5_akin_137 : decode cX5_akin 137 = .ok (.iconst 1, 1) := by decide +kernel
theorem dX5_akin_138 : decode cX5_akin 138 = .ok (.goto 4, 3) := by decide +kernel
theorem dX5_akin_141 : decode cX5_akin 141 = .ok (.iconst 0, 1) := by decide +kernel
theorem dX5_akin_142 : decode cX5_akin 142 = .ok (.ireturn, 1) := by decide +kernel
theorem dX6_init_0 : decode cX6_init 0 = .ok (.aload_n 0, 1) := by decide +kernel
theorem dX6_init_1 : decode cX6_init 1 = .ok (.invokespecial 3, 3) := by decide +kernel
theorem dX6_init_4 : decode cX6_init 4 = .ok (.aload_n 0, 1) := by decide +kernel
theorem dX6_init_5 : decode cX6_init 5 = .ok (.bipush 24, 2) := by decide +kernel
theorem dX6_init_7 : decode cX6_init 7 = .ok (.newarray .int, 2) := by decide +kernel
theorem dX6_init_9 : decode cX6_init 9 = .ok (.putfield 9, 3) := by decide +kernel
theorem dX6_init_12 : decode cX6_init 12 = .ok (.aload_n 0, 1) := by decide +kernel
theorem dX6_init_13 : decode cX6_init 13 = .ok (.bipush 24, 2) := by decide +kernel
theorem dX6_init_15 : decode cX6_init 15 = .ok (.newarray .int, 2) := by decide +kernel
theorem dX6_init_17 : decode cX6_init 17 = .ok (.putfield 13, 3) := by decide +kernel
theorem dX6_init_20 : decode cX6_init 20 = .ok (.aload_n 0, 1) := by decide +kernel
theorem dX6_init_21 : decode cX6_init 21 = .ok (.bipush 24, 2) := by decide +kernel
theorem dX6_init_23 : decode cX6_init 23 = .ok (.newarray .int, 2) := by decide +kernel
theorem dX6_init_25 : decode cX6_init 25 = .ok (.putfield 16, 3) := by decide +kernel
theorem dX6_init_28 : decode cX6_init 28 = .ok (.return_, 1) := by decide +kernel
theorem dX6_setDraw_0 : decode cX6_setDraw 0 = .ok (.aload_n 0, 1) := by decide +kernel
theorem dX6_setDraw_1 : decode cX6_setDraw 1 = .ok (.iload_n 1, 1) := by decide +kernel
theorem dX6_setDraw_2 : decode cX6_setDraw 2 = .ok (.putfield 19, 3) := by decide +kernel
theorem dX6_setDraw_5 : decode cX6_setDraw 5 = .ok (.aload_n 0, 1) := by decide +kernel
theorem dX6_setDraw_6 : decode cX6_setDraw 6 = .ok (.iload_n 2, 1) := by decide +kernel
theorem dX6_setDraw_7 : decode cX6_setDraw 7 = .ok (.putfield 23, 3) := by decide +kernel
theorem dX6_setDraw_10 : decode cX6_setDraw 10 = .ok (.aload_n 0, 1) := by decide +kernel
theorem dX6_setDraw_11 : decode cX6_setDraw 11 = .ok (.iload_n 3, 1) := by decide +kernel
theorem dX6_setDraw_12 : decode cX6_setDraw 12 = .ok (.putfield 26, 3) := by decide +kernel
theorem dX6_setDraw_15 : decode cX6_setDraw 15 = .ok (.return_, 1) := by decide +kernel
theorem dX6_isRare_0 : decode cX6_isRare 0 = .ok (.aload_n 0, 1) := by decide +kernel
theorem dX6_isRare_1 : decode cX6_isRare 1 = .ok (.getfield 13, 3) := by decide +kernel
theorem dX6_isRare_4 : decode cX6_isRare 4 = .ok (.iconst 0, 1) := by decide +kernel
theorem dX6_isRare_5 : decode cX6_isRare 5 = .ok (.invokestatic 29, 3) := by decide +kernel
theorem dX6_isRare_8 : decode cX6_isRare 8 = .ok (.aload_n 0, 1) := by decide +kernel
theorem dX6_isRare_9 : decode cX6_isRare 9 = .ok (.getfield 26, 3) := by decide +kernel
theorem dX6_isRare_12 : decode cX6_isRare 12 = .ok (.ifCond .ne 38, 3) := by decide +kernel
theorem dX6_isRare_15 : decode cX6_isRare 15 = .ok (.aload_n 0, 1) := by decide +kernel
theorem dX6_isRare_16 : decode cX6_isRare 16 = .ok (.aload_n 0, 1) := by decide +kernel
theorem dX6_isRare_17 : decode cX6_isRare 17 = .ok (.getfield 9, 3) := by decide +kernel
theorem dX6_isRare_20 : decode cX6_isRare 20 = .ok (.aload_n 0, 1) := by decide +kernel
theorem dX6_isRare_21 : decode cX6_isRare 21 = .ok (.getfield 23, 3) := by decide +kernel
theorem dX6_isRare_24 : decode cX6_isRare 24 = .ok (.invokevirtual 35, 3) := by decide +kernel
theorem dX6_isRare_27 : decode cX6_isRare 27 = .ok (.iload_n 1, 1) := by decide +kernel
theorem dX6_isRare_28 : decode cX6_isRare 28 = .ok (.aload_n 0, 1) := by decide +kernel
theorem dX6_isRare_29 : decode cX6_isRare 29 = .ok (.getfield 19, 3) := by decide +kernel
theorem dX6_isRare_32 : decode cX6_isRare 32 = .ok (.if_icmp .gt 99, 3) := by decide +kernel
theorem dX6_isRare_35 : decode cX6_isRare 35 = .ok (.aload_n 0, 1) := by decide +kernel
theorem dX6_isRare_36 : decode cX6_isRare 36 = .ok (.getfield 19, 3) := by decide +kernel
theorem dX6_isRare_39 : decode cX6_isRare 39 = .ok (.iload_n 2, 1) := by decide +kernel
theorem dX6_isRare_40 : decode cX6_isRare 40 = .ok (.if_icmp .gt 91, 3) := by decide +kernel
theorem dX6_isRare_43 : decode cX6_isRare 43 = .ok (.aload_n 0, 1) := by decide +kernel
theorem dX6_isRare_44 : decode cX6_isRare 44 = .ok (.invokevirtual 38, 3) := by decide +kernel
theorem dX6_isRare_47 : decode cX6_isRare 47 = .ok (.goto 84, 3) := by decide +kernel
theorem dX6_isRare_50 : decode cX6_isRare 50 = .ok (.aload_n 0, 1) := by decide +kernel
theorem dX6_isRare_51 : decode cX6_isRare 51 = .ok (.aload_n 0, 1) := by decide +kernel
theorem dX6_isRare_52 : decode cX6_isRare 52 = .ok (.getfield 9, 3) := by decide +kernel
theorem dX6_isRare_55 : decode cX6_isRare 55 = .ok (.aload_n 0, 1) := by decide +kernel
theorem dX6_isRare_56 : decode cX6_isRare 56 = .ok (.getfield 26, 3) := by decide +kernel
theorem dX6_isRare_59 : decode cX6_isRare 59 = .ok (.invokevirtual 35, 3) := by decide +kernel
theorem dX6_isRare_62 : decode cX6_isRare 62 = .ok (.iconst 0, 1) := by decide +kernel
theorem dX6_isRare_63 : decode cX6_isRare 63 = .ok (.istore 4, 2) := by decide +kernel
theorem dX6_isRare_65 : decode cX6_isRare 65 = .ok (.iload 4, 2) := by decide +kernel
theorem dX6_isRare_67 : decode cX6_isRare 67 = .ok (.iload_n 2, 1) := by decide +kernel
theorem dX6_isRare_68 : decode cX6_isRare 68 = .ok (.if_icmp .gt 63, 3) := by decide +kernel
theorem dX6_isRare_71 : decode cX6_isRare 71 = .ok (.iload 4, 2) := by decide +kernel
theorem dX6_isRare_73 : decode cX6_isRare 73 = .ok (.aload_n 0, 1) := by decide +kernel
theorem dX6_isRare_74 : decode cX6_isRare 74 = .ok (.getfield 19, 3) := by decide +kernel
theorem dX6_isRare_77 : decode cX6_isRare 77 = .ok (.if_icmp .gt 54, 3) := by decide +kernel
theorem dX6_isRare_80 : decode cX6_isRare 80 = .ok (.iload 4, 2) := by decide +kernel
theorem dX6_isRare_82 : decode cX6_isRare 82 = .ok (.iload_n 1, 1) := by decide +kernel
theorem dX6_isRare_83 : decode cX6_isRare 83 = .ok (.if_icmp .lt 7, 3) := by decide +kernel
theorem dX6_isRare_86 : decode cX6_isRare 86 = .ok (.aload_n 0, 1) := by decide +kernel
theorem dX6_isRare_87 : decode cX6_isRare 87 = .ok (.invokevirtual 38, 3) := by decide +kernel
theorem dX6_isRare_90 : decode cX6_isRare 90 = .ok (.aload_n 0, 1) := by decide +kernel
theorem dX6_isRare_91 : decode cX6_isRare 91 = .ok (.getfield 9, 3) := by decide +kernel
theorem dX6_isRare_94 : decode cX6_isRare 94 = .ok (.aload_n 0, 1) := by decide +kernel
theorem dX6_isRare_95 : decode cX6_isRare 95 = .ok (.getfield 19, 3) := by decide +kernel
theorem dX6_isRare_98 : decode cX6_isRare 98 = .ok (.iload 4, 2) := by decide +kernel
theorem dX6_isRare_100 : decode cX6_isRare 100 = .ok (.isub, 1) := by decide +kernel
theorem dX6_isRare_101 : decode cX6_isRare 101 = .ok (.aload_n 0, 1) := by decide +kernel
theorem dX6_isRare_102 : decode cX6_isRare 102 = .ok (.getfield 23, 3) := by decide +kernel
theorem dX6_isRare_105 : decode cX6_isRare 105 = .ok (.imul, 1) := by decide +kernel
theorem dX6_isRare_106 : decode cX6_isRare 106 = .ok (.invokestatic 41, 3) := by decide +kernel
theorem dX6_isRare_109 : decode cX6_isRare 109 = .ok (.aload_n 0, 1) := by decide +kernel
theorem dX6_isRare_110 : decode cX6_isRare 110 = .ok (.getfield 9, 3) := by decide +kernel
theorem dX6_isRare_113 : decode cX6_isRare 113 = .ok (.iload 4, 2) := by decide +kernel
theorem dX6_isRare_115 : decode cX6_isRare 115 = .ok (.iconst 1, 1) := by decide +kernel
theorem dX6_isRare_116 : decode cX6_isRare 116 = .ok (.iadd, 1) := by decide +kernel
theorem dX6_isRare_117 : decode cX6_isRare 117 = .ok (.aload_n 0, 1) := by decide +kernel
theorem dX6_isRare_118 : decode cX6_isRare 118 = .ok (.getfield 26, 3) := by decide +kernel
theorem dX6_isRare_121 : decode cX6_isRare 121 = .ok (.imul, 1) := by decide +kernel
theorem dX6_isRare_122 : decode cX6_isRare 122 = .ok (.invokestatic 44, 3) := by decide +kernel
theorem dX6_isRare_125 : decode cX6_isRare 125 = .ok (.iinc 4 1, 3) := by decide +kernel
theorem dX6_isRare_128 : decode cX6_isRare 128 = .ok (.goto (-63), 3) := by decide +kernel
theorem dX6_isRare_131 : decode cX6_isRare 131 = .ok (.aload_n 0, 1) := by decide +kernel
theorem dX6_isRare_132 : decode cX6_isRare 132 = .ok (.getfield 13, 3) := by decide +kernel
theorem dX6_isRare_135 : decode cX6_isRare 135 = .ok (.iload_n 3, 1) := by decide +kernel
theorem dX6_isRare_136 : decode cX6_isRare 136 = .ok (.invokestatic 41, 3) := by decide +kernel
theorem dX6_isRare_139 : decode cX6_isRare 139 = .ok (.aload_n 0, 1) := by decide +kernel
theorem dX6_isRare_140 : decode cX6_isRare 140 = .ok (.aload_n 0, 1) := by decide +kernel
theorem dX6_isRare_141 : decode cX6_isRare 141 = .ok (.getfield 16, 3) := by decide +kernel
theorem dX6_isRare_144 : decode cX6_isRare 144 = .ok (.aload_n 0, 1) := by decide +kernel
theorem dX6_isRare_145 : decode cX6_isRare 145 = .ok (.getfield 23, 3) := by decide +kernel
theorem dX6_isRare_148 : decode cX6_isRare 148 = .ok (.aload_n 0, 1) := by decide +kernel
theorem dX6_isRare_149 : decode cX6_isRare 149 = .ok (.getfield 26, 3) := by decide +kernel
theorem dX6_isRare_152 : decode cX6_isRare 152 = .ok (.iadd, 1) := by decide +kernel
theorem dX6_isRare_153 : decode cX6_isRare 153 = .ok (.invokevirtual 35, 3) := by decide +kernel
theorem dX6_isRare_156 : decode cX6_isRare 156 = .ok (.aload_n 0, 1) := by decide +kernel
theorem dX6_isRare_157 : decode cX6_isRare 157 = .ok (.invokevirtual 47, 3) := by decide +kernel
theorem dX6_isRare_160 : decode cX6_isRare 160 = .ok (.ireturn, 1) := by decide +kernel
theorem dX6_power_0 : decode cX6_power 0 = .ok (.aload_n 1, 1) := by decide +kernel
theorem dX6_power_1 : decode cX6_power 1 = .ok (.iconst 0, 1) := by decide +kernel
theorem dX6_power_2 : decode cX6_power 2 = .ok (.invokestatic 29, 3) := by decide +kernel
theorem dX6_power_5 : decode cX6_power 5 = .ok (.aload_n 1, 1) := by decide +kernel
theorem dX6_power_6 : decode cX6_power 6 = .ok (.iconst 0, 1) := by decide +kernel
theorem dX6_power_7 : decode cX6_power 7 = .ok (.iconst 1, 1) := by decide +kernel
theorem dX6_power_8 : decode cX6_power 8 = .ok (.iastore, 1) := by decide +kernel
theorem dX6_power_9 : decode cX6_power 9 = .ok (.iconst 0, 1) := by decide +kernel
theorem dX6_power_10 : decode cX6_power 10 = .ok (.istore_n 3, 1) := by decide +kernel
theorem dX6_power_11 : decode cX6_power 11 = .ok (.iload_n 3, 1) := by decide +kernel
theorem dX6_power_12 : decode cX6_power 12 = .ok (.aload_n 0, 1) := by decide +kernel
theorem dX6_power_13 : decode cX6_power 13 = .ok (.getfield 19, 3) := by decide +kernel
theorem dX6_power_16 : decode cX6_power 16 = .ok (.if_icmp .ge 14, 3) := by decide +kernel
theorem dX6_power_19 : decode cX6_power 19 = .ok (.aload_n 1, 1) := by decide +kernel
theorem dX6_power_20 : decode cX6_power 20 = .ok (.iload_n 2, 1) := by decide +kernel
theorem dX6_power_21 : decode cX6_power 21 = .ok (.invokestatic 41, 3) := by decide +kernel
theorem dX6_power_24 : decode cX6_power 24 = .ok (.iinc 3 1, 3) := by decide +kernel
theorem dX6_power_27 : decode cX6_power 27 = .ok (.goto (-16), 3) := by decide +kernel
theorem dX6_power_30 : decode cX6_power 30 = .ok (.return_, 1) := by decide +kernel
theorem dX6_times_0 : decode cX6_times 0 = .ok (.lconst 0, 1) := by decide +kernel
theorem dX6_times_1 : decode cX6_times 1 = .ok (.lstore_n 2, 1) := by decide +kernel
theorem dX6_times_2 : decode cX6_times 2 = .ok (.iconst 0, 1) := by decide +kernel
theorem dX6_times_3 : decode cX6_times 3 = .ok (.istore 4, 2) := by decide +kernel
theorem dX6_times_5 : decode cX6_times 5 = .ok (.iload 4, 2) := by decide +kernel
theorem dX6_times_7 : decode cX6_times 7 = .ok (.bipush 24, 2) := by decide +kernel
theorem dX6_times_9 : decode cX6_times 9 = .ok (.if_icmp .ge 35, 3) := by decide +kernel
theorem dX6_times_12 : decode cX6_times 12 = .ok (.lload_n 2, 1) := by decide +kernel
theorem dX6_times_13 : decode cX6_times 13 = .ok (.aload_n 0, 1) := by decide +kernel
theorem dX6_times_14 : decode cX6_times 14 = .ok (.iload 4, 2) := by decide +kernel
theorem dX6_times_16 : decode cX6_times 16 = .ok (.iaload, 1) := by decide +kernel
theorem dX6_times_17 : decode cX6_times 17 = .ok (.i2l, 1) := by decide +kernel
theorem dX6_times_18 : decode cX6_times 18 = .ok (.iload_n 1, 1) := by decide +kernel
theorem dX6_times_19 : decode cX6_times 19 = .ok (.i2l, 1) := by decide +kernel
theorem dX6_times_20 : decode cX6_times 20 = .ok (.lmul, 1) := by decide +kernel
theorem dX6_times_21 : decode cX6_times 21 = .ok (.ladd, 1) := by decide +kernel
theorem dX6_times_22 : decode cX6_times 22 = .ok (.lstore_n 2, 1) := by decide +kernel
theorem dX6_times_23 : decode cX6_times 23 = .ok (.aload_n 0, 1) := by decide +kernel
theorem dX6_times_24 : decode cX6_times 24 = .ok (.iload 4, 2) := by decide +kernel
theorem dX6_times_26 : decode cX6_times 26 = .ok (.lload_n 2, 1) := by decide +kernel
theorem dX6_times_27 : decode cX6_times 27 = .ok (.ldc2_w 51, 3) := by decide +kernel
theorem dX6_times_30 : decode cX6_times 30 = .ok (.land, 1) := by decide +kernel
theorem dX6_times_31 : decode cX6_times 31 = .ok (.l2i, 1) := by decide +kernel
theorem dX6_times_32 : decode cX6_times 32 = .ok (.iastore, 1) := by decide +kernel
theorem dX6_times_33 : decode cX6_times 33 = .ok (.lload_n 2, 1) := by decide +kernel
theorem dX6_times_34 : decode cX6_times 34 = .ok (.bipush 24, 2) := by decide +kernel
theorem dX6_times_36 : decode cX6_times 36 = .ok (.lshr, 1) := by decide +kernel
theorem dX6_times_37 : decode cX6_times 37 = .ok (.lstore_n 2, 1) := by decide +kernel
theorem dX6_times_38 : decode cX6_times 38 = .ok (.iinc 4 1, 3) := by decide +kernel
theorem dX6_times_41 : decode cX6_times 41 = .ok (.goto (-36), 3) := by decide +kernel
theorem dX6_times_44 : decode cX6_times 44 = .ok (.return_, 1) := by decide +kernel
theorem dX6_over_0 : decode cX6_over 0 = .ok (.iload_n 1, 1) := by decide +kernel
theorem dX6_over_1 : decode cX6_over 1 = .ok (.ifCond .ne 4, 3) := by decide +kernel
theorem dX6_over_4 : decode cX6_over 4 = .ok (.return_, 1) := by decide +kernel
theorem dX6_over_5 : decode cX6_over 5 = .ok (.lconst 0, 1) := by decide +kernel
theorem dX6_over_6 : decode cX6_over 6 = .ok (.lstore_n 2, 1) := by decide +kernel
theorem dX6_over_7 : decode cX6_over 7 = .ok (.bipush 23, 2) := by decide +kernel
theorem dX6_over_9 : decode cX6_over 9 = .ok (.istore 4, 2) := by decide +kernel
theorem dX6_over_11 : decode cX6_over 11 = .ok (.iload 4, 2) := by decide +kernel
theorem dX6_over_13 : decode cX6_over 13 = .ok (.ifCond .lt 34, 3) := by decide +kernel
theorem dX6_over_16 : decode cX6_over 16 = .ok (.lload_n 2, 1) := by decide +kernel
theorem dX6_over_17 : decode cX6_over 17 = .ok (.bipush 24, 2) := by decide +kernel
theorem dX6_over_19 : decode cX6_over 19 = .ok (.lshl, 1) := by decide +kernel
theorem dX6_over_20 : decode cX6_over 20 = .ok (.aload_n 0, 1) := by decide +kernel
theorem dX6_over_21 : decode cX6_over 21 = .ok (.iload 4, 2) := by decide +kernel
theorem dX6_over_23 : decode cX6_over 23 = .ok (.iaload, 1) := by decide +kernel
theorem dX6_over_24 : decode cX6_over 24 = .ok (.i2l, 1) := by decide +kernel
theorem dX6_over_25 : decode cX6_over 25 = .ok (.ladd, 1) := by decide +kernel
theorem dX6_over_26 : decode cX6_over 26 = .ok (.lstore_n 2, 1) := by decide +kernel
theorem dX6_over_27 : decode cX6_over 27 = .ok (.aload_n 0, 1) := by decide +kernel
theorem dX6_over_28 : decode cX6_over 28 = .ok (.iload 4, 2) := by decide +kernel
theorem dX6_over_30 : decode cX6_over 30 = .ok (.lload_n 2, 1) := by decide +kernel
theorem dX6_over_31 : decode cX6_over 31 = .ok (.iload_n 1, 1) := by decide +kernel
theorem dX6_over_32 : decode cX6_over 32 = .ok (.i2l, 1) := by decide +kernel
theorem dX6_over_33 : decode cX6_over 33 = .ok (.ldiv, 1) := by decide +kernel
theorem dX6_over_34 : decode cX6_over 34 = .ok (.l2i, 1) := by decide +kernel
theorem dX6_over_35 : decode cX6_over 35 = .ok (.iastore, 1) := by decide +kernel
theorem dX6_over_36 : decode cX6_over 36 = .ok (.lload_n 2, 1) := by decide +kernel
theorem dX6_over_37 : decode cX6_over 37 = .ok (.iload_n 1, 1) := by decide +kernel
theorem dX6_over_38 : decode cX6_over 38 = .ok (.i2l, 1) := by decide +kernel
theorem dX6_over_39 : decode cX6_over 39 = .ok (.lrem, 1) := by decide +kernel
theorem dX6_over_40 : decode cX6_over 40 = .ok (.lstore_n 2, 1) := by decide +kernel
theorem dX6_over_41 : decode cX6_over 41 = .ok (.iinc 4 (-1), 3) := by decide +kernel
