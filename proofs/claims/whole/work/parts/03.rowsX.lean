set_option maxRecDepth 20000 in
theorem ggJ0_length_8abf5_J0_coder_7d493 : GoodIn wsJ0_length_8abf5 wsJ0_coder_7d493 := goodIn_r _ [6, 7, 8] (by decide +kernel) (by decide +kernel)
set_option maxRecDepth 20000 in
theorem gJ0_length_8abf5_J0_coder_7d493 : GoodIn wsJ0_length_8abf5 (wsV RJ0 335 RJ0 yJ0_coder_7d493 wsJ0_coder_7d493) := goodIn_app (goodIn_of _ (by decide +kernel)) ggJ0_length_8abf5_J0_coder_7d493
theorem dJ0_length_8abf5_0 : decode cJ0_length_8abf5 0 = .ok (.aload_n 0, 1) := by decide +kernel
theorem dJ0_length_8abf5_1 : decode cJ0_length_8abf5 1 = .ok (.getfield 9, 3) := by decide +kernel
theorem dJ0_length_8abf5_4 : decode cJ0_length_8abf5 4 = .ok (.arraylength, 1) := by decide +kernel
theorem dJ0_length_8abf5_5 : decode cJ0_length_8abf5 5 = .ok (.aload_n 0, 1) := by decide +kernel
theorem dJ0_length_8abf5_6 : decode cJ0_length_8abf5 6 = .ok (.invokevirtual 335, 3) := by decide +kernel
theorem dJ0_length_8abf5_9 : decode cJ0_length_8abf5 9 = .ok (.ishr, 1) := by decide +kernel
theorem dJ0_length_8abf5_10 : decode cJ0_length_8abf5 10 = .ok (.ireturn, 1) := by decide +kernel
set_option maxRecDepth 20000 in
theorem ggJ0_charAt_5068e_J0_isLatin1_aae02 : GoodIn wsJ0_charAt_5068e wsJ0_isLatin1_aae02 := goodIn_r _ [6, 7, 8] (by decide +kernel) (by decide +kernel)
set_option maxRecDepth 20000 in
theorem gJ0_charAt_5068e_J0_isLatin1_aae02 : GoodIn wsJ0_charAt_5068e (wsV RJ0 492 RJ0 yJ0_isLatin1_aae02 wsJ0_isLatin1_aae02) := goodIn_app (goodIn_of _ (by decide +kernel)) ggJ0_charAt_5068e_J0_isLatin1_aae02
set_option maxRecDepth 20000 in
theorem ggJ0_charAt_5068e_J1_charAt_3b067 : GoodIn wsJ0_charAt_5068e wsJ1_charAt_3b067 := goodIn_r _ [12, 13, 14, 5, 15, 16, 17, 18, 19, 20] (by decide +kernel) (by decide +kernel)
set_option maxRecDepth 20000 in
theorem gJ0_charAt_5068e_J1_charAt_3b067 : GoodIn wsJ0_charAt_5068e (va_wsS RJ0 495 yJ1_charAt_3b067 wsJ1_charAt_3b067) := goodIn_app (goodIn_of _ (by decide +kernel)) ggJ0_charAt_5068e_J1_charAt_3b067
set_option maxRecDepth 20000 in
theorem ggJ0_charAt_5068e_J2_charAt_3b067 : GoodIn wsJ0_charAt_5068e wsJ2_charAt_3b067 := goodIn_r _ [24, 25, 26, 23, 27, 28, 29, 30, 31, 14, 5, 15, 16, 17, 18, 19, 20, 32, 33, 34, 35, 36, 37] (by decide +kernel) (by decide +kernel)
set_option maxRecDepth 20000 in
theorem gJ0_charAt_5068e_J2_charAt_3b067 : GoodIn wsJ0_charAt_5068e (va_wsS RJ0 498 yJ2_charAt_3b067 wsJ2_charAt_3b067) := goodIn_app (goodIn_of _ (by decide +kernel)) ggJ0_charAt_5068e_J2_charAt_3b067
theorem dJ0_charAt_5068e_0 : decode cJ0_charAt_5068e 0 = .ok (.aload_n 0, 1) := by decide +kernel
theorem dJ0_charAt_5068e_1 : decode cJ0_charAt_5068e 1 = .ok (.invokevirtual 492, 3) := by decide +kernel
theorem dJ0_charAt_5068e_4 : decode cJ0_charAt_5068e 4 = .ok (.ifCond .eq 12, 3) := by decide +kernel
theorem dJ0_charAt_5068e_7 : decode cJ0_charAt_5068e 7 = .ok (.aload_n 0, 1) := by decide +kernel
theorem dJ0_charAt_5068e_8 : decode cJ0_charAt_5068e 8 = .ok (.getfield 9, 3) := by decide +kernel
theorem dJ0_charAt_5068e_11 : decode cJ0_charAt_5068e 11 = .ok (.iload_n 1, 1) := by decide +kernel
theorem dJ0_charAt_5068e_12 : decode cJ0_charAt_5068e 12 = .ok (.invokestatic 495, 3) := by decide +kernel
theorem dJ0_charAt_5068e_15 : decode cJ0_charAt_5068e 15 = .ok (.ireturn, 1) := by decide +kernel
theorem dJ0_charAt_5068e_16 : decode cJ0_charAt_5068e 16 = .ok (.aload_n 0, 1) := by decide +kernel
theorem dJ0_charAt_5068e_17 : decode cJ0_charAt_5068e 17 = .ok (.getfield 9, 3) := by decide +kernel
theorem dJ0_charAt_5068e_20 : decode cJ0_charAt_5068e 20 = .ok (.iload_n 1, 1) := by decide +kernel
theorem dJ0_charAt_5068e_21 : decode cJ0_charAt_5068e 21 = .ok (.invokestatic 498, 3) := by decide +kernel
theorem dJ0_charAt_5068e_24 : decode cJ0_charAt_5068e 24 = .ok (.ireturn, 1) := by decide +kernel
theorem dJ0_coder_7d493_0 : decode cJ0_coder_7d493 0 = .ok (.getstatic 38, 3) := by decide +kernel
theorem dJ0_coder_7d493_3 : decode cJ0_coder_7d493 3 = .ok (.ifCond .eq 10, 3) := by decide +kernel
theorem dJ0_coder_7d493_6 : decode cJ0_coder_7d493 6 = .ok (.aload_n 0, 1) := by decide +kernel
theorem dJ0_coder_7d493_7 : decode cJ0_coder_7d493 7 = .ok (.getfield 15, 3) := by decide +kernel
theorem dJ0_coder_7d493_10 : decode cJ0_coder_7d493 10 = .ok (.goto 4, 3) := by decide +kernel
theorem dJ0_coder_7d493_13 : decode cJ0_coder_7d493 13 = .ok (.iconst 1, 1) := by decide +kernel
theorem dJ0_coder_7d493_14 : decode cJ0_coder_7d493 14 = .ok (.ireturn, 1) := by decide +kernel
theorem dJ0_isLatin1_aae02_0 : decode cJ0_isLatin1_aae02 0 = .ok (.getstatic 38, 3) := by decide +kernel
theorem dJ0_isLatin1_aae02_3 : decode cJ0_isLatin1_aae02 3 = .ok (.ifCond .eq 14, 3) := by decide +kernel
theorem dJ0_isLatin1_aae02_6 : decode cJ0_isLatin1_aae02 6 = .ok (.aload_n 0, 1) := by decide +kernel
theorem dJ0_isLatin1_aae02_7 : decode cJ0_isLatin1_aae02 7 = .ok (.getfield 15, 3) := by decide +kernel
theorem dJ0_isLatin1_aae02_10 : decode cJ0_isLatin1_aae02 10 = .ok (.ifCond .ne 7, 3) := by decide +kernel
theorem dJ0_isLatin1_aae02_13 : decode cJ0_isLatin1_aae02 13 = .ok (.iconst 1, 1) := by decide +kernel
theorem dJ0_isLatin1_aae02_14 : decode cJ0_isLatin1_aae02 14 = .ok (.goto 4, 3) := by decide +kernel
theorem dJ0_isLatin1_aae02_17 : decode cJ0_isLatin1_aae02 17 = .ok (.iconst 0, 1) := by decide +kernel
theorem dJ0_isLatin1_aae02_18 : decode cJ0_isLatin1_aae02 18 = .ok (.ireturn, 1) := by decide +kernel
set_option maxRecDepth 20000 in
theorem ggJ0_checkIndex_df160_J3_checkIndex_8e157 : GoodIn wsJ0_checkIndex_df160 wsJ3_checkIndex_8e157 := goodIn_r _ [5] (by decide +kernel) (by decide +kernel)
set_option maxRecDepth 20000 in
theorem gJ0_checkIndex_df160_J3_checkIndex_8e157 : GoodIn wsJ0_checkIndex_df160 (va_wsS RJ0 1059 yJ3_checkIndex_8e157 wsJ3_checkIndex_8e157) := goodIn_app (goodIn_of _ (by decide +kernel)) ggJ0_checkIndex_df160_J3_checkIndex_8e157
theorem dJ0_checkIndex_df160_0 : decode cJ0_checkIndex_df160 0 = .ok (.iload_n 0, 1) := by decide +kernel
theorem dJ0_checkIndex_df160_1 : decode cJ0_checkIndex_df160 1 = .ok (.iload_n 1, 1) := by decide +kernel
theorem dJ0_checkIndex_df160_2 : decode cJ0_checkIndex_df160 2 = .ok (.getstatic 1053, 3) := by decide +kernel
theorem dJ0_checkIndex_df160_5 : decode cJ0_checkIndex_df160 5 = .ok (.invokestatic 1059, 3) := by decide +kernel
theorem dJ0_checkIndex_df160_8 : decode cJ0_checkIndex_df160 8 = .ok (.pop, 1) := by decide +kernel
theorem dJ0_checkIndex_df160_9 : decode cJ0_checkIndex_df160 9 = .ok (.return_, 1) := by decide +kernel
set_option maxRecDepth 20000 in
theorem ggJ1_charAt_3b067_J0_checkIndex_df160 : GoodIn wsJ1_charAt_3b067 wsJ0_checkIndex_df160 := goodIn_r _ [4, 5, 6, 7, 8, 9] (by decide +kernel) (by decide +kernel)
set_option maxRecDepth 20000 in
theorem gJ1_charAt_3b067_J0_checkIndex_df160 : GoodIn wsJ1_charAt_3b067 (va_wsS RJ1 9 yJ0_checkIndex_df160 wsJ0_checkIndex_df160) := goodIn_app (goodIn_of _ (by decide +kernel)) ggJ1_charAt_3b067_J0_checkIndex_df160
theorem dJ1_charAt_3b067_0 : decode cJ1_charAt_3b067 0 = .ok (.iload_n 1, 1) := by decide +kernel
theorem dJ1_charAt_3b067_1 : decode cJ1_charAt_3b067 1 = .ok (.aload_n 0, 1) := by decide +kernel
theorem dJ1_charAt_3b067_2 : decode cJ1_charAt_3b067 2 = .ok (.arraylength, 1) := by decide +kernel
theorem dJ1_charAt_3b067_3 : decode cJ1_charAt_3b067 3 = .ok (.invokestatic 9, 3) := by decide +kernel
theorem dJ1_charAt_3b067_6 : decode cJ1_charAt_3b067 6 = .ok (.aload_n 0, 1) := by decide +kernel
theorem dJ1_charAt_3b067_7 : decode cJ1_charAt_3b067 7 = .ok (.iload_n 1, 1) := by decide +kernel
theorem dJ1_charAt_3b067_8 : decode cJ1_charAt_3b067 8 = .ok (.baload, 1) := by decide +kernel
theorem dJ1_charAt_3b067_9 : decode cJ1_charAt_3b067 9 = .ok (.sipush 255, 3) := by decide +kernel
theorem dJ1_charAt_3b067_12 : decode cJ1_charAt_3b067 12 = .ok (.iand, 1) := by decide +kernel
theorem dJ1_charAt_3b067_13 : decode cJ1_charAt_3b067 13 = .ok (.i2c, 1) := by decide +kernel
theorem dJ1_charAt_3b067_14 : decode cJ1_charAt_3b067 14 = .ok (.ireturn, 1) := by decide +kernel
set_option maxRecDepth 20000 in
theorem ggJ2_getChar_3b067_J2_length_9d52b : GoodIn wsJ2_getChar_3b067 wsJ2_length_9d52b := goodIn_r _ [7] (by decide +kernel) (by decide +kernel)
set_option maxRecDepth 20000 in
theorem gJ2_getChar_3b067_J2_length_9d52b : GoodIn wsJ2_getChar_3b067 (va_wsS RJ2 48 yJ2_length_9d52b wsJ2_length_9d52b) := goodIn_app (goodIn_of _ (by decide +kernel)) ggJ2_getChar_3b067_J2_length_9d52b
theorem dJ2_getChar_3b067_0 : decode cJ2_getChar_3b067 0 = .ok (.getstatic 44, 3) := by decide +kernel
theorem dJ2_getChar_3b067_3 : decode cJ2_getChar_3b067 3 = .ok (.ifCond .ne 25, 3) := by decide +kernel
theorem dJ2_getChar_3b067_6 : decode cJ2_getChar_3b067 6 = .ok (.iload_n 1, 1) := by decide +kernel
theorem dJ2_getChar_3b067_7 : decode cJ2_getChar_3b067 7 = .ok (.ifCond .lt 11, 3) := by decide +kernel
theorem dJ2_getChar_3b067_10 : decode cJ2_getChar_3b067 10 = .ok (.iload_n 1, 1) := by decide +kernel
theorem dJ2_getChar_3b067_11 : decode cJ2_getChar_3b067 11 = .ok (.aload_n 0, 1) := by decide +kernel
theorem dJ2_getChar_3b067_12 : decode cJ2_getChar_3b067 12 = .ok (.invokestatic 48, 3) := by decide +kernel
theorem dJ2_getChar_3b067_15 : decode cJ2_getChar_3b067 15 = .ok (.if_icmp .lt 13, 3) := by decide +kernel
theorem dJ2_getChar_3b067_18 : decode cJ2_getChar_3b067 18 = .ok (.new 52, 3) := by decide +kernel
theorem dJ2_getChar_3b067_21 : decode cJ2_getChar_3b067 21 = .ok (.dup, 1) := by decide +kernel
theorem dJ2_getChar_3b067_22 : decode cJ2_getChar_3b067 22 = .ok (.ldc 54, 2) := by decide +kernel
theorem dJ2_getChar_3b067_24 : decode cJ2_getChar_3b067 24 = .ok (.invokespecial 56, 3) := by decide +kernel
theorem dJ2_getChar_3b067_27 : decode cJ2_getChar_3b067 27 = .ok (.athrow, 1) := by decide +kernel
theorem dJ2_getChar_3b067_28 : decode cJ2_getChar_3b067 28 = .ok (.iload_n 1, 1) := by decide +kernel
theorem dJ2_getChar_3b067_29 : decode cJ2_getChar_3b067 29 = .ok (.iconst 1, 1) := by decide +kernel
theorem dJ2_getChar_3b067_30 : decode cJ2_getChar_3b067 30 = .ok (.ishl, 1) := by decide +kernel
theorem dJ2_getChar_3b067_31 : decode cJ2_getChar_3b067 31 = .ok (.istore_n 1, 1) := by decide +kernel
theorem dJ2_getChar_3b067_32 : decode cJ2_getChar_3b067 32 = .ok (.aload_n 0, 1) := by decide +kernel
theorem dJ2_getChar_3b067_33 : decode cJ2_getChar_3b067 33 = .ok (.iload_n 1, 1) := by decide +kernel
theorem dJ2_getChar_3b067_34 : decode cJ2_getChar_3b067 34 = .ok (.iinc 1 1, 3) := by decide +kernel
theorem dJ2_getChar_3b067_37 : decode cJ2_getChar_3b067 37 = .ok (.baload, 1) := by decide +kernel
theorem dJ2_getChar_3b067_38 : decode cJ2_getChar_3b067 38 = .ok (.sipush 255, 3) := by decide +kernel
theorem dJ2_getChar_3b067_41 : decode cJ2_getChar_3b067 41 = .ok (.iand, 1) := by decide +kernel
theorem dJ2_getChar_3b067_42 : decode cJ2_getChar_3b067 42 = .ok (.getstatic 59, 3) := by decide +kernel
theorem dJ2_getChar_3b067_45 : decode cJ2_getChar_3b067 45 = .ok (.ishl, 1) := by decide +kernel
theorem dJ2_getChar_3b067_46 : decode cJ2_getChar_3b067 46 = .ok (.aload_n 0, 1) := by decide +kernel
theorem dJ2_getChar_3b067_47 : decode cJ2_getChar_3b067 47 = .ok (.iload_n 1, 1) := by decide +kernel
theorem dJ2_getChar_3b067_48 : decode cJ2_getChar_3b067 48 = .ok (.baload, 1) := by decide +kernel
theorem dJ2_getChar_3b067_49 : decode cJ2_getChar_3b067 49 = .ok (.sipush 255, 3) := by decide +kernel
theorem dJ2_getChar_3b067_52 : decode cJ2_getChar_3b067 52 = .ok (.iand, 1) := by decide +kernel
theorem dJ2_getChar_3b067_53 : decode cJ2_getChar_3b067 53 = .ok (.getstatic 63, 3) := by decide +kernel
theorem dJ2_getChar_3b067_56 : decode cJ2_getChar_3b067 56 = .ok (.ishl, 1) := by decide +kernel
theorem dJ2_getChar_3b067_57 : decode cJ2_getChar_3b067 57 = .ok (.ior, 1) := by decide +kernel
theorem dJ2_getChar_3b067_58 : decode cJ2_getChar_3b067 58 = .ok (.i2c, 1) := by decide +kernel
theorem dJ2_getChar_3b067_59 : decode cJ2_getChar_3b067 59 = .ok (.ireturn, 1) := by decide +kernel
theorem dJ2_length_9d52b_0 : decode cJ2_length_9d52b 0 = .ok (.aload_n 0, 1) := by decide +kernel
theorem dJ2_length_9d52b_1 : decode cJ2_length_9d52b 1 = .ok (.arraylength, 1) := by decide +kernel
theorem dJ2_length_9d52b_2 : decode cJ2_length_9d52b 2 = .ok (.iconst 1, 1) := by decide +kernel
theorem dJ2_length_9d52b_3 : decode cJ2_length_9d52b 3 = .ok (.ishr, 1) := by decide +kernel
theorem dJ2_length_9d52b_4 : decode cJ2_length_9d52b 4 = .ok (.ireturn, 1) := by decide +kernel
set_option maxRecDepth 20000 in
theorem ggJ2_charAt_3b067_J2_checkIndex_2214a : GoodIn wsJ2_charAt_3b067 wsJ2_checkIndex_2214a := goodIn_r _ [4, 5, 6, 3, 7, 8, 9, 10, 11, 12, 13, 14, 15, 16] (by decide +kernel) (by decide +kernel)
set_option maxRecDepth 20000 in
theorem gJ2_charAt_3b067_J2_checkIndex_2214a : GoodIn wsJ2_charAt_3b067 (va_wsS RJ2 67 yJ2_checkIndex_2214a wsJ2_checkIndex_2214a) := goodIn_app (goodIn_of _ (by decide +kernel)) ggJ2_charAt_3b067_J2_checkIndex_2214a
set_option maxRecDepth 20000 in
theorem ggJ2_charAt_3b067_J2_getChar_3b067 : GoodIn wsJ2_charAt_3b067 wsJ2_getChar_3b067 := goodIn_r _ [19, 20, 21, 22, 5, 6, 3, 7] (by decide +kernel) (by decide +kernel)
set_option maxRecDepth 20000 in
theorem gJ2_charAt_3b067_J2_getChar_3b067 : GoodIn wsJ2_charAt_3b067 (va_wsS RJ2 71 yJ2_getChar_3b067 wsJ2_getChar_3b067) := goodIn_app (goodIn_of _ (by decide +kernel)) ggJ2_charAt_3b067_J2_getChar_3b067
theorem dJ2_charAt_3b067_0 : decode cJ2_charAt_3b067 0 = .ok (.iload_n 1, 1) := by decide +kernel
theorem dJ2_charAt_3b067_1 : decode cJ2_charAt_3b067 1 = .ok (.aload_n 0, 1) := by decide +kernel
theorem dJ2_charAt_3b067_2 : decode cJ2_charAt_3b067 2 = .ok (.invokestatic 67, 3) := by decide +kernel
theorem dJ2_charAt_3b067_5 : decode cJ2_charAt_3b067 5 = .ok (.aload_n 0, 1) := by decide +kernel
theorem dJ2_charAt_3b067_6 : decode cJ2_charAt_3b067 6 = .ok (.iload_n 1, 1) := by decide +kernel
theorem dJ2_charAt_3b067_7 : decode cJ2_charAt_3b067 7 = .ok (.invokestatic 71, 3) := by decide +kernel
theorem dJ2_charAt_3b067_10 : decode cJ2_charAt_3b067 10 = .ok (.ireturn, 1) := by decide +kernel
set_option maxRecDepth 20000 in
theorem ggJ2_checkIndex_2214a_J2_length_9d52b : GoodIn wsJ2_checkIndex_2214a wsJ2_length_9d52b := goodIn_r _ [4] (by decide +kernel) (by decide +kernel)
set_option maxRecDepth 20000 in
theorem gJ2_checkIndex_2214a_J2_length_9d52b : GoodIn wsJ2_checkIndex_2214a (va_wsS RJ2 48 yJ2_length_9d52b wsJ2_length_9d52b) := goodIn_app (goodIn_of _ (by decide +kernel)) ggJ2_checkIndex_2214a_J2_length_9d52b
set_option maxRecDepth 20000 in
theorem ggJ2_checkIndex_2214a_J0_checkIndex_df160 : GoodIn wsJ2_checkIndex_2214a wsJ0_checkIndex_df160 := goodIn_r _ [8, 9, 10, 11, 12, 13] (by decide +kernel) (by decide +kernel)
set_option maxRecDepth 20000 in
theorem gJ2_checkIndex_2214a_J0_checkIndex_df160 : GoodIn wsJ2_checkIndex_2214a (va_wsS RJ2 414 yJ0_checkIndex_df160 wsJ0_checkIndex_df160) := goodIn_app (goodIn_of _ (by decide +kernel)) ggJ2_checkIndex_2214a_J0_checkIndex_df160
theorem dJ2_checkIndex_2214a_0 : decode cJ2_checkIndex_2214a 0 = .ok (.iload_n 0, 1) := by decide +kernel
theorem dJ2_checkIndex_2214a_1 : decode cJ2_checkIndex_2214a 1 = .ok (.aload_n 1, 1) := by decide +kernel
theorem dJ2_checkIndex_2214a_2 : decode cJ2_checkIndex_2214a 2 = .ok (.invokestatic 48, 3) := by decide +kernel
theorem dJ2_checkIndex_2214a_5 : decode cJ2_checkIndex_2214a 5 = .ok (.invokestatic 414, 3) := by decide +kernel
theorem dJ2_checkIndex_2214a_8 : decode cJ2_checkIndex_2214a 8 = .ok (.return_, 1) := by decide +kernel
theorem dJ3_checkIndex_8e157_0 : decode cJ3_checkIndex_8e157 0 = .ok (.iload_n 0, 1) := by decide +kernel
theorem dJ3_checkIndex_8e157_1 : decode cJ3_checkIndex_8e157 1 = .ok (.ifCond .lt 8, 3) := by decide +kernel
theorem dJ3_checkIndex_8e157_4 : decode cJ3_checkIndex_8e157 4 = .ok (.iload_n 0, 1) := by decide +kernel
theorem dJ3_checkIndex_8e157_5 : decode cJ3_checkIndex_8e157 5 = .ok (.iload_n 1, 1) := by decide +kernel
theorem dJ3_checkIndex_8e157_6 : decode cJ3_checkIndex_8e157 6 = .ok (.if_icmp .lt 10, 3) := by decide +kernel
theorem dJ3_checkIndex_8e157_9 : decode cJ3_checkIndex_8e157 9 = .ok (.aload_n 2, 1) := by decide +kernel
theorem dJ3_checkIndex_8e157_10 : decode cJ3_checkIndex_8e157 10 = .ok (.iload_n 0, 1) := by decide +kernel
theorem dJ3_checkIndex_8e157_11 : decode cJ3_checkIndex_8e157 11 = .ok (.iload_n 1, 1) := by decide +kernel
theorem dJ3_checkIndex_8e157_12 : decode cJ3_checkIndex_8e157 12 = .ok (.invokestatic 95, 3) := by decide +kernel
theorem dJ3_checkIndex_8e157_15 : decode cJ3_checkIndex_8e157 15 = .ok (.athrow, 1) := by decide +kernel
theorem dJ3_checkIndex_8e157_16 : decode cJ3_checkIndex_8e157 16 = .ok (.iload_n 0, 1) := by decide +kernel
theorem dJ3_checkIndex_8e157_17 : decode cJ3_checkIndex_8e157 17 = .ok (.ireturn, 1) := by decide +kernel
theorem dJ6_numberOfTrailingZeros_0f7a4_0 : decode cJ6_numberOfTrailingZeros_0f7a4 0 = .ok (.iload_n 0, 1) := by decide +kernel
theorem dJ6_numberOfTrailingZeros_0f7a4_1 : decode cJ6_numberOfTrailingZeros_0f7a4 1 = .ok (.iconst (-1), 1) := by decide +kernel
theorem dJ6_numberOfTrailingZeros_0f7a4_2 : decode cJ6_numberOfTrailingZeros_0f7a4 2 = .ok (.ixor, 1) := by decide +kernel
theorem dJ6_numberOfTrailingZeros_0f7a4_3 : decode cJ6_numberOfTrailingZeros_0f7a4 3 = .ok (.iload_n 0, 1) := by decide +kernel
theorem dJ6_numberOfTrailingZeros_0f7a4_4 : decode cJ6_numberOfTrailingZeros_0f7a4 4 = .ok (.iconst 1, 1) := by decide +kernel
theorem dJ6_numberOfTrailingZeros_0f7a4_5 : decode cJ6_numberOfTrailingZeros_0f7a4 5 = .ok (.isub, 1) := by decide +kernel
theorem dJ6_numberOfTrailingZeros_0f7a4_6 : decode cJ6_numberOfTrailingZeros_0f7a4 6 = .ok (.iand, 1) := by decide +kernel
theorem dJ6_numberOfTrailingZeros_0f7a4_7 : decode cJ6_numberOfTrailingZeros_0f7a4 7 = .ok (.istore_n 0, 1) := by decide +kernel
theorem dJ6_numberOfTrailingZeros_0f7a4_8 : decode cJ6_numberOfTrailingZeros_0f7a4 8 = .ok (.iload_n 0, 1) := by decide +kernel
theorem dJ6_numberOfTrailingZeros_0f7a4_9 : decode cJ6_numberOfTrailingZeros_0f7a4 9 = .ok (.ifCond .gt 8, 3) := by decide +kernel
theorem dJ6_numberOfTrailingZeros_0f7a4_12 : decode cJ6_numberOfTrailingZeros_0f7a4 12 = .ok (.iload_n 0, 1) := by decide +kernel
theorem dJ6_numberOfTrailingZeros_0f7a4_13 : decode cJ6_numberOfTrailingZeros_0f7a4 13 = .ok (.bipush 32, 2) := by decide +kernel
theorem dJ6_numberOfTrailingZeros_0f7a4_15 : decode cJ6_numberOfTrailingZeros_0f7a4 15 = .ok (.iand, 1) := by decide +kernel
theorem dJ6_numberOfTrailingZeros_0f7a4_16 : decode cJ6_numberOfTrailingZeros_0f7a4 16 = .ok (.ireturn, 1) := by decide +kernel
theorem dJ6_numberOfTrailingZeros_0f7a4_17 : decode cJ6_numberOfTrailingZeros_0f7a4 17 = .ok (.iconst 1, 1) := by decide +kernel
theorem dJ6_numberOfTrailingZeros_0f7a4_18 : decode cJ6_numberOfTrailingZeros_0f7a4 18 = .ok (.istore_n 1, 1) := by decide +kernel
theorem dJ6_numberOfTrailingZeros_0f7a4_19 : decode cJ6_numberOfTrailingZeros_0f7a4 19 = .ok (.iload_n 0, 1) := by decide +kernel
theorem dJ6_numberOfTrailingZeros_0f7a4_20 : decode cJ6_numberOfTrailingZeros_0f7a4 20 = .ok (.ldc_w 264, 3) := by decide +kernel
theorem dJ6_numberOfTrailingZeros_0f7a4_23 : decode cJ6_numberOfTrailingZeros_0f7a4 23 = .ok (.if_icmp .le 11, 3) := by decide +kernel
theorem dJ6_numberOfTrailingZeros_0f7a4_26 : decode cJ6_numberOfTrailingZeros_0f7a4 26 = .ok (.iinc 1 16, 3) := by decide +kernel
theorem dJ6_numberOfTrailingZeros_0f7a4_29 : decode cJ6_numberOfTrailingZeros_0f7a4 29 = .ok (.iload_n 0, 1) := by decide +kernel
theorem dJ6_numberOfTrailingZeros_0f7a4_30 : decode cJ6_numberOfTrailingZeros_0f7a4 30 = .ok (.bipush 16, 2) := by decide +kernel
theorem dJ6_numberOfTrailingZeros_0f7a4_32 : decode cJ6_numberOfTrailingZeros_0f7a4 32 = .ok (.iushr, 1) := by decide +kernel
theorem dJ6_numberOfTrailingZeros_0f7a4_33 : decode cJ6_numberOfTrailingZeros_0f7a4 33 = .ok (.istore_n 0, 1) := by decide +kernel
theorem dJ6_numberOfTrailingZeros_0f7a4_34 : decode cJ6_numberOfTrailingZeros_0f7a4 34 = .ok (.iload_n 0, 1) := by decide +kernel
theorem dJ6_numberOfTrailingZeros_0f7a4_35 : decode cJ6_numberOfTrailingZeros_0f7a4 35 = .ok (.sipush 256, 3) := by decide +kernel
theorem dJ6_numberOfTrailingZeros_0f7a4_38 : decode cJ6_numberOfTrailingZeros_0f7a4 38 = .ok (.if_icmp .le 11, 3) := by decide +kernel
theorem dJ6_numberOfTrailingZeros_0f7a4_41 : decode cJ6_numberOfTrailingZeros_0f7a4 41 = .ok (.iinc 1 8, 3) := by decide +kernel
theorem dJ6_numberOfTrailingZeros_0f7a4_44 : decode cJ6_numberOfTrailingZeros_0f7a4 44 = .ok (.iload_n 0, 1) := by decide +kernel
theorem dJ6_numberOfTrailingZeros_0f7a4_45 : decode cJ6_numberOfTrailingZeros_0f7a4 45 = .ok (.bipush 8, 2) := by decide +kernel
theorem dJ6_numberOfTrailingZeros_0f7a4_47 : decode cJ6_numberOfTrailingZeros_0f7a4 47 = .ok (.iushr, 1) := by decide +kernel
theorem dJ6_numberOfTrailingZeros_0f7a4_48 : decode cJ6_numberOfTrailingZeros_0f7a4 48 = .ok (.istore_n 0, 1) := by decide +kernel
theorem dJ6_numberOfTrailingZeros_0f7a4_49 : decode cJ6_numberOfTrailingZeros_0f7a4 49 = .ok (.iload_n 0, 1) := by decide +kernel
theorem dJ6_numberOfTrailingZeros_0f7a4_50 : decode cJ6_numberOfTrailingZeros_0f7a4 50 = .ok (.bipush 16, 2) := by decide +kernel
theorem dJ6_numberOfTrailingZeros_0f7a4_52 : decode cJ6_numberOfTrailingZeros_0f7a4 52 = .ok (.if_icmp .le 10, 3) := by decide +kernel
theorem dJ6_numberOfTrailingZeros_0f7a4_55 : decode cJ6_numberOfTrailingZeros_0f7a4 55 = .ok (.iinc 1 4, 3) := by decide +kernel
theorem dJ6_numberOfTrailingZeros_0f7a4_58 : decode cJ6_numberOfTrailingZeros_0f7a4 58 = .ok (.iload_n 0, 1) := by decide +kernel
theorem dJ6_numberOfTrailingZeros_0f7a4_59 : decode cJ6_numberOfTrailingZeros_0f7a4 59 = .ok (.iconst 4, 1) := by decide +kernel
theorem dJ6_numberOfTrailingZeros_0f7a4_60 : decode cJ6_numberOfTrailingZeros_0f7a4 60 = .ok (.iushr, 1) := by decide +kernel
theorem dJ6_numberOfTrailingZeros_0f7a4_61 : decode cJ6_numberOfTrailingZeros_0f7a4 61 = .ok (.istore_n 0, 1) := by decide +kernel
theorem dJ6_numberOfTrailingZeros_0f7a4_62 : decode cJ6_numberOfTrailingZeros_0f7a4 62 = .ok (.iload_n 0, 1) := by decide +kernel
theorem dJ6_numberOfTrailingZeros_0f7a4_63 : decode cJ6_numberOfTrailingZeros_0f7a4 63 = .ok (.iconst 4, 1) := by decide +kernel
theorem dJ6_numberOfTrailingZeros_0f7a4_64 : decode cJ6_numberOfTrailingZeros_0f7a4 64 = .ok (.if_icmp .le 10, 3) := by decide +kernel
theorem dJ6_numberOfTrailingZeros_0f7a4_67 : decode cJ6_numberOfTrailingZeros_0f7a4 67 = .ok (.iinc 1 2, 3) := by decide +kernel
theorem dJ6_numberOfTrailingZeros_0f7a4_70 : decode cJ6_numberOfTrailingZeros_0f7a4 70 = .ok (.iload_n 0, 1) := by decide +kernel
theorem dJ6_numberOfTrailingZeros_0f7a4_71 : decode cJ6_numberOfTrailingZeros_0f7a4 71 = .ok (.iconst 2, 1) := by decide +kernel
theorem dJ6_numberOfTrailingZeros_0f7a4_72 : decode cJ6_numberOfTrailingZeros_0f7a4 72 = .ok (.iushr, 1) := by decide +kernel
theorem dJ6_numberOfTrailingZeros_0f7a4_73 : decode cJ6_numberOfTrailingZeros_0f7a4 73 = .ok (.istore_n 0, 1) := by decide +kernel
theorem dJ6_numberOfTrailingZeros_0f7a4_74 : decode cJ6_numberOfTrailingZeros_0f7a4 74 = .ok (.iload_n 1, 1) := by decide +kernel
theorem dJ6_numberOfTrailingZeros_0f7a4_75 : decode cJ6_numberOfTrailingZeros_0f7a4 75 = .ok (.iload_n 0, 1) := by decide +kernel
theorem dJ6_numberOfTrailingZeros_0f7a4_76 : decode cJ6_numberOfTrailingZeros_0f7a4 76 = .ok (.iconst 1, 1) := by decide +kernel
theorem dJ6_numberOfTrailingZeros_0f7a4_77 : decode cJ6_numberOfTrailingZeros_0f7a4 77 = .ok (.iushr, 1) := by decide +kernel
theorem dJ6_numberOfTrailingZeros_0f7a4_78 : decode cJ6_numberOfTrailingZeros_0f7a4 78 = .ok (.iadd, 1) := by decide +kernel
theorem dJ6_numberOfTrailingZeros_0f7a4_79 : decode cJ6_numberOfTrailingZeros_0f7a4 79 = .ok (.ireturn, 1) := by decide +kernel
theorem dJ6_bitCount_0f7a4_0 : decode cJ6_bitCount_0f7a4 0 = .ok (.iload_n 0, 1) := by decide +kernel
theorem dJ6_bitCount_0f7a4_1 : decode cJ6_bitCount_0f7a4 1 = .ok (.iload_n 0, 1) := by decide +kernel
theorem dJ6_bitCount_0f7a4_2 : decode cJ6_bitCount_0f7a4 2 = .ok (.iconst 1, 1) := by decide +kernel
theorem dJ6_bitCount_0f7a4_3 : decode cJ6_bitCount_0f7a4 3 = .ok (.iushr, 1) := by decide +kernel
theorem dJ6_bitCount_0f7a4_4 : decode cJ6_bitCount_0f7a4 4 = .ok (.ldc_w 265, 3) := by decide +kernel
theorem dJ6_bitCount_0f7a4_7 : decode cJ6_bitCount_0f7a4 7 = .ok (.iand, 1) := by decide +kernel
theorem dJ6_bitCount_0f7a4_8 : decode cJ6_bitCount_0f7a4 8 = .ok (.isub, 1) := by decide +kernel
theorem dJ6_bitCount_0f7a4_9 : decode cJ6_bitCount_0f7a4 9 = .ok (.istore_n 0, 1) := by decide +kernel
theorem dJ6_bitCount_0f7a4_10 : decode cJ6_bitCount_0f7a4 10 = .ok (.iload_n 0, 1) := by decide +kernel
theorem dJ6_bitCount_0f7a4_11 : decode cJ6_bitCount_0f7a4 11 = .ok (.ldc_w 266, 3) := by decide +kernel
theorem dJ6_bitCount_0f7a4_14 : decode cJ6_bitCount_0f7a4 14 = .ok (.iand, 1) := by decide +kernel
theorem dJ6_bitCount_0f7a4_15 : decode cJ6_bitCount_0f7a4 15 = .ok (.iload_n 0, 1) := by decide +kernel
theorem dJ6_bitCount_0f7a4_16 : decode cJ6_bitCount_0f7a4 16 = .ok (.iconst 2, 1) := by decide +kernel
theorem dJ6_bitCount_0f7a4_17 : decode cJ6_bitCount_0f7a4 17 = .ok (.iushr, 1) := by decide +kernel
theorem dJ6_bitCount_0f7a4_18 : decode cJ6_bitCount_0f7a4 18 = .ok (.ldc_w 266, 3) := by decide +kernel
theorem dJ6_bitCount_0f7a4_21 : decode cJ6_bitCount_0f7a4 21 = .ok (.iand, 1) := by decide +kernel
theorem dJ6_bitCount_0f7a4_22 : decode cJ6_bitCount_0f7a4 22 = .ok (.iadd, 1) := by decide +kernel
theorem dJ6_bitCount_0f7a4_23 : decode cJ6_bitCount_0f7a4 23 = .ok (.istore_n 0, 1) := by decide +kernel
theorem dJ6_bitCount_0f7a4_24 : decode cJ6_bitCount_0f7a4 24 = .ok (.iload_n 0, 1) := by decide +kernel
theorem dJ6_bitCount_0f7a4_25 : decode cJ6_bitCount_0f7a4 25 = .ok (.iload_n 0, 1) := by decide +kernel
theorem dJ6_bitCount_0f7a4_26 : decode cJ6_bitCount_0f7a4 26 = .ok (.iconst 4, 1) := by decide +kernel
theorem dJ6_bitCount_0f7a4_27 : decode cJ6_bitCount_0f7a4 27 = .ok (.iushr, 1) := by decide +kernel
theorem dJ6_bitCount_0f7a4_28 : decode cJ6_bitCount_0f7a4 28 = .ok (.iadd, 1) := by decide +kernel
theorem dJ6_bitCount_0f7a4_29 : decode cJ6_bitCount_0f7a4 29 = .ok (.ldc_w 267, 3) := by decide +kernel
theorem dJ6_bitCount_0f7a4_32 : decode cJ6_bitCount_0f7a4 32 = .ok (.iand, 1) := by decide +kernel
theorem dJ6_bitCount_0f7a4_33 : decode cJ6_bitCount_0f7a4 33 = .ok (.istore_n 0, 1) := by decide +kernel
theorem dJ6_bitCount_0f7a4_34 : decode cJ6_bitCount_0f7a4 34 = .ok (.iload_n 0, 1) := by decide +kernel
theorem dJ6_bitCount_0f7a4_35 : decode cJ6_bitCount_0f7a4 35 = .ok (.iload_n 0, 1) := by decide +kernel
theorem dJ6_bitCount_0f7a4_36 : decode cJ6_bitCount_0f7a4 36 = .ok (.bipush 8, 2) := by decide +kernel
theorem dJ6_bitCount_0f7a4_38 : decode cJ6_bitCount_0f7a4 38 = .ok (.iushr, 1) := by decide +kernel
theorem dJ6_bitCount_0f7a4_39 : decode cJ6_bitCount_0f7a4 39 = .ok (.iadd, 1) := by decide +kernel
theorem dJ6_bitCount_0f7a4_40 : decode cJ6_bitCount_0f7a4 40 = .ok (.istore_n 0, 1) := by decide +kernel
theorem dJ6_bitCount_0f7a4_41 : decode cJ6_bitCount_0f7a4 41 = .ok (.iload_n 0, 1) := by decide +kernel
theorem dJ6_bitCount_0f7a4_42 : decode cJ6_bitCount_0f7a4 42 = .ok (.iload_n 0, 1) := by decide +kernel
theorem dJ6_bitCount_0f7a4_43 : decode cJ6_bitCount_0f7a4 43 = .ok (.bipush 16, 2) := by decide +kernel
theorem dJ6_bitCount_0f7a4_45 : decode cJ6_bitCount_0f7a4 45 = .ok (.iushr, 1) := by decide +kernel
theorem dJ6_bitCount_0f7a4_46 : decode cJ6_bitCount_0f7a4 46 = .ok (.iadd, 1) := by decide +kernel
theorem dJ6_bitCount_0f7a4_47 : decode cJ6_bitCount_0f7a4 47 = .ok (.istore_n 0, 1) := by decide +kernel
theorem dJ6_bitCount_0f7a4_48 : decode cJ6_bitCount_0f7a4 48 = .ok (.iload_n 0, 1) := by decide +kernel
theorem dJ6_bitCount_0f7a4_49 : decode cJ6_bitCount_0f7a4 49 = .ok (.bipush 63, 2) := by decide +kernel
theorem dJ6_bitCount_0f7a4_51 : decode cJ6_bitCount_0f7a4 51 = .ok (.iand, 1) := by decide +kernel
theorem dJ6_bitCount_0f7a4_52 : decode cJ6_bitCount_0f7a4 52 = .ok (.ireturn, 1) := by decide +kernel
theorem dJ6_signum_0f7a4_0 : decode cJ6_signum_0f7a4 0 = .ok (.iload_n 0, 1) := by decide +kernel
theorem dJ6_signum_0f7a4_1 : decode cJ6_signum_0f7a4 1 = .ok (.bipush 31, 2) := by decide +kernel
theorem dJ6_signum_0f7a4_3 : decode cJ6_signum_0f7a4 3 = .ok (.ishr, 1) := by decide +kernel
theorem dJ6_signum_0f7a4_4 : decode cJ6_signum_0f7a4 4 = .ok (.iload_n 0, 1) := by decide +kernel
theorem dJ6_signum_0f7a4_5 : decode cJ6_signum_0f7a4 5 = .ok (.ineg, 1) := by decide +kernel
theorem dJ6_signum_0f7a4_6 : decode cJ6_signum_0f7a4 6 = .ok (.bipush 31, 2) := by decide +kernel
theorem dJ6_signum_0f7a4_8 : decode cJ6_signum_0f7a4 8 = .ok (.iushr, 1) := by decide +kernel
theorem dJ6_signum_0f7a4_9 : decode cJ6_signum_0f7a4 9 = .ok (.ior, 1) := by decide +kernel
theorem dJ6_signum_0f7a4_10 : decode cJ6_signum_0f7a4 10 = .ok (.ireturn, 1) := by decide +kernel
theorem dJ7_fill_53178_0 : decode cJ7_fill_53178 0 = .ok (.iconst 0, 1) := by decide +kernel
theorem dJ7_fill_53178_1 : decode cJ7_fill_53178 1 = .ok (.istore_n 2, 1) := by decide +kernel
theorem dJ7_fill_53178_2 : decode cJ7_fill_53178 2 = .ok (.aload_n 0, 1) := by decide +kernel
theorem dJ7_fill_53178_3 : decode cJ7_fill_53178 3 = .ok (.arraylength, 1) := by decide +kernel
theorem dJ7_fill_53178_4 : decode cJ7_fill_53178 4 = .ok (.istore_n 3, 1) := by decide +kernel
theorem dJ7_fill_53178_5 : decode cJ7_fill_53178 5 = .ok (.iload_n 2, 1) := by decide +kernel
theorem dJ7_fill_53178_6 : decode cJ7_fill_53178 6 = .ok (.iload_n 3, 1) := by decide +kernel
theorem dJ7_fill_53178_7 : decode cJ7_fill_53178 7 = .ok (.if_icmp .ge 13, 3) := by decide +kernel
theorem dJ7_fill_53178_10 : decode cJ7_fill_53178 10 = .ok (.aload_n 0, 1) := by decide +kernel
theorem dJ7_fill_53178_11 : decode cJ7_fill_53178 11 = .ok (.iload_n 2, 1) := by decide +kernel
theorem dJ7_fill_53178_12 : decode cJ7_fill_53178 12 = .ok (.iload_n 1, 1) := by decide +kernel
theorem dJ7_fill_53178_13 : decode cJ7_fill_53178 13 = .ok (.iastore, 1) := by decide +kernel
theorem dJ7_fill_53178_14 : decode cJ7_fill_53178 14 = .ok (.iinc 2 1, 3) := by decide +kernel
theorem dJ7_fill_53178_17 : decode cJ7_fill_53178 17 = .ok (.goto (-12), 3) := by decide +kernel
theorem dJ7_fill_53178_20 : decode cJ7_fill_53178 20 = .ok (.return_, 1) := by decide +kernel
theorem dJ9_abs_0f7a4_0 : decode cJ9_abs_0f7a4 0 = .ok (.iload_n 0, 1) := by decide +kernel
theorem dJ9_abs_0f7a4_1 : decode cJ9_abs_0f7a4 1 = .ok (.ifCond .ge 8, 3) := by decide +kernel
theorem dJ9_abs_0f7a4_4 : decode cJ9_abs_0f7a4 4 = .ok (.iload_n 0, 1) := by decide +kernel
theorem dJ9_abs_0f7a4_5 : decode cJ9_abs_0f7a4 5 = .ok (.ineg, 1) := by decide +kernel
theorem dJ9_abs_0f7a4_6 : decode cJ9_abs_0f7a4 6 = .ok (.goto 4, 3) := by decide +kernel
theorem dJ9_abs_0f7a4_9 : decode cJ9_abs_0f7a4 9 = .ok (.iload_n 0, 1) := by decide +kernel
theorem dJ9_abs_0f7a4_10 : decode cJ9_abs_0f7a4 10 = .ok (.ireturn, 1) := by decide +kernel
theorem dJ9_max_7cf53_0 : decode cJ9_max_7cf53 0 = .ok (.iload_n 0, 1) := by decide +kernel
theorem dJ9_max_7cf53_1 : decode cJ9_max_7cf53 1 = .ok (.iload_n 1, 1) := by decide +kernel
theorem dJ9_max_7cf53_2 : decode cJ9_max_7cf53 2 = .ok (.if_icmp .lt 7, 3) := by decide +kernel
theorem dJ9_max_7cf53_5 : decode cJ9_max_7cf53 5 = .ok (.iload_n 0, 1) := by decide +kernel
theorem dJ9_max_7cf53_6 : decode cJ9_max_7cf53 6 = .ok (.goto 4, 3) := by decide +kernel
theorem dJ9_max_7cf53_9 : decode cJ9_max_7cf53 9 = .ok (.iload_n 1, 1) := by decide +kernel
theorem dJ9_max_7cf53_10 : decode cJ9_max_7cf53 10 = .ok (.ireturn, 1) := by decide +kernel
theorem dJ9_min_7cf53_0 : decode cJ9_min_7cf53 0 = .ok (.iload_n 0, 1) := by decide +kernel
theorem dJ9_min_7cf53_1 : decode cJ9_min_7cf53 1 = .ok (.iload_n 1, 1) := by decide +kernel
theorem dJ9_min_7cf53_2 : decode cJ9_min_7cf53 2 = .ok (.if_icmp .gt 7, 3) := by decide +kernel
theorem dJ9_min_7cf53_5 : decode cJ9_min_7cf53 5 = .ok (.iload_n 0, 1) := by decide +kernel
theorem dJ9_min_7cf53_6 : decode cJ9_min_7cf53 6 = .ok (.goto 4, 3) := by decide +kernel
theorem dJ9_min_7cf53_9 : decode cJ9_min_7cf53 9 = .ok (.iload_n 1, 1) := by decide +kernel
theorem dJ9_min_7cf53_10 : decode cJ9_min_7cf53 10 = .ok (.ireturn, 1) := by decide +kernel
theorem dX0_init_0 : decode cX0_init 0 = .ok (.aload_n 0, 1) := by decide +kernel
theorem dX0_init_1 : decode cX0_init 1 = .ok (.invokespecial 3, 3) := by decide +kernel
theorem dX0_init_4 : decode cX0_init 4 = .ok (.aload_n 0, 1) := by decide +kernel
theorem dX0_init_5 : decode cX0_init 5 = .ok (.aload_n 1, 1) := by decide +kernel
theorem dX0_init_6 : decode cX0_init 6 = .ok (.putfield 9, 3) := by decide +kernel
theorem dX0_init_9 : decode cX0_init 9 = .ok (.aload_n 0, 1) := by decide +kernel
theorem dX0_init_10 : decode cX0_init 10 = .ok (.bipush 30, 2) := by decide +kernel
theorem dX0_init_12 : decode cX0_init 12 = .ok (.newarray .int, 2) := by decide +kernel
theorem dX0_init_14 : decode cX0_init 14 = .ok (.putfield 15, 3) := by decide +kernel
theorem dX0_init_17 : decode cX0_init 17 = .ok (.aload_n 0, 1) := by decide +kernel
theorem dX0_init_18 : decode cX0_init 18 = .ok (.bipush 30, 2) := by decide +kernel
theorem dX0_init_20 : decode cX0_init 20 = .ok (.newarray .int, 2) := by decide +kernel
theorem dX0_init_22 : decode cX0_init 22 = .ok (.putfield 19, 3) := by decide +kernel
theorem dX0_init_25 : decode cX0_init 25 = .ok (.aload_n 0, 1) := by decide +kernel
theorem dX0_init_26 : decode cX0_init 26 = .ok (.bipush 30, 2) := by decide +kernel
theorem dX0_init_28 : decode cX0_init 28 = .ok (.newarray .int, 2) := by decide +kernel
theorem dX0_init_30 : decode cX0_init 30 = .ok (.putfield 22, 3) := by decide +kernel
theorem dX0_init_33 : decode cX0_init 33 = .ok (.aload_n 0, 1) := by decide +kernel
theorem dX0_init_34 : decode cX0_init 34 = .ok (.bipush 30, 2) := by decide +kernel
theorem dX0_init_36 : decode cX0_init 36 = .ok (.newarray .int, 2) := by decide +kernel
theorem dX0_init_38 : decode cX0_init 38 = .ok (.putfield 25, 3) := by decide +kernel
theorem dX0_init_41 : decode cX0_init 41 = .ok (.aload_n 0, 1) := by decide +kernel
theorem dX0_init_42 : decode cX0_init 42 = .ok (.bipush 30, 2) := by decide +kernel
theorem dX0_init_44 : decode cX0_init 44 = .ok (.newarray .int, 2) := by decide +kernel
theorem dX0_init_46 : decode cX0_init 46 = .ok (.putfield 28, 3) := by decide +kernel
theorem dX0_init_49 : decode cX0_init 49 = .ok (.aload_n 0, 1) := by decide +kernel
theorem dX0_init_50 : decode cX0_init 50 = .ok (.bipush 30, 2) := by decide +kernel
theorem dX0_init_52 : decode cX0_init 52 = .ok (.newarray .boolean, 2) := by decide +kernel
theorem dX0_init_54 : decode cX0_init 54 = .ok (.putfield 31, 3) := by decide +kernel
theorem dX0_init_57 : decode cX0_init 57 = .ok (.aload_n 0, 1) := by decide +kernel
theorem dX0_init_58 : decode cX0_init 58 = .ok (.bipush 30, 2) := by decide +kernel
theorem dX0_init_60 : decode cX0_init 60 = .ok (.newarray .int, 2) := by decide +kernel
theorem dX0_init_62 : decode cX0_init 62 = .ok (.putfield 35, 3) := by decide +kernel
theorem dX0_init_65 : decode cX0_init 65 = .ok (.return_, 1) := by decide +kernel
theorem dX0_isCall_0 : decode cX0_isCall 0 = .ok (.iload_n 1, 1) := by decide +kernel
theorem dX0_isCall_1 : decode cX0_isCall 1 = .ok (.ifCond .lt 15, 3) := by decide +kernel
theorem dX0_isCall_4 : decode cX0_isCall 4 = .ok (.iload_n 1, 1) := by decide +kernel
theorem dX0_isCall_5 : decode cX0_isCall 5 = .ok (.aload_n 0, 1) := by decide +kernel
theorem dX0_isCall_6 : decode cX0_isCall 6 = .ok (.getfield 38, 3) := by decide +kernel
theorem dX0_isCall_9 : decode cX0_isCall 9 = .ok (.if_icmp .ge 7, 3) := by decide +kernel
theorem dX0_isCall_12 : decode cX0_isCall 12 = .ok (.iconst 1, 1) := by decide +kernel
theorem dX0_isCall_13 : decode cX0_isCall 13 = .ok (.goto 4, 3) := by decide +kernel
theorem dX0_isCall_16 : decode cX0_isCall 16 = .ok (.iconst 0, 1) := by decide +kernel
theorem dX0_isCall_17 : decode cX0_isCall 17 = .ok (.ireturn, 1) := by decide +kernel
theorem dX0_isRepeat_0 : decode cX0_isRepeat 0 = .ok (.aload_n 0, 1) := by decide +kernel
theorem dX0_isRepeat_1 : decode cX0_isRepeat 1 = .ok (.getfield 28, 3) := by decide +kernel
theorem dX0_isRepeat_4 : decode cX0_isRepeat 4 = .ok (.iload_n 1, 1) := by decide +kernel
theorem dX0_isRepeat_5 : decode cX0_isRepeat 5 = .ok (.iaload, 1) := by decide +kernel
theorem dX0_isRepeat_6 : decode cX0_isRepeat 6 = .ok (.iload_n 1, 1) := by decide +kernel
theorem dX0_isRepeat_7 : decode cX0_isRepeat 7 = .ok (.if_icmp .eq 7, 3) := by decide +kernel
theorem dX0_isRepeat_10 : decode cX0_isRepeat 10 = .ok (.iconst 1, 1) := by decide +kernel
theorem dX0_isRepeat_11 : decode cX0_isRepeat 11 = .ok (.goto 4, 3) := by decide +kernel
theorem dX0_isRepeat_14 : decode cX0_isRepeat 14 = .ok (.iconst 0, 1) := by decide +kernel
theorem dX0_isRepeat_15 : decode cX0_isRepeat 15 = .ok (.ireturn, 1) := by decide +kernel
theorem dX0_isFalse_0 : decode cX0_isFalse 0 = .ok (.aload_n 0, 1) := by decide +kernel
theorem dX0_isFalse_1 : decode cX0_isFalse 1 = .ok (.getfield 31, 3) := by decide +kernel
theorem dX0_isFalse_4 : decode cX0_isFalse 4 = .ok (.aload_n 0, 1) := by decide +kernel
theorem dX0_isFalse_5 : decode cX0_isFalse 5 = .ok (.getfield 28, 3) := by decide +kernel
theorem dX0_isFalse_8 : decode cX0_isFalse 8 = .ok (.iload_n 1, 1) := by decide +kernel
theorem dX0_isFalse_9 : decode cX0_isFalse 9 = .ok (.iaload, 1) := by decide +kernel
theorem dX0_isFalse_10 : decode cX0_isFalse 10 = .ok (.baload, 1) := by decide +kernel
theorem dX0_isFalse_11 : decode cX0_isFalse 11 = .ok (.ireturn, 1) := by decide +kernel
set_option maxRecDepth 20000 in
theorem ggX0_mayRepeat_X0_isCall : GoodIn wsX0_mayRepeat wsX0_isCall := goodIn_r _ [8, 9, 15, 16, 17, 18, 19, 20, 21, 22, 23] (by decide +kernel) (by decide +kernel)
set_option maxRecDepth 20000 in
theorem gX0_mayRepeat_X0_isCall : GoodIn wsX0_mayRepeat (wsV RX0 42 RX0 yX0_isCall wsX0_isCall) := goodIn_app (goodIn_of _ (by decide +kernel)) ggX0_mayRepeat_X0_isCall
set_option maxRecDepth 20000 in
theorem ggX0_mayRepeat_X0_isRepeat : GoodIn wsX0_mayRepeat wsX0_isRepeat := goodIn_r _ [13, 14, 15, 16, 17, 18, 19, 20, 21, 22, 23] (by decide +kernel) (by decide +kernel)
set_option maxRecDepth 20000 in
theorem gX0_mayRepeat_X0_isRepeat : GoodIn wsX0_mayRepeat (wsV RX0 46 RX0 yX0_isRepeat wsX0_isRepeat) := goodIn_app (goodIn_of _ (by decide +kernel)) ggX0_mayRepeat_X0_isRepeat
theorem dX0_mayRepeat_0 : decode cX0_mayRepeat 0 = .ok (.aload_n 0, 1) := by decide +kernel
theorem dX0_mayRepeat_1 : decode cX0_mayRepeat 1 = .ok (.iload_n 1, 1) := by decide +kernel
theorem dX0_mayRepeat_2 : decode cX0_mayRepeat 2 = .ok (.invokevirtual 42, 3) := by decide +kernel
theorem dX0_mayRepeat_5 : decode cX0_mayRepeat 5 = .ok (.ifCond .eq 46, 3) := by decide +kernel
theorem dX0_mayRepeat_8 : decode cX0_mayRepeat 8 = .ok (.aload_n 0, 1) := by decide +kernel
theorem dX0_mayRepeat_9 : decode cX0_mayRepeat 9 = .ok (.iload_n 1, 1) := by decide +kernel
theorem dX0_mayRepeat_10 : decode cX0_mayRepeat 10 = .ok (.invokevirtual 46, 3) := by decide +kernel
theorem dX0_mayRepeat_13 : decode cX0_mayRepeat 13 = .ok (.ifCond .ne 38, 3) := by decide +kernel
theorem dX0_mayRepeat_16 : decode cX0_mayRepeat 16 = .ok (.aload_n 0, 1) := by decide +kernel
theorem dX0_mayRepeat_17 : decode cX0_mayRepeat 17 = .ok (.getfield 19, 3) := by decide +kernel
theorem dX0_mayRepeat_20 : decode cX0_mayRepeat 20 = .ok (.iload_n 1, 1) := by decide +kernel
theorem dX0_mayRepeat_21 : decode cX0_mayRepeat 21 = .ok (.iaload, 1) := by decide +kernel
theorem dX0_mayRepeat_22 : decode cX0_mayRepeat 22 = .ok (.iload_n 2, 1) := by decide +kernel
theorem dX0_mayRepeat_23 : decode cX0_mayRepeat 23 = .ok (.if_icmp .ne 28, 3) := by decide +kernel
theorem dX0_mayRepeat_26 : decode cX0_mayRepeat 26 = .ok (.aload_n 0, 1) := by decide +kernel
theorem dX0_mayRepeat_27 : decode cX0_mayRepeat 27 = .ok (.getfield 22, 3) := by decide +kernel
theorem dX0_mayRepeat_30 : decode cX0_mayRepeat 30 = .ok (.iload_n 1, 1) := by decide +kernel
theorem dX0_mayRepeat_31 : decode cX0_mayRepeat 31 = .ok (.iaload, 1) := by decide +kernel
theorem dX0_mayRepeat_32 : decode cX0_mayRepeat 32 = .ok (.iload_n 3, 1) := by decide +kernel
theorem dX0_mayRepeat_33 : decode cX0_mayRepeat 33 = .ok (.if_icmp .ne 18, 3) := by decide +kernel
theorem dX0_mayRepeat_36 : decode cX0_mayRepeat 36 = .ok (.aload_n 0, 1) := by decide +kernel
theorem dX0_mayRepeat_37 : decode cX0_mayRepeat 37 = .ok (.getfield 25, 3) := by decide +kernel
theorem dX0_mayRepeat_40 : decode cX0_mayRepeat 40 = .ok (.iload_n 1, 1) := by decide +kernel
theorem dX0_mayRepeat_41 : decode cX0_mayRepeat 41 = .ok (.iaload, 1) := by decide +kernel
theorem dX0_mayRepeat_42 : decode cX0_mayRepeat 42 = .ok (.iload 4, 2) := by decide +kernel
theorem dX0_mayRepeat_44 : decode cX0_mayRepeat 44 = .ok (.if_icmp .ne 7, 3) := by decide +kernel
theorem dX0_mayRepeat_47 : decode cX0_mayRepeat 47 = .ok (.iconst 1, 1) := by decide +kernel
theorem dX0_mayRepeat_48 : decode cX0_mayRepeat 48 = .ok (.goto 4, 3) := by decide +kernel
theorem dX0_mayRepeat_51 : decode cX0_mayRepeat 51 = .ok (.iconst 0, 1) := by decide +kernel
theorem dX0_mayRepeat_52 : decode cX0_mayRepeat 52 = .ok (.ireturn, 1) := by decide +kernel
theorem dX0_add_0 : decode cX0_add 0 = .ok (.aload_n 0, 1) := by decide +kernel
theorem dX0_add_1 : decode cX0_add 1 = .ok (.getfield 15, 3) := by decide +kernel
theorem dX0_add_4 : decode cX0_add 4 = .ok (.aload_n 0, 1) := by decide +kernel
theorem dX0_add_5 : decode cX0_add 5 = .ok (.getfield 38, 3) := by decide +kernel
theorem dX0_add_8 : decode cX0_add 8 = .ok (.iload_n 1, 1) := by decide +kernel
theorem dX0_add_9 : decode cX0_add 9 = .ok (.iastore, 1) := by decide +kernel
theorem dX0_add_10 : decode cX0_add 10 = .ok (.aload_n 0, 1) := by decide +kernel
theorem dX0_add_11 : decode cX0_add 11 = .ok (.getfield 19, 3) := by decide +kernel
theorem dX0_add_14 : decode cX0_add 14 = .ok (.aload_n 0, 1) := by decide +kernel
theorem dX0_add_15 : decode cX0_add 15 = .ok (.getfield 38, 3) := by decide +kernel
theorem dX0_add_18 : decode cX0_add 18 = .ok (.iload_n 2, 1) := by decide +kernel
theorem dX0_add_19 : decode cX0_add 19 = .ok (.iastore, 1) := by decide +kernel
theorem dX0_add_20 : decode cX0_add 20 = .ok (.aload_n 0, 1) := by decide +kernel
theorem dX0_add_21 : decode cX0_add 21 = .ok (.getfield 22, 3) := by decide +kernel
theorem dX0_add_24 : decode cX0_add 24 = .ok (.aload_n 0, 1) := by decide +kernel
theorem dX0_add_25 : decode cX0_add 25 = .ok (.getfield 38, 3) := by decide +kernel
theorem dX0_add_28 : decode cX0_add 28 = .ok (.iload_n 3, 1) := by decide +kernel
theorem dX0_add_29 : decode cX0_add 29 = .ok (.iastore, 1) := by decide +kernel
theorem dX0_add_30 : decode cX0_add 30 = .ok (.aload_n 0, 1) := by decide +kernel
theorem dX0_add_31 : decode cX0_add 31 = .ok (.getfield 25, 3) := by decide +kernel
theorem dX0_add_34 : decode cX0_add 34 = .ok (.aload_n 0, 1) := by decide +kernel
theorem dX0_add_35 : decode cX0_add 35 = .ok (.getfield 38, 3) := by decide +kernel
theorem dX0_add_38 : decode cX0_add 38 = .ok (.iload 4, 2) := by decide +kernel
theorem dX0_add_40 : decode cX0_add 40 = .ok (.iastore, 1) := by decide +kernel
theorem dX0_add_41 : decode cX0_add 41 = .ok (.aload_n 0, 1) := by decide +kernel
theorem dX0_add_42 : decode cX0_add 42 = .ok (.getfield 28, 3) := by decide +kernel
theorem dX0_add_45 : decode cX0_add 45 = .ok (.aload_n 0, 1) := by decide +kernel
theorem dX0_add_46 : decode cX0_add 46 = .ok (.getfield 38, 3) := by decide +kernel
theorem dX0_add_49 : decode cX0_add 49 = .ok (.iload 5, 2) := by decide +kernel
theorem dX0_add_51 : decode cX0_add 51 = .ok (.bipush (-4), 2) := by decide +kernel
theorem dX0_add_53 : decode cX0_add 53 = .ok (.if_icmp .ne 10, 3) := by decide +kernel
theorem dX0_add_56 : decode cX0_add 56 = .ok (.aload_n 0, 1) := by decide +kernel
theorem dX0_add_57 : decode cX0_add 57 = .ok (.getfield 38, 3) := by decide +kernel
theorem dX0_add_60 : decode cX0_add 60 = .ok (.goto 5, 3) := by decide +kernel
theorem dX0_add_63 : decode cX0_add 63 = .ok (.iload 5, 2) := by decide +kernel
theorem dX0_add_65 : decode cX0_add 65 = .ok (.iastore, 1) := by decide +kernel
theorem dX0_add_66 : decode cX0_add 66 = .ok (.aload_n 0, 1) := by decide +kernel
theorem dX0_add_67 : decode cX0_add 67 = .ok (.dup, 1) := by decide +kernel
theorem dX0_add_68 : decode cX0_add 68 = .ok (.getfield 38, 3) := by decide +kernel
theorem dX0_add_71 : decode cX0_add 71 = .ok (.iconst 1, 1) := by decide +kernel
theorem dX0_add_72 : decode cX0_add 72 = .ok (.iadd, 1) := by decide +kernel
theorem dX0_add_73 : decode cX0_add 73 = .ok (.putfield 38, 3) := by decide +kernel
theorem dX0_add_76 : decode cX0_add 76 = .ok (.return_, 1) := by decide +kernel
set_option maxRecDepth 20000 in
theorem ggX0_falseOnes_X0_isFalse : GoodIn wsX0_falseOnes wsX0_isFalse := goodIn_r _ [6, 7, 8, 9, 10, 11, 12, 13, 14, 15, 16, 17] (by decide +kernel) (by decide +kernel)
set_option maxRecDepth 20000 in
theorem gX0_falseOnes_X0_isFalse : GoodIn wsX0_falseOnes (wsV RX0 49 RX0 yX0_isFalse wsX0_isFalse) := goodIn_app (goodIn_of _ (by decide +kernel)) ggX0_falseOnes_X0_isFalse
theorem dX0_falseOnes_0 : decode cX0_falseOnes 0 = .ok (.iconst 0, 1) := by decide +kernel
theorem dX0_falseOnes_1 : decode cX0_falseOnes 1 = .ok (.istore_n 1, 1) := by decide +kernel
theorem dX0_falseOnes_2 : decode cX0_falseOnes 2 = .ok (.iconst 0, 1) := by decide +kernel
theorem dX0_falseOnes_3 : decode cX0_falseOnes 3 = .ok (.istore_n 2, 1) := by decide +kernel
theorem dX0_falseOnes_4 : decode cX0_falseOnes 4 = .ok (.iload_n 2, 1) := by decide +kernel
theorem dX0_falseOnes_5 : decode cX0_falseOnes 5 = .ok (.aload_n 0, 1) := by decide +kernel
theorem dX0_falseOnes_6 : decode cX0_falseOnes 6 = .ok (.getfield 38, 3) := by decide +kernel
theorem dX0_falseOnes_9 : decode cX0_falseOnes 9 = .ok (.if_icmp .ge 20, 3) := by decide +kernel
theorem dX0_falseOnes_12 : decode cX0_falseOnes 12 = .ok (.aload_n 0, 1) := by decide +kernel
theorem dX0_falseOnes_13 : decode cX0_falseOnes 13 = .ok (.iload_n 2, 1) := by decide +kernel
theorem dX0_falseOnes_14 : decode cX0_falseOnes 14 = .ok (.invokevirtual 49, 3) := by decide +kernel
theorem dX0_falseOnes_17 : decode cX0_falseOnes 17 = .ok (.ifCond .eq 6, 3) := by decide +kernel
theorem dX0_falseOnes_20 : decode cX0_falseOnes 20 = .ok (.iinc 1 1, 3) := by decide +kernel
theorem dX0_falseOnes_23 : decode cX0_falseOnes 23 = .ok (.iinc 2 1, 3) := by decide +kernel
theorem dX0_falseOnes_26 : decode cX0_falseOnes 26 = .ok (.goto (-22), 3) := by decide +kernel
theorem dX0_falseOnes_29 : decode cX0_falseOnes 29 = .ok (.iload_n 1, 1) := by decide +kernel
theorem dX0_falseOnes_30 : decode cX0_falseOnes 30 = .ok (.ireturn, 1) := by decide +kernel
theorem dX0_callsUpTo_0 : decode cX0_callsUpTo 0 = .ok (.iconst 0, 1) := by decide +kernel
theorem dX0_callsUpTo_1 : decode cX0_callsUpTo 1 = .ok (.istore_n 2, 1) := by decide +kernel
theorem dX0_callsUpTo_2 : decode cX0_callsUpTo 2 = .ok (.iload_n 2, 1) := by decide +kernel
theorem dX0_callsUpTo_3 : decode cX0_callsUpTo 3 = .ok (.aload_n 0, 1) := by decide +kernel
theorem dX0_callsUpTo_4 : decode cX0_callsUpTo 4 = .ok (.getfield 38, 3) := by decide +kernel
theorem dX0_callsUpTo_7 : decode cX0_callsUpTo 7 = .ok (.if_icmp .ge 19, 3) := by decide +kernel
theorem dX0_callsUpTo_10 : decode cX0_callsUpTo 10 = .ok (.aload_n 0, 1) := by decide +kernel
theorem dX0_callsUpTo_11 : decode cX0_callsUpTo 11 = .ok (.getfield 15, 3) := by decide +kernel
theorem dX0_callsUpTo_14 : decode cX0_callsUpTo 14 = .ok (.iload_n 2, 1) := by decide +kernel
theorem dX0_callsUpTo_15 : decode cX0_callsUpTo 15 = .ok (.iaload, 1) := by decide +kernel
theorem dX0_callsUpTo_16 : decode cX0_callsUpTo 16 = .ok (.iload_n 1, 1) := by decide +kernel
theorem dX0_callsUpTo_17 : decode cX0_callsUpTo 17 = .ok (.if_icmp .gt 9, 3) := by decide +kernel
theorem dX0_callsUpTo_20 : decode cX0_callsUpTo 20 = .ok (.iinc 2 1, 3) := by decide +kernel
theorem dX0_callsUpTo_23 : decode cX0_callsUpTo 23 = .ok (.goto (-21), 3) := by decide +kernel
theorem dX0_callsUpTo_26 : decode cX0_callsUpTo 26 = .ok (.iload_n 2, 1) := by decide +kernel
theorem dX0_callsUpTo_27 : decode cX0_callsUpTo 27 = .ok (.ireturn, 1) := by decide +kernel
set_option maxRecDepth 20000 in
theorem ggX0_heardBy_X1_blurFrom : GoodIn wsX0_heardBy wsX1_blurFrom := goodIn_r _ [10, 11, 12, 13, 14, 15, 16, 17, 18, 19, 20, 21, 22, 23, 24, 25, 26, 27, 28, 29, 30, 31, 32, 33, 34, 35, 36, 37, 38, 39, 40, 41, 42, 43, 44, 45, 46, 47, 9, 48, 49, 50, 51, 52, 53, 74, 75, 76, 77, 78, 79, 80, 81, 82, 83, 84, 85, 86, 87, 88, 89] (by decide +kernel) (by decide +kernel)
set_option maxRecDepth 20000 in
theorem gX0_heardBy_X1_blurFrom : GoodIn wsX0_heardBy (wsV RX0 52 RX1 yX1_blurFrom wsX1_blurFrom) := goodIn_app (goodIn_of _ (by decide +kernel)) ggX0_heardBy_X1_blurFrom
set_option maxRecDepth 20000 in
theorem ggX0_heardBy_X7_heardAs : GoodIn wsX0_heardBy wsX7_heardAs := goodIn_r _ [58, 59, 60, 61, 62, 57, 63, 64, 90, 91, 92, 93, 94, 95, 96, 97, 98, 99] (by decide +kernel) (by decide +kernel)
set_option maxRecDepth 20000 in
theorem gX0_heardBy_X7_heardAs : GoodIn wsX0_heardBy (wsV RX0 58 RX7 yX7_heardAs wsX7_heardAs) := goodIn_app (goodIn_of _ (by decide +kernel)) ggX0_heardBy_X7_heardAs
theorem dX0_heardBy_0 : decode cX0_heardBy 0 = .ok (.aload_n 0, 1) := by decide +kernel
theorem dX0_heardBy_1 : decode cX0_heardBy 1 = .ok (.getfield 19, 3) := by decide +kernel
theorem dX0_heardBy_4 : decode cX0_heardBy 4 = .ok (.iload_n 2, 1) := by decide +kernel
theorem dX0_heardBy_5 : decode cX0_heardBy 5 = .ok (.iaload, 1) := by decide +kernel
theorem dX0_heardBy_6 : decode cX0_heardBy 6 = .ok (.iload_n 1, 1) := by decide +kernel
theorem dX0_heardBy_7 : decode cX0_heardBy 7 = .ok (.if_icmp .ne 5, 3) := by decide +kernel
theorem dX0_heardBy_10 : decode cX0_heardBy 10 = .ok (.iconst (-1), 1) := by decide +kernel
theorem dX0_heardBy_11 : decode cX0_heardBy 11 = .ok (.ireturn, 1) := by decide +kernel
theorem dX0_heardBy_12 : decode cX0_heardBy 12 = .ok (.aload_n 0, 1) := by decide +kernel
theorem dX0_heardBy_13 : decode cX0_heardBy 13 = .ok (.getfield 9, 3) := by decide +kernel
theorem dX0_heardBy_16 : decode cX0_heardBy 16 = .ok (.aload_n 0, 1) := by decide +kernel
theorem dX0_heardBy_17 : decode cX0_heardBy 17 = .ok (.getfield 19, 3) := by decide +kernel
theorem dX0_heardBy_20 : decode cX0_heardBy 20 = .ok (.iload_n 2, 1) := by decide +kernel
theorem dX0_heardBy_21 : decode cX0_heardBy 21 = .ok (.iaload, 1) := by decide +kernel
theorem dX0_heardBy_22 : decode cX0_heardBy 22 = .ok (.iload_n 1, 1) := by decide +kernel
theorem dX0_heardBy_23 : decode cX0_heardBy 23 = .ok (.aload_n 0, 1) := by decide +kernel
theorem dX0_heardBy_24 : decode cX0_heardBy 24 = .ok (.getfield 15, 3) := by decide +kernel
theorem dX0_heardBy_27 : decode cX0_heardBy 27 = .ok (.iload_n 2, 1) := by decide +kernel
theorem dX0_heardBy_28 : decode cX0_heardBy 28 = .ok (.iaload, 1) := by decide +kernel
theorem dX0_heardBy_29 : decode cX0_heardBy 29 = .ok (.bipush 24, 2) := by decide +kernel
theorem dX0_heardBy_31 : decode cX0_heardBy 31 = .ok (.irem, 1) := by decide +kernel
theorem dX0_heardBy_32 : decode cX0_heardBy 32 = .ok (.invokevirtual 52, 3) := by decide +kernel
theorem dX0_heardBy_35 : decode cX0_heardBy 35 = .ok (.istore 4, 2) := by decide +kernel
theorem dX0_heardBy_37 : decode cX0_heardBy 37 = .ok (.iload 4, 2) := by decide +kernel
theorem dX0_heardBy_39 : decode cX0_heardBy 39 = .ok (.iconst 5, 1) := by decide +kernel
theorem dX0_heardBy_40 : decode cX0_heardBy 40 = .ok (.if_icmp .le 7, 3) := by decide +kernel
theorem dX0_heardBy_43 : decode cX0_heardBy 43 = .ok (.iconst (-1), 1) := by decide +kernel
theorem dX0_heardBy_44 : decode cX0_heardBy 44 = .ok (.goto 21, 3) := by decide +kernel
theorem dX0_heardBy_47 : decode cX0_heardBy 47 = .ok (.aload_n 3, 1) := by decide +kernel
theorem dX0_heardBy_48 : decode cX0_heardBy 48 = .ok (.aload_n 0, 1) := by decide +kernel
theorem dX0_heardBy_49 : decode cX0_heardBy 49 = .ok (.getfield 22, 3) := by decide +kernel
theorem dX0_heardBy_52 : decode cX0_heardBy 52 = .ok (.iload_n 2, 1) := by decide +kernel
theorem dX0_heardBy_53 : decode cX0_heardBy 53 = .ok (.iaload, 1) := by decide +kernel
theorem dX0_heardBy_54 : decode cX0_heardBy 54 = .ok (.aload_n 0, 1) := by decide +kernel
theorem dX0_heardBy_55 : decode cX0_heardBy 55 = .ok (.getfield 25, 3) := by decide +kernel
theorem dX0_heardBy_58 : decode cX0_heardBy 58 = .ok (.iload_n 2, 1) := by decide +kernel
theorem dX0_heardBy_59 : decode cX0_heardBy 59 = .ok (.iaload, 1) := by decide +kernel
theorem dX0_heardBy_60 : decode cX0_heardBy 60 = .ok (.iload 4, 2) := by decide +kernel
theorem dX0_heardBy_62 : decode cX0_heardBy 62 = .ok (.invokevirtual 58, 3) := by decide +kernel
theorem dX0_heardBy_65 : decode cX0_heardBy 65 = .ok (.ireturn, 1) := by decide +kernel
set_option maxRecDepth 20000 in
theorem ggX0_sureHearers_X0_heardBy : GoodIn wsX0_sureHearers wsX0_heardBy := goodIn_r _ [7, 8, 1, 9, 10, 11, 12, 13, 14, 15, 16, 17, 18, 19, 20, 21, 22, 23, 24, 25, 26, 27, 28, 29, 30, 31, 32, 33, 34, 35, 36, 37, 38, 39, 40, 41, 42, 43, 44, 45, 46, 47, 48, 49, 50, 51, 52, 53, 54, 55, 56, 57, 58, 59, 60, 61, 62, 63, 64, 65, 66, 67, 68, 69, 70, 80, 81, 82, 83, 84, 85, 86, 87, 88, 89, 90, 91, 92, 93, 94, 95, 96, 97, 98, 99, 100, 101, 102, 103, 104, 105, 106, 107, 108, 109, 110, 111, 112, 113, 114] (by decide +kernel) (by decide +kernel)
set_option maxRecDepth 20000 in
theorem gX0_sureHearers_X0_heardBy : GoodIn wsX0_sureHearers (wsV RX0 66 RX0 yX0_heardBy wsX0_heardBy) := goodIn_app (goodIn_of _ (by decide +kernel)) ggX0_sureHearers_X0_heardBy
set_option maxRecDepth 20000 in
theorem ggX0_sureHearers_X0_isOneWord : GoodIn wsX0_sureHearers wsX0_isOneWord := goodIn_r _ [73, 74, 75, 49, 76, 77, 78, 79] (by decide +kernel) (by decide +kernel)
set_option maxRecDepth 20000 in
theorem gX0_sureHearers_X0_isOneWord : GoodIn wsX0_sureHearers (va_wsS RX0 70 yX0_isOneWord wsX0_isOneWord) := goodIn_app (goodIn_of _ (by decide +kernel)) ggX0_sureHearers_X0_isOneWord
theorem dX0_sureHearers_0 : decode cX0_sureHearers 0 = .ok (.iconst 0, 1) := by decide +kernel
theorem dX0_sureHearers_1 : decode cX0_sureHearers 1 = .ok (.istore_n 3, 1) := by decide +kernel
theorem dX0_sureHearers_2 : decode cX0_sureHearers 2 = .ok (.iconst 0, 1) := by decide +kernel
theorem dX0_sureHearers_3 : decode cX0_sureHearers 3 = .ok (.istore 4, 2) := by decide +kernel
theorem dX0_sureHearers_5 : decode cX0_sureHearers 5 = .ok (.iload 4, 2) := by decide +kernel
theorem dX0_sureHearers_7 : decode cX0_sureHearers 7 = .ok (.aload_n 0, 1) := by decide +kernel
theorem dX0_sureHearers_8 : decode cX0_sureHearers 8 = .ok (.getfield 9, 3) := by decide +kernel
theorem dX0_sureHearers_11 : decode cX0_sureHearers 11 = .ok (.getfield 63, 3) := by decide +kernel
theorem dX0_sureHearers_14 : decode cX0_sureHearers 14 = .ok (.if_icmp .ge 26, 3) := by decide +kernel
theorem dX0_sureHearers_17 : decode cX0_sureHearers 17 = .ok (.aload_n 0, 1) := by decide +kernel
theorem dX0_sureHearers_18 : decode cX0_sureHearers 18 = .ok (.iload 4, 2) := by decide +kernel
theorem dX0_sureHearers_20 : decode cX0_sureHearers 20 = .ok (.iload_n 1, 1) := by decide +kernel
theorem dX0_sureHearers_21 : decode cX0_sureHearers 21 = .ok (.aload_n 2, 1) := by decide +kernel
theorem dX0_sureHearers_22 : decode cX0_sureHearers 22 = .ok (.invokevirtual 66, 3) := by decide +kernel
theorem dX0_sureHearers_25 : decode cX0_sureHearers 25 = .ok (.invokestatic 70, 3) := by decide +kernel
theorem dX0_sureHearers_28 : decode cX0_sureHearers 28 = .ok (.ifCond .eq 6, 3) := by decide +kernel
theorem dX0_sureHearers_31 : decode cX0_sureHearers 31 = .ok (.iinc 3 1, 3) := by decide +kernel
theorem dX0_sureHearers_34 : decode cX0_sureHearers 34 = .ok (.iinc 4 1, 3) := by decide +kernel
theorem dX0_sureHearers_37 : decode cX0_sureHearers 37 = .ok (.goto (-32), 3) := by decide +kernel
theorem dX0_sureHearers_40 : decode cX0_sureHearers 40 = .ok (.iload_n 3, 1) := by decide +kernel
theorem dX0_sureHearers_41 : decode cX0_sureHearers 41 = .ok (.ireturn, 1) := by decide +kernel
set_option maxRecDepth 20000 in
theorem ggX0_heldFrom_X0_heardBy : GoodIn wsX0_heldFrom wsX0_heardBy := goodIn_r _ [6, 7, 8, 9, 10, 11, 12, 13, 14, 15, 16, 17, 18, 19, 20, 21, 22, 23, 24, 25, 26, 27, 28, 29, 30, 31, 32, 33, 34, 35, 36, 37, 38, 39, 40, 41, 42, 43, 44, 45, 46, 47, 48, 49, 50, 51, 52, 53, 54, 55, 56, 57, 58, 59, 60, 61, 62, 63, 64, 65, 66, 67, 68, 69, 70, 71, 72, 73, 74, 75, 76, 77, 78, 79, 80, 81, 82, 83, 84, 85, 86, 87, 88, 89, 90, 91, 92, 93, 94, 95, 96, 97, 98, 99, 100, 101, 102, 103, 104, 105] (by decide +kernel) (by decide +kernel)
set_option maxRecDepth 20000 in
theorem gX0_heldFrom_X0_heardBy : GoodIn wsX0_heldFrom (wsV RX0 66 RX0 yX0_heardBy wsX0_heardBy) := goodIn_app (goodIn_of _ (by decide +kernel)) ggX0_heldFrom_X0_heardBy
theorem dX0_heldFrom_0 : decode cX0_heldFrom 0 = .ok (.iconst (-1), 1) := by decide +kernel
theorem dX0_heldFrom_1 : decode cX0_heldFrom 1 = .ok (.istore 5, 2) := by decide +kernel
theorem dX0_heldFrom_3 : decode cX0_heldFrom 3 = .ok (.iload_n 2, 1) := by decide +kernel
theorem dX0_heldFrom_4 : decode cX0_heldFrom 4 = .ok (.istore 6, 2) := by decide +kernel
theorem dX0_heldFrom_6 : decode cX0_heldFrom 6 = .ok (.iload 6, 2) := by decide +kernel
theorem dX0_heldFrom_8 : decode cX0_heldFrom 8 = .ok (.iload_n 3, 1) := by decide +kernel
theorem dX0_heldFrom_9 : decode cX0_heldFrom 9 = .ok (.if_icmp .ge 34, 3) := by decide +kernel
theorem dX0_heldFrom_12 : decode cX0_heldFrom 12 = .ok (.aload_n 0, 1) := by decide +kernel
theorem dX0_heldFrom_13 : decode cX0_heldFrom 13 = .ok (.getfield 28, 3) := by decide +kernel
theorem dX0_heldFrom_16 : decode cX0_heldFrom 16 = .ok (.iload 6, 2) := by decide +kernel
theorem dX0_heldFrom_18 : decode cX0_heldFrom 18 = .ok (.iaload, 1) := by decide +kernel
theorem dX0_heldFrom_19 : decode cX0_heldFrom 19 = .ok (.iload_n 2, 1) := by decide +kernel
theorem dX0_heldFrom_20 : decode cX0_heldFrom 20 = .ok (.if_icmp .ne 17, 3) := by decide +kernel
theorem dX0_heldFrom_23 : decode cX0_heldFrom 23 = .ok (.iload 5, 2) := by decide +kernel
theorem dX0_heldFrom_25 : decode cX0_heldFrom 25 = .ok (.aload_n 0, 1) := by decide +kernel
theorem dX0_heldFrom_26 : decode cX0_heldFrom 26 = .ok (.iload_n 1, 1) := by decide +kernel
theorem dX0_heldFrom_27 : decode cX0_heldFrom 27 = .ok (.iload 6, 2) := by decide +kernel
theorem dX0_heldFrom_29 : decode cX0_heldFrom 29 = .ok (.aload 4, 2) := by decide +kernel
theorem dX0_heldFrom_31 : decode cX0_heldFrom 31 = .ok (.invokevirtual 66, 3) := by decide +kernel
theorem dX0_heldFrom_34 : decode cX0_heldFrom 34 = .ok (.iand, 1) := by decide +kernel
theorem dX0_heldFrom_35 : decode cX0_heldFrom 35 = .ok (.istore 5, 2) := by decide +kernel
theorem dX0_heldFrom_37 : decode cX0_heldFrom 37 = .ok (.iinc 6 1, 3) := by decide +kernel
theorem dX0_heldFrom_40 : decode cX0_heldFrom 40 = .ok (.goto (-34), 3) := by decide +kernel
theorem dX0_heldFrom_43 : decode cX0_heldFrom 43 = .ok (.iload 5, 2) := by decide +kernel
theorem dX0_heldFrom_45 : decode cX0_heldFrom 45 = .ok (.iconst (-1), 1) := by decide +kernel
theorem dX0_heldFrom_46 : decode cX0_heldFrom 46 = .ok (.if_icmp .ne 8, 3) := by decide +kernel
theorem dX0_heldFrom_49 : decode cX0_heldFrom 49 = .ok (.bipush (-4), 2) := by decide +kernel
theorem dX0_heldFrom_51 : decode cX0_heldFrom 51 = .ok (.goto 5, 3) := by decide +kernel
theorem dX0_heldFrom_54 : decode cX0_heldFrom 54 = .ok (.iload 5, 2) := by decide +kernel
theorem dX0_heldFrom_56 : decode cX0_heldFrom 56 = .ok (.ireturn, 1) := by decide +kernel
set_option maxRecDepth 20000 in
theorem ggX0_knownTo_J7_fill_53178 : GoodIn wsX0_knownTo wsJ7_fill_53178 := goodIn_r _ [7] (by decide +kernel) (by decide +kernel)
set_option maxRecDepth 20000 in
theorem gX0_knownTo_J7_fill_53178 : GoodIn wsX0_knownTo (va_wsS RX0 73 yJ7_fill_53178 wsJ7_fill_53178) := goodIn_app (goodIn_of _ (by decide +kernel)) ggX0_knownTo_J7_fill_53178
set_option maxRecDepth 20000 in
theorem ggX0_knownTo_X0_settlesWord : GoodIn wsX0_knownTo wsX0_settlesWord := goodIn_r _ [12, 13, 14, 1, 15, 16, 17, 11, 18, 19, 20, 21, 22, 23, 24, 25, 2, 3, 26, 27, 28, 29, 30, 31, 32, 33, 34, 35, 36, 37, 38, 39, 40, 41, 42, 43, 44, 45, 46, 47, 48, 49, 50, 51, 52, 53, 54, 55, 56, 57, 58, 59, 60, 61, 62, 63, 64, 65, 66, 67, 68, 69, 70, 71, 72, 73, 74, 75, 76, 77, 78, 79, 80, 81, 82, 83, 84, 85, 86, 87, 88, 89, 90, 91, 92, 93, 94, 95, 96, 97, 98, 99, 100, 101, 102, 103, 104, 105, 106, 107, 108, 109, 110, 111, 112, 113, 114, 115, 116, 117, 118, 119, 120, 121, 122, 123, 124, 125, 126, 127, 128] (by decide +kernel) (by decide +kernel)
set_option maxRecDepth 20000 in
theorem gX0_knownTo_X0_settlesWord : GoodIn wsX0_knownTo (wsV RX0 79 RX0 yX0_settlesWord wsX0_settlesWord) := goodIn_app (goodIn_of _ (by decide +kernel)) ggX0_knownTo_X0_settlesWord
theorem dX0_knownTo_0 : decode cX0_knownTo 0 = .ok (.aload_n 0, 1) := by decide +kernel
theorem dX0_knownTo_1 : decode cX0_knownTo 1 = .ok (.getfield 35, 3) := by decide +kernel
theorem dX0_knownTo_4 : decode cX0_knownTo 4 = .ok (.iconst (-1), 1) := by decide +kernel
theorem dX0_knownTo_5 : decode cX0_knownTo 5 = .ok (.invokestatic 73, 3) := by decide +kernel
theorem dX0_knownTo_8 : decode cX0_knownTo 8 = .ok (.iconst 0, 1) := by decide +kernel
theorem dX0_knownTo_9 : decode cX0_knownTo 9 = .ok (.istore 5, 2) := by decide +kernel
theorem dX0_knownTo_11 : decode cX0_knownTo 11 = .ok (.iconst 0, 1) := by decide +kernel
theorem dX0_knownTo_12 : decode cX0_knownTo 12 = .ok (.istore 6, 2) := by decide +kernel
theorem dX0_knownTo_14 : decode cX0_knownTo 14 = .ok (.iload 6, 2) := by decide +kernel
theorem dX0_knownTo_16 : decode cX0_knownTo 16 = .ok (.iload_n 3, 1) := by decide +kernel
theorem dX0_knownTo_17 : decode cX0_knownTo 17 = .ok (.if_icmp .ge 46, 3) := by decide +kernel
theorem dX0_knownTo_20 : decode cX0_knownTo 20 = .ok (.aload_n 0, 1) := by decide +kernel
theorem dX0_knownTo_21 : decode cX0_knownTo 21 = .ok (.getfield 22, 3) := by decide +kernel
theorem dX0_knownTo_24 : decode cX0_knownTo 24 = .ok (.iload 6, 2) := by decide +kernel
theorem dX0_knownTo_26 : decode cX0_knownTo 26 = .ok (.iaload, 1) := by decide +kernel
theorem dX0_knownTo_27 : decode cX0_knownTo 27 = .ok (.iload_n 2, 1) := by decide +kernel
theorem dX0_knownTo_28 : decode cX0_knownTo 28 = .ok (.if_icmp .ne 29, 3) := by decide +kernel
theorem dX0_knownTo_31 : decode cX0_knownTo 31 = .ok (.aload_n 0, 1) := by decide +kernel
theorem dX0_knownTo_32 : decode cX0_knownTo 32 = .ok (.iload_n 1, 1) := by decide +kernel
theorem dX0_knownTo_33 : decode cX0_knownTo 33 = .ok (.iload 6, 2) := by decide +kernel
theorem dX0_knownTo_35 : decode cX0_knownTo 35 = .ok (.aload 4, 2) := by decide +kernel
theorem dX0_knownTo_37 : decode cX0_knownTo 37 = .ok (.invokevirtual 79, 3) := by decide +kernel
theorem dX0_knownTo_40 : decode cX0_knownTo 40 = .ok (.ifCond .eq 17, 3) := by decide +kernel
theorem dX0_knownTo_43 : decode cX0_knownTo 43 = .ok (.iload 5, 2) := by decide +kernel
theorem dX0_knownTo_45 : decode cX0_knownTo 45 = .ok (.iconst 1, 1) := by decide +kernel
theorem dX0_knownTo_46 : decode cX0_knownTo 46 = .ok (.aload_n 0, 1) := by decide +kernel
theorem dX0_knownTo_47 : decode cX0_knownTo 47 = .ok (.getfield 25, 3) := by decide +kernel
theorem dX0_knownTo_50 : decode cX0_knownTo 50 = .ok (.iload 6, 2) := by decide +kernel
theorem dX0_knownTo_52 : decode cX0_knownTo 52 = .ok (.iaload, 1) := by decide +kernel
theorem dX0_knownTo_53 : decode cX0_knownTo 53 = .ok (.ishl, 1) := by decide +kernel
theorem dX0_knownTo_54 : decode cX0_knownTo 54 = .ok (.ior, 1) := by decide +kernel
theorem dX0_knownTo_55 : decode cX0_knownTo 55 = .ok (.istore 5, 2) := by decide +kernel
theorem dX0_knownTo_57 : decode cX0_knownTo 57 = .ok (.iinc 6 1, 3) := by decide +kernel
theorem dX0_knownTo_60 : decode cX0_knownTo 60 = .ok (.goto (-46), 3) := by decide +kernel
theorem dX0_knownTo_63 : decode cX0_knownTo 63 = .ok (.iload 5, 2) := by decide +kernel
theorem dX0_knownTo_65 : decode cX0_knownTo 65 = .ok (.ireturn, 1) := by decide +kernel
set_option maxRecDepth 20000 in
theorem ggX0_firstKnown_J7_fill_53178 : GoodIn wsX0_firstKnown wsJ7_fill_53178 := goodIn_r _ [8] (by decide +kernel) (by decide +kernel)
set_option maxRecDepth 20000 in
theorem gX0_firstKnown_J7_fill_53178 : GoodIn wsX0_firstKnown (va_wsS RX0 73 yJ7_fill_53178 wsJ7_fill_53178) := goodIn_app (goodIn_of _ (by decide +kernel)) ggX0_firstKnown_J7_fill_53178
set_option maxRecDepth 20000 in
theorem ggX0_firstKnown_X0_settlesWord : GoodIn wsX0_firstKnown wsX0_settlesWord := goodIn_r _ [13, 14, 15, 1, 16, 17, 18, 12, 19, 20, 21, 22, 23, 24, 25, 26, 3, 4, 27, 28, 29, 30, 31, 32, 33, 34, 35, 36, 37, 38, 39, 40, 41, 42, 43, 44, 45, 46, 47, 48, 49, 50, 51, 52, 53, 54, 55, 56, 57, 58, 59, 60, 61, 62, 63, 64, 65, 66, 67, 68, 69, 70, 71, 72, 73, 74, 75, 76, 77, 78, 79, 80, 81, 82, 83, 84, 85, 86, 87, 88, 89, 90, 91, 92, 93, 94, 95, 96, 97, 98, 99, 100, 101, 102, 103, 104, 105, 106, 107, 108, 109, 110, 111, 112, 113, 114, 115, 116, 117, 118, 119, 120, 121, 122, 123, 124, 125, 126, 127, 128, 129] (by decide +kernel) (by decide +kernel)
set_option maxRecDepth 20000 in
theorem gX0_firstKnown_X0_settlesWord : GoodIn wsX0_firstKnown (wsV RX0 79 RX0 yX0_settlesWord wsX0_settlesWord) := goodIn_app (goodIn_of _ (by decide +kernel)) ggX0_firstKnown_X0_settlesWord
theorem dX0_firstKnown_0 : decode cX0_firstKnown 0 = .ok (.aload_n 0, 1) := by decide +kernel
theorem dX0_firstKnown_1 : decode cX0_firstKnown 1 = .ok (.getfield 35, 3) := by decide +kernel
theorem dX0_firstKnown_4 : decode cX0_firstKnown 4 = .ok (.iconst (-1), 1) := by decide +kernel
theorem dX0_firstKnown_5 : decode cX0_firstKnown 5 = .ok (.invokestatic 73, 3) := by decide +kernel
theorem dX0_firstKnown_8 : decode cX0_firstKnown 8 = .ok (.iconst 0, 1) := by decide +kernel
theorem dX0_firstKnown_9 : decode cX0_firstKnown 9 = .ok (.istore 5, 2) := by decide +kernel
theorem dX0_firstKnown_11 : decode cX0_firstKnown 11 = .ok (.iload 5, 2) := by decide +kernel
theorem dX0_firstKnown_13 : decode cX0_firstKnown 13 = .ok (.aload_n 0, 1) := by decide +kernel
theorem dX0_firstKnown_14 : decode cX0_firstKnown 14 = .ok (.getfield 38, 3) := by decide +kernel
theorem dX0_firstKnown_17 : decode cX0_firstKnown 17 = .ok (.if_icmp .ge 46, 3) := by decide +kernel
theorem dX0_firstKnown_20 : decode cX0_firstKnown 20 = .ok (.aload_n 0, 1) := by decide +kernel
theorem dX0_firstKnown_21 : decode cX0_firstKnown 21 = .ok (.getfield 22, 3) := by decide +kernel
theorem dX0_firstKnown_24 : decode cX0_firstKnown 24 = .ok (.iload 5, 2) := by decide +kernel
theorem dX0_firstKnown_26 : decode cX0_firstKnown 26 = .ok (.iaload, 1) := by decide +kernel
theorem dX0_firstKnown_27 : decode cX0_firstKnown 27 = .ok (.iload_n 2, 1) := by decide +kernel
theorem dX0_firstKnown_28 : decode cX0_firstKnown 28 = .ok (.if_icmp .ne 29, 3) := by decide +kernel
theorem dX0_firstKnown_31 : decode cX0_firstKnown 31 = .ok (.aload_n 0, 1) := by decide +kernel
theorem dX0_firstKnown_32 : decode cX0_firstKnown 32 = .ok (.getfield 25, 3) := by decide +kernel
theorem dX0_firstKnown_35 : decode cX0_firstKnown 35 = .ok (.iload 5, 2) := by decide +kernel
theorem dX0_firstKnown_37 : decode cX0_firstKnown 37 = .ok (.iaload, 1) := by decide +kernel
theorem dX0_firstKnown_38 : decode cX0_firstKnown 38 = .ok (.iload_n 3, 1) := by decide +kernel
theorem dX0_firstKnown_39 : decode cX0_firstKnown 39 = .ok (.if_icmp .ne 18, 3) := by decide +kernel
theorem dX0_firstKnown_42 : decode cX0_firstKnown 42 = .ok (.aload_n 0, 1) := by decide +kernel
theorem dX0_firstKnown_43 : decode cX0_firstKnown 43 = .ok (.iload_n 1, 1) := by decide +kernel
theorem dX0_firstKnown_44 : decode cX0_firstKnown 44 = .ok (.iload 5, 2) := by decide +kernel
theorem dX0_firstKnown_46 : decode cX0_firstKnown 46 = .ok (.aload 4, 2) := by decide +kernel
theorem dX0_firstKnown_48 : decode cX0_firstKnown 48 = .ok (.invokevirtual 79, 3) := by decide +kernel
theorem dX0_firstKnown_51 : decode cX0_firstKnown 51 = .ok (.ifCond .eq 6, 3) := by decide +kernel
theorem dX0_firstKnown_54 : decode cX0_firstKnown 54 = .ok (.iload 5, 2) := by decide +kernel
theorem dX0_firstKnown_56 : decode cX0_firstKnown 56 = .ok (.ireturn, 1) := by decide +kernel
theorem dX0_firstKnown_57 : decode cX0_firstKnown 57 = .ok (.iinc 5 1, 3) := by decide +kernel
theorem dX0_firstKnown_60 : decode cX0_firstKnown 60 = .ok (.goto (-49), 3) := by decide +kernel
theorem dX0_firstKnown_63 : decode cX0_firstKnown 63 = .ok (.bipush (-4), 2) := by decide +kernel
theorem dX0_firstKnown_65 : decode cX0_firstKnown 65 = .ok (.ireturn, 1) := by decide +kernel
set_option maxRecDepth 20000 in
theorem ggX0_settlesWord_X0_isFalse : GoodIn wsX0_settlesWord wsX0_isFalse := goodIn_r _ [8, 9, 2, 86, 87, 88, 89, 90, 91, 92, 93, 94] (by decide +kernel) (by decide +kernel)
set_option maxRecDepth 20000 in
theorem gX0_settlesWord_X0_isFalse : GoodIn wsX0_settlesWord (wsV RX0 49 RX0 yX0_isFalse wsX0_isFalse) := goodIn_app (goodIn_of _ (by decide +kernel)) ggX0_settlesWord_X0_isFalse
set_option maxRecDepth 20000 in
theorem ggX0_settlesWord_X0_heardBy : GoodIn wsX0_settlesWord wsX0_heardBy := goodIn_r _ [13, 1, 14, 15, 16, 17, 18, 19, 20, 21, 22, 23, 24, 25, 26, 27, 28, 29, 30, 31, 32, 33, 34, 35, 36, 37, 38, 39, 40, 41, 42, 43, 44, 45, 46, 47, 48, 49, 50, 51, 52, 53, 54, 55, 56, 57, 58, 59, 60, 61, 62, 63, 64, 65, 66, 67, 68, 69, 70, 71, 72, 73, 74, 75, 76, 86, 87, 88, 89, 90, 91, 92, 93, 94, 95, 96, 97, 98, 99, 100, 101, 102, 103, 104, 105, 106, 107, 108, 109, 110, 111, 112, 113, 114, 115, 116, 117, 118, 119, 120] (by decide +kernel) (by decide +kernel)
set_option maxRecDepth 20000 in
theorem gX0_settlesWord_X0_heardBy : GoodIn wsX0_settlesWord (wsV RX0 66 RX0 yX0_heardBy wsX0_heardBy) := goodIn_app (goodIn_of _ (by decide +kernel)) ggX0_settlesWord_X0_heardBy
set_option maxRecDepth 20000 in
theorem ggX0_settlesWord_X0_isOneWord : GoodIn wsX0_settlesWord wsX0_isOneWord := goodIn_r _ [79, 80, 81, 55, 82, 83, 84, 85] (by decide +kernel) (by decide +kernel)
set_option maxRecDepth 20000 in
theorem gX0_settlesWord_X0_isOneWord : GoodIn wsX0_settlesWord (va_wsS RX0 70 yX0_isOneWord wsX0_isOneWord) := goodIn_app (goodIn_of _ (by decide +kernel)) ggX0_settlesWord_X0_isOneWord
theorem dX0_settlesWord_0 : decode cX0_settlesWord 0 = .ok (.aload_n 0, 1) := by decide +kernel
theorem dX0_settlesWord_1 : decode cX0_settlesWord 1 = .ok (.iload_n 2, 1) := by decide +kernel
theorem dX0_settlesWord_2 : decode cX0_settlesWord 2 = .ok (.invokevirtual 49, 3) := by decide +kernel
theorem dX0_settlesWord_5 : decode cX0_settlesWord 5 = .ok (.ifCond .eq 5, 3) := by decide +kernel
theorem dX0_settlesWord_8 : decode cX0_settlesWord 8 = .ok (.iconst 0, 1) := by decide +kernel
theorem dX0_settlesWord_9 : decode cX0_settlesWord 9 = .ok (.ireturn, 1) := by decide +kernel
theorem dX0_settlesWord_10 : decode cX0_settlesWord 10 = .ok (.aload_n 0, 1) := by decide +kernel
theorem dX0_settlesWord_11 : decode cX0_settlesWord 11 = .ok (.getfield 19, 3) := by decide +kernel
theorem dX0_settlesWord_14 : decode cX0_settlesWord 14 = .ok (.iload_n 2, 1) := by decide +kernel
theorem dX0_settlesWord_15 : decode cX0_settlesWord 15 = .ok (.iaload, 1) := by decide +kernel
theorem dX0_settlesWord_16 : decode cX0_settlesWord 16 = .ok (.iload_n 1, 1) := by decide +kernel
theorem dX0_settlesWord_17 : decode cX0_settlesWord 17 = .ok (.if_icmp .ne 5, 3) := by decide +kernel
theorem dX0_settlesWord_20 : decode cX0_settlesWord 20 = .ok (.iconst 1, 1) := by decide +kernel
theorem dX0_settlesWord_21 : decode cX0_settlesWord 21 = .ok (.ireturn, 1) := by decide +kernel
theorem dX0_settlesWord_22 : decode cX0_settlesWord 22 = .ok (.aload_n 0, 1) := by decide +kernel
theorem dX0_settlesWord_23 : decode cX0_settlesWord 23 = .ok (.getfield 28, 3) := by decide +kernel
theorem dX0_settlesWord_26 : decode cX0_settlesWord 26 = .ok (.iload_n 2, 1) := by decide +kernel
theorem dX0_settlesWord_27 : decode cX0_settlesWord 27 = .ok (.iaload, 1) := by decide +kernel
theorem dX0_settlesWord_28 : decode cX0_settlesWord 28 = .ok (.istore 4, 2) := by decide +kernel
theorem dX0_settlesWord_30 : decode cX0_settlesWord 30 = .ok (.aload_n 0, 1) := by decide +kernel
theorem dX0_settlesWord_31 : decode cX0_settlesWord 31 = .ok (.getfield 35, 3) := by decide +kernel
theorem dX0_settlesWord_34 : decode cX0_settlesWord 34 = .ok (.iload 4, 2) := by decide +kernel
theorem dX0_settlesWord_36 : decode cX0_settlesWord 36 = .ok (.dup2, 1) := by decide +kernel
theorem dX0_settlesWord_37 : decode cX0_settlesWord 37 = .ok (.iaload, 1) := by decide +kernel
theorem dX0_settlesWord_38 : decode cX0_settlesWord 38 = .ok (.aload_n 0, 1) := by decide +kernel
theorem dX0_settlesWord_39 : decode cX0_settlesWord 39 = .ok (.iload_n 1, 1) := by decide +kernel
theorem dX0_settlesWord_40 : decode cX0_settlesWord 40 = .ok (.iload_n 2, 1) := by decide +kernel
theorem dX0_settlesWord_41 : decode cX0_settlesWord 41 = .ok (.aload_n 3, 1) := by decide +kernel
theorem dX0_settlesWord_42 : decode cX0_settlesWord 42 = .ok (.invokevirtual 66, 3) := by decide +kernel
theorem dX0_settlesWord_45 : decode cX0_settlesWord 45 = .ok (.iand, 1) := by decide +kernel
theorem dX0_settlesWord_46 : decode cX0_settlesWord 46 = .ok (.iastore, 1) := by decide +kernel
theorem dX0_settlesWord_47 : decode cX0_settlesWord 47 = .ok (.aload_n 0, 1) := by decide +kernel
theorem dX0_settlesWord_48 : decode cX0_settlesWord 48 = .ok (.getfield 35, 3) := by decide +kernel
theorem dX0_settlesWord_51 : decode cX0_settlesWord 51 = .ok (.iload 4, 2) := by decide +kernel
theorem dX0_settlesWord_53 : decode cX0_settlesWord 53 = .ok (.iaload, 1) := by decide +kernel
theorem dX0_settlesWord_54 : decode cX0_settlesWord 54 = .ok (.invokestatic 70, 3) := by decide +kernel
theorem dX0_settlesWord_57 : decode cX0_settlesWord 57 = .ok (.ireturn, 1) := by decide +kernel
set_option maxRecDepth 20000 in
theorem ggX0_isOneWord_J6_bitCount_0f7a4 : GoodIn wsX0_isOneWord wsJ6_bitCount_0f7a4 := goodIn_r _ [4, 5, 6, 7] (by decide +kernel) (by decide +kernel)
set_option maxRecDepth 20000 in
theorem gX0_isOneWord_J6_bitCount_0f7a4 : GoodIn wsX0_isOneWord (va_wsS RX0 83 yJ6_bitCount_0f7a4 wsJ6_bitCount_0f7a4) := goodIn_app (goodIn_of _ (by decide +kernel)) ggX0_isOneWord_J6_bitCount_0f7a4
theorem dX0_isOneWord_0 : decode cX0_isOneWord 0 = .ok (.iload_n 0, 1) := by decide +kernel
theorem dX0_isOneWord_1 : decode cX0_isOneWord 1 = .ok (.iconst (-1), 1) := by decide +kernel
theorem dX0_isOneWord_2 : decode cX0_isOneWord 2 = .ok (.if_icmp .eq 15, 3) := by decide +kernel
theorem dX0_isOneWord_5 : decode cX0_isOneWord 5 = .ok (.iload_n 0, 1) := by decide +kernel
theorem dX0_isOneWord_6 : decode cX0_isOneWord 6 = .ok (.invokestatic 83, 3) := by decide +kernel
theorem dX0_isOneWord_9 : decode cX0_isOneWord 9 = .ok (.iconst 1, 1) := by decide +kernel
theorem dX0_isOneWord_10 : decode cX0_isOneWord 10 = .ok (.if_icmp .ne 7, 3) := by decide +kernel
theorem dX0_isOneWord_13 : decode cX0_isOneWord 13 = .ok (.iconst 1, 1) := by decide +kernel
theorem dX0_isOneWord_14 : decode cX0_isOneWord 14 = .ok (.goto 4, 3) := by decide +kernel
theorem dX0_isOneWord_17 : decode cX0_isOneWord 17 = .ok (.iconst 0, 1) := by decide +kernel
theorem dX0_isOneWord_18 : decode cX0_isOneWord 18 = .ok (.ireturn, 1) := by decide +kernel
theorem dX1_init_0 : decode cX1_init 0 = .ok (.aload_n 0, 1) := by decide +kernel
theorem dX1_init_1 : decode cX1_init 1 = .ok (.invokespecial 3, 3) := by decide +kernel
theorem dX1_init_4 : decode cX1_init 4 = .ok (.aload_n 0, 1) := by decide +kernel
theorem dX1_init_5 : decode cX1_init 5 = .ok (.aload_n 1, 1) := by decide +kernel
theorem dX1_init_6 : decode cX1_init 6 = .ok (.putfield 9, 3) := by decide +kernel
theorem dX1_init_9 : decode cX1_init 9 = .ok (.aload_n 0, 1) := by decide +kernel
theorem dX1_init_10 : decode cX1_init 10 = .ok (.bipush 10, 2) := by decide +kernel
theorem dX1_init_12 : decode cX1_init 12 = .ok (.newarray .int, 2) := by decide +kernel
theorem dX1_init_14 : decode cX1_init 14 = .ok (.putfield 15, 3) := by decide +kernel
theorem dX1_init_17 : decode cX1_init 17 = .ok (.aload_n 0, 1) := by decide +kernel
theorem dX1_init_18 : decode cX1_init 18 = .ok (.bipush 10, 2) := by decide +kernel
theorem dX1_init_20 : decode cX1_init 20 = .ok (.newarray .int, 2) := by decide +kernel
theorem dX1_init_22 : decode cX1_init 22 = .ok (.putfield 19, 3) := by decide +kernel
theorem dX1_init_25 : decode cX1_init 25 = .ok (.aload_n 0, 1) := by decide +kernel
theorem dX1_init_26 : decode cX1_init 26 = .ok (.bipush 10, 2) := by decide +kernel
theorem dX1_init_28 : decode cX1_init 28 = .ok (.newarray .int, 2) := by decide +kernel
theorem dX1_init_30 : decode cX1_init 30 = .ok (.putfield 22, 3) := by decide +kernel
theorem dX1_init_33 : decode cX1_init 33 = .ok (.aload_n 0, 1) := by decide +kernel
theorem dX1_init_34 : decode cX1_init 34 = .ok (.bipush 6, 2) := by decide +kernel
theorem dX1_init_36 : decode cX1_init 36 = .ok (.newarray .int, 2) := by decide +kernel
theorem dX1_init_38 : decode cX1_init 38 = .ok (.putfield 25, 3) := by decide +kernel
theorem dX1_init_41 : decode cX1_init 41 = .ok (.aload_n 0, 1) := by decide +kernel
theorem dX1_init_42 : decode cX1_init 42 = .ok (.bipush 6, 2) := by decide +kernel
theorem dX1_init_44 : decode cX1_init 44 = .ok (.newarray .int, 2) := by decide +kernel
theorem dX1_init_46 : decode cX1_init 46 = .ok (.putfield 28, 3) := by decide +kernel
theorem dX1_init_49 : decode cX1_init 49 = .ok (.aload_n 0, 1) := by decide +kernel
theorem dX1_init_50 : decode cX1_init 50 = .ok (.bipush 10, 2) := by decide +kernel
theorem dX1_init_52 : decode cX1_init 52 = .ok (.newarray .int, 2) := by decide +kernel
theorem dX1_init_54 : decode cX1_init 54 = .ok (.putfield 31, 3) := by decide +kernel
theorem dX1_init_57 : decode cX1_init 57 = .ok (.aload_n 0, 1) := by decide +kernel
theorem dX1_init_58 : decode cX1_init 58 = .ok (.bipush 100, 2) := by decide +kernel
theorem dX1_init_60 : decode cX1_init 60 = .ok (.newarray .int, 2) := by decide +kernel
theorem dX1_init_62 : decode cX1_init 62 = .ok (.putfield 34, 3) := by decide +kernel
theorem dX1_init_65 : decode cX1_init 65 = .ok (.aload_n 0, 1) := by decide +kernel
theorem dX1_init_66 : decode cX1_init 66 = .ok (.bipush 10, 2) := by decide +kernel
theorem dX1_init_68 : decode cX1_init 68 = .ok (.newarray .int, 2) := by decide +kernel
theorem dX1_init_70 : decode cX1_init 70 = .ok (.putfield 37, 3) := by decide +kernel
theorem dX1_init_73 : decode cX1_init 73 = .ok (.return_, 1) := by decide +kernel
theorem dX1_addPlace_0 : decode cX1_addPlace 0 = .ok (.aload_n 0, 1) := by decide +kernel
theorem dX1_addPlace_1 : decode cX1_addPlace 1 = .ok (.getfield 40, 3) := by decide +kernel
theorem dX1_addPlace_4 : decode cX1_addPlace 4 = .ok (.bipush 10, 2) := by decide +kernel
theorem dX1_addPlace_6 : decode cX1_addPlace 6 = .ok (.if_icmp .lt 5, 3) := by decide +kernel
theorem dX1_addPlace_9 : decode cX1_addPlace 9 = .ok (.iconst 0, 1) := by decide +kernel
theorem dX1_addPlace_10 : decode cX1_addPlace 10 = .ok (.ireturn, 1) := by decide +kernel
theorem dX1_addPlace_11 : decode cX1_addPlace 11 = .ok (.aload_n 0, 1) := by decide +kernel
theorem dX1_addPlace_12 : decode cX1_addPlace 12 = .ok (.getfield 15, 3) := by decide +kernel
theorem dX1_addPlace_15 : decode cX1_addPlace 15 = .ok (.aload_n 0, 1) := by decide +kernel
theorem dX1_addPlace_16 : decode cX1_addPlace 16 = .ok (.getfield 40, 3) := by decide +kernel
theorem dX1_addPlace_19 : decode cX1_addPlace 19 = .ok (.iload_n 1, 1) := by decide +kernel
theorem dX1_addPlace_20 : decode cX1_addPlace 20 = .ok (.iastore, 1) := by decide +kernel
theorem dX1_addPlace_21 : decode cX1_addPlace 21 = .ok (.aload_n 0, 1) := by decide +kernel
theorem dX1_addPlace_22 : decode cX1_addPlace 22 = .ok (.getfield 19, 3) := by decide +kernel
theorem dX1_addPlace_25 : decode cX1_addPlace 25 = .ok (.aload_n 0, 1) := by decide +kernel
theorem dX1_addPlace_26 : decode cX1_addPlace 26 = .ok (.getfield 40, 3) := by decide +kernel
theorem dX1_addPlace_29 : decode cX1_addPlace 29 = .ok (.iload_n 2, 1) := by decide +kernel
theorem dX1_addPlace_30 : decode cX1_addPlace 30 = .ok (.iastore, 1) := by decide +kernel
theorem dX1_addPlace_31 : decode cX1_addPlace 31 = .ok (.aload_n 0, 1) := by decide +kernel
theorem dX1_addPlace_32 : decode cX1_addPlace 32 = .ok (.getfield 22, 3) := by decide +kernel
theorem dX1_addPlace_35 : decode cX1_addPlace 35 = .ok (.aload_n 0, 1) := by decide +kernel
theorem dX1_addPlace_36 : decode cX1_addPlace 36 = .ok (.getfield 40, 3) := by decide +kernel
theorem dX1_addPlace_39 : decode cX1_addPlace 39 = .ok (.iload_n 3, 1) := by decide +kernel
theorem dX1_addPlace_40 : decode cX1_addPlace 40 = .ok (.iastore, 1) := by decide +kernel
theorem dX1_addPlace_41 : decode cX1_addPlace 41 = .ok (.aload_n 0, 1) := by decide +kernel
theorem dX1_addPlace_42 : decode cX1_addPlace 42 = .ok (.dup, 1) := by decide +kernel
theorem dX1_addPlace_43 : decode cX1_addPlace 43 = .ok (.getfield 40, 3) := by decide +kernel
theorem dX1_addPlace_46 : decode cX1_addPlace 46 = .ok (.iconst 1, 1) := by decide +kernel
theorem dX1_addPlace_47 : decode cX1_addPlace 47 = .ok (.iadd, 1) := by decide +kernel
theorem dX1_addPlace_48 : decode cX1_addPlace 48 = .ok (.putfield 40, 3) := by decide +kernel
theorem dX1_addPlace_51 : decode cX1_addPlace 51 = .ok (.iconst 1, 1) := by decide +kernel
theorem dX1_addPlace_52 : decode cX1_addPlace 52 = .ok (.ireturn, 1) := by decide +kernel
theorem dX1_addRidge_0 : decode cX1_addRidge 0 = .ok (.aload_n 0, 1) := by decide +kernel
theorem dX1_addRidge_1 : decode cX1_addRidge 1 = .ok (.getfield 44, 3) := by decide +kernel
theorem dX1_addRidge_4 : decode cX1_addRidge 4 = .ok (.bipush 6, 2) := by decide +kernel
theorem dX1_addRidge_6 : decode cX1_addRidge 6 = .ok (.if_icmp .lt 5, 3) := by decide +kernel
theorem dX1_addRidge_9 : decode cX1_addRidge 9 = .ok (.iconst 0, 1) := by decide +kernel
theorem dX1_addRidge_10 : decode cX1_addRidge 10 = .ok (.ireturn, 1) := by decide +kernel
theorem dX1_addRidge_11 : decode cX1_addRidge 11 = .ok (.aload_n 0, 1) := by decide +kernel
theorem dX1_addRidge_12 : decode cX1_addRidge 12 = .ok (.getfield 25, 3) := by decide +kernel
theorem dX1_addRidge_15 : decode cX1_addRidge 15 = .ok (.aload_n 0, 1) := by decide +kernel
theorem dX1_addRidge_16 : decode cX1_addRidge 16 = .ok (.getfield 44, 3) := by decide +kernel
theorem dX1_addRidge_19 : decode cX1_addRidge 19 = .ok (.iload_n 1, 1) := by decide +kernel
theorem dX1_addRidge_20 : decode cX1_addRidge 20 = .ok (.iastore, 1) := by decide +kernel
theorem dX1_addRidge_21 : decode cX1_addRidge 21 = .ok (.aload_n 0, 1) := by decide +kernel
theorem dX1_addRidge_22 : decode cX1_addRidge 22 = .ok (.getfield 28, 3) := by decide +kernel
theorem dX1_addRidge_25 : decode cX1_addRidge 25 = .ok (.aload_n 0, 1) := by decide +kernel
theorem dX1_addRidge_26 : decode cX1_addRidge 26 = .ok (.getfield 44, 3) := by decide +kernel
theorem dX1_addRidge_29 : decode cX1_addRidge 29 = .ok (.iload_n 2, 1) := by decide +kernel
theorem dX1_addRidge_30 : decode cX1_addRidge 30 = .ok (.iastore, 1) := by decide +kernel
theorem dX1_addRidge_31 : decode cX1_addRidge 31 = .ok (.aload_n 0, 1) := by decide +kernel
theorem dX1_addRidge_32 : decode cX1_addRidge 32 = .ok (.dup, 1) := by decide +kernel
theorem dX1_addRidge_33 : decode cX1_addRidge 33 = .ok (.getfield 44, 3) := by decide +kernel
theorem dX1_addRidge_36 : decode cX1_addRidge 36 = .ok (.iconst 1, 1) := by decide +kernel
theorem dX1_addRidge_37 : decode cX1_addRidge 37 = .ok (.iadd, 1) := by decide +kernel
theorem dX1_addRidge_38 : decode cX1_addRidge 38 = .ok (.putfield 44, 3) := by decide +kernel
theorem dX1_addRidge_41 : decode cX1_addRidge 41 = .ok (.iconst 1, 1) := by decide +kernel
theorem dX1_addRidge_42 : decode cX1_addRidge 42 = .ok (.ireturn, 1) := by decide +kernel
theorem dX1_isPlace_0 : decode cX1_isPlace 0 = .ok (.iload_n 1, 1) := by decide +kernel
theorem dX1_isPlace_1 : decode cX1_isPlace 1 = .ok (.ifCond .lt 15, 3) := by decide +kernel
theorem dX1_isPlace_4 : decode cX1_isPlace 4 = .ok (.iload_n 1, 1) := by decide +kernel
theorem dX1_isPlace_5 : decode cX1_isPlace 5 = .ok (.aload_n 0, 1) := by decide +kernel
theorem dX1_isPlace_6 : decode cX1_isPlace 6 = .ok (.getfield 40, 3) := by decide +kernel
theorem dX1_isPlace_9 : decode cX1_isPlace 9 = .ok (.if_icmp .ge 7, 3) := by decide +kernel
theorem dX1_isPlace_12 : decode cX1_isPlace 12 = .ok (.iconst 1, 1) := by decide +kernel
theorem dX1_isPlace_13 : decode cX1_isPlace 13 = .ok (.goto 4, 3) := by decide +kernel
theorem dX1_isPlace_16 : decode cX1_isPlace 16 = .ok (.iconst 0, 1) := by decide +kernel
theorem dX1_isPlace_17 : decode cX1_isPlace 17 = .ok (.ireturn, 1) := by decide +kernel
set_option maxRecDepth 20000 in
theorem ggX1_blurFrom_X4_windAt : GoodIn wsX1_blurFrom wsX4_windAt := goodIn_r _ [15, 16, 17, 4, 18, 19, 9, 10, 20, 21, 22, 14, 23, 24, 25, 26, 27, 28, 29, 30, 58, 59, 60] (by decide +kernel) (by decide +kernel)
set_option maxRecDepth 20000 in
theorem gX1_blurFrom_X4_windAt : GoodIn wsX1_blurFrom (wsV RX1 53 RX4 yX4_windAt wsX4_windAt) := goodIn_app (goodIn_of _ (by decide +kernel)) ggX1_blurFrom_X4_windAt
set_option maxRecDepth 20000 in
theorem ggX1_blurFrom_J6_signum_0f7a4 : GoodIn wsX1_blurFrom wsJ6_signum_0f7a4 := goodIn_r _ [34] (by decide +kernel) (by decide +kernel)
set_option maxRecDepth 20000 in
theorem gX1_blurFrom_J6_signum_0f7a4 : GoodIn wsX1_blurFrom (va_wsS RX1 58 yJ6_signum_0f7a4 wsJ6_signum_0f7a4) := goodIn_app (goodIn_of _ (by decide +kernel)) ggX1_blurFrom_J6_signum_0f7a4
set_option maxRecDepth 20000 in
theorem ggX1_blurFrom_X1_blurOfRidges : GoodIn wsX1_blurFrom wsX1_blurOfRidges := goodIn_r _ [39, 1, 40, 17, 4, 18, 8, 9, 10, 41, 42, 43, 44, 45, 46, 47, 48, 49, 50, 51, 52, 53, 54, 55, 56, 57] (by decide +kernel) (by decide +kernel)
set_option maxRecDepth 20000 in
theorem gX1_blurFrom_X1_blurOfRidges : GoodIn wsX1_blurFrom (wsV RX1 63 RX1 yX1_blurOfRidges wsX1_blurOfRidges) := goodIn_app (goodIn_of _ (by decide +kernel)) ggX1_blurFrom_X1_blurOfRidges
theorem dX1_blurFrom_0 : decode cX1_blurFrom 0 = .ok (.iload_n 1, 1) := by decide +kernel
theorem dX1_blurFrom_1 : decode cX1_blurFrom 1 = .ok (.iload_n 2, 1) := by decide +kernel
theorem dX1_blurFrom_2 : decode cX1_blurFrom 2 = .ok (.if_icmp .ne 5, 3) := by decide +kernel
theorem dX1_blurFrom_5 : decode cX1_blurFrom 5 = .ok (.iconst 0, 1) := by decide +kernel
theorem dX1_blurFrom_6 : decode cX1_blurFrom 6 = .ok (.ireturn, 1) := by decide +kernel
theorem dX1_blurFrom_7 : decode cX1_blurFrom 7 = .ok (.aload_n 0, 1) := by decide +kernel
theorem dX1_blurFrom_8 : decode cX1_blurFrom 8 = .ok (.getfield 15, 3) := by decide +kernel
theorem dX1_blurFrom_11 : decode cX1_blurFrom 11 = .ok (.iload_n 1, 1) := by decide +kernel
theorem dX1_blurFrom_12 : decode cX1_blurFrom 12 = .ok (.iaload, 1) := by decide +kernel
theorem dX1_blurFrom_13 : decode cX1_blurFrom 13 = .ok (.aload_n 0, 1) := by decide +kernel
theorem dX1_blurFrom_14 : decode cX1_blurFrom 14 = .ok (.getfield 15, 3) := by decide +kernel
theorem dX1_blurFrom_17 : decode cX1_blurFrom 17 = .ok (.iload_n 2, 1) := by decide +kernel
theorem dX1_blurFrom_18 : decode cX1_blurFrom 18 = .ok (.iaload, 1) := by decide +kernel
theorem dX1_blurFrom_19 : decode cX1_blurFrom 19 = .ok (.isub, 1) := by decide +kernel
theorem dX1_blurFrom_20 : decode cX1_blurFrom 20 = .ok (.invokestatic 47, 3) := by decide +kernel
theorem dX1_blurFrom_23 : decode cX1_blurFrom 23 = .ok (.aload_n 0, 1) := by decide +kernel
theorem dX1_blurFrom_24 : decode cX1_blurFrom 24 = .ok (.getfield 19, 3) := by decide +kernel
theorem dX1_blurFrom_27 : decode cX1_blurFrom 27 = .ok (.iload_n 1, 1) := by decide +kernel
theorem dX1_blurFrom_28 : decode cX1_blurFrom 28 = .ok (.iaload, 1) := by decide +kernel
theorem dX1_blurFrom_29 : decode cX1_blurFrom 29 = .ok (.aload_n 0, 1) := by decide +kernel
theorem dX1_blurFrom_30 : decode cX1_blurFrom 30 = .ok (.getfield 19, 3) := by decide +kernel
theorem dX1_blurFrom_33 : decode cX1_blurFrom 33 = .ok (.iload_n 2, 1) := by decide +kernel
theorem dX1_blurFrom_34 : decode cX1_blurFrom 34 = .ok (.iaload, 1) := by decide +kernel
theorem dX1_blurFrom_35 : decode cX1_blurFrom 35 = .ok (.isub, 1) := by decide +kernel
theorem dX1_blurFrom_36 : decode cX1_blurFrom 36 = .ok (.invokestatic 47, 3) := by decide +kernel
theorem dX1_blurFrom_39 : decode cX1_blurFrom 39 = .ok (.iadd, 1) := by decide +kernel
theorem dX1_blurFrom_40 : decode cX1_blurFrom 40 = .ok (.istore 4, 2) := by decide +kernel
theorem dX1_blurFrom_42 : decode cX1_blurFrom 42 = .ok (.aload_n 0, 1) := by decide +kernel
theorem dX1_blurFrom_43 : decode cX1_blurFrom 43 = .ok (.getfield 9, 3) := by decide +kernel
theorem dX1_blurFrom_46 : decode cX1_blurFrom 46 = .ok (.iload_n 3, 1) := by decide +kernel
theorem dX1_blurFrom_47 : decode cX1_blurFrom 47 = .ok (.invokevirtual 53, 3) := by decide +kernel
theorem dX1_blurFrom_50 : decode cX1_blurFrom 50 = .ok (.istore 5, 2) := by decide +kernel
theorem dX1_blurFrom_52 : decode cX1_blurFrom 52 = .ok (.iload 5, 2) := by decide +kernel
theorem dX1_blurFrom_54 : decode cX1_blurFrom 54 = .ok (.bipush 9, 2) := by decide +kernel
theorem dX1_blurFrom_56 : decode cX1_blurFrom 56 = .ok (.if_icmp .ne 7, 3) := by decide +kernel
theorem dX1_blurFrom_59 : decode cX1_blurFrom 59 = .ok (.iconst 2, 1) := by decide +kernel
theorem dX1_blurFrom_60 : decode cX1_blurFrom 60 = .ok (.goto 22, 3) := by decide +kernel
theorem dX1_blurFrom_63 : decode cX1_blurFrom 63 = .ok (.aload_n 0, 1) := by decide +kernel
theorem dX1_blurFrom_64 : decode cX1_blurFrom 64 = .ok (.getfield 15, 3) := by decide +kernel
theorem dX1_blurFrom_67 : decode cX1_blurFrom 67 = .ok (.iload_n 1, 1) := by decide +kernel
theorem dX1_blurFrom_68 : decode cX1_blurFrom 68 = .ok (.iaload, 1) := by decide +kernel
theorem dX1_blurFrom_69 : decode cX1_blurFrom 69 = .ok (.aload_n 0, 1) := by decide +kernel
theorem dX1_blurFrom_70 : decode cX1_blurFrom 70 = .ok (.getfield 15, 3) := by decide +kernel
theorem dX1_blurFrom_73 : decode cX1_blurFrom 73 = .ok (.iload_n 2, 1) := by decide +kernel
theorem dX1_blurFrom_74 : decode cX1_blurFrom 74 = .ok (.iaload, 1) := by decide +kernel
theorem dX1_blurFrom_75 : decode cX1_blurFrom 75 = .ok (.isub, 1) := by decide +kernel
theorem dX1_blurFrom_76 : decode cX1_blurFrom 76 = .ok (.invokestatic 58, 3) := by decide +kernel
theorem dX1_blurFrom_79 : decode cX1_blurFrom 79 = .ok (.iload 5, 2) := by decide +kernel
theorem dX1_blurFrom_81 : decode cX1_blurFrom 81 = .ok (.imul, 1) := by decide +kernel
theorem dX1_blurFrom_82 : decode cX1_blurFrom 82 = .ok (.istore 6, 2) := by decide +kernel
theorem dX1_blurFrom_84 : decode cX1_blurFrom 84 = .ok (.iconst 0, 1) := by decide +kernel
theorem dX1_blurFrom_85 : decode cX1_blurFrom 85 = .ok (.iload 4, 2) := by decide +kernel
theorem dX1_blurFrom_87 : decode cX1_blurFrom 87 = .ok (.bipush 20, 2) := by decide +kernel
theorem dX1_blurFrom_89 : decode cX1_blurFrom 89 = .ok (.idiv, 1) := by decide +kernel
theorem dX1_blurFrom_90 : decode cX1_blurFrom 90 = .ok (.aload_n 0, 1) := by decide +kernel
theorem dX1_blurFrom_91 : decode cX1_blurFrom 91 = .ok (.iload_n 1, 1) := by decide +kernel
theorem dX1_blurFrom_92 : decode cX1_blurFrom 92 = .ok (.iload_n 2, 1) := by decide +kernel
theorem dX1_blurFrom_93 : decode cX1_blurFrom 93 = .ok (.invokevirtual 63, 3) := by decide +kernel
theorem dX1_blurFrom_96 : decode cX1_blurFrom 96 = .ok (.iadd, 1) := by decide +kernel
theorem dX1_blurFrom_97 : decode cX1_blurFrom 97 = .ok (.iload 6, 2) := by decide +kernel
theorem dX1_blurFrom_99 : decode cX1_blurFrom 99 = .ok (.iadd, 1) := by decide +kernel
theorem dX1_blurFrom_100 : decode cX1_blurFrom 100 = .ok (.invokestatic 67, 3) := by decide +kernel
theorem dX1_blurFrom_103 : decode cX1_blurFrom 103 = .ok (.ireturn, 1) := by decide +kernel
theorem dX1_blurOfRidges_0 : decode cX1_blurOfRidges 0 = .ok (.aload_n 0, 1) := by decide +kernel
theorem dX1_blurOfRidges_1 : decode cX1_blurOfRidges 1 = .ok (.getfield 15, 3) := by decide +kernel
theorem dX1_blurOfRidges_4 : decode cX1_blurOfRidges 4 = .ok (.iload_n 1, 1) := by decide +kernel
theorem dX1_blurOfRidges_5 : decode cX1_blurOfRidges 5 = .ok (.iaload, 1) := by decide +kernel
theorem dX1_blurOfRidges_6 : decode cX1_blurOfRidges 6 = .ok (.aload_n 0, 1) := by decide +kernel
theorem dX1_blurOfRidges_7 : decode cX1_blurOfRidges 7 = .ok (.getfield 15, 3) := by decide +kernel
theorem dX1_blurOfRidges_10 : decode cX1_blurOfRidges 10 = .ok (.iload_n 2, 1) := by decide +kernel
theorem dX1_blurOfRidges_11 : decode cX1_blurOfRidges 11 = .ok (.iaload, 1) := by decide +kernel
theorem dX1_blurOfRidges_12 : decode cX1_blurOfRidges 12 = .ok (.invokestatic 70, 3) := by decide +kernel
theorem dX1_blurOfRidges_15 : decode cX1_blurOfRidges 15 = .ok (.istore_n 3, 1) := by decide +kernel
theorem dX1_blurOfRidges_16 : decode cX1_blurOfRidges 16 = .ok (.aload_n 0, 1) := by decide +kernel
theorem dX1_blurOfRidges_17 : decode cX1_blurOfRidges 17 = .ok (.getfield 15, 3) := by decide +kernel
theorem dX1_blurOfRidges_20 : decode cX1_blurOfRidges 20 = .ok (.iload_n 1, 1) := by decide +kernel
theorem dX1_blurOfRidges_21 : decode cX1_blurOfRidges 21 = .ok (.iaload, 1) := by decide +kernel
theorem dX1_blurOfRidges_22 : decode cX1_blurOfRidges 22 = .ok (.aload_n 0, 1) := by decide +kernel
theorem dX1_blurOfRidges_23 : decode cX1_blurOfRidges 23 = .ok (.getfield 15, 3) := by decide +kernel
theorem dX1_blurOfRidges_26 : decode cX1_blurOfRidges 26 = .ok (.iload_n 2, 1) := by decide +kernel
theorem dX1_blurOfRidges_27 : decode cX1_blurOfRidges 27 = .ok (.iaload, 1) := by decide +kernel
theorem dX1_blurOfRidges_28 : decode cX1_blurOfRidges 28 = .ok (.invokestatic 67, 3) := by decide +kernel
theorem dX1_blurOfRidges_31 : decode cX1_blurOfRidges 31 = .ok (.istore 4, 2) := by decide +kernel
theorem dX1_blurOfRidges_33 : decode cX1_blurOfRidges 33 = .ok (.iconst 0, 1) := by decide +kernel
theorem dX1_blurOfRidges_34 : decode cX1_blurOfRidges 34 = .ok (.istore 5, 2) := by decide +kernel
theorem dX1_blurOfRidges_36 : decode cX1_blurOfRidges 36 = .ok (.iconst 0, 1) := by decide +kernel
theorem dX1_blurOfRidges_37 : decode cX1_blurOfRidges 37 = .ok (.istore 6, 2) := by decide +kernel
theorem dX1_blurOfRidges_39 : decode cX1_blurOfRidges 39 = .ok (.iload 6, 2) := by decide +kernel
theorem dX1_blurOfRidges_41 : decode cX1_blurOfRidges 41 = .ok (.aload_n 0, 1) := by decide +kernel
theorem dX1_blurOfRidges_42 : decode cX1_blurOfRidges 42 = .ok (.getfield 44, 3) := by decide +kernel
theorem dX1_blurOfRidges_45 : decode cX1_blurOfRidges 45 = .ok (.if_icmp .ge 84, 3) := by decide +kernel
theorem dX1_blurOfRidges_48 : decode cX1_blurOfRidges 48 = .ok (.aload_n 0, 1) := by decide +kernel
theorem dX1_blurOfRidges_49 : decode cX1_blurOfRidges 49 = .ok (.getfield 25, 3) := by decide +kernel
theorem dX1_blurOfRidges_52 : decode cX1_blurOfRidges 52 = .ok (.iload 6, 2) := by decide +kernel
theorem dX1_blurOfRidges_54 : decode cX1_blurOfRidges 54 = .ok (.iaload, 1) := by decide +kernel
theorem dX1_blurOfRidges_55 : decode cX1_blurOfRidges 55 = .ok (.iload_n 3, 1) := by decide +kernel
theorem dX1_blurOfRidges_56 : decode cX1_blurOfRidges 56 = .ok (.if_icmp .le 67, 3) := by decide +kernel
theorem dX1_blurOfRidges_59 : decode cX1_blurOfRidges 59 = .ok (.aload_n 0, 1) := by decide +kernel
theorem dX1_blurOfRidges_60 : decode cX1_blurOfRidges 60 = .ok (.getfield 25, 3) := by decide +kernel
theorem dX1_blurOfRidges_63 : decode cX1_blurOfRidges 63 = .ok (.iload 6, 2) := by decide +kernel
theorem dX1_blurOfRidges_65 : decode cX1_blurOfRidges 65 = .ok (.iaload, 1) := by decide +kernel
theorem dX1_blurOfRidges_66 : decode cX1_blurOfRidges 66 = .ok (.iload 4, 2) := by decide +kernel
theorem dX1_blurOfRidges_68 : decode cX1_blurOfRidges 68 = .ok (.if_icmp .gt 55, 3) := by decide +kernel
theorem dX1_blurOfRidges_71 : decode cX1_blurOfRidges 71 = .ok (.iload 5, 2) := by decide +kernel
theorem dX1_blurOfRidges_73 : decode cX1_blurOfRidges 73 = .ok (.aload_n 0, 1) := by decide +kernel
theorem dX1_blurOfRidges_74 : decode cX1_blurOfRidges 74 = .ok (.getfield 28, 3) := by decide +kernel
theorem dX1_blurOfRidges_77 : decode cX1_blurOfRidges 77 = .ok (.iload 6, 2) := by decide +kernel
theorem dX1_blurOfRidges_79 : decode cX1_blurOfRidges 79 = .ok (.iaload, 1) := by decide +kernel
theorem dX1_blurOfRidges_80 : decode cX1_blurOfRidges 80 = .ok (.aload_n 0, 1) := by decide +kernel
theorem dX1_blurOfRidges_81 : decode cX1_blurOfRidges 81 = .ok (.getfield 22, 3) := by decide +kernel
theorem dX1_blurOfRidges_84 : decode cX1_blurOfRidges 84 = .ok (.iload_n 1, 1) := by decide +kernel
theorem dX1_blurOfRidges_85 : decode cX1_blurOfRidges 85 = .ok (.iaload, 1) := by decide +kernel
theorem dX1_blurOfRidges_86 : decode cX1_blurOfRidges 86 = .ok (.if_icmp .le 7, 3) := by decide +kernel
theorem dX1_blurOfRidges_89 : decode cX1_blurOfRidges 89 = .ok (.iconst 1, 1) := by decide +kernel
theorem dX1_blurOfRidges_90 : decode cX1_blurOfRidges 90 = .ok (.goto 4, 3) := by decide +kernel
theorem dX1_blurOfRidges_93 : decode cX1_blurOfRidges 93 = .ok (.iconst 0, 1) := by decide +kernel
theorem dX1_blurOfRidges_94 : decode cX1_blurOfRidges 94 = .ok (.iadd, 1) := by decide +kernel
theorem dX1_blurOfRidges_95 : decode cX1_blurOfRidges 95 = .ok (.istore 5, 2) := by decide +kernel
theorem dX1_blurOfRidges_97 : decode cX1_blurOfRidges 97 = .ok (.iload 5, 2) := by decide +kernel
theorem dX1_blurOfRidges_99 : decode cX1_blurOfRidges 99 = .ok (.aload_n 0, 1) := by decide +kernel
theorem dX1_blurOfRidges_100 : decode cX1_blurOfRidges 100 = .ok (.getfield 28, 3) := by decide +kernel
theorem dX1_blurOfRidges_103 : decode cX1_blurOfRidges 103 = .ok (.iload 6, 2) := by decide +kernel
theorem dX1_blurOfRidges_105 : decode cX1_blurOfRidges 105 = .ok (.iaload, 1) := by decide +kernel
theorem dX1_blurOfRidges_106 : decode cX1_blurOfRidges 106 = .ok (.aload_n 0, 1) := by decide +kernel
theorem dX1_blurOfRidges_107 : decode cX1_blurOfRidges 107 = .ok (.getfield 22, 3) := by decide +kernel
theorem dX1_blurOfRidges_110 : decode cX1_blurOfRidges 110 = .ok (.iload_n 2, 1) := by decide +kernel
theorem dX1_blurOfRidges_111 : decode cX1_blurOfRidges 111 = .ok (.iaload, 1) := by decide +kernel
theorem dX1_blurOfRidges_112 : decode cX1_blurOfRidges 112 = .ok (.if_icmp .le 7, 3) := by decide +kernel
theorem dX1_blurOfRidges_115 : decode cX1_blurOfRidges 115 = .ok (.iconst 1, 1) := by decide +kernel
theorem dX1_blurOfRidges_116 : decode cX1_blurOfRidges 116 = .ok (.goto 4, 3) := by decide +kernel
theorem dX1_blurOfRidges_119 : decode cX1_blurOfRidges 119 = .ok (.iconst 0, 1) := by decide +kernel
theorem dX1_blurOfRidges_120 : decode cX1_blurOfRidges 120 = .ok (.iadd, 1) := by decide +kernel
theorem dX1_blurOfRidges_121 : decode cX1_blurOfRidges 121 = .ok (.istore 5, 2) := by decide +kernel
theorem dX1_blurOfRidges_123 : decode cX1_blurOfRidges 123 = .ok (.iinc 6 1, 3) := by decide +kernel
theorem dX1_blurOfRidges_126 : decode cX1_blurOfRidges 126 = .ok (.goto (-87), 3) := by decide +kernel
theorem dX1_blurOfRidges_129 : decode cX1_blurOfRidges 129 = .ok (.iload 5, 2) := by decide +kernel
theorem dX1_blurOfRidges_131 : decode cX1_blurOfRidges 131 = .ok (.ireturn, 1) := by decide +kernel
set_option maxRecDepth 20000 in
theorem ggX1_hearersOf_X1_blurFrom : GoodIn wsX1_hearersOf wsX1_blurFrom := goodIn_r _ [6, 7, 8, 9, 10, 11, 12, 13, 14, 15, 16, 17, 18, 19, 20, 21, 22, 23, 24, 25, 26, 27, 28, 29, 30, 31, 32, 33, 34, 35, 36, 37, 38, 39, 40, 41, 42, 43, 5, 44, 45, 46, 47, 48, 49, 50, 51, 52, 53, 54, 55, 56, 57, 58, 59, 60, 61, 62, 63, 64, 65] (by decide +kernel) (by decide +kernel)
set_option maxRecDepth 20000 in
theorem gX1_hearersOf_X1_blurFrom : GoodIn wsX1_hearersOf (wsV RX1 73 RX1 yX1_blurFrom wsX1_blurFrom) := goodIn_app (goodIn_of _ (by decide +kernel)) ggX1_hearersOf_X1_blurFrom
theorem dX1_hearersOf_0 : decode cX1_hearersOf 0 = .ok (.iconst 0, 1) := by decide +kernel
theorem dX1_hearersOf_1 : decode cX1_hearersOf 1 = .ok (.istore_n 3, 1) := by decide +kernel
theorem dX1_hearersOf_2 : decode cX1_hearersOf 2 = .ok (.iconst 0, 1) := by decide +kernel
theorem dX1_hearersOf_3 : decode cX1_hearersOf 3 = .ok (.istore 4, 2) := by decide +kernel
theorem dX1_hearersOf_5 : decode cX1_hearersOf 5 = .ok (.iload 4, 2) := by decide +kernel
theorem dX1_hearersOf_7 : decode cX1_hearersOf 7 = .ok (.aload_n 0, 1) := by decide +kernel
theorem dX1_hearersOf_8 : decode cX1_hearersOf 8 = .ok (.getfield 40, 3) := by decide +kernel
theorem dX1_hearersOf_11 : decode cX1_hearersOf 11 = .ok (.if_icmp .ge 34, 3) := by decide +kernel
theorem dX1_hearersOf_14 : decode cX1_hearersOf 14 = .ok (.iload 4, 2) := by decide +kernel
theorem dX1_hearersOf_16 : decode cX1_hearersOf 16 = .ok (.iload_n 1, 1) := by decide +kernel
theorem dX1_hearersOf_17 : decode cX1_hearersOf 17 = .ok (.if_icmp .eq 22, 3) := by decide +kernel
theorem dX1_hearersOf_20 : decode cX1_hearersOf 20 = .ok (.aload_n 0, 1) := by decide +kernel
theorem dX1_hearersOf_21 : decode cX1_hearersOf 21 = .ok (.iload_n 1, 1) := by decide +kernel
theorem dX1_hearersOf_22 : decode cX1_hearersOf 22 = .ok (.iload 4, 2) := by decide +kernel
theorem dX1_hearersOf_24 : decode cX1_hearersOf 24 = .ok (.iload_n 2, 1) := by decide +kernel
theorem dX1_hearersOf_25 : decode cX1_hearersOf 25 = .ok (.invokevirtual 73, 3) := by decide +kernel
theorem dX1_hearersOf_28 : decode cX1_hearersOf 28 = .ok (.iconst 5, 1) := by decide +kernel
theorem dX1_hearersOf_29 : decode cX1_hearersOf 29 = .ok (.if_icmp .gt 10, 3) := by decide +kernel
theorem dX1_hearersOf_32 : decode cX1_hearersOf 32 = .ok (.iload_n 3, 1) := by decide +kernel
theorem dX1_hearersOf_33 : decode cX1_hearersOf 33 = .ok (.iconst 1, 1) := by decide +kernel
theorem dX1_hearersOf_34 : decode cX1_hearersOf 34 = .ok (.iload 4, 2) := by decide +kernel
theorem dX1_hearersOf_36 : decode cX1_hearersOf 36 = .ok (.ishl, 1) := by decide +kernel
theorem dX1_hearersOf_37 : decode cX1_hearersOf 37 = .ok (.ior, 1) := by decide +kernel
theorem dX1_hearersOf_38 : decode cX1_hearersOf 38 = .ok (.istore_n 3, 1) := by decide +kernel
theorem dX1_hearersOf_39 : decode cX1_hearersOf 39 = .ok (.iinc 4 1, 3) := by decide +kernel
theorem dX1_hearersOf_42 : decode cX1_hearersOf 42 = .ok (.goto (-37), 3) := by decide +kernel
theorem dX1_hearersOf_45 : decode cX1_hearersOf 45 = .ok (.iload_n 3, 1) := by decide +kernel
theorem dX1_hearersOf_46 : decode cX1_hearersOf 46 = .ok (.ireturn, 1) := by decide +kernel
set_option maxRecDepth 20000 in
theorem ggX1_heardFrom_X1_blurFrom : GoodIn wsX1_heardFrom wsX1_blurFrom := goodIn_r _ [6, 7, 8, 9, 10, 11, 12, 13, 14, 15, 16, 17, 18, 19, 20, 21, 22, 23, 24, 25, 26, 27, 28, 29, 30, 31, 32, 33, 34, 35, 36, 37, 38, 39, 40, 41, 42, 43, 5, 44, 45, 46, 47, 48, 49, 50, 51, 52, 53, 54, 55, 56, 57, 58, 59, 60, 61, 62, 63, 64, 65] (by decide +kernel) (by decide +kernel)
set_option maxRecDepth 20000 in
theorem gX1_heardFrom_X1_blurFrom : GoodIn wsX1_heardFrom (wsV RX1 73 RX1 yX1_blurFrom wsX1_blurFrom) := goodIn_app (goodIn_of _ (by decide +kernel)) ggX1_heardFrom_X1_blurFrom
theorem dX1_heardFrom_0 : decode cX1_heardFrom 0 = .ok (.iconst 0, 1) := by decide +kernel
theorem dX1_heardFrom_1 : decode cX1_heardFrom 1 = .ok (.istore_n 3, 1) := by decide +kernel
theorem dX1_heardFrom_2 : decode cX1_heardFrom 2 = .ok (.iconst 0, 1) := by decide +kernel
theorem dX1_heardFrom_3 : decode cX1_heardFrom 3 = .ok (.istore 4, 2) := by decide +kernel
theorem dX1_heardFrom_5 : decode cX1_heardFrom 5 = .ok (.iload 4, 2) := by decide +kernel
theorem dX1_heardFrom_7 : decode cX1_heardFrom 7 = .ok (.aload_n 0, 1) := by decide +kernel
theorem dX1_heardFrom_8 : decode cX1_heardFrom 8 = .ok (.getfield 40, 3) := by decide +kernel
theorem dX1_heardFrom_11 : decode cX1_heardFrom 11 = .ok (.if_icmp .ge 34, 3) := by decide +kernel
theorem dX1_heardFrom_14 : decode cX1_heardFrom 14 = .ok (.iload 4, 2) := by decide +kernel
theorem dX1_heardFrom_16 : decode cX1_heardFrom 16 = .ok (.iload_n 1, 1) := by decide +kernel
theorem dX1_heardFrom_17 : decode cX1_heardFrom 17 = .ok (.if_icmp .eq 22, 3) := by decide +kernel
theorem dX1_heardFrom_20 : decode cX1_heardFrom 20 = .ok (.aload_n 0, 1) := by decide +kernel
theorem dX1_heardFrom_21 : decode cX1_heardFrom 21 = .ok (.iload 4, 2) := by decide +kernel
theorem dX1_heardFrom_23 : decode cX1_heardFrom 23 = .ok (.iload_n 1, 1) := by decide +kernel
theorem dX1_heardFrom_24 : decode cX1_heardFrom 24 = .ok (.iload_n 2, 1) := by decide +kernel
theorem dX1_heardFrom_25 : decode cX1_heardFrom 25 = .ok (.invokevirtual 73, 3) := by decide +kernel
theorem dX1_heardFrom_28 : decode cX1_heardFrom 28 = .ok (.iconst 5, 1) := by decide +kernel
theorem dX1_heardFrom_29 : decode cX1_heardFrom 29 = .ok (.if_icmp .gt 10, 3) := by decide +kernel
theorem dX1_heardFrom_32 : decode cX1_heardFrom 32 = .ok (.iload_n 3, 1) := by decide +kernel
theorem dX1_heardFrom_33 : decode cX1_heardFrom 33 = .ok (.iconst 1, 1) := by decide +kernel
theorem dX1_heardFrom_34 : decode cX1_heardFrom 34 = .ok (.iload 4, 2) := by decide +kernel
theorem dX1_heardFrom_36 : decode cX1_heardFrom 36 = .ok (.ishl, 1) := by decide +kernel
theorem dX1_heardFrom_37 : decode cX1_heardFrom 37 = .ok (.ior, 1) := by decide +kernel
theorem dX1_heardFrom_38 : decode cX1_heardFrom 38 = .ok (.istore_n 3, 1) := by decide +kernel
theorem dX1_heardFrom_39 : decode cX1_heardFrom 39 = .ok (.iinc 4 1, 3) := by decide +kernel
theorem dX1_heardFrom_42 : decode cX1_heardFrom 42 = .ok (.goto (-37), 3) := by decide +kernel
theorem dX1_heardFrom_45 : decode cX1_heardFrom 45 = .ok (.iload_n 3, 1) := by decide +kernel
theorem dX1_heardFrom_46 : decode cX1_heardFrom 46 = .ok (.ireturn, 1) := by decide +kernel
set_option maxRecDepth 20000 in
theorem ggX1_findWay_X1_measureBlurs : GoodIn wsX1_findWay wsX1_measureBlurs := goodIn_r _ [7, 8, 9, 10, 11, 12, 6, 13, 14, 15, 16, 17, 18, 19, 20, 21, 22, 23, 24, 25, 26, 27, 28, 29, 30, 31, 32, 33, 34, 35, 36, 37, 38, 39, 40, 41, 42, 43, 44, 45, 46, 47, 48, 49, 50, 51, 52, 53, 54, 55, 56, 75, 76, 77, 78, 79, 80, 81, 82, 83, 84, 85, 86, 87, 88, 89, 90] (by decide +kernel) (by decide +kernel)
set_option maxRecDepth 20000 in
theorem gX1_findWay_X1_measureBlurs : GoodIn wsX1_findWay (wsV RX1 77 RX1 yX1_measureBlurs wsX1_measureBlurs) := goodIn_app (goodIn_of _ (by decide +kernel)) ggX1_findWay_X1_measureBlurs
set_option maxRecDepth 20000 in
theorem ggX1_findWay_X1_countSteps : GoodIn wsX1_findWay wsX1_countSteps := goodIn_r _ [60, 1, 8, 61, 62, 63, 64, 65, 66, 67, 6, 68, 9, 75, 76, 77, 78, 79, 80, 81, 82, 83, 84, 85, 86, 87] (by decide +kernel) (by decide +kernel)
set_option maxRecDepth 20000 in
theorem gX1_findWay_X1_countSteps : GoodIn wsX1_findWay (wsV RX1 81 RX1 yX1_countSteps wsX1_countSteps) := goodIn_app (goodIn_of _ (by decide +kernel)) ggX1_findWay_X1_countSteps
set_option maxRecDepth 20000 in
theorem ggX1_findWay_X1_walkWay : GoodIn wsX1_findWay wsX1_walkWay := goodIn_r _ [72, 1, 73, 74, 65, 66, 67, 6, 68, 8, 9, 75, 76, 77, 78, 79, 80, 81, 82, 83, 84, 85, 86, 87] (by decide +kernel) (by decide +kernel)
set_option maxRecDepth 20000 in
theorem gX1_findWay_X1_walkWay : GoodIn wsX1_findWay (wsV RX1 88 RX1 yX1_walkWay wsX1_walkWay) := goodIn_app (goodIn_of _ (by decide +kernel)) ggX1_findWay_X1_walkWay
theorem dX1_findWay_0 : decode cX1_findWay 0 = .ok (.aload_n 0, 1) := by decide +kernel
theorem dX1_findWay_1 : decode cX1_findWay 1 = .ok (.iload_n 3, 1) := by decide +kernel
theorem dX1_findWay_2 : decode cX1_findWay 2 = .ok (.invokevirtual 77, 3) := by decide +kernel
theorem dX1_findWay_5 : decode cX1_findWay 5 = .ok (.iconst 0, 1) := by decide +kernel
theorem dX1_findWay_6 : decode cX1_findWay 6 = .ok (.istore 4, 2) := by decide +kernel
theorem dX1_findWay_8 : decode cX1_findWay 8 = .ok (.iload 4, 2) := by decide +kernel
theorem dX1_findWay_10 : decode cX1_findWay 10 = .ok (.iconst 5, 1) := by decide +kernel
theorem dX1_findWay_11 : decode cX1_findWay 11 = .ok (.if_icmp .gt 41, 3) := by decide +kernel
theorem dX1_findWay_14 : decode cX1_findWay 14 = .ok (.aload_n 0, 1) := by decide +kernel
theorem dX1_findWay_15 : decode cX1_findWay 15 = .ok (.iload_n 2, 1) := by decide +kernel
theorem dX1_findWay_16 : decode cX1_findWay 16 = .ok (.iload 4, 2) := by decide +kernel
theorem dX1_findWay_18 : decode cX1_findWay 18 = .ok (.invokevirtual 81, 3) := by decide +kernel
theorem dX1_findWay_21 : decode cX1_findWay 21 = .ok (.aload_n 0, 1) := by decide +kernel
theorem dX1_findWay_22 : decode cX1_findWay 22 = .ok (.getfield 37, 3) := by decide +kernel
theorem dX1_findWay_25 : decode cX1_findWay 25 = .ok (.iload_n 1, 1) := by decide +kernel
theorem dX1_findWay_26 : decode cX1_findWay 26 = .ok (.iaload, 1) := by decide +kernel
theorem dX1_findWay_27 : decode cX1_findWay 27 = .ok (.iconst (-1), 1) := by decide +kernel
theorem dX1_findWay_28 : decode cX1_findWay 28 = .ok (.if_icmp .eq 18, 3) := by decide +kernel
theorem dX1_findWay_31 : decode cX1_findWay 31 = .ok (.aload_n 0, 1) := by decide +kernel
theorem dX1_findWay_32 : decode cX1_findWay 32 = .ok (.iload 4, 2) := by decide +kernel
theorem dX1_findWay_34 : decode cX1_findWay 34 = .ok (.putfield 85, 3) := by decide +kernel
theorem dX1_findWay_37 : decode cX1_findWay 37 = .ok (.aload_n 0, 1) := by decide +kernel
theorem dX1_findWay_38 : decode cX1_findWay 38 = .ok (.iload_n 1, 1) := by decide +kernel
theorem dX1_findWay_39 : decode cX1_findWay 39 = .ok (.iload 4, 2) := by decide +kernel
theorem dX1_findWay_41 : decode cX1_findWay 41 = .ok (.invokevirtual 88, 3) := by decide +kernel
theorem dX1_findWay_44 : decode cX1_findWay 44 = .ok (.iconst 1, 1) := by decide +kernel
theorem dX1_findWay_45 : decode cX1_findWay 45 = .ok (.ireturn, 1) := by decide +kernel
theorem dX1_findWay_46 : decode cX1_findWay 46 = .ok (.iinc 4 1, 3) := by decide +kernel
theorem dX1_findWay_49 : decode cX1_findWay 49 = .ok (.goto (-41), 3) := by decide +kernel
theorem dX1_findWay_52 : decode cX1_findWay 52 = .ok (.iconst 0, 1) := by decide +kernel
theorem dX1_findWay_53 : decode cX1_findWay 53 = .ok (.ireturn, 1) := by decide +kernel
set_option maxRecDepth 20000 in
theorem ggX1_measureBlurs_X1_blurFrom : GoodIn wsX1_measureBlurs wsX1_blurFrom := goodIn_r _ [7, 8, 9, 10, 11, 12, 13, 14, 15, 16, 17, 18, 19, 20, 21, 22, 23, 24, 25, 26, 27, 28, 29, 30, 31, 32, 33, 34, 35, 36, 37, 38, 39, 40, 41, 42, 43, 44, 6, 45, 46, 47, 48, 49, 50, 51, 52, 53, 54, 55, 56, 57, 58, 59, 60, 61, 62, 63, 64, 65, 66] (by decide +kernel) (by decide +kernel)
set_option maxRecDepth 20000 in
theorem gX1_measureBlurs_X1_blurFrom : GoodIn wsX1_measureBlurs (wsV RX1 73 RX1 yX1_blurFrom wsX1_blurFrom) := goodIn_app (goodIn_of _ (by decide +kernel)) ggX1_measureBlurs_X1_blurFrom
theorem dX1_measureBlurs_0 : decode cX1_measureBlurs 0 = .ok (.iconst 0, 1) := by decide +kernel
theorem dX1_measureBlurs_1 : decode cX1_measureBlurs 1 = .ok (.istore_n 2, 1) := by decide +kernel
theorem dX1_measureBlurs_2 : decode cX1_measureBlurs 2 = .ok (.iload_n 2, 1) := by decide +kernel
theorem dX1_measureBlurs_3 : decode cX1_measureBlurs 3 = .ok (.aload_n 0, 1) := by decide +kernel
theorem dX1_measureBlurs_4 : decode cX1_measureBlurs 4 = .ok (.getfield 40, 3) := by decide +kernel
theorem dX1_measureBlurs_7 : decode cX1_measureBlurs 7 = .ok (.if_icmp .ge 43, 3) := by decide +kernel
theorem dX1_measureBlurs_10 : decode cX1_measureBlurs 10 = .ok (.iconst 0, 1) := by decide +kernel
theorem dX1_measureBlurs_11 : decode cX1_measureBlurs 11 = .ok (.istore_n 3, 1) := by decide +kernel
theorem dX1_measureBlurs_12 : decode cX1_measureBlurs 12 = .ok (.iload_n 3, 1) := by decide +kernel
theorem dX1_measureBlurs_13 : decode cX1_measureBlurs 13 = .ok (.aload_n 0, 1) := by decide +kernel
theorem dX1_measureBlurs_14 : decode cX1_measureBlurs 14 = .ok (.getfield 40, 3) := by decide +kernel
theorem dX1_measureBlurs_17 : decode cX1_measureBlurs 17 = .ok (.if_icmp .ge 27, 3) := by decide +kernel
theorem dX1_measureBlurs_20 : decode cX1_measureBlurs 20 = .ok (.aload_n 0, 1) := by decide +kernel
theorem dX1_measureBlurs_21 : decode cX1_measureBlurs 21 = .ok (.getfield 34, 3) := by decide +kernel
theorem dX1_measureBlurs_24 : decode cX1_measureBlurs 24 = .ok (.iload_n 2, 1) := by decide +kernel
theorem dX1_measureBlurs_25 : decode cX1_measureBlurs 25 = .ok (.bipush 10, 2) := by decide +kernel
theorem dX1_measureBlurs_27 : decode cX1_measureBlurs 27 = .ok (.imul, 1) := by decide +kernel
theorem dX1_measureBlurs_28 : decode cX1_measureBlurs 28 = .ok (.iload_n 3, 1) := by decide +kernel
theorem dX1_measureBlurs_29 : decode cX1_measureBlurs 29 = .ok (.iadd, 1) := by decide +kernel
theorem dX1_measureBlurs_30 : decode cX1_measureBlurs 30 = .ok (.aload_n 0, 1) := by decide +kernel
theorem dX1_measureBlurs_31 : decode cX1_measureBlurs 31 = .ok (.iload_n 2, 1) := by decide +kernel
theorem dX1_measureBlurs_32 : decode cX1_measureBlurs 32 = .ok (.iload_n 3, 1) := by decide +kernel
theorem dX1_measureBlurs_33 : decode cX1_measureBlurs 33 = .ok (.iload_n 1, 1) := by decide +kernel
theorem dX1_measureBlurs_34 : decode cX1_measureBlurs 34 = .ok (.invokevirtual 73, 3) := by decide +kernel
theorem dX1_measureBlurs_37 : decode cX1_measureBlurs 37 = .ok (.iastore, 1) := by decide +kernel
theorem dX1_measureBlurs_38 : decode cX1_measureBlurs 38 = .ok (.iinc 3 1, 3) := by decide +kernel
theorem dX1_measureBlurs_41 : decode cX1_measureBlurs 41 = .ok (.goto (-29), 3) := by decide +kernel
theorem dX1_measureBlurs_44 : decode cX1_measureBlurs 44 = .ok (.iinc 2 1, 3) := by decide +kernel
theorem dX1_measureBlurs_47 : decode cX1_measureBlurs 47 = .ok (.goto (-45), 3) := by decide +kernel
theorem dX1_measureBlurs_50 : decode cX1_measureBlurs 50 = .ok (.return_, 1) := by decide +kernel
set_option maxRecDepth 20000 in
theorem ggX1_countSteps_J7_fill_53178 : GoodIn wsX1_countSteps wsJ7_fill_53178 := goodIn_r _ [6] (by decide +kernel) (by decide +kernel)
set_option maxRecDepth 20000 in
theorem gX1_countSteps_J7_fill_53178 : GoodIn wsX1_countSteps (va_wsS RX1 91 yJ7_fill_53178 wsJ7_fill_53178) := goodIn_app (goodIn_of _ (by decide +kernel)) ggX1_countSteps_J7_fill_53178
set_option maxRecDepth 20000 in
theorem ggX1_countSteps_X1_nextOnWay : GoodIn wsX1_countSteps wsX1_nextOnWay := goodIn_r _ [11, 2, 1, 12, 13, 14, 15, 16, 17, 18, 19, 20, 21, 22, 23, 24, 25] (by decide +kernel) (by decide +kernel)
set_option maxRecDepth 20000 in
theorem gX1_countSteps_X1_nextOnWay : GoodIn wsX1_countSteps (wsV RX1 97 RX1 yX1_nextOnWay wsX1_nextOnWay) := goodIn_app (goodIn_of _ (by decide +kernel)) ggX1_countSteps_X1_nextOnWay
theorem dX1_countSteps_0 : decode cX1_countSteps 0 = .ok (.aload_n 0, 1) := by decide +kernel
theorem dX1_countSteps_1 : decode cX1_countSteps 1 = .ok (.getfield 37, 3) := by decide +kernel
theorem dX1_countSteps_4 : decode cX1_countSteps 4 = .ok (.iconst (-1), 1) := by decide +kernel
theorem dX1_countSteps_5 : decode cX1_countSteps 5 = .ok (.invokestatic 91, 3) := by decide +kernel
theorem dX1_countSteps_8 : decode cX1_countSteps 8 = .ok (.aload_n 0, 1) := by decide +kernel
theorem dX1_countSteps_9 : decode cX1_countSteps 9 = .ok (.getfield 37, 3) := by decide +kernel
theorem dX1_countSteps_12 : decode cX1_countSteps 12 = .ok (.iload_n 1, 1) := by decide +kernel
theorem dX1_countSteps_13 : decode cX1_countSteps 13 = .ok (.iconst 0, 1) := by decide +kernel
theorem dX1_countSteps_14 : decode cX1_countSteps 14 = .ok (.iastore, 1) := by decide +kernel
theorem dX1_countSteps_15 : decode cX1_countSteps 15 = .ok (.iconst 1, 1) := by decide +kernel
theorem dX1_countSteps_16 : decode cX1_countSteps 16 = .ok (.istore_n 3, 1) := by decide +kernel
theorem dX1_countSteps_17 : decode cX1_countSteps 17 = .ok (.iload_n 3, 1) := by decide +kernel
theorem dX1_countSteps_18 : decode cX1_countSteps 18 = .ok (.aload_n 0, 1) := by decide +kernel
theorem dX1_countSteps_19 : decode cX1_countSteps 19 = .ok (.getfield 40, 3) := by decide +kernel
theorem dX1_countSteps_22 : decode cX1_countSteps 22 = .ok (.if_icmp .ge 61, 3) := by decide +kernel
theorem dX1_countSteps_25 : decode cX1_countSteps 25 = .ok (.iconst 0, 1) := by decide +kernel
theorem dX1_countSteps_26 : decode cX1_countSteps 26 = .ok (.istore 4, 2) := by decide +kernel
theorem dX1_countSteps_28 : decode cX1_countSteps 28 = .ok (.iload 4, 2) := by decide +kernel
theorem dX1_countSteps_30 : decode cX1_countSteps 30 = .ok (.aload_n 0, 1) := by decide +kernel
theorem dX1_countSteps_31 : decode cX1_countSteps 31 = .ok (.getfield 40, 3) := by decide +kernel
theorem dX1_countSteps_34 : decode cX1_countSteps 34 = .ok (.if_icmp .ge 43, 3) := by decide +kernel
theorem dX1_countSteps_37 : decode cX1_countSteps 37 = .ok (.aload_n 0, 1) := by decide +kernel
theorem dX1_countSteps_38 : decode cX1_countSteps 38 = .ok (.getfield 37, 3) := by decide +kernel
theorem dX1_countSteps_41 : decode cX1_countSteps 41 = .ok (.iload 4, 2) := by decide +kernel
theorem dX1_countSteps_43 : decode cX1_countSteps 43 = .ok (.iaload, 1) := by decide +kernel
theorem dX1_countSteps_44 : decode cX1_countSteps 44 = .ok (.iconst (-1), 1) := by decide +kernel
theorem dX1_countSteps_45 : decode cX1_countSteps 45 = .ok (.if_icmp .ne 26, 3) := by decide +kernel
theorem dX1_countSteps_48 : decode cX1_countSteps 48 = .ok (.aload_n 0, 1) := by decide +kernel
theorem dX1_countSteps_49 : decode cX1_countSteps 49 = .ok (.iload 4, 2) := by decide +kernel
theorem dX1_countSteps_51 : decode cX1_countSteps 51 = .ok (.iload_n 3, 1) := by decide +kernel
theorem dX1_countSteps_52 : decode cX1_countSteps 52 = .ok (.iconst 1, 1) := by decide +kernel
theorem dX1_countSteps_53 : decode cX1_countSteps 53 = .ok (.isub, 1) := by decide +kernel
theorem dX1_countSteps_54 : decode cX1_countSteps 54 = .ok (.iload_n 2, 1) := by decide +kernel
theorem dX1_countSteps_55 : decode cX1_countSteps 55 = .ok (.invokevirtual 97, 3) := by decide +kernel
theorem dX1_countSteps_58 : decode cX1_countSteps 58 = .ok (.bipush (-4), 2) := by decide +kernel
theorem dX1_countSteps_60 : decode cX1_countSteps 60 = .ok (.if_icmp .eq 11, 3) := by decide +kernel
theorem dX1_countSteps_63 : decode cX1_countSteps 63 = .ok (.aload_n 0, 1) := by decide +kernel
theorem dX1_countSteps_64 : decode cX1_countSteps 64 = .ok (.getfield 37, 3) := by decide +kernel
theorem dX1_countSteps_67 : decode cX1_countSteps 67 = .ok (.iload 4, 2) := by decide +kernel
theorem dX1_countSteps_69 : decode cX1_countSteps 69 = .ok (.iload_n 3, 1) := by decide +kernel
theorem dX1_countSteps_70 : decode cX1_countSteps 70 = .ok (.iastore, 1) := by decide +kernel
theorem dX1_countSteps_71 : decode cX1_countSteps 71 = .ok (.iinc 4 1, 3) := by decide +kernel
theorem dX1_countSteps_74 : decode cX1_countSteps 74 = .ok (.goto (-46), 3) := by decide +kernel
theorem dX1_countSteps_77 : decode cX1_countSteps 77 = .ok (.iinc 3 1, 3) := by decide +kernel
theorem dX1_countSteps_80 : decode cX1_countSteps 80 = .ok (.goto (-63), 3) := by decide +kernel
theorem dX1_countSteps_83 : decode cX1_countSteps 83 = .ok (.return_, 1) := by decide +kernel
theorem dX1_nextOnWay_0 : decode cX1_nextOnWay 0 = .ok (.iconst 0, 1) := by decide +kernel
theorem dX1_nextOnWay_1 : decode cX1_nextOnWay 1 = .ok (.istore 4, 2) := by decide +kernel
theorem dX1_nextOnWay_3 : decode cX1_nextOnWay 3 = .ok (.iload 4, 2) := by decide +kernel
theorem dX1_nextOnWay_5 : decode cX1_nextOnWay 5 = .ok (.aload_n 0, 1) := by decide +kernel
theorem dX1_nextOnWay_6 : decode cX1_nextOnWay 6 = .ok (.getfield 40, 3) := by decide +kernel
theorem dX1_nextOnWay_9 : decode cX1_nextOnWay 9 = .ok (.if_icmp .ge 39, 3) := by decide +kernel
theorem dX1_nextOnWay_12 : decode cX1_nextOnWay 12 = .ok (.aload_n 0, 1) := by decide +kernel
theorem dX1_nextOnWay_13 : decode cX1_nextOnWay 13 = .ok (.getfield 37, 3) := by decide +kernel
theorem dX1_nextOnWay_16 : decode cX1_nextOnWay 16 = .ok (.iload 4, 2) := by decide +kernel
theorem dX1_nextOnWay_18 : decode cX1_nextOnWay 18 = .ok (.iaload, 1) := by decide +kernel
theorem dX1_nextOnWay_19 : decode cX1_nextOnWay 19 = .ok (.iload_n 2, 1) := by decide +kernel
theorem dX1_nextOnWay_20 : decode cX1_nextOnWay 20 = .ok (.if_icmp .ne 22, 3) := by decide +kernel
theorem dX1_nextOnWay_23 : decode cX1_nextOnWay 23 = .ok (.aload_n 0, 1) := by decide +kernel
theorem dX1_nextOnWay_24 : decode cX1_nextOnWay 24 = .ok (.getfield 34, 3) := by decide +kernel
theorem dX1_nextOnWay_27 : decode cX1_nextOnWay 27 = .ok (.iload_n 1, 1) := by decide +kernel
theorem dX1_nextOnWay_28 : decode cX1_nextOnWay 28 = .ok (.bipush 10, 2) := by decide +kernel
theorem dX1_nextOnWay_30 : decode cX1_nextOnWay 30 = .ok (.imul, 1) := by decide +kernel
theorem dX1_nextOnWay_31 : decode cX1_nextOnWay 31 = .ok (.iload 4, 2) := by decide +kernel
theorem dX1_nextOnWay_33 : decode cX1_nextOnWay 33 = .ok (.iadd, 1) := by decide +kernel
theorem dX1_nextOnWay_34 : decode cX1_nextOnWay 34 = .ok (.iaload, 1) := by decide +kernel
theorem dX1_nextOnWay_35 : decode cX1_nextOnWay 35 = .ok (.iload_n 3, 1) := by decide +kernel
theorem dX1_nextOnWay_36 : decode cX1_nextOnWay 36 = .ok (.if_icmp .gt 6, 3) := by decide +kernel
theorem dX1_nextOnWay_39 : decode cX1_nextOnWay 39 = .ok (.iload 4, 2) := by decide +kernel
theorem dX1_nextOnWay_41 : decode cX1_nextOnWay 41 = .ok (.ireturn, 1) := by decide +kernel
theorem dX1_nextOnWay_42 : decode cX1_nextOnWay 42 = .ok (.iinc 4 1, 3) := by decide +kernel
theorem dX1_nextOnWay_45 : decode cX1_nextOnWay 45 = .ok (.goto (-42), 3) := by decide +kernel
theorem dX1_nextOnWay_48 : decode cX1_nextOnWay 48 = .ok (.bipush (-4), 2) := by decide +kernel
theorem dX1_nextOnWay_50 : decode cX1_nextOnWay 50 = .ok (.ireturn, 1) := by decide +kernel
set_option maxRecDepth 20000 in
theorem ggX1_walkWay_X1_nextOnWay : GoodIn wsX1_walkWay wsX1_nextOnWay := goodIn_r _ [8, 9, 1, 10, 11, 12, 13, 14, 15, 16, 17, 18, 19, 20, 21, 22, 23] (by decide +kernel) (by decide +kernel)
set_option maxRecDepth 20000 in
theorem gX1_walkWay_X1_nextOnWay : GoodIn wsX1_walkWay (wsV RX1 97 RX1 yX1_nextOnWay wsX1_nextOnWay) := goodIn_app (goodIn_of _ (by decide +kernel)) ggX1_walkWay_X1_nextOnWay
theorem dX1_walkWay_0 : decode cX1_walkWay 0 = .ok (.aload_n 0, 1) := by decide +kernel
theorem dX1_walkWay_1 : decode cX1_walkWay 1 = .ok (.aload_n 0, 1) := by decide +kernel
theorem dX1_walkWay_2 : decode cX1_walkWay 2 = .ok (.getfield 37, 3) := by decide +kernel
theorem dX1_walkWay_5 : decode cX1_walkWay 5 = .ok (.iload_n 1, 1) := by decide +kernel
theorem dX1_walkWay_6 : decode cX1_walkWay 6 = .ok (.iaload, 1) := by decide +kernel
theorem dX1_walkWay_7 : decode cX1_walkWay 7 = .ok (.iconst 1, 1) := by decide +kernel
theorem dX1_walkWay_8 : decode cX1_walkWay 8 = .ok (.iadd, 1) := by decide +kernel
theorem dX1_walkWay_9 : decode cX1_walkWay 9 = .ok (.putfield 100, 3) := by decide +kernel
theorem dX1_walkWay_12 : decode cX1_walkWay 12 = .ok (.iload_n 1, 1) := by decide +kernel
theorem dX1_walkWay_13 : decode cX1_walkWay 13 = .ok (.istore_n 3, 1) := by decide +kernel
theorem dX1_walkWay_14 : decode cX1_walkWay 14 = .ok (.aload_n 0, 1) := by decide +kernel
theorem dX1_walkWay_15 : decode cX1_walkWay 15 = .ok (.getfield 31, 3) := by decide +kernel
theorem dX1_walkWay_18 : decode cX1_walkWay 18 = .ok (.iconst 0, 1) := by decide +kernel
theorem dX1_walkWay_19 : decode cX1_walkWay 19 = .ok (.iload_n 1, 1) := by decide +kernel
theorem dX1_walkWay_20 : decode cX1_walkWay 20 = .ok (.iastore, 1) := by decide +kernel
theorem dX1_walkWay_21 : decode cX1_walkWay 21 = .ok (.iconst 1, 1) := by decide +kernel
theorem dX1_walkWay_22 : decode cX1_walkWay 22 = .ok (.istore 4, 2) := by decide +kernel
theorem dX1_walkWay_24 : decode cX1_walkWay 24 = .ok (.iload 4, 2) := by decide +kernel
theorem dX1_walkWay_26 : decode cX1_walkWay 26 = .ok (.aload_n 0, 1) := by decide +kernel
theorem dX1_walkWay_27 : decode cX1_walkWay 27 = .ok (.getfield 100, 3) := by decide +kernel
theorem dX1_walkWay_30 : decode cX1_walkWay 30 = .ok (.if_icmp .ge 48, 3) := by decide +kernel
theorem dX1_walkWay_33 : decode cX1_walkWay 33 = .ok (.aload_n 0, 1) := by decide +kernel
theorem dX1_walkWay_34 : decode cX1_walkWay 34 = .ok (.iload_n 3, 1) := by decide +kernel
theorem dX1_walkWay_35 : decode cX1_walkWay 35 = .ok (.aload_n 0, 1) := by decide +kernel
theorem dX1_walkWay_36 : decode cX1_walkWay 36 = .ok (.getfield 100, 3) := by decide +kernel
theorem dX1_walkWay_39 : decode cX1_walkWay 39 = .ok (.iconst 1, 1) := by decide +kernel
theorem dX1_walkWay_40 : decode cX1_walkWay 40 = .ok (.isub, 1) := by decide +kernel
theorem dX1_walkWay_41 : decode cX1_walkWay 41 = .ok (.iload 4, 2) := by decide +kernel
theorem dX1_walkWay_43 : decode cX1_walkWay 43 = .ok (.isub, 1) := by decide +kernel
theorem dX1_walkWay_44 : decode cX1_walkWay 44 = .ok (.iload_n 2, 1) := by decide +kernel
theorem dX1_walkWay_45 : decode cX1_walkWay 45 = .ok (.invokevirtual 97, 3) := by decide +kernel
theorem dX1_walkWay_48 : decode cX1_walkWay 48 = .ok (.istore 5, 2) := by decide +kernel
theorem dX1_walkWay_50 : decode cX1_walkWay 50 = .ok (.iload 5, 2) := by decide +kernel
theorem dX1_walkWay_52 : decode cX1_walkWay 52 = .ok (.bipush (-4), 2) := by decide +kernel
theorem dX1_walkWay_54 : decode cX1_walkWay 54 = .ok (.if_icmp .ne 7, 3) := by decide +kernel
theorem dX1_walkWay_57 : decode cX1_walkWay 57 = .ok (.iload_n 3, 1) := by decide +kernel
theorem dX1_walkWay_58 : decode cX1_walkWay 58 = .ok (.goto 5, 3) := by decide +kernel
theorem dX1_walkWay_61 : decode cX1_walkWay 61 = .ok (.iload 5, 2) := by decide +kernel
theorem dX1_walkWay_63 : decode cX1_walkWay 63 = .ok (.istore_n 3, 1) := by decide +kernel
theorem dX1_walkWay_64 : decode cX1_walkWay 64 = .ok (.aload_n 0, 1) := by decide +kernel
theorem dX1_walkWay_65 : decode cX1_walkWay 65 = .ok (.getfield 31, 3) := by decide +kernel
theorem dX1_walkWay_68 : decode cX1_walkWay 68 = .ok (.iload 4, 2) := by decide +kernel
theorem dX1_walkWay_70 : decode cX1_walkWay 70 = .ok (.iload_n 3, 1) := by decide +kernel
theorem dX1_walkWay_71 : decode cX1_walkWay 71 = .ok (.iastore, 1) := by decide +kernel
theorem dX1_walkWay_72 : decode cX1_walkWay 72 = .ok (.iinc 4 1, 3) := by decide +kernel
theorem dX1_walkWay_75 : decode cX1_walkWay 75 = .ok (.goto (-51), 3) := by decide +kernel
theorem dX1_walkWay_78 : decode cX1_walkWay 78 = .ok (.return_, 1) := by decide +kernel
theorem dX2_init_0 : decode cX2_init 0 = .ok (.aload_n 0, 1) := by decide +kernel
theorem dX2_init_1 : decode cX2_init 1 = .ok (.invokespecial 3, 3) := by decide +kernel
theorem dX2_init_4 : decode cX2_init 4 = .ok (.aload_n 0, 1) := by decide +kernel
theorem dX2_init_5 : decode cX2_init 5 = .ok (.bipush 64, 2) := by decide +kernel
theorem dX2_init_7 : decode cX2_init 7 = .ok (.newarray .int, 2) := by decide +kernel
theorem dX2_init_9 : decode cX2_init 9 = .ok (.putfield 9, 3) := by decide +kernel
theorem dX2_init_12 : decode cX2_init 12 = .ok (.return_, 1) := by decide +kernel
theorem dX2_isChild_0 : decode cX2_isChild 0 = .ok (.iload_n 1, 1) := by decide +kernel
theorem dX2_isChild_1 : decode cX2_isChild 1 = .ok (.ifCond .lt 15, 3) := by decide +kernel
theorem dX2_isChild_4 : decode cX2_isChild 4 = .ok (.iload_n 1, 1) := by decide +kernel
theorem dX2_isChild_5 : decode cX2_isChild 5 = .ok (.aload_n 0, 1) := by decide +kernel
theorem dX2_isChild_6 : decode cX2_isChild 6 = .ok (.getfield 15, 3) := by decide +kernel
theorem dX2_isChild_9 : decode cX2_isChild 9 = .ok (.if_icmp .ge 7, 3) := by decide +kernel
theorem dX2_isChild_12 : decode cX2_isChild 12 = .ok (.iconst 1, 1) := by decide +kernel
theorem dX2_isChild_13 : decode cX2_isChild 13 = .ok (.goto 4, 3) := by decide +kernel
theorem dX2_isChild_16 : decode cX2_isChild 16 = .ok (.iconst 0, 1) := by decide +kernel
theorem dX2_isChild_17 : decode cX2_isChild 17 = .ok (.ireturn, 1) := by decide +kernel
set_option maxRecDepth 20000 in
theorem ggX2_teach_X8_isIn : GoodIn wsX2_teach wsX8_isIn := goodIn_r _ [4] (by decide +kernel) (by decide +kernel)
set_option maxRecDepth 20000 in
theorem gX2_teach_X8_isIn_n19 : GoodIn wsX2_teach (wsX8_isIn) := ggX2_teach_X8_isIn
theorem dX2_teach_0 : decode cX2_teach 0 = .ok (.iload_n 1, 1) := by decide +kernel
theorem dX2_teach_1 : decode cX2_teach 1 = .ok (.bipush 16, 2) := by decide +kernel
theorem dX2_teach_3 : decode cX2_teach 3 = .ok (.imul, 1) := by decide +kernel
theorem dX2_teach_4 : decode cX2_teach 4 = .ok (.istore 4, 2) := by decide +kernel
theorem dX2_teach_6 : decode cX2_teach 6 = .ok (.aload_n 0, 1) := by decide +kernel
theorem dX2_teach_7 : decode cX2_teach 7 = .ok (.getfield 9, 3) := by decide +kernel
theorem dX2_teach_10 : decode cX2_teach 10 = .ok (.iload 4, 2) := by decide +kernel
theorem dX2_teach_12 : decode cX2_teach 12 = .ok (.iload_n 2, 1) := by decide +kernel
theorem dX2_teach_13 : decode cX2_teach 13 = .ok (.iadd, 1) := by decide +kernel
theorem dX2_teach_14 : decode cX2_teach 14 = .ok (.iaload, 1) := by decide +kernel
theorem dX2_teach_15 : decode cX2_teach 15 = .ok (.iload_n 3, 1) := by decide +kernel
theorem dX2_teach_16 : decode cX2_teach 16 = .ok (.invokestatic 19, 3) := by decide +kernel
theorem dX2_teach_19 : decode cX2_teach 19 = .ok (.ifCond .eq 5, 3) := by decide +kernel
theorem dX2_teach_22 : decode cX2_teach 22 = .ok (.iconst 0, 1) := by decide +kernel
theorem dX2_teach_23 : decode cX2_teach 23 = .ok (.ireturn, 1) := by decide +kernel
theorem dX2_teach_24 : decode cX2_teach 24 = .ok (.aload_n 0, 1) := by decide +kernel
theorem dX2_teach_25 : decode cX2_teach 25 = .ok (.getfield 9, 3) := by decide +kernel
theorem dX2_teach_28 : decode cX2_teach 28 = .ok (.iload 4, 2) := by decide +kernel
theorem dX2_teach_30 : decode cX2_teach 30 = .ok (.iload_n 2, 1) := by decide +kernel
theorem dX2_teach_31 : decode cX2_teach 31 = .ok (.iadd, 1) := by decide +kernel
theorem dX2_teach_32 : decode cX2_teach 32 = .ok (.dup2, 1) := by decide +kernel
theorem dX2_teach_33 : decode cX2_teach 33 = .ok (.iaload, 1) := by decide +kernel
theorem dX2_teach_34 : decode cX2_teach 34 = .ok (.iconst 1, 1) := by decide +kernel
theorem dX2_teach_35 : decode cX2_teach 35 = .ok (.iload_n 3, 1) := by decide +kernel
theorem dX2_teach_36 : decode cX2_teach 36 = .ok (.ishl, 1) := by decide +kernel
theorem dX2_teach_37 : decode cX2_teach 37 = .ok (.ior, 1) := by decide +kernel
theorem dX2_teach_38 : decode cX2_teach 38 = .ok (.iastore, 1) := by decide +kernel
theorem dX2_teach_39 : decode cX2_teach 39 = .ok (.aload_n 0, 1) := by decide +kernel
theorem dX2_teach_40 : decode cX2_teach 40 = .ok (.getfield 9, 3) := by decide +kernel
theorem dX2_teach_43 : decode cX2_teach 43 = .ok (.iload 4, 2) := by decide +kernel
theorem dX2_teach_45 : decode cX2_teach 45 = .ok (.iload_n 3, 1) := by decide +kernel
theorem dX2_teach_46 : decode cX2_teach 46 = .ok (.iadd, 1) := by decide +kernel
theorem dX2_teach_47 : decode cX2_teach 47 = .ok (.dup2, 1) := by decide +kernel
theorem dX2_teach_48 : decode cX2_teach 48 = .ok (.iaload, 1) := by decide +kernel
theorem dX2_teach_49 : decode cX2_teach 49 = .ok (.iconst 1, 1) := by decide +kernel
theorem dX2_teach_50 : decode cX2_teach 50 = .ok (.iload_n 2, 1) := by decide +kernel
theorem dX2_teach_51 : decode cX2_teach 51 = .ok (.ishl, 1) := by decide +kernel
theorem dX2_teach_52 : decode cX2_teach 52 = .ok (.ior, 1) := by decide +kernel
theorem dX2_teach_53 : decode cX2_teach 53 = .ok (.iastore, 1) := by decide +kernel
theorem dX2_teach_54 : decode cX2_teach 54 = .ok (.iconst 1, 1) := by decide +kernel
theorem dX2_teach_55 : decode cX2_teach 55 = .ok (.ireturn, 1) := by decide +kernel
set_option maxRecDepth 20000 in
theorem ggX2_learnedPairs_J6_bitCount_0f7a4 : GoodIn wsX2_learnedPairs wsJ6_bitCount_0f7a4 := goodIn_r _ [5, 6, 7, 8] (by decide +kernel) (by decide +kernel)
set_option maxRecDepth 20000 in
theorem gX2_learnedPairs_J6_bitCount_0f7a4 : GoodIn wsX2_learnedPairs (va_wsS RX2 23 yJ6_bitCount_0f7a4 wsJ6_bitCount_0f7a4) := goodIn_app (goodIn_of _ (by decide +kernel)) ggX2_learnedPairs_J6_bitCount_0f7a4
theorem dX2_learnedPairs_0 : decode cX2_learnedPairs 0 = .ok (.iconst 0, 1) := by decide +kernel
theorem dX2_learnedPairs_1 : decode cX2_learnedPairs 1 = .ok (.istore_n 2, 1) := by decide +kernel
theorem dX2_learnedPairs_2 : decode cX2_learnedPairs 2 = .ok (.iconst 0, 1) := by decide +kernel
theorem dX2_learnedPairs_3 : decode cX2_learnedPairs 3 = .ok (.istore_n 3, 1) := by decide +kernel
theorem dX2_learnedPairs_4 : decode cX2_learnedPairs 4 = .ok (.iload_n 3, 1) := by decide +kernel
theorem dX2_learnedPairs_5 : decode cX2_learnedPairs 5 = .ok (.bipush 16, 2) := by decide +kernel
theorem dX2_learnedPairs_7 : decode cX2_learnedPairs 7 = .ok (.if_icmp .ge 26, 3) := by decide +kernel
theorem dX2_learnedPairs_10 : decode cX2_learnedPairs 10 = .ok (.iload_n 2, 1) := by decide +kernel
theorem dX2_learnedPairs_11 : decode cX2_learnedPairs 11 = .ok (.aload_n 0, 1) := by decide +kernel
theorem dX2_learnedPairs_12 : decode cX2_learnedPairs 12 = .ok (.getfield 9, 3) := by decide +kernel
theorem dX2_learnedPairs_15 : decode cX2_learnedPairs 15 = .ok (.iload_n 1, 1) := by decide +kernel
theorem dX2_learnedPairs_16 : decode cX2_learnedPairs 16 = .ok (.bipush 16, 2) := by decide +kernel
theorem dX2_learnedPairs_18 : decode cX2_learnedPairs 18 = .ok (.imul, 1) := by decide +kernel
theorem dX2_learnedPairs_19 : decode cX2_learnedPairs 19 = .ok (.iload_n 3, 1) := by decide +kernel
theorem dX2_learnedPairs_20 : decode cX2_learnedPairs 20 = .ok (.iadd, 1) := by decide +kernel
theorem dX2_learnedPairs_21 : decode cX2_learnedPairs 21 = .ok (.iaload, 1) := by decide +kernel
theorem dX2_learnedPairs_22 : decode cX2_learnedPairs 22 = .ok (.invokestatic 23, 3) := by decide +kernel
theorem dX2_learnedPairs_25 : decode cX2_learnedPairs 25 = .ok (.iadd, 1) := by decide +kernel
theorem dX2_learnedPairs_26 : decode cX2_learnedPairs 26 = .ok (.istore_n 2, 1) := by decide +kernel
theorem dX2_learnedPairs_27 : decode cX2_learnedPairs 27 = .ok (.iinc 3 1, 3) := by decide +kernel
theorem dX2_learnedPairs_30 : decode cX2_learnedPairs 30 = .ok (.goto (-26), 3) := by decide +kernel
theorem dX2_learnedPairs_33 : decode cX2_learnedPairs 33 = .ok (.iload_n 2, 1) := by decide +kernel
theorem dX2_learnedPairs_34 : decode cX2_learnedPairs 34 = .ok (.iconst 2, 1) := by decide +kernel
theorem dX2_learnedPairs_35 : decode cX2_learnedPairs 35 = .ok (.idiv, 1) := by decide +kernel
theorem dX2_learnedPairs_36 : decode cX2_learnedPairs 36 = .ok (.ireturn, 1) := by decide +kernel
theorem dX2_confusedWith_0 : decode cX2_confusedWith 0 = .ok (.aload_n 3, 1) := by decide +kernel
theorem dX2_confusedWith_1 : decode cX2_confusedWith 1 = .ok (.getfield 29, 3) := by decide +kernel
theorem dX2_confusedWith_4 : decode cX2_confusedWith 4 = .ok (.iload_n 2, 1) := by decide +kernel
theorem dX2_confusedWith_5 : decode cX2_confusedWith 5 = .ok (.iaload, 1) := by decide +kernel
theorem dX2_confusedWith_6 : decode cX2_confusedWith 6 = .ok (.aload_n 0, 1) := by decide +kernel
theorem dX2_confusedWith_7 : decode cX2_confusedWith 7 = .ok (.getfield 9, 3) := by decide +kernel
theorem dX2_confusedWith_10 : decode cX2_confusedWith 10 = .ok (.iload_n 1, 1) := by decide +kernel
theorem dX2_confusedWith_11 : decode cX2_confusedWith 11 = .ok (.bipush 16, 2) := by decide +kernel
theorem dX2_confusedWith_13 : decode cX2_confusedWith 13 = .ok (.imul, 1) := by decide +kernel
theorem dX2_confusedWith_14 : decode cX2_confusedWith 14 = .ok (.iload_n 2, 1) := by decide +kernel
theorem dX2_confusedWith_15 : decode cX2_confusedWith 15 = .ok (.iadd, 1) := by decide +kernel
theorem dX2_confusedWith_16 : decode cX2_confusedWith 16 = .ok (.iaload, 1) := by decide +kernel
theorem dX2_confusedWith_17 : decode cX2_confusedWith 17 = .ok (.iconst (-1), 1) := by decide +kernel
theorem dX2_confusedWith_18 : decode cX2_confusedWith 18 = .ok (.ixor, 1) := by decide +kernel
theorem dX2_confusedWith_19 : decode cX2_confusedWith 19 = .ok (.iand, 1) := by decide +kernel
theorem dX2_confusedWith_20 : decode cX2_confusedWith 20 = .ok (.ireturn, 1) := by decide +kernel
set_option maxRecDepth 20000 in
theorem ggX2_confusedPairs_X8_isIn : GoodIn wsX2_confusedPairs wsX8_isIn := goodIn_r _ [4] (by decide +kernel) (by decide +kernel)
set_option maxRecDepth 20000 in
theorem gX2_confusedPairs_X8_isIn_n19 : GoodIn wsX2_confusedPairs (wsX8_isIn) := ggX2_confusedPairs_X8_isIn
set_option maxRecDepth 20000 in
theorem ggX2_confusedPairs_X2_confusedWith : GoodIn wsX2_confusedPairs wsX2_confusedWith := goodIn_r _ [9, 10, 11, 19, 20, 21, 22, 23, 24, 25, 26, 27, 28, 29, 30] (by decide +kernel) (by decide +kernel)
set_option maxRecDepth 20000 in
theorem gX2_confusedPairs_X2_confusedWith : GoodIn wsX2_confusedPairs (wsV RX2 37 RX2 yX2_confusedWith wsX2_confusedWith) := goodIn_app (goodIn_of _ (by decide +kernel)) ggX2_confusedPairs_X2_confusedWith
set_option maxRecDepth 20000 in
theorem ggX2_confusedPairs_J6_bitCount_0f7a4 : GoodIn wsX2_confusedPairs wsJ6_bitCount_0f7a4 := goodIn_r _ [15, 16, 17, 18] (by decide +kernel) (by decide +kernel)
set_option maxRecDepth 20000 in
theorem gX2_confusedPairs_J6_bitCount_0f7a4 : GoodIn wsX2_confusedPairs (va_wsS RX2 23 yJ6_bitCount_0f7a4 wsJ6_bitCount_0f7a4) := goodIn_app (goodIn_of _ (by decide +kernel)) ggX2_confusedPairs_J6_bitCount_0f7a4
theorem dX2_confusedPairs_0 : decode cX2_confusedPairs 0 = .ok (.iconst 0, 1) := by decide +kernel
theorem dX2_confusedPairs_1 : decode cX2_confusedPairs 1 = .ok (.istore 4, 2) := by decide +kernel
theorem dX2_confusedPairs_3 : decode cX2_confusedPairs 3 = .ok (.iconst 0, 1) := by decide +kernel
theorem dX2_confusedPairs_4 : decode cX2_confusedPairs 4 = .ok (.istore 5, 2) := by decide +kernel
theorem dX2_confusedPairs_6 : decode cX2_confusedPairs 6 = .ok (.iload 5, 2) := by decide +kernel
theorem dX2_confusedPairs_8 : decode cX2_confusedPairs 8 = .ok (.aload_n 3, 1) := by decide +kernel
theorem dX2_confusedPairs_9 : decode cX2_confusedPairs 9 = .ok (.getfield 34, 3) := by decide +kernel
theorem dX2_confusedPairs_12 : decode cX2_confusedPairs 12 = .ok (.if_icmp .ge 36, 3) := by decide +kernel
theorem dX2_confusedPairs_15 : decode cX2_confusedPairs 15 = .ok (.iload_n 2, 1) := by decide +kernel
theorem dX2_confusedPairs_16 : decode cX2_confusedPairs 16 = .ok (.iload 5, 2) := by decide +kernel
theorem dX2_confusedPairs_18 : decode cX2_confusedPairs 18 = .ok (.invokestatic 19, 3) := by decide +kernel
theorem dX2_confusedPairs_21 : decode cX2_confusedPairs 21 = .ok (.ifCond .eq 21, 3) := by decide +kernel
theorem dX2_confusedPairs_24 : decode cX2_confusedPairs 24 = .ok (.iload 4, 2) := by decide +kernel
theorem dX2_confusedPairs_26 : decode cX2_confusedPairs 26 = .ok (.aload_n 0, 1) := by decide +kernel
theorem dX2_confusedPairs_27 : decode cX2_confusedPairs 27 = .ok (.iload_n 1, 1) := by decide +kernel
theorem dX2_confusedPairs_28 : decode cX2_confusedPairs 28 = .ok (.iload 5, 2) := by decide +kernel
theorem dX2_confusedPairs_30 : decode cX2_confusedPairs 30 = .ok (.aload_n 3, 1) := by decide +kernel
theorem dX2_confusedPairs_31 : decode cX2_confusedPairs 31 = .ok (.invokevirtual 37, 3) := by decide +kernel
theorem dX2_confusedPairs_34 : decode cX2_confusedPairs 34 = .ok (.iload_n 2, 1) := by decide +kernel
theorem dX2_confusedPairs_35 : decode cX2_confusedPairs 35 = .ok (.iand, 1) := by decide +kernel
theorem dX2_confusedPairs_36 : decode cX2_confusedPairs 36 = .ok (.invokestatic 23, 3) := by decide +kernel
theorem dX2_confusedPairs_39 : decode cX2_confusedPairs 39 = .ok (.iadd, 1) := by decide +kernel
theorem dX2_confusedPairs_40 : decode cX2_confusedPairs 40 = .ok (.istore 4, 2) := by decide +kernel
theorem dX2_confusedPairs_42 : decode cX2_confusedPairs 42 = .ok (.iinc 5 1, 3) := by decide +kernel
theorem dX2_confusedPairs_45 : decode cX2_confusedPairs 45 = .ok (.goto (-39), 3) := by decide +kernel
theorem dX2_confusedPairs_48 : decode cX2_confusedPairs 48 = .ok (.iload 4, 2) := by decide +kernel
theorem dX2_confusedPairs_50 : decode cX2_confusedPairs 50 = .ok (.iconst 2, 1) := by decide +kernel
theorem dX2_confusedPairs_51 : decode cX2_confusedPairs 51 = .ok (.idiv, 1) := by decide +kernel
theorem dX2_confusedPairs_52 : decode cX2_confusedPairs 52 = .ok (.ireturn, 1) := by decide +kernel
set_option maxRecDepth 20000 in
theorem ggX2_groupWith_X8_isIn : GoodIn wsX2_groupWith wsX8_isIn := goodIn_r _ [4] (by decide +kernel) (by decide +kernel)
set_option maxRecDepth 20000 in
theorem gX2_groupWith_X8_isIn_n19 : GoodIn wsX2_groupWith (wsX8_isIn) := ggX2_groupWith_X8_isIn
set_option maxRecDepth 20000 in
theorem ggX2_groupWith_X2_confusedWith : GoodIn wsX2_groupWith wsX2_confusedWith := goodIn_r _ [9, 10, 11, 12, 13, 14, 15, 16, 17, 18, 19, 20, 21, 22, 23] (by decide +kernel) (by decide +kernel)
set_option maxRecDepth 20000 in
theorem gX2_groupWith_X2_confusedWith : GoodIn wsX2_groupWith (wsV RX2 37 RX2 yX2_confusedWith wsX2_confusedWith) := goodIn_app (goodIn_of _ (by decide +kernel)) ggX2_groupWith_X2_confusedWith
theorem dX2_groupWith_0 : decode cX2_groupWith 0 = .ok (.iconst 1, 1) := by decide +kernel
theorem dX2_groupWith_1 : decode cX2_groupWith 1 = .ok (.iload_n 2, 1) := by decide +kernel
theorem dX2_groupWith_2 : decode cX2_groupWith 2 = .ok (.ishl, 1) := by decide +kernel
theorem dX2_groupWith_3 : decode cX2_groupWith 3 = .ok (.istore 4, 2) := by decide +kernel
theorem dX2_groupWith_5 : decode cX2_groupWith 5 = .ok (.iconst 0, 1) := by decide +kernel
theorem dX2_groupWith_6 : decode cX2_groupWith 6 = .ok (.istore 5, 2) := by decide +kernel
theorem dX2_groupWith_8 : decode cX2_groupWith 8 = .ok (.iload 5, 2) := by decide +kernel
theorem dX2_groupWith_10 : decode cX2_groupWith 10 = .ok (.bipush 16, 2) := by decide +kernel
theorem dX2_groupWith_12 : decode cX2_groupWith 12 = .ok (.if_icmp .ge 68, 3) := by decide +kernel
theorem dX2_groupWith_15 : decode cX2_groupWith 15 = .ok (.iload 4, 2) := by decide +kernel
theorem dX2_groupWith_17 : decode cX2_groupWith 17 = .ok (.istore 6, 2) := by decide +kernel
theorem dX2_groupWith_19 : decode cX2_groupWith 19 = .ok (.iconst 0, 1) := by decide +kernel
theorem dX2_groupWith_20 : decode cX2_groupWith 20 = .ok (.istore 7, 2) := by decide +kernel
theorem dX2_groupWith_22 : decode cX2_groupWith 22 = .ok (.iload 7, 2) := by decide +kernel
theorem dX2_groupWith_24 : decode cX2_groupWith 24 = .ok (.aload_n 3, 1) := by decide +kernel
theorem dX2_groupWith_25 : decode cX2_groupWith 25 = .ok (.getfield 34, 3) := by decide +kernel
theorem dX2_groupWith_28 : decode cX2_groupWith 28 = .ok (.if_icmp .ge 32, 3) := by decide +kernel
theorem dX2_groupWith_31 : decode cX2_groupWith 31 = .ok (.iload 4, 2) := by decide +kernel
theorem dX2_groupWith_33 : decode cX2_groupWith 33 = .ok (.iload 7, 2) := by decide +kernel
theorem dX2_groupWith_35 : decode cX2_groupWith 35 = .ok (.invokestatic 19, 3) := by decide +kernel
theorem dX2_groupWith_38 : decode cX2_groupWith 38 = .ok (.ifCond .eq 16, 3) := by decide +kernel
theorem dX2_groupWith_41 : decode cX2_groupWith 41 = .ok (.iload 6, 2) := by decide +kernel
theorem dX2_groupWith_43 : decode cX2_groupWith 43 = .ok (.aload_n 0, 1) := by decide +kernel
theorem dX2_groupWith_44 : decode cX2_groupWith 44 = .ok (.iload_n 1, 1) := by decide +kernel
theorem dX2_groupWith_45 : decode cX2_groupWith 45 = .ok (.iload 7, 2) := by decide +kernel
theorem dX2_groupWith_47 : decode cX2_groupWith 47 = .ok (.aload_n 3, 1) := by decide +kernel
theorem dX2_groupWith_48 : decode cX2_groupWith 48 = .ok (.invokevirtual 37, 3) := by decide +kernel
theorem dX2_groupWith_51 : decode cX2_groupWith 51 = .ok (.ior, 1) := by decide +kernel
theorem dX2_groupWith_52 : decode cX2_groupWith 52 = .ok (.istore 6, 2) := by decide +kernel
theorem dX2_groupWith_54 : decode cX2_groupWith 54 = .ok (.iinc 7 1, 3) := by decide +kernel
theorem dX2_groupWith_57 : decode cX2_groupWith 57 = .ok (.goto (-35), 3) := by decide +kernel
theorem dX2_groupWith_60 : decode cX2_groupWith 60 = .ok (.iload 6, 2) := by decide +kernel
theorem dX2_groupWith_62 : decode cX2_groupWith 62 = .ok (.iload 4, 2) := by decide +kernel
theorem dX2_groupWith_64 : decode cX2_groupWith 64 = .ok (.if_icmp .ne 6, 3) := by decide +kernel
theorem dX2_groupWith_67 : decode cX2_groupWith 67 = .ok (.goto 13, 3) := by decide +kernel
theorem dX2_groupWith_70 : decode cX2_groupWith 70 = .ok (.iload 6, 2) := by decide +kernel
theorem dX2_groupWith_72 : decode cX2_groupWith 72 = .ok (.istore 4, 2) := by decide +kernel
theorem dX2_groupWith_74 : decode cX2_groupWith 74 = .ok (.iinc 5 1, 3) := by decide +kernel
theorem dX2_groupWith_77 : decode cX2_groupWith 77 = .ok (.goto (-69), 3) := by decide +kernel
theorem dX2_groupWith_80 : decode cX2_groupWith 80 = .ok (.iload 4, 2) := by decide +kernel
theorem dX2_groupWith_82 : decode cX2_groupWith 82 = .ok (.ireturn, 1) := by decide +kernel
set_option maxRecDepth 20000 in
theorem ggX2_groups_X2_groupWith : GoodIn wsX2_groups wsX2_groupWith := goodIn_r _ [6, 1, 7, 8, 9, 10, 11, 12, 5, 13, 14, 15, 21, 22, 23, 24, 25, 26, 27, 28, 29, 30, 31, 32] (by decide +kernel) (by decide +kernel)
set_option maxRecDepth 20000 in
theorem gX2_groups_X2_groupWith : GoodIn wsX2_groups (wsV RX2 41 RX2 yX2_groupWith wsX2_groupWith) := goodIn_app (goodIn_of _ (by decide +kernel)) ggX2_groups_X2_groupWith
set_option maxRecDepth 20000 in
theorem ggX2_groups_J6_numberOfTrailingZeros_0f7a4 : GoodIn wsX2_groups wsJ6_numberOfTrailingZeros_0f7a4 := goodIn_r _ [19, 20] (by decide +kernel) (by decide +kernel)
set_option maxRecDepth 20000 in
theorem gX2_groups_J6_numberOfTrailingZeros_0f7a4 : GoodIn wsX2_groups (va_wsS RX2 44 yJ6_numberOfTrailingZeros_0f7a4 wsJ6_numberOfTrailingZeros_0f7a4) := goodIn_app (goodIn_of _ (by decide +kernel)) ggX2_groups_J6_numberOfTrailingZeros_0f7a4
theorem dX2_groups_0 : decode cX2_groups 0 = .ok (.iconst 0, 1) := by decide +kernel
theorem dX2_groups_1 : decode cX2_groups 1 = .ok (.istore_n 3, 1) := by decide +kernel
theorem dX2_groups_2 : decode cX2_groups 2 = .ok (.iconst 0, 1) := by decide +kernel
theorem dX2_groups_3 : decode cX2_groups 3 = .ok (.istore 4, 2) := by decide +kernel
theorem dX2_groups_5 : decode cX2_groups 5 = .ok (.iload 4, 2) := by decide +kernel
theorem dX2_groups_7 : decode cX2_groups 7 = .ok (.aload_n 2, 1) := by decide +kernel
theorem dX2_groups_8 : decode cX2_groups 8 = .ok (.getfield 34, 3) := by decide +kernel
theorem dX2_groups_11 : decode cX2_groups 11 = .ok (.if_icmp .ge 28, 3) := by decide +kernel
theorem dX2_groups_14 : decode cX2_groups 14 = .ok (.aload_n 0, 1) := by decide +kernel
theorem dX2_groups_15 : decode cX2_groups 15 = .ok (.iload_n 1, 1) := by decide +kernel
theorem dX2_groups_16 : decode cX2_groups 16 = .ok (.iload 4, 2) := by decide +kernel
theorem dX2_groups_18 : decode cX2_groups 18 = .ok (.aload_n 2, 1) := by decide +kernel
theorem dX2_groups_19 : decode cX2_groups 19 = .ok (.invokevirtual 41, 3) := by decide +kernel
theorem dX2_groups_22 : decode cX2_groups 22 = .ok (.invokestatic 44, 3) := by decide +kernel
theorem dX2_groups_25 : decode cX2_groups 25 = .ok (.iload 4, 2) := by decide +kernel
theorem dX2_groups_27 : decode cX2_groups 27 = .ok (.if_icmp .ne 6, 3) := by decide +kernel
theorem dX2_groups_30 : decode cX2_groups 30 = .ok (.iinc 3 1, 3) := by decide +kernel
theorem dX2_groups_33 : decode cX2_groups 33 = .ok (.iinc 4 1, 3) := by decide +kernel
theorem dX2_groups_36 : decode cX2_groups 36 = .ok (.goto (-31), 3) := by decide +kernel
theorem dX2_groups_39 : decode cX2_groups 39 = .ok (.iload_n 3, 1) := by decide +kernel
theorem dX2_groups_40 : decode cX2_groups 40 = .ok (.ireturn, 1) := by decide +kernel
set_option maxRecDepth 20000 in
theorem ggX2_greatestGroup_X2_groupWith : GoodIn wsX2_greatestGroup wsX2_groupWith := goodIn_r _ [10, 1, 11, 12, 13, 14, 15, 16, 9, 17, 18, 19, 27, 28, 29, 30, 31, 32, 33, 34, 35, 36, 37, 38] (by decide +kernel) (by decide +kernel)
set_option maxRecDepth 20000 in
theorem gX2_greatestGroup_X2_groupWith : GoodIn wsX2_greatestGroup (wsV RX2 41 RX2 yX2_groupWith wsX2_groupWith) := goodIn_app (goodIn_of _ (by decide +kernel)) ggX2_greatestGroup_X2_groupWith
set_option maxRecDepth 20000 in
theorem ggX2_greatestGroup_J6_bitCount_0f7a4 : GoodIn wsX2_greatestGroup wsJ6_bitCount_0f7a4 := goodIn_r _ [23, 24, 25, 26] (by decide +kernel) (by decide +kernel)
set_option maxRecDepth 20000 in
theorem gX2_greatestGroup_J6_bitCount_0f7a4 : GoodIn wsX2_greatestGroup (va_wsS RX2 23 yJ6_bitCount_0f7a4 wsJ6_bitCount_0f7a4) := goodIn_app (goodIn_of _ (by decide +kernel)) ggX2_greatestGroup_J6_bitCount_0f7a4
theorem dX2_greatestGroup_0 : decode cX2_greatestGroup 0 = .ok (.iconst 0, 1) := by decide +kernel
theorem dX2_greatestGroup_1 : decode cX2_greatestGroup 1 = .ok (.istore_n 3, 1) := by decide +kernel
theorem dX2_greatestGroup_2 : decode cX2_greatestGroup 2 = .ok (.iconst 0, 1) := by decide +kernel
theorem dX2_greatestGroup_3 : decode cX2_greatestGroup 3 = .ok (.istore 4, 2) := by decide +kernel
theorem dX2_greatestGroup_5 : decode cX2_greatestGroup 5 = .ok (.iload 4, 2) := by decide +kernel
theorem dX2_greatestGroup_7 : decode cX2_greatestGroup 7 = .ok (.aload_n 2, 1) := by decide +kernel
theorem dX2_greatestGroup_8 : decode cX2_greatestGroup 8 = .ok (.getfield 34, 3) := by decide +kernel
theorem dX2_greatestGroup_11 : decode cX2_greatestGroup 11 = .ok (.if_icmp .ge 25, 3) := by decide +kernel
theorem dX2_greatestGroup_14 : decode cX2_greatestGroup 14 = .ok (.iload_n 3, 1) := by decide +kernel
theorem dX2_greatestGroup_15 : decode cX2_greatestGroup 15 = .ok (.aload_n 0, 1) := by decide +kernel
theorem dX2_greatestGroup_16 : decode cX2_greatestGroup 16 = .ok (.iload_n 1, 1) := by decide +kernel
theorem dX2_greatestGroup_17 : decode cX2_greatestGroup 17 = .ok (.iload 4, 2) := by decide +kernel
theorem dX2_greatestGroup_19 : decode cX2_greatestGroup 19 = .ok (.aload_n 2, 1) := by decide +kernel
theorem dX2_greatestGroup_20 : decode cX2_greatestGroup 20 = .ok (.invokevirtual 41, 3) := by decide +kernel
theorem dX2_greatestGroup_23 : decode cX2_greatestGroup 23 = .ok (.invokestatic 23, 3) := by decide +kernel
theorem dX2_greatestGroup_26 : decode cX2_greatestGroup 26 = .ok (.invokestatic 47, 3) := by decide +kernel
theorem dX2_greatestGroup_29 : decode cX2_greatestGroup 29 = .ok (.istore_n 3, 1) := by decide +kernel
theorem dX2_greatestGroup_30 : decode cX2_greatestGroup 30 = .ok (.iinc 4 1, 3) := by decide +kernel
theorem dX2_greatestGroup_33 : decode cX2_greatestGroup 33 = .ok (.goto (-28), 3) := by decide +kernel
theorem dX2_greatestGroup_36 : decode cX2_greatestGroup 36 = .ok (.iload_n 3, 1) := by decide +kernel
theorem dX2_greatestGroup_37 : decode cX2_greatestGroup 37 = .ok (.ireturn, 1) := by decide +kernel
theorem dX3_isMark_0 : decode cX3_isMark 0 = .ok (.iload_n 0, 1) := by decide +kernel
theorem dX3_isMark_1 : decode cX3_isMark 1 = .ok (.ifCond .lt 13, 3) := by decide +kernel
theorem dX3_isMark_4 : decode cX3_isMark 4 = .ok (.iload_n 0, 1) := by decide +kernel
theorem dX3_isMark_5 : decode cX3_isMark 5 = .ok (.bipush 20, 2) := by decide +kernel
theorem dX3_isMark_7 : decode cX3_isMark 7 = .ok (.if_icmp .gt 7, 3) := by decide +kernel
theorem dX3_isMark_10 : decode cX3_isMark 10 = .ok (.iconst 1, 1) := by decide +kernel
theorem dX3_isMark_11 : decode cX3_isMark 11 = .ok (.goto 4, 3) := by decide +kernel
theorem dX3_isMark_14 : decode cX3_isMark 14 = .ok (.iconst 0, 1) := by decide +kernel
theorem dX3_isMark_15 : decode cX3_isMark 15 = .ok (.ireturn, 1) := by decide +kernel
theorem dX3_with_0 : decode cX3_with 0 = .ok (.lload_n 0, 1) := by decide +kernel
theorem dX3_with_1 : decode cX3_with 1 = .ok (.iload_n 3, 1) := by decide +kernel
theorem dX3_with_2 : decode cX3_with 2 = .ok (.iconst 1, 1) := by decide +kernel
theorem dX3_with_3 : decode cX3_with 3 = .ok (.iadd, 1) := by decide +kernel
theorem dX3_with_4 : decode cX3_with 4 = .ok (.i2l, 1) := by decide +kernel
theorem dX3_with_5 : decode cX3_with 5 = .ok (.iconst 5, 1) := by decide +kernel
theorem dX3_with_6 : decode cX3_with 6 = .ok (.iload_n 2, 1) := by decide +kernel
theorem dX3_with_7 : decode cX3_with 7 = .ok (.imul, 1) := by decide +kernel
theorem dX3_with_8 : decode cX3_with 8 = .ok (.lshl, 1) := by decide +kernel
theorem dX3_with_9 : decode cX3_with 9 = .ok (.lor, 1) := by decide +kernel
theorem dX3_with_10 : decode cX3_with 10 = .ok (.lreturn, 1) := by decide +kernel
theorem dX3_markAt_0 : decode cX3_markAt 0 = .ok (.iload_n 2, 1) := by decide +kernel
theorem dX3_markAt_1 : decode cX3_markAt 1 = .ok (.ifCond .lt 9, 3) := by decide +kernel
theorem dX3_markAt_4 : decode cX3_markAt 4 = .ok (.iload_n 2, 1) := by decide +kernel
theorem dX3_markAt_5 : decode cX3_markAt 5 = .ok (.bipush 8, 2) := by decide +kernel
theorem dX3_markAt_7 : decode cX3_markAt 7 = .ok (.if_icmp .lt 6, 3) := by decide +kernel
theorem dX3_markAt_10 : decode cX3_markAt 10 = .ok (.bipush (-4), 2) := by decide +kernel
theorem dX3_markAt_12 : decode cX3_markAt 12 = .ok (.ireturn, 1) := by decide +kernel
theorem dX3_markAt_13 : decode cX3_markAt 13 = .ok (.lload_n 0, 1) := by decide +kernel
theorem dX3_markAt_14 : decode cX3_markAt 14 = .ok (.iconst 5, 1) := by decide +kernel
theorem dX3_markAt_15 : decode cX3_markAt 15 = .ok (.iload_n 2, 1) := by decide +kernel
theorem dX3_markAt_16 : decode cX3_markAt 16 = .ok (.imul, 1) := by decide +kernel
theorem dX3_markAt_17 : decode cX3_markAt 17 = .ok (.lushr, 1) := by decide +kernel
theorem dX3_markAt_18 : decode cX3_markAt 18 = .ok (.l2i, 1) := by decide +kernel
theorem dX3_markAt_19 : decode cX3_markAt 19 = .ok (.bipush 31, 2) := by decide +kernel
theorem dX3_markAt_21 : decode cX3_markAt 21 = .ok (.iand, 1) := by decide +kernel
theorem dX3_markAt_22 : decode cX3_markAt 22 = .ok (.istore_n 3, 1) := by decide +kernel
theorem dX3_markAt_23 : decode cX3_markAt 23 = .ok (.iload_n 3, 1) := by decide +kernel
theorem dX3_markAt_24 : decode cX3_markAt 24 = .ok (.ifCond .ne 8, 3) := by decide +kernel
theorem dX3_markAt_27 : decode cX3_markAt 27 = .ok (.bipush (-4), 2) := by decide +kernel
theorem dX3_markAt_29 : decode cX3_markAt 29 = .ok (.goto 6, 3) := by decide +kernel
theorem dX3_markAt_32 : decode cX3_markAt 32 = .ok (.iload_n 3, 1) := by decide +kernel
theorem dX3_markAt_33 : decode cX3_markAt 33 = .ok (.iconst 1, 1) := by decide +kernel
theorem dX3_markAt_34 : decode cX3_markAt 34 = .ok (.isub, 1) := by decide +kernel
theorem dX3_markAt_35 : decode cX3_markAt 35 = .ok (.ireturn, 1) := by decide +kernel
set_option maxRecDepth 20000 in
theorem ggX3_length_X3_markAt : GoodIn wsX3_length wsX3_markAt := goodIn_r _ [4] (by decide +kernel) (by decide +kernel)
set_option maxRecDepth 20000 in
theorem gX3_length_X3_markAt : GoodIn wsX3_length (va_wsS RX3 11 yX3_markAt wsX3_markAt) := goodIn_app (goodIn_of _ (by decide +kernel)) ggX3_length_X3_markAt
theorem dX3_length_0 : decode cX3_length 0 = .ok (.iconst 0, 1) := by decide +kernel
theorem dX3_length_1 : decode cX3_length 1 = .ok (.istore_n 2, 1) := by decide +kernel
theorem dX3_length_2 : decode cX3_length 2 = .ok (.iload_n 2, 1) := by decide +kernel
theorem dX3_length_3 : decode cX3_length 3 = .ok (.bipush 8, 2) := by decide +kernel
theorem dX3_length_5 : decode cX3_length 5 = .ok (.if_icmp .ge 19, 3) := by decide +kernel
theorem dX3_length_8 : decode cX3_length 8 = .ok (.lload_n 0, 1) := by decide +kernel
theorem dX3_length_9 : decode cX3_length 9 = .ok (.iload_n 2, 1) := by decide +kernel
theorem dX3_length_10 : decode cX3_length 10 = .ok (.invokestatic 11, 3) := by decide +kernel
theorem dX3_length_13 : decode cX3_length 13 = .ok (.bipush (-4), 2) := by decide +kernel
theorem dX3_length_15 : decode cX3_length 15 = .ok (.if_icmp .eq 9, 3) := by decide +kernel
theorem dX3_length_18 : decode cX3_length 18 = .ok (.iinc 2 1, 3) := by decide +kernel
theorem dX3_length_21 : decode cX3_length 21 = .ok (.goto (-19), 3) := by decide +kernel
theorem dX3_length_24 : decode cX3_length 24 = .ok (.iload_n 2, 1) := by decide +kernel
theorem dX3_length_25 : decode cX3_length 25 = .ok (.ireturn, 1) := by decide +kernel
set_option maxRecDepth 20000 in
theorem ggX3_heights_X3_length : GoodIn wsX3_heights wsX3_length := goodIn_r _ [4, 5, 6, 3, 7] (by decide +kernel) (by decide +kernel)
set_option maxRecDepth 20000 in
theorem gX3_heights_X3_length : GoodIn wsX3_heights (va_wsS RX3 15 yX3_length wsX3_length) := goodIn_app (goodIn_of _ (by decide +kernel)) ggX3_heights_X3_length
set_option maxRecDepth 20000 in
theorem ggX3_heights_X3_markAt : GoodIn wsX3_heights wsX3_markAt := goodIn_r _ [7] (by decide +kernel) (by decide +kernel)
set_option maxRecDepth 20000 in
theorem gX3_heights_X3_markAt : GoodIn wsX3_heights (va_wsS RX3 11 yX3_markAt wsX3_markAt) := goodIn_app (goodIn_of _ (by decide +kernel)) ggX3_heights_X3_markAt
theorem dX3_heights_0 : decode cX3_heights 0 = .ok (.iconst 0, 1) := by decide +kernel
theorem dX3_heights_1 : decode cX3_heights 1 = .ok (.istore_n 2, 1) := by decide +kernel
theorem dX3_heights_2 : decode cX3_heights 2 = .ok (.lload_n 0, 1) := by decide +kernel
theorem dX3_heights_3 : decode cX3_heights 3 = .ok (.invokestatic 15, 3) := by decide +kernel
theorem dX3_heights_6 : decode cX3_heights 6 = .ok (.istore_n 3, 1) := by decide +kernel
theorem dX3_heights_7 : decode cX3_heights 7 = .ok (.iconst 0, 1) := by decide +kernel
theorem dX3_heights_8 : decode cX3_heights 8 = .ok (.istore 4, 2) := by decide +kernel
theorem dX3_heights_10 : decode cX3_heights 10 = .ok (.iload 4, 2) := by decide +kernel
theorem dX3_heights_12 : decode cX3_heights 12 = .ok (.iload_n 3, 1) := by decide +kernel
theorem dX3_heights_13 : decode cX3_heights 13 = .ok (.if_icmp .ge 23, 3) := by decide +kernel
theorem dX3_heights_16 : decode cX3_heights 16 = .ok (.lload_n 0, 1) := by decide +kernel
theorem dX3_heights_17 : decode cX3_heights 17 = .ok (.iload 4, 2) := by decide +kernel
theorem dX3_heights_19 : decode cX3_heights 19 = .ok (.invokestatic 11, 3) := by decide +kernel
theorem dX3_heights_22 : decode cX3_heights 22 = .ok (.bipush 16, 2) := by decide +kernel
theorem dX3_heights_24 : decode cX3_heights 24 = .ok (.if_icmp .ge 6, 3) := by decide +kernel
theorem dX3_heights_27 : decode cX3_heights 27 = .ok (.iinc 2 1, 3) := by decide +kernel
theorem dX3_heights_30 : decode cX3_heights 30 = .ok (.iinc 4 1, 3) := by decide +kernel
theorem dX3_heights_33 : decode cX3_heights 33 = .ok (.goto (-23), 3) := by decide +kernel
theorem dX3_heights_36 : decode cX3_heights 36 = .ok (.iload_n 2, 1) := by decide +kernel
theorem dX3_heights_37 : decode cX3_heights 37 = .ok (.ireturn, 1) := by decide +kernel
theorem dX3_blurMark_0 : decode cX3_blurMark 0 = .ok (.iload_n 0, 1) := by decide +kernel
theorem dX3_blurMark_1 : decode cX3_blurMark 1 = .ok (.bipush 16, 2) := by decide +kernel
theorem dX3_blurMark_3 : decode cX3_blurMark 3 = .ok (.if_icmp .ge 7, 3) := by decide +kernel
theorem dX3_blurMark_6 : decode cX3_blurMark 6 = .ok (.iload_n 0, 1) := by decide +kernel
theorem dX3_blurMark_7 : decode cX3_blurMark 7 = .ok (.iload_n 1, 1) := by decide +kernel
theorem dX3_blurMark_8 : decode cX3_blurMark 8 = .ok (.ishr, 1) := by decide +kernel
theorem dX3_blurMark_9 : decode cX3_blurMark 9 = .ok (.ireturn, 1) := by decide +kernel
theorem dX3_blurMark_10 : decode cX3_blurMark 10 = .ok (.iload_n 1, 1) := by decide +kernel
theorem dX3_blurMark_11 : decode cX3_blurMark 11 = .ok (.iconst 4, 1) := by decide +kernel
theorem dX3_blurMark_12 : decode cX3_blurMark 12 = .ok (.if_icmp .lt 6, 3) := by decide +kernel
theorem dX3_blurMark_15 : decode cX3_blurMark 15 = .ok (.bipush (-4), 2) := by decide +kernel
theorem dX3_blurMark_17 : decode cX3_blurMark 17 = .ok (.ireturn, 1) := by decide +kernel
theorem dX3_blurMark_18 : decode cX3_blurMark 18 = .ok (.iload_n 0, 1) := by decide +kernel
theorem dX3_blurMark_19 : decode cX3_blurMark 19 = .ok (.bipush 20, 2) := by decide +kernel
theorem dX3_blurMark_21 : decode cX3_blurMark 21 = .ok (.if_icmp .ne 16, 3) := by decide +kernel
theorem dX3_blurMark_24 : decode cX3_blurMark 24 = .ok (.iload_n 1, 1) := by decide +kernel
theorem dX3_blurMark_25 : decode cX3_blurMark 25 = .ok (.iconst 3, 1) := by decide +kernel
theorem dX3_blurMark_26 : decode cX3_blurMark 26 = .ok (.if_icmp .ge 7, 3) := by decide +kernel
theorem dX3_blurMark_29 : decode cX3_blurMark 29 = .ok (.iconst 1, 1) := by decide +kernel
theorem dX3_blurMark_30 : decode cX3_blurMark 30 = .ok (.goto 17, 3) := by decide +kernel
theorem dX3_blurMark_33 : decode cX3_blurMark 33 = .ok (.iconst 0, 1) := by decide +kernel
theorem dX3_blurMark_34 : decode cX3_blurMark 34 = .ok (.goto 13, 3) := by decide +kernel
theorem dX3_blurMark_37 : decode cX3_blurMark 37 = .ok (.iload_n 1, 1) := by decide +kernel
theorem dX3_blurMark_38 : decode cX3_blurMark 38 = .ok (.iconst 2, 1) := by decide +kernel
theorem dX3_blurMark_39 : decode cX3_blurMark 39 = .ok (.if_icmp .ge 7, 3) := by decide +kernel
theorem dX3_blurMark_42 : decode cX3_blurMark 42 = .ok (.iconst 1, 1) := by decide +kernel
theorem dX3_blurMark_43 : decode cX3_blurMark 43 = .ok (.goto 4, 3) := by decide +kernel
theorem dX3_blurMark_46 : decode cX3_blurMark 46 = .ok (.iconst 0, 1) := by decide +kernel
theorem dX3_blurMark_47 : decode cX3_blurMark 47 = .ok (.istore_n 2, 1) := by decide +kernel
theorem dX3_blurMark_48 : decode cX3_blurMark 48 = .ok (.iload_n 2, 1) := by decide +kernel
theorem dX3_blurMark_49 : decode cX3_blurMark 49 = .ok (.ifCond .eq 7, 3) := by decide +kernel
theorem dX3_blurMark_52 : decode cX3_blurMark 52 = .ok (.iload_n 0, 1) := by decide +kernel
theorem dX3_blurMark_53 : decode cX3_blurMark 53 = .ok (.goto 5, 3) := by decide +kernel
theorem dX3_blurMark_56 : decode cX3_blurMark 56 = .ok (.bipush 16, 2) := by decide +kernel
theorem dX3_blurMark_58 : decode cX3_blurMark 58 = .ok (.ireturn, 1) := by decide +kernel
set_option maxRecDepth 20000 in
theorem ggX3_blurRow_X3_length : GoodIn wsX3_blurRow wsX3_length := goodIn_r _ [4, 5, 6, 3, 7] (by decide +kernel) (by decide +kernel)
set_option maxRecDepth 20000 in
theorem gX3_blurRow_X3_length : GoodIn wsX3_blurRow (va_wsS RX3 15 yX3_length wsX3_length) := goodIn_app (goodIn_of _ (by decide +kernel)) ggX3_blurRow_X3_length
set_option maxRecDepth 20000 in
theorem ggX3_blurRow_X3_markAt : GoodIn wsX3_blurRow wsX3_markAt := goodIn_r _ [7] (by decide +kernel) (by decide +kernel)
set_option maxRecDepth 20000 in
theorem gX3_blurRow_X3_markAt : GoodIn wsX3_blurRow (va_wsS RX3 11 yX3_markAt wsX3_markAt) := goodIn_app (goodIn_of _ (by decide +kernel)) ggX3_blurRow_X3_markAt
set_option maxRecDepth 20000 in
theorem ggX3_blurRow_X3_blurMark : GoodIn wsX3_blurRow wsX3_blurMark := goodIn_r _ [10] (by decide +kernel) (by decide +kernel)
set_option maxRecDepth 20000 in
theorem gX3_blurRow_X3_blurMark : GoodIn wsX3_blurRow (va_wsS RX3 19 yX3_blurMark wsX3_blurMark) := goodIn_app (goodIn_of _ (by decide +kernel)) ggX3_blurRow_X3_blurMark
set_option maxRecDepth 20000 in
theorem ggX3_blurRow_X3_with : GoodIn wsX3_blurRow wsX3_with := goodIn_r _ [13] (by decide +kernel) (by decide +kernel)
set_option maxRecDepth 20000 in
theorem gX3_blurRow_X3_with : GoodIn wsX3_blurRow (va_wsS RX3 23 yX3_with wsX3_with) := goodIn_app (goodIn_of _ (by decide +kernel)) ggX3_blurRow_X3_with
theorem dX3_blurRow_0 : decode cX3_blurRow 0 = .ok (.lconst 0, 1) := by decide +kernel
theorem dX3_blurRow_1 : decode cX3_blurRow 1 = .ok (.lstore_n 3, 1) := by decide +kernel
theorem dX3_blurRow_2 : decode cX3_blurRow 2 = .ok (.iconst 0, 1) := by decide +kernel
theorem dX3_blurRow_3 : decode cX3_blurRow 3 = .ok (.istore 5, 2) := by decide +kernel
theorem dX3_blurRow_5 : decode cX3_blurRow 5 = .ok (.bipush (-4), 2) := by decide +kernel
theorem dX3_blurRow_7 : decode cX3_blurRow 7 = .ok (.istore 6, 2) := by decide +kernel
theorem dX3_blurRow_9 : decode cX3_blurRow 9 = .ok (.lload_n 0, 1) := by decide +kernel
theorem dX3_blurRow_10 : decode cX3_blurRow 10 = .ok (.invokestatic 15, 3) := by decide +kernel
theorem dX3_blurRow_13 : decode cX3_blurRow 13 = .ok (.istore 7, 2) := by decide +kernel
theorem dX3_blurRow_15 : decode cX3_blurRow 15 = .ok (.iconst 0, 1) := by decide +kernel
theorem dX3_blurRow_16 : decode cX3_blurRow 16 = .ok (.istore 8, 2) := by decide +kernel
theorem dX3_blurRow_18 : decode cX3_blurRow 18 = .ok (.iload 8, 2) := by decide +kernel
theorem dX3_blurRow_20 : decode cX3_blurRow 20 = .ok (.iload 7, 2) := by decide +kernel
theorem dX3_blurRow_22 : decode cX3_blurRow 22 = .ok (.if_icmp .ge 68, 3) := by decide +kernel
theorem dX3_blurRow_25 : decode cX3_blurRow 25 = .ok (.lload_n 0, 1) := by decide +kernel
theorem dX3_blurRow_26 : decode cX3_blurRow 26 = .ok (.iload 8, 2) := by decide +kernel
theorem dX3_blurRow_28 : decode cX3_blurRow 28 = .ok (.invokestatic 11, 3) := by decide +kernel
theorem dX3_blurRow_31 : decode cX3_blurRow 31 = .ok (.iload_n 2, 1) := by decide +kernel
theorem dX3_blurRow_32 : decode cX3_blurRow 32 = .ok (.invokestatic 19, 3) := by decide +kernel
theorem dX3_blurRow_35 : decode cX3_blurRow 35 = .ok (.istore 9, 2) := by decide +kernel
theorem dX3_blurRow_37 : decode cX3_blurRow 37 = .ok (.iload_n 2, 1) := by decide +kernel
theorem dX3_blurRow_38 : decode cX3_blurRow 38 = .ok (.iconst 3, 1) := by decide +kernel
theorem dX3_blurRow_39 : decode cX3_blurRow 39 = .ok (.if_icmp .lt 14, 3) := by decide +kernel
theorem dX3_blurRow_42 : decode cX3_blurRow 42 = .ok (.iload 9, 2) := by decide +kernel
theorem dX3_blurRow_44 : decode cX3_blurRow 44 = .ok (.iload 6, 2) := by decide +kernel
theorem dX3_blurRow_46 : decode cX3_blurRow 46 = .ok (.if_icmp .ne 7, 3) := by decide +kernel
theorem dX3_blurRow_49 : decode cX3_blurRow 49 = .ok (.iconst 1, 1) := by decide +kernel
theorem dX3_blurRow_50 : decode cX3_blurRow 50 = .ok (.goto 4, 3) := by decide +kernel
theorem dX3_blurRow_53 : decode cX3_blurRow 53 = .ok (.iconst 0, 1) := by decide +kernel
theorem dX3_blurRow_54 : decode cX3_blurRow 54 = .ok (.istore 10, 2) := by decide +kernel
theorem dX3_blurRow_56 : decode cX3_blurRow 56 = .ok (.iload 9, 2) := by decide +kernel
theorem dX3_blurRow_58 : decode cX3_blurRow 58 = .ok (.bipush (-4), 2) := by decide +kernel
theorem dX3_blurRow_60 : decode cX3_blurRow 60 = .ok (.if_icmp .eq 24, 3) := by decide +kernel
theorem dX3_blurRow_63 : decode cX3_blurRow 63 = .ok (.iload 10, 2) := by decide +kernel
theorem dX3_blurRow_65 : decode cX3_blurRow 65 = .ok (.ifCond .ne 19, 3) := by decide +kernel
theorem dX3_blurRow_68 : decode cX3_blurRow 68 = .ok (.lload_n 3, 1) := by decide +kernel
theorem dX3_blurRow_69 : decode cX3_blurRow 69 = .ok (.iload 5, 2) := by decide +kernel
theorem dX3_blurRow_71 : decode cX3_blurRow 71 = .ok (.iload 9, 2) := by decide +kernel
theorem dX3_blurRow_73 : decode cX3_blurRow 73 = .ok (.invokestatic 23, 3) := by decide +kernel
theorem dX3_blurRow_76 : decode cX3_blurRow 76 = .ok (.lstore_n 3, 1) := by decide +kernel
theorem dX3_blurRow_77 : decode cX3_blurRow 77 = .ok (.iinc 5 1, 3) := by decide +kernel
theorem dX3_blurRow_80 : decode cX3_blurRow 80 = .ok (.iload 9, 2) := by decide +kernel
theorem dX3_blurRow_82 : decode cX3_blurRow 82 = .ok (.istore 6, 2) := by decide +kernel
theorem dX3_blurRow_84 : decode cX3_blurRow 84 = .ok (.iinc 8 1, 3) := by decide +kernel
theorem dX3_blurRow_87 : decode cX3_blurRow 87 = .ok (.goto (-69), 3) := by decide +kernel
theorem dX3_blurRow_90 : decode cX3_blurRow 90 = .ok (.lload_n 3, 1) := by decide +kernel
theorem dX3_blurRow_91 : decode cX3_blurRow 91 = .ok (.lreturn, 1) := by decide +kernel
set_option maxRecDepth 20000 in
theorem ggX3_differInOne_X3_length : GoodIn wsX3_differInOne wsX3_length := goodIn_r _ [4, 5, 6, 3, 7] (by decide +kernel) (by decide +kernel)
set_option maxRecDepth 20000 in
theorem gX3_differInOne_X3_length : GoodIn wsX3_differInOne (va_wsS RX3 15 yX3_length wsX3_length) := goodIn_app (goodIn_of _ (by decide +kernel)) ggX3_differInOne_X3_length
set_option maxRecDepth 20000 in
theorem ggX3_differInOne_X3_markAt : GoodIn wsX3_differInOne wsX3_markAt := goodIn_r _ [7] (by decide +kernel) (by decide +kernel)
set_option maxRecDepth 20000 in
theorem gX3_differInOne_X3_markAt : GoodIn wsX3_differInOne (va_wsS RX3 11 yX3_markAt wsX3_markAt) := goodIn_app (goodIn_of _ (by decide +kernel)) ggX3_differInOne_X3_markAt
theorem dX3_differInOne_0 : decode cX3_differInOne 0 = .ok (.lload_n 0, 1) := by decide +kernel
theorem dX3_differInOne_1 : decode cX3_differInOne 1 = .ok (.invokestatic 15, 3) := by decide +kernel
theorem dX3_differInOne_4 : decode cX3_differInOne 4 = .ok (.lload_n 2, 1) := by decide +kernel
theorem dX3_differInOne_5 : decode cX3_differInOne 5 = .ok (.invokestatic 15, 3) := by decide +kernel
theorem dX3_differInOne_8 : decode cX3_differInOne 8 = .ok (.if_icmp .eq 5, 3) := by decide +kernel
theorem dX3_differInOne_11 : decode cX3_differInOne 11 = .ok (.iconst 0, 1) := by decide +kernel
theorem dX3_differInOne_12 : decode cX3_differInOne 12 = .ok (.ireturn, 1) := by decide +kernel
theorem dX3_differInOne_13 : decode cX3_differInOne 13 = .ok (.iconst 0, 1) := by decide +kernel
theorem dX3_differInOne_14 : decode cX3_differInOne 14 = .ok (.istore 4, 2) := by decide +kernel
theorem dX3_differInOne_16 : decode cX3_differInOne 16 = .ok (.iconst 0, 1) := by decide +kernel
theorem dX3_differInOne_17 : decode cX3_differInOne 17 = .ok (.istore 5, 2) := by decide +kernel
theorem dX3_differInOne_19 : decode cX3_differInOne 19 = .ok (.iload 5, 2) := by decide +kernel
theorem dX3_differInOne_21 : decode cX3_differInOne 21 = .ok (.bipush 8, 2) := by decide +kernel
theorem dX3_differInOne_23 : decode cX3_differInOne 23 = .ok (.if_icmp .ge 27, 3) := by decide +kernel
theorem dX3_differInOne_26 : decode cX3_differInOne 26 = .ok (.lload_n 0, 1) := by decide +kernel
theorem dX3_differInOne_27 : decode cX3_differInOne 27 = .ok (.iload 5, 2) := by decide +kernel
theorem dX3_differInOne_29 : decode cX3_differInOne 29 = .ok (.invokestatic 11, 3) := by decide +kernel
theorem dX3_differInOne_32 : decode cX3_differInOne 32 = .ok (.lload_n 2, 1) := by decide +kernel
theorem dX3_differInOne_33 : decode cX3_differInOne 33 = .ok (.iload 5, 2) := by decide +kernel
theorem dX3_differInOne_35 : decode cX3_differInOne 35 = .ok (.invokestatic 11, 3) := by decide +kernel
theorem dX3_differInOne_38 : decode cX3_differInOne 38 = .ok (.if_icmp .eq 6, 3) := by decide +kernel
theorem dX3_differInOne_41 : decode cX3_differInOne 41 = .ok (.iinc 4 1, 3) := by decide +kernel
theorem dX3_differInOne_44 : decode cX3_differInOne 44 = .ok (.iinc 5 1, 3) := by decide +kernel
theorem dX3_differInOne_47 : decode cX3_differInOne 47 = .ok (.goto (-28), 3) := by decide +kernel
theorem dX3_differInOne_50 : decode cX3_differInOne 50 = .ok (.iload 4, 2) := by decide +kernel
theorem dX3_differInOne_52 : decode cX3_differInOne 52 = .ok (.iconst 1, 1) := by decide +kernel
theorem dX3_differInOne_53 : decode cX3_differInOne 53 = .ok (.if_icmp .ne 7, 3) := by decide +kernel
theorem dX3_differInOne_56 : decode cX3_differInOne 56 = .ok (.iconst 1, 1) := by decide +kernel
theorem dX3_differInOne_57 : decode cX3_differInOne 57 = .ok (.goto 4, 3) := by decide +kernel
theorem dX3_differInOne_60 : decode cX3_differInOne 60 = .ok (.iconst 0, 1) := by decide +kernel
theorem dX3_differInOne_61 : decode cX3_differInOne 61 = .ok (.ireturn, 1) := by decide +kernel
set_option maxRecDepth 20000 in
theorem ggX4_init_J7_fill_53178 : GoodIn wsX4_init wsJ7_fill_53178 := goodIn_r _ [11] (by decide +kernel) (by decide +kernel)
set_option maxRecDepth 20000 in
theorem gX4_init_J7_fill_53178 : GoodIn wsX4_init (va_wsS RX4 18 yJ7_fill_53178 wsJ7_fill_53178) := goodIn_app (goodIn_of _ (by decide +kernel)) ggX4_init_J7_fill_53178
theorem dX4_init_0 : decode cX4_init 0 = .ok (.aload_n 0, 1) := by decide +kernel
theorem dX4_init_1 : decode cX4_init 1 = .ok (.invokespecial 3, 3) := by decide +kernel
theorem dX4_init_4 : decode cX4_init 4 = .ok (.aload_n 0, 1) := by decide +kernel
theorem dX4_init_5 : decode cX4_init 5 = .ok (.iconst 4, 1) := by decide +kernel
theorem dX4_init_6 : decode cX4_init 6 = .ok (.newarray .int, 2) := by decide +kernel
theorem dX4_init_8 : decode cX4_init 8 = .ok (.putfield 11, 3) := by decide +kernel
theorem dX4_init_11 : decode cX4_init 11 = .ok (.aload_n 0, 1) := by decide +kernel
theorem dX4_init_12 : decode cX4_init 12 = .ok (.iconst 4, 1) := by decide +kernel
theorem dX4_init_13 : decode cX4_init 13 = .ok (.newarray .int, 2) := by decide +kernel
theorem dX4_init_15 : decode cX4_init 15 = .ok (.putfield 15, 3) := by decide +kernel
theorem dX4_init_18 : decode cX4_init 18 = .ok (.aload_n 0, 1) := by decide +kernel
theorem dX4_init_19 : decode cX4_init 19 = .ok (.getfield 15, 3) := by decide +kernel
theorem dX4_init_22 : decode cX4_init 22 = .ok (.iconst (-1), 1) := by decide +kernel
theorem dX4_init_23 : decode cX4_init 23 = .ok (.invokestatic 18, 3) := by decide +kernel
theorem dX4_init_26 : decode cX4_init 26 = .ok (.aload_n 0, 1) := by decide +kernel
theorem dX4_init_27 : decode cX4_init 27 = .ok (.sipush 240, 3) := by decide +kernel
theorem dX4_init_30 : decode cX4_init 30 = .ok (.newarray .int, 2) := by decide +kernel
theorem dX4_init_32 : decode cX4_init 32 = .ok (.putfield 24, 3) := by decide +kernel
theorem dX4_init_35 : decode cX4_init 35 = .ok (.return_, 1) := by decide +kernel
theorem dX4_isSheet_0 : decode cX4_isSheet 0 = .ok (.iload_n 0, 1) := by decide +kernel
theorem dX4_isSheet_1 : decode cX4_isSheet 1 = .ok (.ifCond .lt 12, 3) := by decide +kernel
theorem dX4_isSheet_4 : decode cX4_isSheet 4 = .ok (.iload_n 0, 1) := by decide +kernel
theorem dX4_isSheet_5 : decode cX4_isSheet 5 = .ok (.iconst 4, 1) := by decide +kernel
theorem dX4_isSheet_6 : decode cX4_isSheet 6 = .ok (.if_icmp .ge 7, 3) := by decide +kernel
theorem dX4_isSheet_9 : decode cX4_isSheet 9 = .ok (.iconst 1, 1) := by decide +kernel
theorem dX4_isSheet_10 : decode cX4_isSheet 10 = .ok (.goto 4, 3) := by decide +kernel
theorem dX4_isSheet_13 : decode cX4_isSheet 13 = .ok (.iconst 0, 1) := by decide +kernel
theorem dX4_isSheet_14 : decode cX4_isSheet 14 = .ok (.ireturn, 1) := by decide +kernel
theorem dX4_isLane_0 : decode cX4_isLane 0 = .ok (.iload_n 0, 1) := by decide +kernel
theorem dX4_isLane_1 : decode cX4_isLane 1 = .ok (.ifCond .lt 12, 3) := by decide +kernel
theorem dX4_isLane_4 : decode cX4_isLane 4 = .ok (.iload_n 0, 1) := by decide +kernel
theorem dX4_isLane_5 : decode cX4_isLane 5 = .ok (.iconst 2, 1) := by decide +kernel
theorem dX4_isLane_6 : decode cX4_isLane 6 = .ok (.if_icmp .gt 7, 3) := by decide +kernel
theorem dX4_isLane_9 : decode cX4_isLane 9 = .ok (.iconst 1, 1) := by decide +kernel
theorem dX4_isLane_10 : decode cX4_isLane 10 = .ok (.goto 4, 3) := by decide +kernel
theorem dX4_isLane_13 : decode cX4_isLane 13 = .ok (.iconst 0, 1) := by decide +kernel
theorem dX4_isLane_14 : decode cX4_isLane 14 = .ok (.ireturn, 1) := by decide +kernel
theorem dX4_renew_0 : decode cX4_renew 0 = .ok (.aload_n 0, 1) := by decide +kernel
theorem dX4_renew_1 : decode cX4_renew 1 = .ok (.getfield 11, 3) := by decide +kernel
theorem dX4_renew_4 : decode cX4_renew 4 = .ok (.iload_n 1, 1) := by decide +kernel
theorem dX4_renew_5 : decode cX4_renew 5 = .ok (.iload_n 2, 1) := by decide +kernel
theorem dX4_renew_6 : decode cX4_renew 6 = .ok (.iastore, 1) := by decide +kernel
theorem dX4_renew_7 : decode cX4_renew 7 = .ok (.aload_n 0, 1) := by decide +kernel
theorem dX4_renew_8 : decode cX4_renew 8 = .ok (.getfield 15, 3) := by decide +kernel
theorem dX4_renew_11 : decode cX4_renew 11 = .ok (.iload_n 1, 1) := by decide +kernel
theorem dX4_renew_12 : decode cX4_renew 12 = .ok (.iload_n 3, 1) := by decide +kernel
theorem dX4_renew_13 : decode cX4_renew 13 = .ok (.iastore, 1) := by decide +kernel
theorem dX4_renew_14 : decode cX4_renew 14 = .ok (.iconst 0, 1) := by decide +kernel
theorem dX4_renew_15 : decode cX4_renew 15 = .ok (.istore 4, 2) := by decide +kernel
theorem dX4_renew_17 : decode cX4_renew 17 = .ok (.iload 4, 2) := by decide +kernel
theorem dX4_renew_19 : decode cX4_renew 19 = .ok (.iload_n 3, 1) := by decide +kernel
theorem dX4_renew_20 : decode cX4_renew 20 = .ok (.if_icmp .ge 22, 3) := by decide +kernel
theorem dX4_renew_23 : decode cX4_renew 23 = .ok (.aload_n 0, 1) := by decide +kernel
theorem dX4_renew_24 : decode cX4_renew 24 = .ok (.getfield 24, 3) := by decide +kernel
theorem dX4_renew_27 : decode cX4_renew 27 = .ok (.iload_n 1, 1) := by decide +kernel
theorem dX4_renew_28 : decode cX4_renew 28 = .ok (.bipush 60, 2) := by decide +kernel
theorem dX4_renew_30 : decode cX4_renew 30 = .ok (.imul, 1) := by decide +kernel
theorem dX4_renew_31 : decode cX4_renew 31 = .ok (.iload 4, 2) := by decide +kernel
theorem dX4_renew_33 : decode cX4_renew 33 = .ok (.iadd, 1) := by decide +kernel
theorem dX4_renew_34 : decode cX4_renew 34 = .ok (.iconst 0, 1) := by decide +kernel
theorem dX4_renew_35 : decode cX4_renew 35 = .ok (.iastore, 1) := by decide +kernel
theorem dX4_renew_36 : decode cX4_renew 36 = .ok (.iinc 4 1, 3) := by decide +kernel
theorem dX4_renew_39 : decode cX4_renew 39 = .ok (.goto (-22), 3) := by decide +kernel
theorem dX4_renew_42 : decode cX4_renew 42 = .ok (.return_, 1) := by decide +kernel
theorem dX4_faultOfRow_0 : decode cX4_faultOfRow 0 = .ok (.aload_n 0, 1) := by decide +kernel
theorem dX4_faultOfRow_1 : decode cX4_faultOfRow 1 = .ok (.getfield 15, 3) := by decide +kernel
theorem dX4_faultOfRow_4 : decode cX4_faultOfRow 4 = .ok (.iload_n 1, 1) := by decide +kernel
theorem dX4_faultOfRow_5 : decode cX4_faultOfRow 5 = .ok (.iaload, 1) := by decide +kernel
theorem dX4_faultOfRow_6 : decode cX4_faultOfRow 6 = .ok (.iconst (-1), 1) := by decide +kernel
theorem dX4_faultOfRow_7 : decode cX4_faultOfRow 7 = .ok (.if_icmp .ne 5, 3) := by decide +kernel
theorem dX4_faultOfRow_10 : decode cX4_faultOfRow 10 = .ok (.iconst 1, 1) := by decide +kernel
theorem dX4_faultOfRow_11 : decode cX4_faultOfRow 11 = .ok (.ireturn, 1) := by decide +kernel
theorem dX4_faultOfRow_12 : decode cX4_faultOfRow 12 = .ok (.aload_n 0, 1) := by decide +kernel
theorem dX4_faultOfRow_13 : decode cX4_faultOfRow 13 = .ok (.getfield 11, 3) := by decide +kernel
theorem dX4_faultOfRow_16 : decode cX4_faultOfRow 16 = .ok (.iload_n 1, 1) := by decide +kernel
theorem dX4_faultOfRow_17 : decode cX4_faultOfRow 17 = .ok (.iaload, 1) := by decide +kernel
theorem dX4_faultOfRow_18 : decode cX4_faultOfRow 18 = .ok (.iload_n 2, 1) := by decide +kernel
theorem dX4_faultOfRow_19 : decode cX4_faultOfRow 19 = .ok (.if_icmp .eq 5, 3) := by decide +kernel
theorem dX4_faultOfRow_22 : decode cX4_faultOfRow 22 = .ok (.iconst 3, 1) := by decide +kernel
theorem dX4_faultOfRow_23 : decode cX4_faultOfRow 23 = .ok (.ireturn, 1) := by decide +kernel
theorem dX4_faultOfRow_24 : decode cX4_faultOfRow 24 = .ok (.iload 4, 2) := by decide +kernel
theorem dX4_faultOfRow_26 : decode cX4_faultOfRow 26 = .ok (.ifCond .le 24, 3) := by decide +kernel
theorem dX4_faultOfRow_29 : decode cX4_faultOfRow 29 = .ok (.iload_n 3, 1) := by decide +kernel
theorem dX4_faultOfRow_30 : decode cX4_faultOfRow 30 = .ok (.ifCond .lt 16, 3) := by decide +kernel
theorem dX4_faultOfRow_33 : decode cX4_faultOfRow 33 = .ok (.iload_n 3, 1) := by decide +kernel
theorem dX4_faultOfRow_34 : decode cX4_faultOfRow 34 = .ok (.aload_n 0, 1) := by decide +kernel
theorem dX4_faultOfRow_35 : decode cX4_faultOfRow 35 = .ok (.getfield 15, 3) := by decide +kernel
theorem dX4_faultOfRow_38 : decode cX4_faultOfRow 38 = .ok (.iload_n 1, 1) := by decide +kernel
theorem dX4_faultOfRow_39 : decode cX4_faultOfRow 39 = .ok (.iaload, 1) := by decide +kernel
theorem dX4_faultOfRow_40 : decode cX4_faultOfRow 40 = .ok (.iload 4, 2) := by decide +kernel
theorem dX4_faultOfRow_42 : decode cX4_faultOfRow 42 = .ok (.isub, 1) := by decide +kernel
theorem dX4_faultOfRow_43 : decode cX4_faultOfRow 43 = .ok (.if_icmp .le 7, 3) := by decide +kernel
theorem dX4_faultOfRow_46 : decode cX4_faultOfRow 46 = .ok (.iconst 1, 1) := by decide +kernel
theorem dX4_faultOfRow_47 : decode cX4_faultOfRow 47 = .ok (.goto 4, 3) := by decide +kernel
theorem dX4_faultOfRow_50 : decode cX4_faultOfRow 50 = .ok (.iconst 0, 1) := by decide +kernel
theorem dX4_faultOfRow_51 : decode cX4_faultOfRow 51 = .ok (.istore 5, 2) := by decide +kernel
theorem dX4_faultOfRow_53 : decode cX4_faultOfRow 53 = .ok (.iload 5, 2) := by decide +kernel
theorem dX4_faultOfRow_55 : decode cX4_faultOfRow 55 = .ok (.ifCond .eq 7, 3) := by decide +kernel
theorem dX4_faultOfRow_58 : decode cX4_faultOfRow 58 = .ok (.iconst 2, 1) := by decide +kernel
theorem dX4_faultOfRow_59 : decode cX4_faultOfRow 59 = .ok (.goto 4, 3) := by decide +kernel
theorem dX4_faultOfRow_62 : decode cX4_faultOfRow 62 = .ok (.iconst 0, 1) := by decide +kernel
theorem dX4_faultOfRow_63 : decode cX4_faultOfRow 63 = .ok (.ireturn, 1) := by decide +kernel
theorem dX4_cellAt_0 : decode cX4_cellAt 0 = .ok (.aload_n 0, 1) := by decide +kernel
theorem dX4_cellAt_1 : decode cX4_cellAt 1 = .ok (.getfield 24, 3) := by decide +kernel
theorem dX4_cellAt_4 : decode cX4_cellAt 4 = .ok (.iload_n 1, 1) := by decide +kernel
theorem dX4_cellAt_5 : decode cX4_cellAt 5 = .ok (.bipush 60, 2) := by decide +kernel
theorem dX4_cellAt_7 : decode cX4_cellAt 7 = .ok (.imul, 1) := by decide +kernel
theorem dX4_cellAt_8 : decode cX4_cellAt 8 = .ok (.iload_n 2, 1) := by decide +kernel
theorem dX4_cellAt_9 : decode cX4_cellAt 9 = .ok (.iadd, 1) := by decide +kernel
theorem dX4_cellAt_10 : decode cX4_cellAt 10 = .ok (.iaload, 1) := by decide +kernel
theorem dX4_cellAt_11 : decode cX4_cellAt 11 = .ok (.ireturn, 1) := by decide +kernel
theorem dX4_put_0 : decode cX4_put 0 = .ok (.iload_n 3, 1) := by decide +kernel
theorem dX4_put_1 : decode cX4_put 1 = .ok (.istore 4, 2) := by decide +kernel
theorem dX4_put_3 : decode cX4_put 3 = .ok (.aload_n 0, 1) := by decide +kernel
theorem dX4_put_4 : decode cX4_put 4 = .ok (.getfield 11, 3) := by decide +kernel
theorem dX4_put_7 : decode cX4_put 7 = .ok (.iload_n 1, 1) := by decide +kernel
theorem dX4_put_8 : decode cX4_put 8 = .ok (.iaload, 1) := by decide +kernel
theorem dX4_put_9 : decode cX4_put 9 = .ok (.ifCond .ne 10, 3) := by decide +kernel
theorem dX4_put_12 : decode cX4_put 12 = .ok (.iload_n 3, 1) := by decide +kernel
theorem dX4_put_13 : decode cX4_put 13 = .ok (.i2b, 1) := by decide +kernel
theorem dX4_put_14 : decode cX4_put 14 = .ok (.istore 4, 2) := by decide +kernel
theorem dX4_put_16 : decode cX4_put 16 = .ok (.goto 17, 3) := by decide +kernel
theorem dX4_put_19 : decode cX4_put 19 = .ok (.aload_n 0, 1) := by decide +kernel
theorem dX4_put_20 : decode cX4_put 20 = .ok (.getfield 11, 3) := by decide +kernel
theorem dX4_put_23 : decode cX4_put 23 = .ok (.iload_n 1, 1) := by decide +kernel
theorem dX4_put_24 : decode cX4_put 24 = .ok (.iaload, 1) := by decide +kernel
theorem dX4_put_25 : decode cX4_put 25 = .ok (.iconst 1, 1) := by decide +kernel
theorem dX4_put_26 : decode cX4_put 26 = .ok (.if_icmp .ne 7, 3) := by decide +kernel
theorem dX4_put_29 : decode cX4_put 29 = .ok (.iload_n 3, 1) := by decide +kernel
theorem dX4_put_30 : decode cX4_put 30 = .ok (.i2s, 1) := by decide +kernel
theorem dX4_put_31 : decode cX4_put 31 = .ok (.istore 4, 2) := by decide +kernel
theorem dX4_put_33 : decode cX4_put 33 = .ok (.aload_n 0, 1) := by decide +kernel
theorem dX4_put_34 : decode cX4_put 34 = .ok (.getfield 24, 3) := by decide +kernel
theorem dX4_put_37 : decode cX4_put 37 = .ok (.iload_n 1, 1) := by decide +kernel
theorem dX4_put_38 : decode cX4_put 38 = .ok (.bipush 60, 2) := by decide +kernel
theorem dX4_put_40 : decode cX4_put 40 = .ok (.imul, 1) := by decide +kernel
theorem dX4_put_41 : decode cX4_put 41 = .ok (.iload_n 2, 1) := by decide +kernel
theorem dX4_put_42 : decode cX4_put 42 = .ok (.iadd, 1) := by decide +kernel
theorem dX4_put_43 : decode cX4_put 43 = .ok (.iload 4, 2) := by decide +kernel
theorem dX4_put_45 : decode cX4_put 45 = .ok (.iastore, 1) := by decide +kernel
theorem dX4_put_46 : decode cX4_put 46 = .ok (.return_, 1) := by decide +kernel
set_option maxRecDepth 20000 in
theorem ggX4_faultOfWind_X4_faultOfRow : GoodIn wsX4_faultOfWind wsX4_faultOfRow := goodIn_r _ [5, 6, 7, 8, 9, 10] (by decide +kernel) (by decide +kernel)
set_option maxRecDepth 20000 in
theorem gX4_faultOfWind_X4_faultOfRow : GoodIn wsX4_faultOfWind (wsV RX4 27 RX4 yX4_faultOfRow wsX4_faultOfRow) := goodIn_app (goodIn_of _ (by decide +kernel)) ggX4_faultOfWind_X4_faultOfRow
theorem dX4_faultOfWind_0 : decode cX4_faultOfWind 0 = .ok (.aload_n 0, 1) := by decide +kernel
theorem dX4_faultOfWind_1 : decode cX4_faultOfWind 1 = .ok (.iconst 0, 1) := by decide +kernel
theorem dX4_faultOfWind_2 : decode cX4_faultOfWind 2 = .ok (.iconst 0, 1) := by decide +kernel
theorem dX4_faultOfWind_3 : decode cX4_faultOfWind 3 = .ok (.iload_n 1, 1) := by decide +kernel
theorem dX4_faultOfWind_4 : decode cX4_faultOfWind 4 = .ok (.iconst 1, 1) := by decide +kernel
theorem dX4_faultOfWind_5 : decode cX4_faultOfWind 5 = .ok (.invokevirtual 27, 3) := by decide +kernel
theorem dX4_faultOfWind_8 : decode cX4_faultOfWind 8 = .ok (.ireturn, 1) := by decide +kernel
set_option maxRecDepth 20000 in
theorem ggX4_windAt_X4_faultOfRow : GoodIn wsX4_windAt wsX4_faultOfRow := goodIn_r _ [12, 13, 14, 20, 21, 22] (by decide +kernel) (by decide +kernel)
set_option maxRecDepth 20000 in
theorem gX4_windAt_X4_faultOfRow : GoodIn wsX4_windAt (wsV RX4 27 RX4 yX4_faultOfRow wsX4_faultOfRow) := goodIn_app (goodIn_of _ (by decide +kernel)) ggX4_windAt_X4_faultOfRow
set_option maxRecDepth 20000 in
theorem ggX4_windAt_X4_cellAt : GoodIn wsX4_windAt wsX4_cellAt := goodIn_r _ [18, 19, 20, 21, 22] (by decide +kernel) (by decide +kernel)
set_option maxRecDepth 20000 in
theorem gX4_windAt_X4_cellAt : GoodIn wsX4_windAt (wsV RX4 31 RX4 yX4_cellAt wsX4_cellAt) := goodIn_app (goodIn_of _ (by decide +kernel)) ggX4_windAt_X4_cellAt
theorem dX4_windAt_0 : decode cX4_windAt 0 = .ok (.aload_n 0, 1) := by decide +kernel
theorem dX4_windAt_1 : decode cX4_windAt 1 = .ok (.iconst 0, 1) := by decide +kernel
theorem dX4_windAt_2 : decode cX4_windAt 2 = .ok (.iconst 0, 1) := by decide +kernel
theorem dX4_windAt_3 : decode cX4_windAt 3 = .ok (.iload_n 1, 1) := by decide +kernel
theorem dX4_windAt_4 : decode cX4_windAt 4 = .ok (.iconst 1, 1) := by decide +kernel
theorem dX4_windAt_5 : decode cX4_windAt 5 = .ok (.invokevirtual 27, 3) := by decide +kernel
theorem dX4_windAt_8 : decode cX4_windAt 8 = .ok (.ifCond .eq 6, 3) := by decide +kernel
theorem dX4_windAt_11 : decode cX4_windAt 11 = .ok (.bipush 9, 2) := by decide +kernel
theorem dX4_windAt_13 : decode cX4_windAt 13 = .ok (.ireturn, 1) := by decide +kernel
theorem dX4_windAt_14 : decode cX4_windAt 14 = .ok (.bipush (-2), 2) := by decide +kernel
theorem dX4_windAt_16 : decode cX4_windAt 16 = .ok (.iconst 2, 1) := by decide +kernel
theorem dX4_windAt_17 : decode cX4_windAt 17 = .ok (.aload_n 0, 1) := by decide +kernel
theorem dX4_windAt_18 : decode cX4_windAt 18 = .ok (.iconst 0, 1) := by decide +kernel
theorem dX4_windAt_19 : decode cX4_windAt 19 = .ok (.iload_n 1, 1) := by decide +kernel
theorem dX4_windAt_20 : decode cX4_windAt 20 = .ok (.invokevirtual 31, 3) := by decide +kernel
theorem dX4_windAt_23 : decode cX4_windAt 23 = .ok (.invokestatic 35, 3) := by decide +kernel
theorem dX4_windAt_26 : decode cX4_windAt 26 = .ok (.invokestatic 40, 3) := by decide +kernel
theorem dX4_windAt_29 : decode cX4_windAt 29 = .ok (.ireturn, 1) := by decide +kernel
theorem dX5_init_0 : decode cX5_init 0 = .ok (.aload_n 0, 1) := by decide +kernel
theorem dX5_init_1 : decode cX5_init 1 = .ok (.invokespecial 1, 3) := by decide +kernel
theorem dX5_init_4 : decode cX5_init 4 = .ok (.aload_n 0, 1) := by decide +kernel
theorem dX5_init_5 : decode cX5_init 5 = .ok (.sipush 400, 3) := by decide +kernel
theorem dX5_init_8 : decode cX5_init 8 = .ok (.newarray .byte, 2) := by decide +kernel
theorem dX5_init_10 : decode cX5_init 10 = .ok (.putfield 9, 3) := by decide +kernel
theorem dX5_init_13 : decode cX5_init 13 = .ok (.aload_n 0, 1) := by decide +kernel
theorem dX5_init_14 : decode cX5_init 14 = .ok (.iconst 0, 1) := by decide +kernel
theorem dX5_init_15 : decode cX5_init 15 = .ok (.putfield 13, 3) := by decide +kernel
theorem dX5_init_18 : decode cX5_init 18 = .ok (.return_, 1) := by decide +kernel
theorem dX5_addEight_0 : decode cX5_addEight 0 = .ok (.aload_n 0, 1) := by decide +kernel
theorem dX5_addEight_1 : decode cX5_addEight 1 = .ok (.getfield 13, 3) := by decide +kernel
theorem dX5_addEight_4 : decode cX5_addEight 4 = .ok (.sipush 392, 3) := by decide +kernel
theorem dX5_addEight_7 : decode cX5_addEight 7 = .ok (.if_icmp .le 5, 3) := by decide +kernel
theorem dX5_addEight_10 : decode cX5_addEight 10 = .ok (.iconst 0, 1) := by decide +kernel
theorem dX5_addEight_11 : decode cX5_addEight 11 = .ok (.ireturn, 1) := by decide +kernel
theorem dX5_addEight_12 : decode cX5_addEight 12 = .ok (.iconst 0, 1) := by decide +kernel
theorem dX5_addEight_13 : decode cX5_addEight 13 = .ok (.istore_n 3, 1) := by decide +kernel
theorem dX5_addEight_14 : decode cX5_addEight 14 = .ok (.iload_n 3, 1) := by decide +kernel
theorem dX5_addEight_15 : decode cX5_addEight 15 = .ok (.bipush 8, 2) := by decide +kernel
theorem dX5_addEight_17 : decode cX5_addEight 17 = .ok (.if_icmp .ge 31, 3) := by decide +kernel
theorem dX5_addEight_20 : decode cX5_addEight 20 = .ok (.aload_n 0, 1) := by decide +kernel
theorem dX5_addEight_21 : decode cX5_addEight 21 = .ok (.getfield 9, 3) := by decide +kernel
theorem dX5_addEight_24 : decode cX5_addEight 24 = .ok (.aload_n 0, 1) := by decide +kernel
theorem dX5_addEight_25 : decode cX5_addEight 25 = .ok (.getfield 13, 3) := by decide +kernel
theorem dX5_addEight_28 : decode cX5_addEight 28 = .ok (.iload_n 3, 1) := by decide +kernel
theorem dX5_addEight_29 : decode cX5_addEight 29 = .ok (.iadd, 1) := by decide +kernel
theorem dX5_addEight_30 : decode cX5_addEight 30 = .ok (.lload_n 1, 1) := by decide +kernel
theorem dX5_addEight_31 : decode cX5_addEight 31 = .ok (.bipush 56, 2) := by decide +kernel
theorem dX5_addEight_33 : decode cX5_addEight 33 = .ok (.bipush 8, 2) := by decide +kernel
theorem dX5_addEight_35 : decode cX5_addEight 35 = .ok (.iload_n 3, 1) := by decide +kernel
theorem dX5_addEight_36 : decode cX5_addEight 36 = .ok (.imul, 1) := by decide +kernel
theorem dX5_addEight_37 : decode cX5_addEight 37 = .ok (.isub, 1) := by decide +kernel
theorem dX5_addEight_38 : decode cX5_addEight 38 = .ok (.lshr, 1) := by decide +kernel
theorem dX5_addEight_39 : decode cX5_addEight 39 = .ok (.l2i, 1) := by decide +kernel
theorem dX5_addEight_40 : decode cX5_addEight 40 = .ok (.i2b, 1) := by decide +kernel
theorem dX5_addEight_41 : decode cX5_addEight 41 = .ok (.bastore, 1) := by decide +kernel
theorem dX5_addEight_42 : decode cX5_addEight 42 = .ok (.iinc 3 1, 3) := by decide +kernel
theorem dX5_addEight_45 : decode cX5_addEight 45 = .ok (.goto (-31), 3) := by decide +kernel
theorem dX5_addEight_48 : decode cX5_addEight 48 = .ok (.aload_n 0, 1) := by decide +kernel
theorem dX5_addEight_49 : decode cX5_addEight 49 = .ok (.dup, 1) := by decide +kernel
theorem dX5_addEight_50 : decode cX5_addEight 50 = .ok (.getfield 13, 3) := by decide +kernel
theorem dX5_addEight_53 : decode cX5_addEight 53 = .ok (.bipush 8, 2) := by decide +kernel
theorem dX5_addEight_55 : decode cX5_addEight 55 = .ok (.iadd, 1) := by decide +kernel
theorem dX5_addEight_56 : decode cX5_addEight 56 = .ok (.putfield 13, 3) := by decide +kernel
theorem dX5_addEight_59 : decode cX5_addEight 59 = .ok (.iconst 1, 1) := by decide +kernel
theorem dX5_addEight_60 : decode cX5_addEight 60 = .ok (.ireturn, 1) := by decide +kernel
set_option maxRecDepth 20000 in
theorem ggX6_init_X7_init : GoodIn wsX6_init wsX7_init := goodIn_r _ [11, 12, 2, 3, 13, 14, 15, 16, 17, 18, 19, 20, 21, 22, 23, 24, 25, 26, 27, 28, 37, 38, 39, 40, 41, 42, 43, 44, 45, 46] (by decide +kernel) (by decide +kernel)
set_option maxRecDepth 20000 in
theorem gX6_init_X7_init : GoodIn wsX6_init (wsX7_init) := ggX6_init_X7_init
theorem dX6_init_0 : decode cX6_init 0 = .ok (.aload_n 0, 1) := by decide +kernel
theorem dX6_init_1 : decode cX6_init 1 = .ok (.invokespecial 3, 3) := by decide +kernel
theorem dX6_init_4 : decode cX6_init 4 = .ok (.aload_n 0, 1) := by decide +kernel
theorem dX6_init_5 : decode cX6_init 5 = .ok (.aload_n 1, 1) := by decide +kernel
theorem dX6_init_6 : decode cX6_init 6 = .ok (.putfield 9, 3) := by decide +kernel
theorem dX6_init_9 : decode cX6_init 9 = .ok (.aload_n 0, 1) := by decide +kernel
theorem dX6_init_10 : decode cX6_init 10 = .ok (.new 15, 3) := by decide +kernel
theorem dX6_init_13 : decode cX6_init 13 = .ok (.dup, 1) := by decide +kernel
theorem dX6_init_14 : decode cX6_init 14 = .ok (.invokespecial 17, 3) := by decide +kernel
theorem dX6_init_17 : decode cX6_init 17 = .ok (.putfield 18, 3) := by decide +kernel
theorem dX6_init_20 : decode cX6_init 20 = .ok (.return_, 1) := by decide +kernel
set_option maxRecDepth 20000 in
theorem ggX6_readText_X7_forget : GoodIn wsX6_readText wsX7_forget := goodIn_r _ [10, 11, 12, 13, 14, 15, 16, 17, 18, 173, 174, 175, 176, 177, 178, 179, 180, 181, 182] (by decide +kernel) (by decide +kernel)
set_option maxRecDepth 20000 in
theorem gX6_readText_X7_forget : GoodIn wsX6_readText (wsV RX6 22 RX7 yX7_forget wsX7_forget) := goodIn_app (goodIn_of _ (by decide +kernel)) ggX6_readText_X7_forget
set_option maxRecDepth 20000 in
theorem ggX6_readText_X6_readToken : GoodIn wsX6_readText wsX6_readToken := goodIn_r _ [23, 4, 24, 25, 26, 27, 5, 28, 165, 166, 167, 168, 169, 170, 171, 172, 183, 184] (by decide +kernel) (by decide +kernel)
set_option maxRecDepth 20000 in
theorem gX6_readText_X6_readToken : GoodIn wsX6_readText (wsV RX6 37 RX6 yX6_readToken wsX6_readToken) := goodIn_app (goodIn_of _ (by decide +kernel)) ggX6_readText_X6_readToken
set_option maxRecDepth 20000 in
theorem ggX6_readText_X6_readLine : GoodIn wsX6_readText wsX6_readLine := goodIn_r _ [32, 5, 33, 34, 35, 22, 36, 2, 27, 3, 37, 38, 39, 40, 4, 24, 26, 41, 42, 43, 44, 45, 46, 47, 48, 49, 50, 51, 52, 53, 54, 55, 56, 57, 58, 59, 60, 61, 62, 63, 64, 65, 66, 67, 68, 69, 70, 71, 72, 73, 74, 75, 76, 77, 78, 79, 80, 81, 82, 83, 84, 85, 86, 87, 88, 89, 90, 91, 92, 93, 28, 1, 94, 95, 96, 97, 98, 99, 100, 101, 102, 19, 20, 21, 23, 25, 103, 104, 105, 106, 107, 108, 109, 9, 110, 11, 12, 111, 112, 113, 114, 115, 116, 117, 118, 119, 120, 121, 122, 123, 124, 125, 126, 127, 128, 129, 130, 131, 132, 13, 133, 134, 135, 136, 137, 138, 139, 140, 141, 142, 143, 144, 145, 146, 147, 148, 149, 150, 151, 152, 153, 154, 155, 156, 157, 158, 159, 160, 161, 162, 163, 164, 14, 165, 166, 167, 168, 169, 170, 171, 172, 183, 184, 173, 174, 175, 176, 177, 178, 179, 180, 181, 182] (by decide +kernel) (by decide +kernel)
set_option maxRecDepth 20000 in
theorem gX6_readText_X6_readLine : GoodIn wsX6_readText (wsV RX6 43 RX6 yX6_readLine wsX6_readLine) := goodIn_app (goodIn_of _ (by decide +kernel)) ggX6_readText_X6_readLine
set_option maxRecDepth 20000 in
theorem ggX6_readText_X6_refuse : GoodIn wsX6_readText wsX6_refuse := goodIn_r _ [36, 5, 2, 27, 3, 165, 166, 167, 168, 169, 170, 171, 172] (by decide +kernel) (by decide +kernel)
set_option maxRecDepth 20000 in
theorem gX6_readText_X6_refuse : GoodIn wsX6_readText (wsV RX6 47 RX6 yX6_refuse wsX6_refuse) := goodIn_app (goodIn_of _ (by decide +kernel)) ggX6_readText_X6_refuse
theorem dX6_readText_0 : decode cX6_readText 0 = .ok (.aload_n 0, 1) := by decide +kernel
theorem dX6_readText_1 : decode cX6_readText 1 = .ok (.getfield 18, 3) := by decide +kernel
theorem dX6_readText_4 : decode cX6_readText 4 = .ok (.invokevirtual 22, 3) := by decide +kernel
theorem dX6_readText_7 : decode cX6_readText 7 = .ok (.aload_n 0, 1) := by decide +kernel
theorem dX6_readText_8 : decode cX6_readText 8 = .ok (.iconst 0, 1) := by decide +kernel
theorem dX6_readText_9 : decode cX6_readText 9 = .ok (.putfield 25, 3) := by decide +kernel
theorem dX6_readText_12 : decode cX6_readText 12 = .ok (.aload_n 0, 1) := by decide +kernel
theorem dX6_readText_13 : decode cX6_readText 13 = .ok (.iconst 0, 1) := by decide +kernel
theorem dX6_readText_14 : decode cX6_readText 14 = .ok (.putfield 29, 3) := by decide +kernel
theorem dX6_readText_17 : decode cX6_readText 17 = .ok (.aload_n 0, 1) := by decide +kernel
theorem dX6_readText_18 : decode cX6_readText 18 = .ok (.iconst 0, 1) := by decide +kernel
theorem dX6_readText_19 : decode cX6_readText 19 = .ok (.putfield 32, 3) := by decide +kernel
theorem dX6_readText_22 : decode cX6_readText 22 = .ok (.iconst 0, 1) := by decide +kernel
theorem dX6_readText_23 : decode cX6_readText 23 = .ok (.istore_n 1, 1) := by decide +kernel
theorem dX6_readText_24 : decode cX6_readText 24 = .ok (.iload_n 1, 1) := by decide +kernel
theorem dX6_readText_25 : decode cX6_readText 25 = .ok (.sipush 400, 3) := by decide +kernel
theorem dX6_readText_28 : decode cX6_readText 28 = .ok (.if_icmp .gt 31, 3) := by decide +kernel
theorem dX6_readText_31 : decode cX6_readText 31 = .ok (.aload_n 0, 1) := by decide +kernel
theorem dX6_readText_32 : decode cX6_readText 32 = .ok (.invokevirtual 37, 3) := by decide +kernel
theorem dX6_readText_35 : decode cX6_readText 35 = .ok (.aload_n 0, 1) := by decide +kernel
theorem dX6_readText_36 : decode cX6_readText 36 = .ok (.getfield 40, 3) := by decide +kernel
theorem dX6_readText_39 : decode cX6_readText 39 = .ok (.ifCond .ne 5, 3) := by decide +kernel
theorem dX6_readText_42 : decode cX6_readText 42 = .ok (.iconst 1, 1) := by decide +kernel
theorem dX6_readText_43 : decode cX6_readText 43 = .ok (.ireturn, 1) := by decide +kernel
theorem dX6_readText_44 : decode cX6_readText 44 = .ok (.aload_n 0, 1) := by decide +kernel
theorem dX6_readText_45 : decode cX6_readText 45 = .ok (.invokevirtual 43, 3) := by decide +kernel
theorem dX6_readText_48 : decode cX6_readText 48 = .ok (.ifCond .ne 5, 3) := by decide +kernel
theorem dX6_readText_51 : decode cX6_readText 51 = .ok (.iconst 0, 1) := by decide +kernel
theorem dX6_readText_52 : decode cX6_readText 52 = .ok (.ireturn, 1) := by decide +kernel
theorem dX6_readText_53 : decode cX6_readText 53 = .ok (.iinc 1 1, 3) := by decide +kernel
theorem dX6_readText_56 : decode cX6_readText 56 = .ok (.goto (-32), 3) := by decide +kernel
theorem dX6_readText_59 : decode cX6_readText 59 = .ok (.aload_n 0, 1) := by decide +kernel
theorem dX6_readText_60 : decode cX6_readText 60 = .ok (.iconst 2, 1) := by decide +kernel
theorem dX6_readText_61 : decode cX6_readText 61 = .ok (.invokevirtual 47, 3) := by decide +kernel
theorem dX6_readText_64 : decode cX6_readText 64 = .ok (.ireturn, 1) := by decide +kernel
theorem dX6_refuse_0 : decode cX6_refuse 0 = .ok (.aload_n 0, 1) := by decide +kernel
theorem dX6_refuse_1 : decode cX6_refuse 1 = .ok (.aload_n 0, 1) := by decide +kernel
theorem dX6_refuse_2 : decode cX6_refuse 2 = .ok (.getfield 40, 3) := by decide +kernel
theorem dX6_refuse_5 : decode cX6_refuse 5 = .ok (.iconst 5, 1) := by decide +kernel
theorem dX6_refuse_6 : decode cX6_refuse 6 = .ok (.if_icmp .ne 7, 3) := by decide +kernel
theorem dX6_refuse_9 : decode cX6_refuse 9 = .ok (.iconst 1, 1) := by decide +kernel
theorem dX6_refuse_10 : decode cX6_refuse 10 = .ok (.goto 4, 3) := by decide +kernel
theorem dX6_refuse_13 : decode cX6_refuse 13 = .ok (.iload_n 1, 1) := by decide +kernel
theorem dX6_refuse_14 : decode cX6_refuse 14 = .ok (.putfield 25, 3) := by decide +kernel
theorem dX6_refuse_17 : decode cX6_refuse 17 = .ok (.aload_n 0, 1) := by decide +kernel
theorem dX6_refuse_18 : decode cX6_refuse 18 = .ok (.aload_n 0, 1) := by decide +kernel
theorem dX6_refuse_19 : decode cX6_refuse 19 = .ok (.getfield 51, 3) := by decide +kernel
theorem dX6_refuse_22 : decode cX6_refuse 22 = .ok (.putfield 29, 3) := by decide +kernel
theorem dX6_refuse_25 : decode cX6_refuse 25 = .ok (.iconst 0, 1) := by decide +kernel
theorem dX6_refuse_26 : decode cX6_refuse 26 = .ok (.ireturn, 1) := by decide +kernel
set_option maxRecDepth 20000 in
theorem ggX6_expect_X6_readToken : GoodIn wsX6_expect wsX6_readToken := goodIn_r _ [6, 7, 8, 9, 10, 11, 1, 12, 19, 20, 21, 22, 23, 24, 25, 26, 27, 28] (by decide +kernel) (by decide +kernel)
set_option maxRecDepth 20000 in
theorem gX6_expect_X6_readToken : GoodIn wsX6_expect (wsV RX6 37 RX6 yX6_readToken wsX6_readToken) := goodIn_app (goodIn_of _ (by decide +kernel)) ggX6_expect_X6_readToken
set_option maxRecDepth 20000 in
theorem ggX6_expect_X6_refuse : GoodIn wsX6_expect wsX6_refuse := goodIn_r _ [16, 1, 17, 11, 18, 19, 20, 21, 22, 23, 24, 25, 26] (by decide +kernel) (by decide +kernel)
set_option maxRecDepth 20000 in
theorem gX6_expect_X6_refuse : GoodIn wsX6_expect (wsV RX6 47 RX6 yX6_refuse wsX6_refuse) := goodIn_app (goodIn_of _ (by decide +kernel)) ggX6_expect_X6_refuse
theorem dX6_expect_0 : decode cX6_expect 0 = .ok (.aload_n 0, 1) := by decide +kernel
theorem dX6_expect_1 : decode cX6_expect 1 = .ok (.invokevirtual 37, 3) := by decide +kernel
theorem dX6_expect_4 : decode cX6_expect 4 = .ok (.aload_n 0, 1) := by decide +kernel
theorem dX6_expect_5 : decode cX6_expect 5 = .ok (.getfield 40, 3) := by decide +kernel
theorem dX6_expect_8 : decode cX6_expect 8 = .ok (.iload_n 1, 1) := by decide +kernel
theorem dX6_expect_9 : decode cX6_expect 9 = .ok (.if_icmp .eq 11, 3) := by decide +kernel
theorem dX6_expect_12 : decode cX6_expect 12 = .ok (.aload_n 0, 1) := by decide +kernel
theorem dX6_expect_13 : decode cX6_expect 13 = .ok (.iconst 2, 1) := by decide +kernel
theorem dX6_expect_14 : decode cX6_expect 14 = .ok (.invokevirtual 47, 3) := by decide +kernel
theorem dX6_expect_17 : decode cX6_expect 17 = .ok (.ifCond .eq 7, 3) := by decide +kernel
theorem dX6_expect_20 : decode cX6_expect 20 = .ok (.iconst 1, 1) := by decide +kernel
theorem dX6_expect_21 : decode cX6_expect 21 = .ok (.goto 4, 3) := by decide +kernel
theorem dX6_expect_24 : decode cX6_expect 24 = .ok (.iconst 0, 1) := by decide +kernel
theorem dX6_expect_25 : decode cX6_expect 25 = .ok (.ireturn, 1) := by decide +kernel
set_option maxRecDepth 20000 in
theorem ggX6_readLine_X6_refuse : GoodIn wsX6_readLine wsX6_refuse := goodIn_r _ [6, 1, 7, 8, 9, 153, 154, 155, 156, 157, 158, 159, 160] (by decide +kernel) (by decide +kernel)
set_option maxRecDepth 20000 in
theorem gX6_readLine_X6_refuse : GoodIn wsX6_readLine (wsV RX6 47 RX6 yX6_refuse wsX6_refuse) := goodIn_app (goodIn_of _ (by decide +kernel)) ggX6_readLine_X6_refuse
set_option maxRecDepth 20000 in
theorem ggX6_readLine_X6_spells : GoodIn wsX6_readLine wsX6_spells := goodIn_r _ [13, 14, 8, 15, 16, 17, 18, 19, 20, 21, 22, 23, 24, 25, 26, 27, 28, 29, 30, 31, 32, 33, 34, 35, 36, 37, 38, 39, 40, 41, 42, 43, 44, 45, 46, 47, 48, 49, 50, 51, 52, 53, 54, 55, 56, 57, 58, 59, 60, 61, 62, 63, 64, 65, 153, 154, 155, 156, 157, 158, 159, 160, 161, 162] (by decide +kernel) (by decide +kernel)
set_option maxRecDepth 20000 in
theorem gX6_readLine_X6_spells : GoodIn wsX6_readLine (wsV RX6 56 RX6 yX6_spells wsX6_spells) := goodIn_app (goodIn_of _ (by decide +kernel)) ggX6_readLine_X6_spells
set_option maxRecDepth 20000 in
theorem ggX6_readLine_X6_readNumberedLetter : GoodIn wsX6_readLine wsX6_readNumberedLetter := goodIn_r _ [69, 8, 70, 71, 72, 73, 74, 5, 75, 14, 76, 77, 78, 79, 80, 1, 81, 82, 83, 84, 15, 85, 16, 2, 3, 4, 6, 7, 9, 86, 87, 88, 89, 90, 91, 92, 93, 94, 95, 96, 153, 154, 155, 156, 157, 158, 159, 160, 163, 164, 165, 166, 167, 168, 169, 170, 171, 172, 161, 162] (by decide +kernel) (by decide +kernel)
set_option maxRecDepth 20000 in
theorem gX6_readLine_X6_readNumberedLetter : GoodIn wsX6_readLine (wsV RX6 60 RX6 yX6_readNumberedLetter wsX6_readNumberedLetter) := goodIn_app (goodIn_of _ (by decide +kernel)) ggX6_readLine_X6_readNumberedLetter
set_option maxRecDepth 20000 in
theorem ggX6_readLine_X6_readPlainLetter : GoodIn wsX6_readLine wsX6_readPlainLetter := goodIn_r _ [100, 71, 8, 72, 73, 74, 5, 75, 14, 76, 77, 78, 79, 80, 1, 81, 82, 83, 84, 15, 85, 16, 70, 2, 3, 4, 6, 7, 9, 86, 87, 88, 89, 90, 91, 92, 93, 94, 95, 96, 153, 154, 155, 156, 157, 158, 159, 160, 163, 164, 165, 166, 167, 168, 169, 170, 171, 172, 161, 162] (by decide +kernel) (by decide +kernel)
set_option maxRecDepth 20000 in
theorem gX6_readLine_X6_readPlainLetter : GoodIn wsX6_readLine (wsV RX6 70 RX6 yX6_readPlainLetter wsX6_readPlainLetter) := goodIn_app (goodIn_of _ (by decide +kernel)) ggX6_readLine_X6_readPlainLetter
set_option maxRecDepth 20000 in
theorem ggX6_readLine_X6_readWord : GoodIn wsX6_readLine wsX6_readWord := goodIn_r _ [104, 71, 105, 14, 8, 2, 3, 4, 5, 6, 1, 7, 9, 77, 78, 79, 80, 81, 82, 83, 84, 15, 85, 16, 70, 106, 107, 108, 109, 76, 86, 87, 88, 89, 110, 111, 112, 113, 114, 115, 116, 117, 93, 118, 119, 120, 121, 122, 123, 124, 125, 126, 127, 128, 129, 130, 131, 132, 133, 134, 153, 154, 155, 156, 157, 158, 159, 160, 163, 164, 165, 166, 167, 168, 169, 170, 171, 172, 161, 162] (by decide +kernel) (by decide +kernel)
set_option maxRecDepth 20000 in
theorem gX6_readLine_X6_readWord : GoodIn wsX6_readLine (wsV RX6 77 RX6 yX6_readWord wsX6_readWord) := goodIn_app (goodIn_of _ (by decide +kernel)) ggX6_readLine_X6_readWord
set_option maxRecDepth 20000 in
theorem ggX6_readLine_X6_readAsk : GoodIn wsX6_readLine wsX6_readAsk := goodIn_r _ [138, 71, 139, 70, 1, 2, 3, 4, 5, 6, 7, 8, 9, 77, 78, 79, 80, 81, 82, 83, 84, 14, 15, 85, 16, 140, 141, 142, 93, 143, 119, 144, 145, 146, 147, 148, 149, 150, 151, 152, 153, 154, 155, 156, 157, 158, 159, 160, 163, 164, 165, 166, 167, 168, 169, 170, 171, 172, 161, 162] (by decide +kernel) (by decide +kernel)
set_option maxRecDepth 20000 in
theorem gX6_readLine_X6_readAsk : GoodIn wsX6_readLine (wsV RX6 82 RX6 yX6_readAsk wsX6_readAsk) := goodIn_app (goodIn_of _ (by decide +kernel)) ggX6_readLine_X6_readAsk
theorem dX6_readLine_0 : decode cX6_readLine 0 = .ok (.aload_n 0, 1) := by decide +kernel
theorem dX6_readLine_1 : decode cX6_readLine 1 = .ok (.getfield 40, 3) := by decide +kernel
theorem dX6_readLine_4 : decode cX6_readLine 4 = .ok (.iconst 1, 1) := by decide +kernel
theorem dX6_readLine_5 : decode cX6_readLine 5 = .ok (.if_icmp .eq 9, 3) := by decide +kernel
theorem dX6_readLine_8 : decode cX6_readLine 8 = .ok (.aload_n 0, 1) := by decide +kernel
theorem dX6_readLine_9 : decode cX6_readLine 9 = .ok (.iconst 2, 1) := by decide +kernel
theorem dX6_readLine_10 : decode cX6_readLine 10 = .ok (.invokevirtual 47, 3) := by decide +kernel
theorem dX6_readLine_13 : decode cX6_readLine 13 = .ok (.ireturn, 1) := by decide +kernel
theorem dX6_readLine_14 : decode cX6_readLine 14 = .ok (.aload_n 0, 1) := by decide +kernel
theorem dX6_readLine_15 : decode cX6_readLine 15 = .ok (.ldc 54, 2) := by decide +kernel
theorem dX6_readLine_17 : decode cX6_readLine 17 = .ok (.invokevirtual 56, 3) := by decide +kernel
theorem dX6_readLine_20 : decode cX6_readLine 20 = .ok (.ifCond .eq 11, 3) := by decide +kernel
theorem dX6_readLine_23 : decode cX6_readLine 23 = .ok (.aload_n 0, 1) := by decide +kernel
theorem dX6_readLine_24 : decode cX6_readLine 24 = .ok (.iconst 0, 1) := by decide +kernel
theorem dX6_readLine_25 : decode cX6_readLine 25 = .ok (.bipush 16, 2) := by decide +kernel
theorem dX6_readLine_27 : decode cX6_readLine 27 = .ok (.invokevirtual 60, 3) := by decide +kernel
theorem dX6_readLine_30 : decode cX6_readLine 30 = .ok (.ireturn, 1) := by decide +kernel
theorem dX6_readLine_31 : decode cX6_readLine 31 = .ok (.aload_n 0, 1) := by decide +kernel
theorem dX6_readLine_32 : decode cX6_readLine 32 = .ok (.ldc 64, 2) := by decide +kernel
theorem dX6_readLine_34 : decode cX6_readLine 34 = .ok (.invokevirtual 56, 3) := by decide +kernel
theorem dX6_readLine_37 : decode cX6_readLine 37 = .ok (.ifCond .eq 11, 3) := by decide +kernel
theorem dX6_readLine_40 : decode cX6_readLine 40 = .ok (.aload_n 0, 1) := by decide +kernel
theorem dX6_readLine_41 : decode cX6_readLine 41 = .ok (.bipush 16, 2) := by decide +kernel
theorem dX6_readLine_43 : decode cX6_readLine 43 = .ok (.iconst 4, 1) := by decide +kernel
theorem dX6_readLine_44 : decode cX6_readLine 44 = .ok (.invokevirtual 60, 3) := by decide +kernel
theorem dX6_readLine_47 : decode cX6_readLine 47 = .ok (.ireturn, 1) := by decide +kernel
theorem dX6_readLine_48 : decode cX6_readLine 48 = .ok (.aload_n 0, 1) := by decide +kernel
theorem dX6_readLine_49 : decode cX6_readLine 49 = .ok (.ldc 68, 2) := by decide +kernel
theorem dX6_readLine_51 : decode cX6_readLine 51 = .ok (.invokevirtual 56, 3) := by decide +kernel
theorem dX6_readLine_54 : decode cX6_readLine 54 = .ok (.ifCond .eq 10, 3) := by decide +kernel
theorem dX6_readLine_57 : decode cX6_readLine 57 = .ok (.aload_n 0, 1) := by decide +kernel
theorem dX6_readLine_58 : decode cX6_readLine 58 = .ok (.bipush 20, 2) := by decide +kernel
theorem dX6_readLine_60 : decode cX6_readLine 60 = .ok (.invokevirtual 70, 3) := by decide +kernel
theorem dX6_readLine_63 : decode cX6_readLine 63 = .ok (.ireturn, 1) := by decide +kernel
theorem dX6_readLine_64 : decode cX6_readLine 64 = .ok (.aload_n 0, 1) := by decide +kernel
theorem dX6_readLine_65 : decode cX6_readLine 65 = .ok (.ldc 73, 2) := by decide +kernel
theorem dX6_readLine_67 : decode cX6_readLine 67 = .ok (.invokevirtual 56, 3) := by decide +kernel
theorem dX6_readLine_70 : decode cX6_readLine 70 = .ok (.ifCond .eq 10, 3) := by decide +kernel
theorem dX6_readLine_73 : decode cX6_readLine 73 = .ok (.aload_n 0, 1) := by decide +kernel
theorem dX6_readLine_74 : decode cX6_readLine 74 = .ok (.bipush (-2), 2) := by decide +kernel
theorem dX6_readLine_76 : decode cX6_readLine 76 = .ok (.invokevirtual 70, 3) := by decide +kernel
theorem dX6_readLine_79 : decode cX6_readLine 79 = .ok (.ireturn, 1) := by decide +kernel
theorem dX6_readLine_80 : decode cX6_readLine 80 = .ok (.aload_n 0, 1) := by decide +kernel
theorem dX6_readLine_81 : decode cX6_readLine 81 = .ok (.ldc 75, 2) := by decide +kernel
theorem dX6_readLine_83 : decode cX6_readLine 83 = .ok (.invokevirtual 56, 3) := by decide +kernel
theorem dX6_readLine_86 : decode cX6_readLine 86 = .ok (.ifCond .eq 8, 3) := by decide +kernel
theorem dX6_readLine_89 : decode cX6_readLine 89 = .ok (.aload_n 0, 1) := by decide +kernel
theorem dX6_readLine_90 : decode cX6_readLine 90 = .ok (.invokevirtual 77, 3) := by decide +kernel
theorem dX6_readLine_93 : decode cX6_readLine 93 = .ok (.ireturn, 1) := by decide +kernel
theorem dX6_readLine_94 : decode cX6_readLine 94 = .ok (.aload_n 0, 1) := by decide +kernel
theorem dX6_readLine_95 : decode cX6_readLine 95 = .ok (.ldc 80, 2) := by decide +kernel
theorem dX6_readLine_97 : decode cX6_readLine 97 = .ok (.invokevirtual 56, 3) := by decide +kernel
theorem dX6_readLine_100 : decode cX6_readLine 100 = .ok (.ifCond .eq 8, 3) := by decide +kernel
theorem dX6_readLine_103 : decode cX6_readLine 103 = .ok (.aload_n 0, 1) := by decide +kernel
theorem dX6_readLine_104 : decode cX6_readLine 104 = .ok (.invokevirtual 82, 3) := by decide +kernel
theorem dX6_readLine_107 : decode cX6_readLine 107 = .ok (.ireturn, 1) := by decide +kernel
theorem dX6_readLine_108 : decode cX6_readLine 108 = .ok (.aload_n 0, 1) := by decide +kernel
theorem dX6_readLine_109 : decode cX6_readLine 109 = .ok (.iconst 2, 1) := by decide +kernel
theorem dX6_readLine_110 : decode cX6_readLine 110 = .ok (.invokevirtual 47, 3) := by decide +kernel
theorem dX6_readLine_113 : decode cX6_readLine 113 = .ok (.ireturn, 1) := by decide +kernel
set_option maxRecDepth 20000 in
theorem ggX6_readNumberedLetter_X6_readNewLetter : GoodIn wsX6_readNumberedLetter wsX6_readNewLetter := goodIn_r _ [8, 9, 1, 3, 10, 11, 12, 13, 7, 14, 15, 16, 17, 18, 19, 20, 21, 22, 2, 23, 24, 25, 26, 27, 28, 29, 30, 31, 32, 40, 41, 42, 43, 44, 45, 46, 47, 48, 49, 50, 51, 52, 53, 54, 55, 56, 57, 58, 59] (by decide +kernel) (by decide +kernel)
set_option maxRecDepth 20000 in
theorem gX6_readNumberedLetter_X6_readNewLetter : GoodIn wsX6_readNumberedLetter (wsV RX6 85 RX6 yX6_readNewLetter wsX6_readNewLetter) := goodIn_app (goodIn_of _ (by decide +kernel)) ggX6_readNumberedLetter_X6_readNewLetter
set_option maxRecDepth 20000 in
theorem ggX6_readNumberedLetter_X6_letterAt : GoodIn wsX6_readNumberedLetter wsX6_letterAt := goodIn_r _ [32, 20, 22, 40, 41, 42, 43, 44, 45, 46, 47, 58, 59] (by decide +kernel) (by decide +kernel)
set_option maxRecDepth 20000 in
theorem gX6_readNumberedLetter_X6_letterAt : GoodIn wsX6_readNumberedLetter (wsV RX6 88 RX6 yX6_letterAt wsX6_letterAt) := goodIn_app (goodIn_of _ (by decide +kernel)) ggX6_readNumberedLetter_X6_letterAt
set_option maxRecDepth 20000 in
theorem ggX6_readNumberedLetter_X6_expect : GoodIn wsX6_readNumberedLetter wsX6_expect := goodIn_r _ [14, 15, 16, 17, 18, 7, 19, 9, 20, 21, 22, 1, 2, 23, 24, 25, 26, 27, 28, 40, 41, 42, 43, 44, 45, 46, 47, 58, 59] (by decide +kernel) (by decide +kernel)
set_option maxRecDepth 20000 in
theorem gX6_readNumberedLetter_X6_expect : GoodIn wsX6_readNumberedLetter (wsV RX6 92 RX6 yX6_expect wsX6_expect) := goodIn_app (goodIn_of _ (by decide +kernel)) ggX6_readNumberedLetter_X6_expect
set_option maxRecDepth 20000 in
theorem ggX6_readNumberedLetter_X6_refuse : GoodIn wsX6_readNumberedLetter wsX6_refuse := goodIn_r _ [26, 15, 27, 1, 28, 40, 41, 42, 43, 44, 45, 46, 47] (by decide +kernel) (by decide +kernel)
set_option maxRecDepth 20000 in
theorem gX6_readNumberedLetter_X6_refuse : GoodIn wsX6_readNumberedLetter (wsV RX6 47 RX6 yX6_refuse wsX6_refuse) := goodIn_app (goodIn_of _ (by decide +kernel)) ggX6_readNumberedLetter_X6_refuse
set_option maxRecDepth 20000 in
theorem ggX6_readNumberedLetter_X7_tellLetter : GoodIn wsX6_readNumberedLetter wsX7_tellLetter := goodIn_r _ [37, 38, 39, 48, 49, 50, 51, 52, 53, 54, 55, 56, 57] (by decide +kernel) (by decide +kernel)
set_option maxRecDepth 20000 in
theorem gX6_readNumberedLetter_X7_tellLetter : GoodIn wsX6_readNumberedLetter (wsV RX6 98 RX7 yX7_tellLetter wsX7_tellLetter) := goodIn_app (goodIn_of _ (by decide +kernel)) ggX6_readNumberedLetter_X7_tellLetter
theorem dX6_readNumberedLetter_0 : decode cX6_readNumberedLetter 0 = .ok (.aload_n 0, 1) := by decide +kernel
theorem dX6_readNumberedLetter_1 : decode cX6_readNumberedLetter 1 = .ok (.invokevirtual 85, 3) := by decide +kernel
theorem dX6_readNumberedLetter_4 : decode cX6_readNumberedLetter 4 = .ok (.ifCond .ne 5, 3) := by decide +kernel
theorem dX6_readNumberedLetter_7 : decode cX6_readNumberedLetter 7 = .ok (.iconst 0, 1) := by decide +kernel
theorem dX6_readNumberedLetter_8 : decode cX6_readNumberedLetter 8 = .ok (.ireturn, 1) := by decide +kernel
theorem dX6_readNumberedLetter_9 : decode cX6_readNumberedLetter 9 = .ok (.aload_n 0, 1) := by decide +kernel
theorem dX6_readNumberedLetter_10 : decode cX6_readNumberedLetter 10 = .ok (.aload_n 0, 1) := by decide +kernel
theorem dX6_readNumberedLetter_11 : decode cX6_readNumberedLetter 11 = .ok (.getfield 51, 3) := by decide +kernel
theorem dX6_readNumberedLetter_14 : decode cX6_readNumberedLetter 14 = .ok (.invokevirtual 88, 3) := by decide +kernel
theorem dX6_readNumberedLetter_17 : decode cX6_readNumberedLetter 17 = .ok (.istore_n 3, 1) := by decide +kernel
theorem dX6_readNumberedLetter_18 : decode cX6_readNumberedLetter 18 = .ok (.aload_n 0, 1) := by decide +kernel
theorem dX6_readNumberedLetter_19 : decode cX6_readNumberedLetter 19 = .ok (.iconst 2, 1) := by decide +kernel
theorem dX6_readNumberedLetter_20 : decode cX6_readNumberedLetter 20 = .ok (.invokevirtual 92, 3) := by decide +kernel
theorem dX6_readNumberedLetter_23 : decode cX6_readNumberedLetter 23 = .ok (.ifCond .ne 5, 3) := by decide +kernel
theorem dX6_readNumberedLetter_26 : decode cX6_readNumberedLetter 26 = .ok (.iconst 0, 1) := by decide +kernel
theorem dX6_readNumberedLetter_27 : decode cX6_readNumberedLetter 27 = .ok (.ireturn, 1) := by decide +kernel
theorem dX6_readNumberedLetter_28 : decode cX6_readNumberedLetter 28 = .ok (.aload_n 0, 1) := by decide +kernel
theorem dX6_readNumberedLetter_29 : decode cX6_readNumberedLetter 29 = .ok (.getfield 95, 3) := by decide +kernel
theorem dX6_readNumberedLetter_32 : decode cX6_readNumberedLetter 32 = .ok (.iload_n 2, 1) := by decide +kernel
theorem dX6_readNumberedLetter_33 : decode cX6_readNumberedLetter 33 = .ok (.if_icmp .lt 9, 3) := by decide +kernel
theorem dX6_readNumberedLetter_36 : decode cX6_readNumberedLetter 36 = .ok (.aload_n 0, 1) := by decide +kernel
theorem dX6_readNumberedLetter_37 : decode cX6_readNumberedLetter 37 = .ok (.iconst 3, 1) := by decide +kernel
theorem dX6_readNumberedLetter_38 : decode cX6_readNumberedLetter 38 = .ok (.invokevirtual 47, 3) := by decide +kernel
theorem dX6_readNumberedLetter_41 : decode cX6_readNumberedLetter 41 = .ok (.ireturn, 1) := by decide +kernel
theorem dX6_readNumberedLetter_42 : decode cX6_readNumberedLetter 42 = .ok (.aload_n 0, 1) := by decide +kernel
theorem dX6_readNumberedLetter_43 : decode cX6_readNumberedLetter 43 = .ok (.getfield 18, 3) := by decide +kernel
theorem dX6_readNumberedLetter_46 : decode cX6_readNumberedLetter 46 = .ok (.iload_n 3, 1) := by decide +kernel
theorem dX6_readNumberedLetter_47 : decode cX6_readNumberedLetter 47 = .ok (.iload_n 1, 1) := by decide +kernel
theorem dX6_readNumberedLetter_48 : decode cX6_readNumberedLetter 48 = .ok (.aload_n 0, 1) := by decide +kernel
theorem dX6_readNumberedLetter_49 : decode cX6_readNumberedLetter 49 = .ok (.getfield 95, 3) := by decide +kernel
theorem dX6_readNumberedLetter_52 : decode cX6_readNumberedLetter 52 = .ok (.iadd, 1) := by decide +kernel
theorem dX6_readNumberedLetter_53 : decode cX6_readNumberedLetter 53 = .ok (.invokevirtual 98, 3) := by decide +kernel
theorem dX6_readNumberedLetter_56 : decode cX6_readNumberedLetter 56 = .ok (.aload_n 0, 1) := by decide +kernel
theorem dX6_readNumberedLetter_57 : decode cX6_readNumberedLetter 57 = .ok (.iconst 3, 1) := by decide +kernel
theorem dX6_readNumberedLetter_58 : decode cX6_readNumberedLetter 58 = .ok (.invokevirtual 92, 3) := by decide +kernel
theorem dX6_readNumberedLetter_61 : decode cX6_readNumberedLetter 61 = .ok (.ireturn, 1) := by decide +kernel
set_option maxRecDepth 20000 in
theorem ggX6_readPlainLetter_X6_readNewLetter : GoodIn wsX6_readPlainLetter wsX6_readNewLetter := goodIn_r _ [7, 8, 2, 1, 9, 10, 11, 12, 6, 13, 14, 15, 16, 17, 18, 19, 20, 21, 22, 23, 24, 25, 26, 27, 28, 29, 30, 31, 32, 40, 41, 42, 43, 44, 45, 46, 47, 48, 49, 50, 51, 52, 53, 54, 55, 56, 57, 58, 59] (by decide +kernel) (by decide +kernel)
set_option maxRecDepth 20000 in
theorem gX6_readPlainLetter_X6_readNewLetter : GoodIn wsX6_readPlainLetter (wsV RX6 85 RX6 yX6_readNewLetter wsX6_readNewLetter) := goodIn_app (goodIn_of _ (by decide +kernel)) ggX6_readPlainLetter_X6_readNewLetter
set_option maxRecDepth 20000 in
theorem ggX6_readPlainLetter_X6_letterAt : GoodIn wsX6_readPlainLetter wsX6_letterAt := goodIn_r _ [32, 19, 21, 40, 41, 42, 43, 44, 45, 46, 47, 58, 59] (by decide +kernel) (by decide +kernel)
set_option maxRecDepth 20000 in
theorem gX6_readPlainLetter_X6_letterAt : GoodIn wsX6_readPlainLetter (wsV RX6 88 RX6 yX6_letterAt wsX6_letterAt) := goodIn_app (goodIn_of _ (by decide +kernel)) ggX6_readPlainLetter_X6_letterAt
set_option maxRecDepth 20000 in
theorem ggX6_readPlainLetter_X7_tellLetter : GoodIn wsX6_readPlainLetter wsX7_tellLetter := goodIn_r _ [37, 38, 39, 48, 49, 50, 51, 52, 53, 54, 55, 56, 57] (by decide +kernel) (by decide +kernel)
set_option maxRecDepth 20000 in
theorem gX6_readPlainLetter_X7_tellLetter : GoodIn wsX6_readPlainLetter (wsV RX6 98 RX7 yX7_tellLetter wsX7_tellLetter) := goodIn_app (goodIn_of _ (by decide +kernel)) ggX6_readPlainLetter_X7_tellLetter
set_option maxRecDepth 20000 in
theorem ggX6_readPlainLetter_X6_expect : GoodIn wsX6_readPlainLetter wsX6_expect := goodIn_r _ [13, 14, 15, 16, 17, 6, 18, 8, 19, 20, 21, 2, 22, 23, 24, 25, 26, 27, 28, 40, 41, 42, 43, 44, 45, 46, 47, 58, 59] (by decide +kernel) (by decide +kernel)
set_option maxRecDepth 20000 in
theorem gX6_readPlainLetter_X6_expect : GoodIn wsX6_readPlainLetter (wsV RX6 92 RX6 yX6_expect wsX6_expect) := goodIn_app (goodIn_of _ (by decide +kernel)) ggX6_readPlainLetter_X6_expect
theorem dX6_readPlainLetter_0 : decode cX6_readPlainLetter 0 = .ok (.aload_n 0, 1) := by decide +kernel
theorem dX6_readPlainLetter_1 : decode cX6_readPlainLetter 1 = .ok (.invokevirtual 85, 3) := by decide +kernel
theorem dX6_readPlainLetter_4 : decode cX6_readPlainLetter 4 = .ok (.ifCond .ne 5, 3) := by decide +kernel
theorem dX6_readPlainLetter_7 : decode cX6_readPlainLetter 7 = .ok (.iconst 0, 1) := by decide +kernel
theorem dX6_readPlainLetter_8 : decode cX6_readPlainLetter 8 = .ok (.ireturn, 1) := by decide +kernel
theorem dX6_readPlainLetter_9 : decode cX6_readPlainLetter 9 = .ok (.aload_n 0, 1) := by decide +kernel
theorem dX6_readPlainLetter_10 : decode cX6_readPlainLetter 10 = .ok (.getfield 18, 3) := by decide +kernel
theorem dX6_readPlainLetter_13 : decode cX6_readPlainLetter 13 = .ok (.aload_n 0, 1) := by decide +kernel
theorem dX6_readPlainLetter_14 : decode cX6_readPlainLetter 14 = .ok (.aload_n 0, 1) := by decide +kernel
theorem dX6_readPlainLetter_15 : decode cX6_readPlainLetter 15 = .ok (.getfield 51, 3) := by decide +kernel
theorem dX6_readPlainLetter_18 : decode cX6_readPlainLetter 18 = .ok (.invokevirtual 88, 3) := by decide +kernel
theorem dX6_readPlainLetter_21 : decode cX6_readPlainLetter 21 = .ok (.iload_n 1, 1) := by decide +kernel
theorem dX6_readPlainLetter_22 : decode cX6_readPlainLetter 22 = .ok (.invokevirtual 98, 3) := by decide +kernel
theorem dX6_readPlainLetter_25 : decode cX6_readPlainLetter 25 = .ok (.aload_n 0, 1) := by decide +kernel
theorem dX6_readPlainLetter_26 : decode cX6_readPlainLetter 26 = .ok (.iconst 3, 1) := by decide +kernel
theorem dX6_readPlainLetter_27 : decode cX6_readPlainLetter 27 = .ok (.invokevirtual 92, 3) := by decide +kernel
theorem dX6_readPlainLetter_30 : decode cX6_readPlainLetter 30 = .ok (.ireturn, 1) := by decide +kernel
set_option maxRecDepth 20000 in
theorem ggX6_readNewLetter_X6_expect : GoodIn wsX6_readNewLetter wsX6_expect := goodIn_r _ [9, 10, 11, 12, 13, 8, 14, 1, 15, 16, 17, 2, 18, 19, 20, 21, 22, 23, 24, 29, 30, 31, 32, 33, 34, 35, 36, 47, 48] (by decide +kernel) (by decide +kernel)
set_option maxRecDepth 20000 in
theorem gX6_readNewLetter_X6_expect : GoodIn wsX6_readNewLetter (wsV RX6 92 RX6 yX6_expect wsX6_expect) := goodIn_app (goodIn_of _ (by decide +kernel)) ggX6_readNewLetter_X6_expect
set_option maxRecDepth 20000 in
theorem ggX6_readNewLetter_X6_refuse : GoodIn wsX6_readNewLetter wsX6_refuse := goodIn_r _ [22, 10, 23, 2, 24, 29, 30, 31, 32, 33, 34, 35, 36] (by decide +kernel) (by decide +kernel)
set_option maxRecDepth 20000 in
theorem gX6_readNewLetter_X6_refuse : GoodIn wsX6_readNewLetter (wsV RX6 47 RX6 yX6_refuse wsX6_refuse) := goodIn_app (goodIn_of _ (by decide +kernel)) ggX6_readNewLetter_X6_refuse
set_option maxRecDepth 20000 in
theorem ggX6_readNewLetter_X6_letterAt : GoodIn wsX6_readNewLetter wsX6_letterAt := goodIn_r _ [28, 15, 17, 29, 30, 31, 32, 33, 34, 35, 36, 47, 48] (by decide +kernel) (by decide +kernel)
set_option maxRecDepth 20000 in
theorem gX6_readNewLetter_X6_letterAt : GoodIn wsX6_readNewLetter (wsV RX6 88 RX6 yX6_letterAt wsX6_letterAt) := goodIn_app (goodIn_of _ (by decide +kernel)) ggX6_readNewLetter_X6_letterAt
theorem dX6_readNewLetter_0 : decode cX6_readNewLetter 0 = .ok (.aload_n 0, 1) := by decide +kernel
theorem dX6_readNewLetter_1 : decode cX6_readNewLetter 1 = .ok (.iconst 1, 1) := by decide +kernel
theorem dX6_readNewLetter_2 : decode cX6_readNewLetter 2 = .ok (.invokevirtual 92, 3) := by decide +kernel
theorem dX6_readNewLetter_5 : decode cX6_readNewLetter 5 = .ok (.ifCond .ne 5, 3) := by decide +kernel
theorem dX6_readNewLetter_8 : decode cX6_readNewLetter 8 = .ok (.iconst 0, 1) := by decide +kernel
theorem dX6_readNewLetter_9 : decode cX6_readNewLetter 9 = .ok (.ireturn, 1) := by decide +kernel
theorem dX6_readNewLetter_10 : decode cX6_readNewLetter 10 = .ok (.aload_n 0, 1) := by decide +kernel
theorem dX6_readNewLetter_11 : decode cX6_readNewLetter 11 = .ok (.getfield 32, 3) := by decide +kernel
theorem dX6_readNewLetter_14 : decode cX6_readNewLetter 14 = .ok (.aload_n 0, 1) := by decide +kernel
theorem dX6_readNewLetter_15 : decode cX6_readNewLetter 15 = .ok (.getfield 51, 3) := by decide +kernel
theorem dX6_readNewLetter_18 : decode cX6_readNewLetter 18 = .ok (.isub, 1) := by decide +kernel
theorem dX6_readNewLetter_19 : decode cX6_readNewLetter 19 = .ok (.iconst 1, 1) := by decide +kernel
theorem dX6_readNewLetter_20 : decode cX6_readNewLetter 20 = .ok (.if_icmp .eq 9, 3) := by decide +kernel
theorem dX6_readNewLetter_23 : decode cX6_readNewLetter 23 = .ok (.aload_n 0, 1) := by decide +kernel
theorem dX6_readNewLetter_24 : decode cX6_readNewLetter 24 = .ok (.iconst 2, 1) := by decide +kernel
theorem dX6_readNewLetter_25 : decode cX6_readNewLetter 25 = .ok (.invokevirtual 47, 3) := by decide +kernel
theorem dX6_readNewLetter_28 : decode cX6_readNewLetter 28 = .ok (.ireturn, 1) := by decide +kernel
theorem dX6_readNewLetter_29 : decode cX6_readNewLetter 29 = .ok (.aload_n 0, 1) := by decide +kernel
theorem dX6_readNewLetter_30 : decode cX6_readNewLetter 30 = .ok (.getfield 18, 3) := by decide +kernel
theorem dX6_readNewLetter_33 : decode cX6_readNewLetter 33 = .ok (.getfield 102, 3) := by decide +kernel
theorem dX6_readNewLetter_36 : decode cX6_readNewLetter 36 = .ok (.aload_n 0, 1) := by decide +kernel
theorem dX6_readNewLetter_37 : decode cX6_readNewLetter 37 = .ok (.aload_n 0, 1) := by decide +kernel
theorem dX6_readNewLetter_38 : decode cX6_readNewLetter 38 = .ok (.getfield 51, 3) := by decide +kernel
theorem dX6_readNewLetter_41 : decode cX6_readNewLetter 41 = .ok (.invokevirtual 88, 3) := by decide +kernel
theorem dX6_readNewLetter_44 : decode cX6_readNewLetter 44 = .ok (.iaload, 1) := by decide +kernel
theorem dX6_readNewLetter_45 : decode cX6_readNewLetter 45 = .ok (.iconst (-1), 1) := by decide +kernel
theorem dX6_readNewLetter_46 : decode cX6_readNewLetter 46 = .ok (.if_icmp .eq 11, 3) := by decide +kernel
theorem dX6_readNewLetter_49 : decode cX6_readNewLetter 49 = .ok (.aload_n 0, 1) := by decide +kernel
theorem dX6_readNewLetter_50 : decode cX6_readNewLetter 50 = .ok (.iconst 4, 1) := by decide +kernel
theorem dX6_readNewLetter_51 : decode cX6_readNewLetter 51 = .ok (.invokevirtual 47, 3) := by decide +kernel
theorem dX6_readNewLetter_54 : decode cX6_readNewLetter 54 = .ok (.ifCond .eq 7, 3) := by decide +kernel
theorem dX6_readNewLetter_57 : decode cX6_readNewLetter 57 = .ok (.iconst 1, 1) := by decide +kernel
theorem dX6_readNewLetter_58 : decode cX6_readNewLetter 58 = .ok (.goto 4, 3) := by decide +kernel
theorem dX6_readNewLetter_61 : decode cX6_readNewLetter 61 = .ok (.iconst 0, 1) := by decide +kernel
theorem dX6_readNewLetter_62 : decode cX6_readNewLetter 62 = .ok (.ireturn, 1) := by decide +kernel
set_option maxRecDepth 20000 in
theorem ggX6_readWord_X6_refuse : GoodIn wsX6_readWord wsX6_refuse := goodIn_r _ [9, 10, 11, 4, 12, 60, 61, 62, 63, 64, 65, 66, 67] (by decide +kernel) (by decide +kernel)
set_option maxRecDepth 20000 in
theorem gX6_readWord_X6_refuse : GoodIn wsX6_readWord (wsV RX6 47 RX6 yX6_refuse wsX6_refuse) := goodIn_app (goodIn_of _ (by decide +kernel)) ggX6_readWord_X6_refuse
set_option maxRecDepth 20000 in
theorem ggX6_readWord_X6_expect : GoodIn wsX6_readWord wsX6_expect := goodIn_r _ [16, 10, 17, 18, 19, 8, 20, 3, 21, 22, 23, 4, 24, 5, 6, 7, 9, 11, 12, 60, 61, 62, 63, 64, 65, 66, 67, 78, 79] (by decide +kernel) (by decide +kernel)
set_option maxRecDepth 20000 in
theorem gX6_readWord_X6_expect : GoodIn wsX6_readWord (wsV RX6 92 RX6 yX6_expect wsX6_expect) := goodIn_app (goodIn_of _ (by decide +kernel)) ggX6_readWord_X6_expect
set_option maxRecDepth 20000 in
theorem ggX6_readWord_X6_allLettersTold : GoodIn wsX6_readWord wsX6_allLettersTold := goodIn_r _ [28, 4, 3, 1, 29, 30, 31, 32, 8, 33, 21, 23, 60, 61, 62, 63, 64, 65, 66, 67, 68, 69, 70, 71, 72, 73, 74, 75, 76, 77, 78, 79] (by decide +kernel) (by decide +kernel)
set_option maxRecDepth 20000 in
theorem gX6_readWord_X6_allLettersTold : GoodIn wsX6_readWord (wsV RX6 109 RX6 yX6_allLettersTold wsX6_allLettersTold) := goodIn_app (goodIn_of _ (by decide +kernel)) ggX6_readWord_X6_allLettersTold
set_option maxRecDepth 20000 in
theorem ggX6_readWord_X6_nameRead : GoodIn wsX6_readWord wsX6_nameRead := goodIn_r _ [37, 4, 3, 38, 30, 31, 32, 8, 33, 21, 23, 60, 61, 62, 63, 64, 65, 66, 67, 78, 79] (by decide +kernel) (by decide +kernel)
set_option maxRecDepth 20000 in
theorem gX6_readWord_X6_nameRead : GoodIn wsX6_readWord (wsV RX6 112 RX6 yX6_nameRead wsX6_nameRead) := goodIn_app (goodIn_of _ (by decide +kernel)) ggX6_readWord_X6_nameRead
set_option maxRecDepth 20000 in
theorem ggX6_readWord_X7_hasName : GoodIn wsX6_readWord wsX7_hasName := goodIn_r _ [43, 44, 45, 68, 69, 70, 71, 72, 73, 74, 75, 76, 77] (by decide +kernel) (by decide +kernel)
set_option maxRecDepth 20000 in
theorem gX6_readWord_X7_hasName : GoodIn wsX6_readWord (wsV RX6 116 RX7 yX7_hasName wsX7_hasName) := goodIn_app (goodIn_of _ (by decide +kernel)) ggX6_readWord_X7_hasName
set_option maxRecDepth 20000 in
theorem ggX6_readWord_X6_speechRead : GoodIn wsX6_readWord wsX6_speechRead := goodIn_r _ [49, 4, 3, 1, 29, 30, 31, 32, 8, 33, 21, 23, 50, 51, 52, 53, 60, 61, 62, 63, 64, 65, 66, 67, 68, 69, 70, 71, 72, 73, 74, 75, 76, 77, 78, 79] (by decide +kernel) (by decide +kernel)
set_option maxRecDepth 20000 in
theorem gX6_readWord_X6_speechRead : GoodIn wsX6_readWord (wsV RX6 120 RX6 yX6_speechRead wsX6_speechRead) := goodIn_app (goodIn_of _ (by decide +kernel)) ggX6_readWord_X6_speechRead
set_option maxRecDepth 20000 in
theorem ggX6_readWord_X7_tellWord : GoodIn wsX6_readWord wsX7_tellWord := goodIn_r _ [57, 45, 44, 58, 59, 68, 69, 70, 71, 72, 73, 74, 75, 76, 77] (by decide +kernel) (by decide +kernel)
set_option maxRecDepth 20000 in
theorem gX6_readWord_X7_tellWord : GoodIn wsX6_readWord (wsV RX6 123 RX7 yX7_tellWord wsX7_tellWord) := goodIn_app (goodIn_of _ (by decide +kernel)) ggX6_readWord_X7_tellWord
theorem dX6_readWord_0 : decode cX6_readWord 0 = .ok (.aload_n 0, 1) := by decide +kernel
theorem dX6_readWord_1 : decode cX6_readWord 1 = .ok (.getfield 18, 3) := by decide +kernel
theorem dX6_readWord_4 : decode cX6_readWord 4 = .ok (.getfield 106, 3) := by decide +kernel
theorem dX6_readWord_7 : decode cX6_readWord 7 = .ok (.bipush 16, 2) := by decide +kernel
theorem dX6_readWord_9 : decode cX6_readWord 9 = .ok (.if_icmp .lt 10, 3) := by decide +kernel
theorem dX6_readWord_12 : decode cX6_readWord 12 = .ok (.aload_n 0, 1) := by decide +kernel
theorem dX6_readWord_13 : decode cX6_readWord 13 = .ok (.bipush 6, 2) := by decide +kernel
theorem dX6_readWord_15 : decode cX6_readWord 15 = .ok (.invokevirtual 47, 3) := by decide +kernel
theorem dX6_readWord_18 : decode cX6_readWord 18 = .ok (.ireturn, 1) := by decide +kernel
theorem dX6_readWord_19 : decode cX6_readWord 19 = .ok (.aload_n 0, 1) := by decide +kernel
theorem dX6_readWord_20 : decode cX6_readWord 20 = .ok (.iconst 1, 1) := by decide +kernel
theorem dX6_readWord_21 : decode cX6_readWord 21 = .ok (.invokevirtual 92, 3) := by decide +kernel
theorem dX6_readWord_24 : decode cX6_readWord 24 = .ok (.ifCond .ne 5, 3) := by decide +kernel
theorem dX6_readWord_27 : decode cX6_readWord 27 = .ok (.iconst 0, 1) := by decide +kernel
theorem dX6_readWord_28 : decode cX6_readWord 28 = .ok (.ireturn, 1) := by decide +kernel
theorem dX6_readWord_29 : decode cX6_readWord 29 = .ok (.aload_n 0, 1) := by decide +kernel
theorem dX6_readWord_30 : decode cX6_readWord 30 = .ok (.getfield 32, 3) := by decide +kernel
theorem dX6_readWord_33 : decode cX6_readWord 33 = .ok (.aload_n 0, 1) := by decide +kernel
theorem dX6_readWord_34 : decode cX6_readWord 34 = .ok (.getfield 51, 3) := by decide +kernel
theorem dX6_readWord_37 : decode cX6_readWord 37 = .ok (.isub, 1) := by decide +kernel
theorem dX6_readWord_38 : decode cX6_readWord 38 = .ok (.bipush 8, 2) := by decide +kernel
theorem dX6_readWord_40 : decode cX6_readWord 40 = .ok (.if_icmp .gt 10, 3) := by decide +kernel
theorem dX6_readWord_43 : decode cX6_readWord 43 = .ok (.aload_n 0, 1) := by decide +kernel
theorem dX6_readWord_44 : decode cX6_readWord 44 = .ok (.invokevirtual 109, 3) := by decide +kernel
theorem dX6_readWord_47 : decode cX6_readWord 47 = .ok (.ifCond .ne 9, 3) := by decide +kernel
theorem dX6_readWord_50 : decode cX6_readWord 50 = .ok (.aload_n 0, 1) := by decide +kernel
theorem dX6_readWord_51 : decode cX6_readWord 51 = .ok (.iconst 5, 1) := by decide +kernel
theorem dX6_readWord_52 : decode cX6_readWord 52 = .ok (.invokevirtual 47, 3) := by decide +kernel
theorem dX6_readWord_55 : decode cX6_readWord 55 = .ok (.ireturn, 1) := by decide +kernel
theorem dX6_readWord_56 : decode cX6_readWord 56 = .ok (.aload_n 0, 1) := by decide +kernel
theorem dX6_readWord_57 : decode cX6_readWord 57 = .ok (.invokevirtual 112, 3) := by decide +kernel
theorem dX6_readWord_60 : decode cX6_readWord 60 = .ok (.lstore_n 1, 1) := by decide +kernel
theorem dX6_readWord_61 : decode cX6_readWord 61 = .ok (.aload_n 0, 1) := by decide +kernel
theorem dX6_readWord_62 : decode cX6_readWord 62 = .ok (.getfield 18, 3) := by decide +kernel
theorem dX6_readWord_65 : decode cX6_readWord 65 = .ok (.lload_n 1, 1) := by decide +kernel
theorem dX6_readWord_66 : decode cX6_readWord 66 = .ok (.invokevirtual 116, 3) := by decide +kernel
theorem dX6_readWord_69 : decode cX6_readWord 69 = .ok (.ifCond .eq 9, 3) := by decide +kernel
theorem dX6_readWord_72 : decode cX6_readWord 72 = .ok (.aload_n 0, 1) := by decide +kernel
theorem dX6_readWord_73 : decode cX6_readWord 73 = .ok (.iconst 4, 1) := by decide +kernel
theorem dX6_readWord_74 : decode cX6_readWord 74 = .ok (.invokevirtual 47, 3) := by decide +kernel
theorem dX6_readWord_77 : decode cX6_readWord 77 = .ok (.ireturn, 1) := by decide +kernel
theorem dX6_readWord_78 : decode cX6_readWord 78 = .ok (.aload_n 0, 1) := by decide +kernel
theorem dX6_readWord_79 : decode cX6_readWord 79 = .ok (.getfield 18, 3) := by decide +kernel
theorem dX6_readWord_82 : decode cX6_readWord 82 = .ok (.lload_n 1, 1) := by decide +kernel
theorem dX6_readWord_83 : decode cX6_readWord 83 = .ok (.aload_n 0, 1) := by decide +kernel
theorem dX6_readWord_84 : decode cX6_readWord 84 = .ok (.getfield 32, 3) := by decide +kernel
theorem dX6_readWord_87 : decode cX6_readWord 87 = .ok (.aload_n 0, 1) := by decide +kernel
theorem dX6_readWord_88 : decode cX6_readWord 88 = .ok (.getfield 51, 3) := by decide +kernel
theorem dX6_readWord_91 : decode cX6_readWord 91 = .ok (.isub, 1) := by decide +kernel
theorem dX6_readWord_92 : decode cX6_readWord 92 = .ok (.aload_n 0, 1) := by decide +kernel
theorem dX6_readWord_93 : decode cX6_readWord 93 = .ok (.invokevirtual 120, 3) := by decide +kernel
theorem dX6_readWord_96 : decode cX6_readWord 96 = .ok (.invokevirtual 123, 3) := by decide +kernel
theorem dX6_readWord_99 : decode cX6_readWord 99 = .ok (.aload_n 0, 1) := by decide +kernel
theorem dX6_readWord_100 : decode cX6_readWord 100 = .ok (.iconst 3, 1) := by decide +kernel
theorem dX6_readWord_101 : decode cX6_readWord 101 = .ok (.invokevirtual 92, 3) := by decide +kernel
theorem dX6_readWord_104 : decode cX6_readWord 104 = .ok (.ireturn, 1) := by decide +kernel
set_option maxRecDepth 20000 in
theorem ggX6_readAsk_X6_refuse : GoodIn wsX6_readAsk wsX6_refuse := goodIn_r _ [9, 4, 10, 11, 12, 40, 41, 42, 43, 44, 45, 46, 47] (by decide +kernel) (by decide +kernel)
set_option maxRecDepth 20000 in
theorem gX6_readAsk_X6_refuse : GoodIn wsX6_readAsk (wsV RX6 47 RX6 yX6_refuse wsX6_refuse) := goodIn_app (goodIn_of _ (by decide +kernel)) ggX6_readAsk_X6_refuse
set_option maxRecDepth 20000 in
theorem ggX6_readAsk_X6_expect : GoodIn wsX6_readAsk wsX6_expect := goodIn_r _ [16, 4, 17, 18, 19, 8, 20, 21, 22, 23, 24, 11, 3, 5, 6, 7, 9, 10, 12, 40, 41, 42, 43, 44, 45, 46, 47, 58, 59] (by decide +kernel) (by decide +kernel)
set_option maxRecDepth 20000 in
theorem gX6_readAsk_X6_expect : GoodIn wsX6_readAsk (wsV RX6 92 RX6 yX6_expect wsX6_expect) := goodIn_app (goodIn_of _ (by decide +kernel)) ggX6_readAsk_X6_expect
set_option maxRecDepth 20000 in
theorem ggX6_readAsk_X7_isWord : GoodIn wsX6_readAsk wsX7_isWord := goodIn_r _ [29, 30, 48, 49, 50, 51, 52, 53, 54, 55, 56, 57] (by decide +kernel) (by decide +kernel)
set_option maxRecDepth 20000 in
theorem gX6_readAsk_X7_isWord : GoodIn wsX6_readAsk (wsV RX6 130 RX7 yX7_isWord wsX7_isWord) := goodIn_app (goodIn_of _ (by decide +kernel)) ggX6_readAsk_X7_isWord
set_option maxRecDepth 20000 in
theorem ggX6_readAsk_X8_isIn : GoodIn wsX6_readAsk wsX8_isIn := goodIn_r _ [33] (by decide +kernel) (by decide +kernel)
set_option maxRecDepth 20000 in
theorem gX6_readAsk_X8_isIn_n133 : GoodIn wsX6_readAsk (wsX8_isIn) := ggX6_readAsk_X8_isIn
set_option maxRecDepth 20000 in
theorem ggX6_readAsk_X6_readToken : GoodIn wsX6_readAsk wsX6_readToken := goodIn_r _ [20, 21, 22, 23, 24, 11, 4, 3, 40, 41, 42, 43, 44, 45, 46, 47, 58, 59] (by decide +kernel) (by decide +kernel)
set_option maxRecDepth 20000 in
theorem gX6_readAsk_X6_readToken : GoodIn wsX6_readAsk (wsV RX6 37 RX6 yX6_readToken wsX6_readToken) := goodIn_app (goodIn_of _ (by decide +kernel)) ggX6_readAsk_X6_readToken
set_option maxRecDepth 20000 in
theorem ggX6_readAsk_X7_tellAsk : GoodIn wsX6_readAsk wsX7_tellAsk := goodIn_r _ [37, 38, 39, 48, 49, 50, 51, 52, 53, 54, 55, 56, 57] (by decide +kernel) (by decide +kernel)
set_option maxRecDepth 20000 in
theorem gX6_readAsk_X7_tellAsk : GoodIn wsX6_readAsk (wsV RX6 136 RX7 yX7_tellAsk wsX7_tellAsk) := goodIn_app (goodIn_of _ (by decide +kernel)) ggX6_readAsk_X7_tellAsk
theorem dX6_readAsk_0 : decode cX6_readAsk 0 = .ok (.aload_n 0, 1) := by decide +kernel
theorem dX6_readAsk_1 : decode cX6_readAsk 1 = .ok (.getfield 18, 3) := by decide +kernel
theorem dX6_readAsk_4 : decode cX6_readAsk 4 = .ok (.getfield 127, 3) := by decide +kernel
theorem dX6_readAsk_7 : decode cX6_readAsk 7 = .ok (.bipush 6, 2) := by decide +kernel
theorem dX6_readAsk_9 : decode cX6_readAsk 9 = .ok (.if_icmp .lt 10, 3) := by decide +kernel
theorem dX6_readAsk_12 : decode cX6_readAsk 12 = .ok (.aload_n 0, 1) := by decide +kernel
theorem dX6_readAsk_13 : decode cX6_readAsk 13 = .ok (.bipush 6, 2) := by decide +kernel
theorem dX6_readAsk_15 : decode cX6_readAsk 15 = .ok (.invokevirtual 47, 3) := by decide +kernel
theorem dX6_readAsk_18 : decode cX6_readAsk 18 = .ok (.ireturn, 1) := by decide +kernel
theorem dX6_readAsk_19 : decode cX6_readAsk 19 = .ok (.iconst 0, 1) := by decide +kernel
theorem dX6_readAsk_20 : decode cX6_readAsk 20 = .ok (.istore_n 1, 1) := by decide +kernel
theorem dX6_readAsk_21 : decode cX6_readAsk 21 = .ok (.iconst 0, 1) := by decide +kernel
theorem dX6_readAsk_22 : decode cX6_readAsk 22 = .ok (.istore_n 2, 1) := by decide +kernel
theorem dX6_readAsk_23 : decode cX6_readAsk 23 = .ok (.iload_n 2, 1) := by decide +kernel
theorem dX6_readAsk_24 : decode cX6_readAsk 24 = .ok (.bipush 16, 2) := by decide +kernel
theorem dX6_readAsk_26 : decode cX6_readAsk 26 = .ok (.if_icmp .gt 95, 3) := by decide +kernel
theorem dX6_readAsk_29 : decode cX6_readAsk 29 = .ok (.aload_n 0, 1) := by decide +kernel
theorem dX6_readAsk_30 : decode cX6_readAsk 30 = .ok (.iconst 2, 1) := by decide +kernel
theorem dX6_readAsk_31 : decode cX6_readAsk 31 = .ok (.invokevirtual 92, 3) := by decide +kernel
theorem dX6_readAsk_34 : decode cX6_readAsk 34 = .ok (.ifCond .ne 5, 3) := by decide +kernel
theorem dX6_readAsk_37 : decode cX6_readAsk 37 = .ok (.iconst 0, 1) := by decide +kernel
theorem dX6_readAsk_38 : decode cX6_readAsk 38 = .ok (.ireturn, 1) := by decide +kernel
theorem dX6_readAsk_39 : decode cX6_readAsk 39 = .ok (.aload_n 0, 1) := by decide +kernel
theorem dX6_readAsk_40 : decode cX6_readAsk 40 = .ok (.getfield 18, 3) := by decide +kernel
theorem dX6_readAsk_43 : decode cX6_readAsk 43 = .ok (.aload_n 0, 1) := by decide +kernel
theorem dX6_readAsk_44 : decode cX6_readAsk 44 = .ok (.getfield 95, 3) := by decide +kernel
theorem dX6_readAsk_47 : decode cX6_readAsk 47 = .ok (.invokevirtual 130, 3) := by decide +kernel
theorem dX6_readAsk_50 : decode cX6_readAsk 50 = .ok (.ifCond .eq 14, 3) := by decide +kernel
theorem dX6_readAsk_53 : decode cX6_readAsk 53 = .ok (.iload_n 1, 1) := by decide +kernel
theorem dX6_readAsk_54 : decode cX6_readAsk 54 = .ok (.aload_n 0, 1) := by decide +kernel
theorem dX6_readAsk_55 : decode cX6_readAsk 55 = .ok (.getfield 95, 3) := by decide +kernel
theorem dX6_readAsk_58 : decode cX6_readAsk 58 = .ok (.invokestatic 133, 3) := by decide +kernel
theorem dX6_readAsk_61 : decode cX6_readAsk 61 = .ok (.ifCond .eq 9, 3) := by decide +kernel
theorem dX6_readAsk_64 : decode cX6_readAsk 64 = .ok (.aload_n 0, 1) := by decide +kernel
theorem dX6_readAsk_65 : decode cX6_readAsk 65 = .ok (.iconst 3, 1) := by decide +kernel
theorem dX6_readAsk_66 : decode cX6_readAsk 66 = .ok (.invokevirtual 47, 3) := by decide +kernel
theorem dX6_readAsk_69 : decode cX6_readAsk 69 = .ok (.ireturn, 1) := by decide +kernel
theorem dX6_readAsk_70 : decode cX6_readAsk 70 = .ok (.iload_n 1, 1) := by decide +kernel
theorem dX6_readAsk_71 : decode cX6_readAsk 71 = .ok (.iconst 1, 1) := by decide +kernel
theorem dX6_readAsk_72 : decode cX6_readAsk 72 = .ok (.aload_n 0, 1) := by decide +kernel
theorem dX6_readAsk_73 : decode cX6_readAsk 73 = .ok (.getfield 95, 3) := by decide +kernel
theorem dX6_readAsk_76 : decode cX6_readAsk 76 = .ok (.ishl, 1) := by decide +kernel
theorem dX6_readAsk_77 : decode cX6_readAsk 77 = .ok (.ior, 1) := by decide +kernel
theorem dX6_readAsk_78 : decode cX6_readAsk 78 = .ok (.istore_n 1, 1) := by decide +kernel
theorem dX6_readAsk_79 : decode cX6_readAsk 79 = .ok (.aload_n 0, 1) := by decide +kernel
theorem dX6_readAsk_80 : decode cX6_readAsk 80 = .ok (.invokevirtual 37, 3) := by decide +kernel
theorem dX6_readAsk_83 : decode cX6_readAsk 83 = .ok (.aload_n 0, 1) := by decide +kernel
theorem dX6_readAsk_84 : decode cX6_readAsk 84 = .ok (.getfield 40, 3) := by decide +kernel
theorem dX6_readAsk_87 : decode cX6_readAsk 87 = .ok (.iconst 3, 1) := by decide +kernel
theorem dX6_readAsk_88 : decode cX6_readAsk 88 = .ok (.if_icmp .ne 13, 3) := by decide +kernel
theorem dX6_readAsk_91 : decode cX6_readAsk 91 = .ok (.aload_n 0, 1) := by decide +kernel
theorem dX6_readAsk_92 : decode cX6_readAsk 92 = .ok (.getfield 18, 3) := by decide +kernel
theorem dX6_readAsk_95 : decode cX6_readAsk 95 = .ok (.iload_n 1, 1) := by decide +kernel
theorem dX6_readAsk_96 : decode cX6_readAsk 96 = .ok (.invokevirtual 136, 3) := by decide +kernel
theorem dX6_readAsk_99 : decode cX6_readAsk 99 = .ok (.iconst 1, 1) := by decide +kernel
theorem dX6_readAsk_100 : decode cX6_readAsk 100 = .ok (.ireturn, 1) := by decide +kernel
theorem dX6_readAsk_101 : decode cX6_readAsk 101 = .ok (.aload_n 0, 1) := by decide +kernel
theorem dX6_readAsk_102 : decode cX6_readAsk 102 = .ok (.getfield 40, 3) := by decide +kernel
theorem dX6_readAsk_105 : decode cX6_readAsk 105 = .ok (.iconst 4, 1) := by decide +kernel
theorem dX6_readAsk_106 : decode cX6_readAsk 106 = .ok (.if_icmp .eq 9, 3) := by decide +kernel
theorem dX6_readAsk_109 : decode cX6_readAsk 109 = .ok (.aload_n 0, 1) := by decide +kernel
theorem dX6_readAsk_110 : decode cX6_readAsk 110 = .ok (.iconst 2, 1) := by decide +kernel
theorem dX6_readAsk_111 : decode cX6_readAsk 111 = .ok (.invokevirtual 47, 3) := by decide +kernel
theorem dX6_readAsk_114 : decode cX6_readAsk 114 = .ok (.ireturn, 1) := by decide +kernel
theorem dX6_readAsk_115 : decode cX6_readAsk 115 = .ok (.iinc 2 1, 3) := by decide +kernel
theorem dX6_readAsk_118 : decode cX6_readAsk 118 = .ok (.goto (-95), 3) := by decide +kernel
theorem dX6_readAsk_121 : decode cX6_readAsk 121 = .ok (.aload_n 0, 1) := by decide +kernel
theorem dX6_readAsk_122 : decode cX6_readAsk 122 = .ok (.iconst 3, 1) := by decide +kernel
theorem dX6_readAsk_123 : decode cX6_readAsk 123 = .ok (.invokevirtual 47, 3) := by decide +kernel
theorem dX6_readAsk_126 : decode cX6_readAsk 126 = .ok (.ireturn, 1) := by decide +kernel
set_option maxRecDepth 20000 in
theorem ggX6_allLettersTold_X6_letterAt : GoodIn wsX6_allLettersTold wsX6_letterAt := goodIn_r _ [9, 10, 11, 12, 13, 14, 15, 16, 17, 18, 19, 30, 31] (by decide +kernel) (by decide +kernel)
set_option maxRecDepth 20000 in
theorem gX6_allLettersTold_X6_letterAt : GoodIn wsX6_allLettersTold (wsV RX6 88 RX6 yX6_letterAt wsX6_letterAt) := goodIn_app (goodIn_of _ (by decide +kernel)) ggX6_allLettersTold_X6_letterAt
theorem dX6_allLettersTold_0 : decode cX6_allLettersTold 0 = .ok (.aload_n 0, 1) := by decide +kernel
theorem dX6_allLettersTold_1 : decode cX6_allLettersTold 1 = .ok (.getfield 51, 3) := by decide +kernel
theorem dX6_allLettersTold_4 : decode cX6_allLettersTold 4 = .ok (.istore_n 1, 1) := by decide +kernel
theorem dX6_allLettersTold_5 : decode cX6_allLettersTold 5 = .ok (.iload_n 1, 1) := by decide +kernel
theorem dX6_allLettersTold_6 : decode cX6_allLettersTold 6 = .ok (.aload_n 0, 1) := by decide +kernel
theorem dX6_allLettersTold_7 : decode cX6_allLettersTold 7 = .ok (.getfield 32, 3) := by decide +kernel
theorem dX6_allLettersTold_10 : decode cX6_allLettersTold 10 = .ok (.if_icmp .ge 28, 3) := by decide +kernel
theorem dX6_allLettersTold_13 : decode cX6_allLettersTold 13 = .ok (.aload_n 0, 1) := by decide +kernel
theorem dX6_allLettersTold_14 : decode cX6_allLettersTold 14 = .ok (.getfield 18, 3) := by decide +kernel
theorem dX6_allLettersTold_17 : decode cX6_allLettersTold 17 = .ok (.getfield 102, 3) := by decide +kernel
theorem dX6_allLettersTold_20 : decode cX6_allLettersTold 20 = .ok (.aload_n 0, 1) := by decide +kernel
theorem dX6_allLettersTold_21 : decode cX6_allLettersTold 21 = .ok (.iload_n 1, 1) := by decide +kernel
theorem dX6_allLettersTold_22 : decode cX6_allLettersTold 22 = .ok (.invokevirtual 88, 3) := by decide +kernel
theorem dX6_allLettersTold_25 : decode cX6_allLettersTold 25 = .ok (.iaload, 1) := by decide +kernel
theorem dX6_allLettersTold_26 : decode cX6_allLettersTold 26 = .ok (.iconst (-1), 1) := by decide +kernel
theorem dX6_allLettersTold_27 : decode cX6_allLettersTold 27 = .ok (.if_icmp .ne 5, 3) := by decide +kernel
theorem dX6_allLettersTold_30 : decode cX6_allLettersTold 30 = .ok (.iconst 0, 1) := by decide +kernel
theorem dX6_allLettersTold_31 : decode cX6_allLettersTold 31 = .ok (.ireturn, 1) := by decide +kernel
theorem dX6_allLettersTold_32 : decode cX6_allLettersTold 32 = .ok (.iinc 1 1, 3) := by decide +kernel
theorem dX6_allLettersTold_35 : decode cX6_allLettersTold 35 = .ok (.goto (-30), 3) := by decide +kernel
theorem dX6_allLettersTold_38 : decode cX6_allLettersTold 38 = .ok (.iconst 1, 1) := by decide +kernel
theorem dX6_allLettersTold_39 : decode cX6_allLettersTold 39 = .ok (.ireturn, 1) := by decide +kernel
set_option maxRecDepth 20000 in
theorem ggX6_nameRead_X6_letterAt : GoodIn wsX6_nameRead wsX6_letterAt := goodIn_r _ [8, 9, 10, 11, 12, 13, 14, 15, 16, 17, 18, 19, 20] (by decide +kernel) (by decide +kernel)
set_option maxRecDepth 20000 in
theorem gX6_nameRead_X6_letterAt : GoodIn wsX6_nameRead (wsV RX6 88 RX6 yX6_letterAt wsX6_letterAt) := goodIn_app (goodIn_of _ (by decide +kernel)) ggX6_nameRead_X6_letterAt
theorem dX6_nameRead_0 : decode cX6_nameRead 0 = .ok (.lconst 0, 1) := by decide +kernel
theorem dX6_nameRead_1 : decode cX6_nameRead 1 = .ok (.lstore_n 1, 1) := by decide +kernel
theorem dX6_nameRead_2 : decode cX6_nameRead 2 = .ok (.aload_n 0, 1) := by decide +kernel
theorem dX6_nameRead_3 : decode cX6_nameRead 3 = .ok (.getfield 51, 3) := by decide +kernel
theorem dX6_nameRead_6 : decode cX6_nameRead 6 = .ok (.istore_n 3, 1) := by decide +kernel
theorem dX6_nameRead_7 : decode cX6_nameRead 7 = .ok (.iload_n 3, 1) := by decide +kernel
theorem dX6_nameRead_8 : decode cX6_nameRead 8 = .ok (.aload_n 0, 1) := by decide +kernel
theorem dX6_nameRead_9 : decode cX6_nameRead 9 = .ok (.getfield 32, 3) := by decide +kernel
theorem dX6_nameRead_12 : decode cX6_nameRead 12 = .ok (.if_icmp .ge 24, 3) := by decide +kernel
theorem dX6_nameRead_15 : decode cX6_nameRead 15 = .ok (.lload_n 1, 1) := by decide +kernel
theorem dX6_nameRead_16 : decode cX6_nameRead 16 = .ok (.ldc2_w 140, 3) := by decide +kernel
theorem dX6_nameRead_19 : decode cX6_nameRead 19 = .ok (.lmul, 1) := by decide +kernel
theorem dX6_nameRead_20 : decode cX6_nameRead 20 = .ok (.aload_n 0, 1) := by decide +kernel
theorem dX6_nameRead_21 : decode cX6_nameRead 21 = .ok (.iload_n 3, 1) := by decide +kernel
theorem dX6_nameRead_22 : decode cX6_nameRead 22 = .ok (.invokevirtual 88, 3) := by decide +kernel
theorem dX6_nameRead_25 : decode cX6_nameRead 25 = .ok (.i2l, 1) := by decide +kernel
theorem dX6_nameRead_26 : decode cX6_nameRead 26 = .ok (.ladd, 1) := by decide +kernel
theorem dX6_nameRead_27 : decode cX6_nameRead 27 = .ok (.lconst 1, 1) := by decide +kernel
theorem dX6_nameRead_28 : decode cX6_nameRead 28 = .ok (.ladd, 1) := by decide +kernel
theorem dX6_nameRead_29 : decode cX6_nameRead 29 = .ok (.lstore_n 1, 1) := by decide +kernel
theorem dX6_nameRead_30 : decode cX6_nameRead 30 = .ok (.iinc 3 1, 3) := by decide +kernel
theorem dX6_nameRead_33 : decode cX6_nameRead 33 = .ok (.goto (-26), 3) := by decide +kernel
theorem dX6_nameRead_36 : decode cX6_nameRead 36 = .ok (.lload_n 1, 1) := by decide +kernel
theorem dX6_nameRead_37 : decode cX6_nameRead 37 = .ok (.lreturn, 1) := by decide +kernel
set_option maxRecDepth 20000 in
theorem ggX6_speechRead_X6_letterAt : GoodIn wsX6_speechRead wsX6_letterAt := goodIn_r _ [9, 10, 11, 16, 17, 18, 19, 20, 21, 22, 23, 34, 35] (by decide +kernel) (by decide +kernel)
set_option maxRecDepth 20000 in
theorem gX6_speechRead_X6_letterAt : GoodIn wsX6_speechRead (wsV RX6 88 RX6 yX6_letterAt wsX6_letterAt) := goodIn_app (goodIn_of _ (by decide +kernel)) ggX6_speechRead_X6_letterAt
set_option maxRecDepth 20000 in
theorem ggX6_speechRead_X3_with : GoodIn wsX6_speechRead wsX3_with := goodIn_r _ [15] (by decide +kernel) (by decide +kernel)
set_option maxRecDepth 20000 in
theorem gX6_speechRead_X3_with : GoodIn wsX6_speechRead (va_wsS RX6 142 yX3_with wsX3_with) := goodIn_app (goodIn_of _ (by decide +kernel)) ggX6_speechRead_X3_with
theorem dX6_speechRead_0 : decode cX6_speechRead 0 = .ok (.lconst 0, 1) := by decide +kernel
theorem dX6_speechRead_1 : decode cX6_speechRead 1 = .ok (.lstore_n 1, 1) := by decide +kernel
theorem dX6_speechRead_2 : decode cX6_speechRead 2 = .ok (.iconst 0, 1) := by decide +kernel
theorem dX6_speechRead_3 : decode cX6_speechRead 3 = .ok (.istore_n 3, 1) := by decide +kernel
theorem dX6_speechRead_4 : decode cX6_speechRead 4 = .ok (.aload_n 0, 1) := by decide +kernel
theorem dX6_speechRead_5 : decode cX6_speechRead 5 = .ok (.getfield 51, 3) := by decide +kernel
theorem dX6_speechRead_8 : decode cX6_speechRead 8 = .ok (.istore 4, 2) := by decide +kernel
theorem dX6_speechRead_10 : decode cX6_speechRead 10 = .ok (.iload 4, 2) := by decide +kernel
theorem dX6_speechRead_12 : decode cX6_speechRead 12 = .ok (.aload_n 0, 1) := by decide +kernel
theorem dX6_speechRead_13 : decode cX6_speechRead 13 = .ok (.getfield 32, 3) := by decide +kernel
theorem dX6_speechRead_16 : decode cX6_speechRead 16 = .ok (.if_icmp .ge 43, 3) := by decide +kernel
theorem dX6_speechRead_19 : decode cX6_speechRead 19 = .ok (.aload_n 0, 1) := by decide +kernel
theorem dX6_speechRead_20 : decode cX6_speechRead 20 = .ok (.getfield 18, 3) := by decide +kernel
theorem dX6_speechRead_23 : decode cX6_speechRead 23 = .ok (.getfield 102, 3) := by decide +kernel
theorem dX6_speechRead_26 : decode cX6_speechRead 26 = .ok (.aload_n 0, 1) := by decide +kernel
theorem dX6_speechRead_27 : decode cX6_speechRead 27 = .ok (.iload 4, 2) := by decide +kernel
theorem dX6_speechRead_29 : decode cX6_speechRead 29 = .ok (.invokevirtual 88, 3) := by decide +kernel
theorem dX6_speechRead_32 : decode cX6_speechRead 32 = .ok (.iaload, 1) := by decide +kernel
theorem dX6_speechRead_33 : decode cX6_speechRead 33 = .ok (.istore 5, 2) := by decide +kernel
theorem dX6_speechRead_35 : decode cX6_speechRead 35 = .ok (.iload 5, 2) := by decide +kernel
theorem dX6_speechRead_37 : decode cX6_speechRead 37 = .ok (.bipush (-2), 2) := by decide +kernel
theorem dX6_speechRead_39 : decode cX6_speechRead 39 = .ok (.if_icmp .eq 14, 3) := by decide +kernel
theorem dX6_speechRead_42 : decode cX6_speechRead 42 = .ok (.lload_n 1, 1) := by decide +kernel
theorem dX6_speechRead_43 : decode cX6_speechRead 43 = .ok (.iload_n 3, 1) := by decide +kernel
theorem dX6_speechRead_44 : decode cX6_speechRead 44 = .ok (.iload 5, 2) := by decide +kernel
theorem dX6_speechRead_46 : decode cX6_speechRead 46 = .ok (.invokestatic 142, 3) := by decide +kernel
theorem dX6_speechRead_49 : decode cX6_speechRead 49 = .ok (.lstore_n 1, 1) := by decide +kernel
theorem dX6_speechRead_50 : decode cX6_speechRead 50 = .ok (.iinc 3 1, 3) := by decide +kernel
theorem dX6_speechRead_53 : decode cX6_speechRead 53 = .ok (.iinc 4 1, 3) := by decide +kernel
theorem dX6_speechRead_56 : decode cX6_speechRead 56 = .ok (.goto (-46), 3) := by decide +kernel
theorem dX6_speechRead_59 : decode cX6_speechRead 59 = .ok (.lload_n 1, 1) := by decide +kernel
theorem dX6_speechRead_60 : decode cX6_speechRead 60 = .ok (.lreturn, 1) := by decide +kernel
theorem dX6_letterAt_0 : decode cX6_letterAt 0 = .ok (.aload_n 0, 1) := by decide +kernel
theorem dX6_letterAt_1 : decode cX6_letterAt 1 = .ok (.getfield 9, 3) := by decide +kernel
theorem dX6_letterAt_4 : decode cX6_letterAt 4 = .ok (.getfield 146, 3) := by decide +kernel
theorem dX6_letterAt_7 : decode cX6_letterAt 7 = .ok (.iload_n 1, 1) := by decide +kernel
theorem dX6_letterAt_8 : decode cX6_letterAt 8 = .ok (.baload, 1) := by decide +kernel
theorem dX6_letterAt_9 : decode cX6_letterAt 9 = .ok (.bipush 97, 2) := by decide +kernel
theorem dX6_letterAt_11 : decode cX6_letterAt 11 = .ok (.isub, 1) := by decide +kernel
theorem dX6_letterAt_12 : decode cX6_letterAt 12 = .ok (.ireturn, 1) := by decide +kernel
set_option maxRecDepth 20000 in
theorem ggX6_spells_J0_length_8abf5 : GoodIn wsX6_spells wsJ0_length_8abf5 := goodIn_r _ [9, 10, 11, 12, 13, 8, 14, 15, 16] (by decide +kernel) (by decide +kernel)
set_option maxRecDepth 20000 in
theorem gX6_spells_J0_length_8abf5 : GoodIn wsX6_spells (wsV RX6 150 RJ0 yJ0_length_8abf5 wsJ0_length_8abf5) := goodIn_app (goodIn_of _ (by decide +kernel)) ggX6_spells_J0_length_8abf5
set_option maxRecDepth 20000 in
theorem ggX6_spells_J0_charAt_5068e : GoodIn wsX6_spells wsJ0_charAt_5068e := goodIn_r _ [20, 10, 21, 22, 23, 8, 24, 15, 16, 25, 26, 27, 28, 29, 30, 31, 32, 33, 34, 35, 36, 37, 38, 39, 40, 41, 42, 43, 44, 45, 46, 47, 48, 49, 50, 51, 52, 53] (by decide +kernel) (by decide +kernel)
set_option maxRecDepth 20000 in
theorem gX6_spells_J0_charAt_5068e : GoodIn wsX6_spells (wsV RX6 156 RJ0 yJ0_charAt_5068e wsJ0_charAt_5068e) := goodIn_app (goodIn_of _ (by decide +kernel)) ggX6_spells_J0_charAt_5068e
theorem dX6_spells_0 : decode cX6_spells 0 = .ok (.aload_n 0, 1) := by decide +kernel
theorem dX6_spells_1 : decode cX6_spells 1 = .ok (.getfield 32, 3) := by decide +kernel
theorem dX6_spells_4 : decode cX6_spells 4 = .ok (.aload_n 0, 1) := by decide +kernel
theorem dX6_spells_5 : decode cX6_spells 5 = .ok (.getfield 51, 3) := by decide +kernel
theorem dX6_spells_8 : decode cX6_spells 8 = .ok (.isub, 1) := by decide +kernel
theorem dX6_spells_9 : decode cX6_spells 9 = .ok (.aload_n 1, 1) := by decide +kernel
theorem dX6_spells_10 : decode cX6_spells 10 = .ok (.invokevirtual 150, 3) := by decide +kernel
theorem dX6_spells_13 : decode cX6_spells 13 = .ok (.if_icmp .eq 5, 3) := by decide +kernel
theorem dX6_spells_16 : decode cX6_spells 16 = .ok (.iconst 0, 1) := by decide +kernel
theorem dX6_spells_17 : decode cX6_spells 17 = .ok (.ireturn, 1) := by decide +kernel
theorem dX6_spells_18 : decode cX6_spells 18 = .ok (.iconst 0, 1) := by decide +kernel
theorem dX6_spells_19 : decode cX6_spells 19 = .ok (.istore_n 2, 1) := by decide +kernel
theorem dX6_spells_20 : decode cX6_spells 20 = .ok (.iload_n 2, 1) := by decide +kernel
theorem dX6_spells_21 : decode cX6_spells 21 = .ok (.aload_n 1, 1) := by decide +kernel
theorem dX6_spells_22 : decode cX6_spells 22 = .ok (.invokevirtual 150, 3) := by decide +kernel
theorem dX6_spells_25 : decode cX6_spells 25 = .ok (.if_icmp .ge 33, 3) := by decide +kernel
theorem dX6_spells_28 : decode cX6_spells 28 = .ok (.aload_n 0, 1) := by decide +kernel
theorem dX6_spells_29 : decode cX6_spells 29 = .ok (.getfield 9, 3) := by decide +kernel
theorem dX6_spells_32 : decode cX6_spells 32 = .ok (.getfield 146, 3) := by decide +kernel
theorem dX6_spells_35 : decode cX6_spells 35 = .ok (.aload_n 0, 1) := by decide +kernel
theorem dX6_spells_36 : decode cX6_spells 36 = .ok (.getfield 51, 3) := by decide +kernel
theorem dX6_spells_39 : decode cX6_spells 39 = .ok (.iload_n 2, 1) := by decide +kernel
theorem dX6_spells_40 : decode cX6_spells 40 = .ok (.iadd, 1) := by decide +kernel
theorem dX6_spells_41 : decode cX6_spells 41 = .ok (.baload, 1) := by decide +kernel
theorem dX6_spells_42 : decode cX6_spells 42 = .ok (.aload_n 1, 1) := by decide +kernel
theorem dX6_spells_43 : decode cX6_spells 43 = .ok (.iload_n 2, 1) := by decide +kernel
theorem dX6_spells_44 : decode cX6_spells 44 = .ok (.invokevirtual 156, 3) := by decide +kernel
theorem dX6_spells_47 : decode cX6_spells 47 = .ok (.if_icmp .eq 5, 3) := by decide +kernel
theorem dX6_spells_50 : decode cX6_spells 50 = .ok (.iconst 0, 1) := by decide +kernel
theorem dX6_spells_51 : decode cX6_spells 51 = .ok (.ireturn, 1) := by decide +kernel
theorem dX6_spells_52 : decode cX6_spells 52 = .ok (.iinc 2 1, 3) := by decide +kernel
theorem dX6_spells_55 : decode cX6_spells 55 = .ok (.goto (-35), 3) := by decide +kernel
theorem dX6_spells_58 : decode cX6_spells 58 = .ok (.iconst 1, 1) := by decide +kernel
theorem dX6_spells_59 : decode cX6_spells 59 = .ok (.ireturn, 1) := by decide +kernel
theorem dX6_readToken_0 : decode cX6_readToken 0 = .ok (.aload_n 0, 1) := by decide +kernel
theorem dX6_readToken_1 : decode cX6_readToken 1 = .ok (.getfield 32, 3) := by decide +kernel
theorem dX6_readToken_4 : decode cX6_readToken 4 = .ok (.aload_n 0, 1) := by decide +kernel
theorem dX6_readToken_5 : decode cX6_readToken 5 = .ok (.getfield 9, 3) := by decide +kernel
theorem dX6_readToken_8 : decode cX6_readToken 8 = .ok (.getfield 160, 3) := by decide +kernel
theorem dX6_readToken_11 : decode cX6_readToken 11 = .ok (.if_icmp .ge 33, 3) := by decide +kernel
theorem dX6_readToken_14 : decode cX6_readToken 14 = .ok (.aload_n 0, 1) := by decide +kernel
theorem dX6_readToken_15 : decode cX6_readToken 15 = .ok (.getfield 9, 3) := by decide +kernel
theorem dX6_readToken_18 : decode cX6_readToken 18 = .ok (.getfield 146, 3) := by decide +kernel
theorem dX6_readToken_21 : decode cX6_readToken 21 = .ok (.aload_n 0, 1) := by decide +kernel
theorem dX6_readToken_22 : decode cX6_readToken 22 = .ok (.getfield 32, 3) := by decide +kernel
theorem dX6_readToken_25 : decode cX6_readToken 25 = .ok (.baload, 1) := by decide +kernel
theorem dX6_readToken_26 : decode cX6_readToken 26 = .ok (.bipush 32, 2) := by decide +kernel
theorem dX6_readToken_28 : decode cX6_readToken 28 = .ok (.if_icmp .ne 16, 3) := by decide +kernel
theorem dX6_readToken_31 : decode cX6_readToken 31 = .ok (.aload_n 0, 1) := by decide +kernel
theorem dX6_readToken_32 : decode cX6_readToken 32 = .ok (.dup, 1) := by decide +kernel
theorem dX6_readToken_33 : decode cX6_readToken 33 = .ok (.getfield 32, 3) := by decide +kernel
theorem dX6_readToken_36 : decode cX6_readToken 36 = .ok (.iconst 1, 1) := by decide +kernel
theorem dX6_readToken_37 : decode cX6_readToken 37 = .ok (.iadd, 1) := by decide +kernel
theorem dX6_readToken_38 : decode cX6_readToken 38 = .ok (.putfield 32, 3) := by decide +kernel
theorem dX6_readToken_41 : decode cX6_readToken 41 = .ok (.goto (-41), 3) := by decide +kernel
theorem dX6_readToken_44 : decode cX6_readToken 44 = .ok (.aload_n 0, 1) := by decide +kernel
theorem dX6_readToken_45 : decode cX6_readToken 45 = .ok (.aload_n 0, 1) := by decide +kernel
theorem dX6_readToken_46 : decode cX6_readToken 46 = .ok (.getfield 32, 3) := by decide +kernel
theorem dX6_readToken_49 : decode cX6_readToken 49 = .ok (.putfield 51, 3) := by decide +kernel
theorem dX6_readToken_52 : decode cX6_readToken 52 = .ok (.aload_n 0, 1) := by decide +kernel
theorem dX6_readToken_53 : decode cX6_readToken 53 = .ok (.getfield 32, 3) := by decide +kernel
theorem dX6_readToken_56 : decode cX6_readToken 56 = .ok (.aload_n 0, 1) := by decide +kernel
theorem dX6_readToken_57 : decode cX6_readToken 57 = .ok (.getfield 9, 3) := by decide +kernel
theorem dX6_readToken_60 : decode cX6_readToken 60 = .ok (.getfield 160, 3) := by decide +kernel
theorem dX6_readToken_63 : decode cX6_readToken 63 = .ok (.if_icmp .lt 9, 3) := by decide +kernel
theorem dX6_readToken_66 : decode cX6_readToken 66 = .ok (.aload_n 0, 1) := by decide +kernel
theorem dX6_readToken_67 : decode cX6_readToken 67 = .ok (.iconst 0, 1) := by decide +kernel
theorem dX6_readToken_68 : decode cX6_readToken 68 = .ok (.putfield 40, 3) := by decide +kernel
theorem dX6_readToken_71 : decode cX6_readToken 71 = .ok (.return_, 1) := by decide +kernel
theorem dX6_readToken_72 : decode cX6_readToken 72 = .ok (.aload_n 0, 1) := by decide +kernel
theorem dX6_readToken_73 : decode cX6_readToken 73 = .ok (.getfield 9, 3) := by decide +kernel
theorem dX6_readToken_76 : decode cX6_readToken 76 = .ok (.getfield 146, 3) := by decide +kernel
theorem dX6_readToken_79 : decode cX6_readToken 79 = .ok (.aload_n 0, 1) := by decide +kernel
theorem dX6_readToken_80 : decode cX6_readToken 80 = .ok (.getfield 32, 3) := by decide +kernel
theorem dX6_readToken_83 : decode cX6_readToken 83 = .ok (.baload, 1) := by decide +kernel
theorem dX6_readToken_84 : decode cX6_readToken 84 = .ok (.istore_n 1, 1) := by decide +kernel
theorem dX6_readToken_85 : decode cX6_readToken 85 = .ok (.aload_n 0, 1) := by decide +kernel
theorem dX6_readToken_86 : decode cX6_readToken 86 = .ok (.dup, 1) := by decide +kernel
theorem dX6_readToken_87 : decode cX6_readToken 87 = .ok (.getfield 32, 3) := by decide +kernel
theorem dX6_readToken_90 : decode cX6_readToken 90 = .ok (.iconst 1, 1) := by decide +kernel
theorem dX6_readToken_91 : decode cX6_readToken 91 = .ok (.iadd, 1) := by decide +kernel
theorem dX6_readToken_92 : decode cX6_readToken 92 = .ok (.putfield 32, 3) := by decide +kernel
theorem dX6_readToken_95 : decode cX6_readToken 95 = .ok (.iload_n 1, 1) := by decide +kernel
theorem dX6_readToken_96 : decode cX6_readToken 96 = .ok (.bipush 97, 2) := by decide +kernel
theorem dX6_readToken_98 : decode cX6_readToken 98 = .ok (.if_icmp .lt 78, 3) := by decide +kernel
theorem dX6_readToken_101 : decode cX6_readToken 101 = .ok (.iload_n 1, 1) := by decide +kernel
theorem dX6_readToken_102 : decode cX6_readToken 102 = .ok (.bipush 122, 2) := by decide +kernel
theorem dX6_readToken_104 : decode cX6_readToken 104 = .ok (.if_icmp .gt 72, 3) := by decide +kernel
theorem dX6_readToken_107 : decode cX6_readToken 107 = .ok (.aload_n 0, 1) := by decide +kernel
theorem dX6_readToken_108 : decode cX6_readToken 108 = .ok (.getfield 32, 3) := by decide +kernel
theorem dX6_readToken_111 : decode cX6_readToken 111 = .ok (.aload_n 0, 1) := by decide +kernel
theorem dX6_readToken_112 : decode cX6_readToken 112 = .ok (.getfield 9, 3) := by decide +kernel
theorem dX6_readToken_115 : decode cX6_readToken 115 = .ok (.getfield 160, 3) := by decide +kernel
theorem dX6_readToken_118 : decode cX6_readToken 118 = .ok (.if_icmp .ge 50, 3) := by decide +kernel
theorem dX6_readToken_121 : decode cX6_readToken 121 = .ok (.aload_n 0, 1) := by decide +kernel
theorem dX6_readToken_122 : decode cX6_readToken 122 = .ok (.getfield 9, 3) := by decide +kernel
theorem dX6_readToken_125 : decode cX6_readToken 125 = .ok (.getfield 146, 3) := by decide +kernel
theorem dX6_readToken_128 : decode cX6_readToken 128 = .ok (.aload_n 0, 1) := by decide +kernel
theorem dX6_readToken_129 : decode cX6_readToken 129 = .ok (.getfield 32, 3) := by decide +kernel
theorem dX6_readToken_132 : decode cX6_readToken 132 = .ok (.baload, 1) := by decide +kernel
theorem dX6_readToken_133 : decode cX6_readToken 133 = .ok (.bipush 97, 2) := by decide +kernel
theorem dX6_readToken_135 : decode cX6_readToken 135 = .ok (.if_icmp .lt 33, 3) := by decide +kernel
theorem dX6_readToken_138 : decode cX6_readToken 138 = .ok (.aload_n 0, 1) := by decide +kernel
theorem dX6_readToken_139 : decode cX6_readToken 139 = .ok (.getfield 9, 3) := by decide +kernel
theorem dX6_readToken_142 : decode cX6_readToken 142 = .ok (.getfield 146, 3) := by decide +kernel
theorem dX6_readToken_145 : decode cX6_readToken 145 = .ok (.aload_n 0, 1) := by decide +kernel
theorem dX6_readToken_146 : decode cX6_readToken 146 = .ok (.getfield 32, 3) := by decide +kernel
theorem dX6_readToken_149 : decode cX6_readToken 149 = .ok (.baload, 1) := by decide +kernel
theorem dX6_readToken_150 : decode cX6_readToken 150 = .ok (.bipush 122, 2) := by decide +kernel
theorem dX6_readToken_152 : decode cX6_readToken 152 = .ok (.if_icmp .gt 16, 3) := by decide +kernel
theorem dX6_readToken_155 : decode cX6_readToken 155 = .ok (.aload_n 0, 1) := by decide +kernel
theorem dX6_readToken_156 : decode cX6_readToken 156 = .ok (.dup, 1) := by decide +kernel
theorem dX6_readToken_157 : decode cX6_readToken 157 = .ok (.getfield 32, 3) := by decide +kernel
theorem dX6_readToken_160 : decode cX6_readToken 160 = .ok (.iconst 1, 1) := by decide +kernel
theorem dX6_readToken_161 : decode cX6_readToken 161 = .ok (.iadd, 1) := by decide +kernel
theorem dX6_readToken_162 : decode cX6_readToken 162 = .ok (.putfield 32, 3) := by decide +kernel
theorem dX6_readToken_165 : decode cX6_readToken 165 = .ok (.goto (-58), 3) := by decide +kernel
theorem dX6_readToken_168 : decode cX6_readToken 168 = .ok (.aload_n 0, 1) := by decide +kernel
theorem dX6_readToken_169 : decode cX6_readToken 169 = .ok (.iconst 1, 1) := by decide +kernel
theorem dX6_readToken_170 : decode cX6_readToken 170 = .ok (.putfield 40, 3) := by decide +kernel
theorem dX6_readToken_173 : decode cX6_readToken 173 = .ok (.goto 161, 3) := by decide +kernel
theorem dX6_readToken_176 : decode cX6_readToken 176 = .ok (.iload_n 1, 1) := by decide +kernel
theorem dX6_readToken_177 : decode cX6_readToken 177 = .ok (.bipush 48, 2) := by decide +kernel
theorem dX6_readToken_179 : decode cX6_readToken 179 = .ok (.if_icmp .lt 130, 3) := by decide +kernel
theorem dX6_readToken_182 : decode cX6_readToken 182 = .ok (.iload_n 1, 1) := by decide +kernel
theorem dX6_readToken_183 : decode cX6_readToken 183 = .ok (.bipush 57, 2) := by decide +kernel
theorem dX6_readToken_185 : decode cX6_readToken 185 = .ok (.if_icmp .gt 124, 3) := by decide +kernel
theorem dX6_readToken_188 : decode cX6_readToken 188 = .ok (.aload_n 0, 1) := by decide +kernel
theorem dX6_readToken_189 : decode cX6_readToken 189 = .ok (.iload_n 1, 1) := by decide +kernel
theorem dX6_readToken_190 : decode cX6_readToken 190 = .ok (.bipush 48, 2) := by decide +kernel
theorem dX6_readToken_192 : decode cX6_readToken 192 = .ok (.isub, 1) := by decide +kernel
theorem dX6_readToken_193 : decode cX6_readToken 193 = .ok (.putfield 95, 3) := by decide +kernel
theorem dX6_readToken_196 : decode cX6_readToken 196 = .ok (.aload_n 0, 1) := by decide +kernel
theorem dX6_readToken_197 : decode cX6_readToken 197 = .ok (.getfield 32, 3) := by decide +kernel
theorem dX6_readToken_200 : decode cX6_readToken 200 = .ok (.aload_n 0, 1) := by decide +kernel
theorem dX6_readToken_201 : decode cX6_readToken 201 = .ok (.getfield 9, 3) := by decide +kernel
theorem dX6_readToken_204 : decode cX6_readToken 204 = .ok (.getfield 160, 3) := by decide +kernel
theorem dX6_readToken_207 : decode cX6_readToken 207 = .ok (.if_icmp .ge 77, 3) := by decide +kernel
theorem dX6_readToken_210 : decode cX6_readToken 210 = .ok (.aload_n 0, 1) := by decide +kernel
theorem dX6_readToken_211 : decode cX6_readToken 211 = .ok (.getfield 9, 3) := by decide +kernel
theorem dX6_readToken_214 : decode cX6_readToken 214 = .ok (.getfield 146, 3) := by decide +kernel
theorem dX6_readToken_217 : decode cX6_readToken 217 = .ok (.aload_n 0, 1) := by decide +kernel
theorem dX6_readToken_218 : decode cX6_readToken 218 = .ok (.getfield 32, 3) := by decide +kernel
theorem dX6_readToken_221 : decode cX6_readToken 221 = .ok (.baload, 1) := by decide +kernel
theorem dX6_readToken_222 : decode cX6_readToken 222 = .ok (.bipush 48, 2) := by decide +kernel
theorem dX6_readToken_224 : decode cX6_readToken 224 = .ok (.if_icmp .lt 60, 3) := by decide +kernel
theorem dX6_readToken_227 : decode cX6_readToken 227 = .ok (.aload_n 0, 1) := by decide +kernel
theorem dX6_readToken_228 : decode cX6_readToken 228 = .ok (.getfield 9, 3) := by decide +kernel
theorem dX6_readToken_231 : decode cX6_readToken 231 = .ok (.getfield 146, 3) := by decide +kernel
theorem dX6_readToken_234 : decode cX6_readToken 234 = .ok (.aload_n 0, 1) := by decide +kernel
theorem dX6_readToken_235 : decode cX6_readToken 235 = .ok (.getfield 32, 3) := by decide +kernel
theorem dX6_readToken_238 : decode cX6_readToken 238 = .ok (.baload, 1) := by decide +kernel
theorem dX6_readToken_239 : decode cX6_readToken 239 = .ok (.bipush 57, 2) := by decide +kernel
theorem dX6_readToken_241 : decode cX6_readToken 241 = .ok (.if_icmp .gt 43, 3) := by decide +kernel
theorem dX6_readToken_244 : decode cX6_readToken 244 = .ok (.aload_n 0, 1) := by decide +kernel
theorem dX6_readToken_245 : decode cX6_readToken 245 = .ok (.aload_n 0, 1) := by decide +kernel
theorem dX6_readToken_246 : decode cX6_readToken 246 = .ok (.getfield 95, 3) := by decide +kernel
theorem dX6_readToken_249 : decode cX6_readToken 249 = .ok (.bipush 10, 2) := by decide +kernel
theorem dX6_readToken_251 : decode cX6_readToken 251 = .ok (.imul, 1) := by decide +kernel
theorem dX6_readToken_252 : decode cX6_readToken 252 = .ok (.aload_n 0, 1) := by decide +kernel
theorem dX6_readToken_253 : decode cX6_readToken 253 = .ok (.getfield 9, 3) := by decide +kernel
theorem dX6_readToken_256 : decode cX6_readToken 256 = .ok (.getfield 146, 3) := by decide +kernel
theorem dX6_readToken_259 : decode cX6_readToken 259 = .ok (.aload_n 0, 1) := by decide +kernel
theorem dX6_readToken_260 : decode cX6_readToken 260 = .ok (.getfield 32, 3) := by decide +kernel
theorem dX6_readToken_263 : decode cX6_readToken 263 = .ok (.baload, 1) := by decide +kernel
theorem dX6_readToken_264 : decode cX6_readToken 264 = .ok (.iadd, 1) := by decide +kernel
theorem dX6_readToken_265 : decode cX6_readToken 265 = .ok (.bipush 48, 2) := by decide +kernel
theorem dX6_readToken_267 : decode cX6_readToken 267 = .ok (.isub, 1) := by decide +kernel
theorem dX6_readToken_268 : decode cX6_readToken 268 = .ok (.putfield 95, 3) := by decide +kernel
theorem dX6_readToken_271 : decode cX6_readToken 271 = .ok (.aload_n 0, 1) := by decide +kernel
theorem dX6_readToken_272 : decode cX6_readToken 272 = .ok (.dup, 1) := by decide +kernel
theorem dX6_readToken_273 : decode cX6_readToken 273 = .ok (.getfield 32, 3) := by decide +kernel
theorem dX6_readToken_276 : decode cX6_readToken 276 = .ok (.iconst 1, 1) := by decide +kernel
theorem dX6_readToken_277 : decode cX6_readToken 277 = .ok (.iadd, 1) := by decide +kernel
theorem dX6_readToken_278 : decode cX6_readToken 278 = .ok (.putfield 32, 3) := by decide +kernel
theorem dX6_readToken_281 : decode cX6_readToken 281 = .ok (.goto (-85), 3) := by decide +kernel
theorem dX6_readToken_284 : decode cX6_readToken 284 = .ok (.aload_n 0, 1) := by decide +kernel
theorem dX6_readToken_285 : decode cX6_readToken 285 = .ok (.aload_n 0, 1) := by decide +kernel
theorem dX6_readToken_286 : decode cX6_readToken 286 = .ok (.getfield 32, 3) := by decide +kernel
theorem dX6_readToken_289 : decode cX6_readToken 289 = .ok (.aload_n 0, 1) := by decide +kernel
theorem dX6_readToken_290 : decode cX6_readToken 290 = .ok (.getfield 51, 3) := by decide +kernel
theorem dX6_readToken_293 : decode cX6_readToken 293 = .ok (.isub, 1) := by decide +kernel
theorem dX6_readToken_294 : decode cX6_readToken 294 = .ok (.iconst 2, 1) := by decide +kernel
theorem dX6_readToken_295 : decode cX6_readToken 295 = .ok (.if_icmp .le 7, 3) := by decide +kernel
theorem dX6_readToken_298 : decode cX6_readToken 298 = .ok (.iconst 5, 1) := by decide +kernel
theorem dX6_readToken_299 : decode cX6_readToken 299 = .ok (.goto 4, 3) := by decide +kernel
theorem dX6_readToken_302 : decode cX6_readToken 302 = .ok (.iconst 2, 1) := by decide +kernel
theorem dX6_readToken_303 : decode cX6_readToken 303 = .ok (.putfield 40, 3) := by decide +kernel
theorem dX6_readToken_306 : decode cX6_readToken 306 = .ok (.goto 28, 3) := by decide +kernel
theorem dX6_readToken_309 : decode cX6_readToken 309 = .ok (.aload_n 0, 1) := by decide +kernel
theorem dX6_readToken_310 : decode cX6_readToken 310 = .ok (.iload_n 1, 1) := by decide +kernel
theorem dX6_readToken_311 : decode cX6_readToken 311 = .ok (.bipush 59, 2) := by decide +kernel
theorem dX6_readToken_313 : decode cX6_readToken 313 = .ok (.if_icmp .ne 7, 3) := by decide +kernel
theorem dX6_readToken_316 : decode cX6_readToken 316 = .ok (.iconst 3, 1) := by decide +kernel
theorem dX6_readToken_317 : decode cX6_readToken 317 = .ok (.goto 14, 3) := by decide +kernel
theorem dX6_readToken_320 : decode cX6_readToken 320 = .ok (.iload_n 1, 1) := by decide +kernel
theorem dX6_readToken_321 : decode cX6_readToken 321 = .ok (.bipush 44, 2) := by decide +kernel
theorem dX6_readToken_323 : decode cX6_readToken 323 = .ok (.if_icmp .ne 7, 3) := by decide +kernel
theorem dX6_readToken_326 : decode cX6_readToken 326 = .ok (.iconst 4, 1) := by decide +kernel
theorem dX6_readToken_327 : decode cX6_readToken 327 = .ok (.goto 4, 3) := by decide +kernel
theorem dX6_readToken_330 : decode cX6_readToken 330 = .ok (.iconst 5, 1) := by decide +kernel
theorem dX6_readToken_331 : decode cX6_readToken 331 = .ok (.putfield 40, 3) := by decide +kernel
theorem dX6_readToken_334 : decode cX6_readToken 334 = .ok (.return_, 1) := by decide +kernel
set_option maxRecDepth 20000 in
theorem ggX7_init_J7_fill_53178 : GoodIn wsX7_init wsJ7_fill_53178 := goodIn_r _ [19] (by decide +kernel) (by decide +kernel)
set_option maxRecDepth 20000 in
theorem gX7_init_J7_fill_53178 : GoodIn wsX7_init (va_wsS RX7 15 yJ7_fill_53178 wsJ7_fill_53178) := goodIn_app (goodIn_of _ (by decide +kernel)) ggX7_init_J7_fill_53178
theorem dX7_init_0 : decode cX7_init 0 = .ok (.aload_n 0, 1) := by decide +kernel
theorem dX7_init_1 : decode cX7_init 1 = .ok (.invokespecial 3, 3) := by decide +kernel
theorem dX7_init_4 : decode cX7_init 4 = .ok (.aload_n 0, 1) := by decide +kernel
theorem dX7_init_5 : decode cX7_init 5 = .ok (.bipush 26, 2) := by decide +kernel
theorem dX7_init_7 : decode cX7_init 7 = .ok (.newarray .int, 2) := by decide +kernel
theorem dX7_init_9 : decode cX7_init 9 = .ok (.putfield 11, 3) := by decide +kernel
theorem dX7_init_12 : decode cX7_init 12 = .ok (.aload_n 0, 1) := by decide +kernel
theorem dX7_init_13 : decode cX7_init 13 = .ok (.getfield 11, 3) := by decide +kernel
theorem dX7_init_16 : decode cX7_init 16 = .ok (.iconst (-1), 1) := by decide +kernel
theorem dX7_init_17 : decode cX7_init 17 = .ok (.invokestatic 15, 3) := by decide +kernel
theorem dX7_init_20 : decode cX7_init 20 = .ok (.aload_n 0, 1) := by decide +kernel
theorem dX7_init_21 : decode cX7_init 21 = .ok (.bipush 16, 2) := by decide +kernel
theorem dX7_init_23 : decode cX7_init 23 = .ok (.newarray .long, 2) := by decide +kernel
theorem dX7_init_25 : decode cX7_init 25 = .ok (.putfield 21, 3) := by decide +kernel
theorem dX7_init_28 : decode cX7_init 28 = .ok (.aload_n 0, 1) := by decide +kernel
theorem dX7_init_29 : decode cX7_init 29 = .ok (.bipush 16, 2) := by decide +kernel
theorem dX7_init_31 : decode cX7_init 31 = .ok (.newarray .int, 2) := by decide +kernel
theorem dX7_init_33 : decode cX7_init 33 = .ok (.putfield 25, 3) := by decide +kernel
theorem dX7_init_36 : decode cX7_init 36 = .ok (.aload_n 0, 1) := by decide +kernel
theorem dX7_init_37 : decode cX7_init 37 = .ok (.bipush 96, 2) := by decide +kernel
theorem dX7_init_39 : decode cX7_init 39 = .ok (.newarray .long, 2) := by decide +kernel
theorem dX7_init_41 : decode cX7_init 41 = .ok (.putfield 28, 3) := by decide +kernel
theorem dX7_init_44 : decode cX7_init 44 = .ok (.aload_n 0, 1) := by decide +kernel
theorem dX7_init_45 : decode cX7_init 45 = .ok (.bipush 96, 2) := by decide +kernel
theorem dX7_init_47 : decode cX7_init 47 = .ok (.newarray .int, 2) := by decide +kernel
theorem dX7_init_49 : decode cX7_init 49 = .ok (.putfield 31, 3) := by decide +kernel
theorem dX7_init_52 : decode cX7_init 52 = .ok (.aload_n 0, 1) := by decide +kernel
theorem dX7_init_53 : decode cX7_init 53 = .ok (.bipush 16, 2) := by decide +kernel
theorem dX7_init_55 : decode cX7_init 55 = .ok (.newarray .int, 2) := by decide +kernel
theorem dX7_init_57 : decode cX7_init 57 = .ok (.putfield 34, 3) := by decide +kernel
theorem dX7_init_60 : decode cX7_init 60 = .ok (.aload_n 0, 1) := by decide +kernel
theorem dX7_init_61 : decode cX7_init 61 = .ok (.bipush 6, 2) := by decide +kernel
theorem dX7_init_63 : decode cX7_init 63 = .ok (.newarray .int, 2) := by decide +kernel
theorem dX7_init_65 : decode cX7_init 65 = .ok (.putfield 37, 3) := by decide +kernel
theorem dX7_init_68 : decode cX7_init 68 = .ok (.aload_n 0, 1) := by decide +kernel
theorem dX7_init_69 : decode cX7_init 69 = .ok (.iconst 0, 1) := by decide +kernel
theorem dX7_init_70 : decode cX7_init 70 = .ok (.putfield 40, 3) := by decide +kernel
theorem dX7_init_73 : decode cX7_init 73 = .ok (.aload_n 0, 1) := by decide +kernel
theorem dX7_init_74 : decode cX7_init 74 = .ok (.iconst 0, 1) := by decide +kernel
theorem dX7_init_75 : decode cX7_init 75 = .ok (.putfield 44, 3) := by decide +kernel
theorem dX7_init_78 : decode cX7_init 78 = .ok (.aload_n 0, 1) := by decide +kernel
theorem dX7_init_79 : decode cX7_init 79 = .ok (.iconst 0, 1) := by decide +kernel
theorem dX7_init_80 : decode cX7_init 80 = .ok (.putfield 47, 3) := by decide +kernel
theorem dX7_init_83 : decode cX7_init 83 = .ok (.return_, 1) := by decide +kernel
set_option maxRecDepth 20000 in
theorem ggX7_forget_J7_fill_53178 : GoodIn wsX7_forget wsJ7_fill_53178 := goodIn_r _ [8] (by decide +kernel) (by decide +kernel)
set_option maxRecDepth 20000 in
theorem gX7_forget_J7_fill_53178 : GoodIn wsX7_forget (va_wsS RX7 15 yJ7_fill_53178 wsJ7_fill_53178) := goodIn_app (goodIn_of _ (by decide +kernel)) ggX7_forget_J7_fill_53178
theorem dX7_forget_0 : decode cX7_forget 0 = .ok (.aload_n 0, 1) := by decide +kernel
theorem dX7_forget_1 : decode cX7_forget 1 = .ok (.getfield 11, 3) := by decide +kernel
theorem dX7_forget_4 : decode cX7_forget 4 = .ok (.iconst (-1), 1) := by decide +kernel
theorem dX7_forget_5 : decode cX7_forget 5 = .ok (.invokestatic 15, 3) := by decide +kernel
theorem dX7_forget_8 : decode cX7_forget 8 = .ok (.aload_n 0, 1) := by decide +kernel
theorem dX7_forget_9 : decode cX7_forget 9 = .ok (.iconst 0, 1) := by decide +kernel
theorem dX7_forget_10 : decode cX7_forget 10 = .ok (.putfield 40, 3) := by decide +kernel
theorem dX7_forget_13 : decode cX7_forget 13 = .ok (.aload_n 0, 1) := by decide +kernel
theorem dX7_forget_14 : decode cX7_forget 14 = .ok (.iconst 0, 1) := by decide +kernel
theorem dX7_forget_15 : decode cX7_forget 15 = .ok (.putfield 44, 3) := by decide +kernel
theorem dX7_forget_18 : decode cX7_forget 18 = .ok (.aload_n 0, 1) := by decide +kernel
theorem dX7_forget_19 : decode cX7_forget 19 = .ok (.iconst 0, 1) := by decide +kernel
theorem dX7_forget_20 : decode cX7_forget 20 = .ok (.putfield 47, 3) := by decide +kernel
theorem dX7_forget_23 : decode cX7_forget 23 = .ok (.return_, 1) := by decide +kernel
theorem dX7_tellLetter_0 : decode cX7_tellLetter 0 = .ok (.aload_n 0, 1) := by decide +kernel
theorem dX7_tellLetter_1 : decode cX7_tellLetter 1 = .ok (.getfield 11, 3) := by decide +kernel
theorem dX7_tellLetter_4 : decode cX7_tellLetter 4 = .ok (.iload_n 1, 1) := by decide +kernel
theorem dX7_tellLetter_5 : decode cX7_tellLetter 5 = .ok (.iload_n 2, 1) := by decide +kernel
theorem dX7_tellLetter_6 : decode cX7_tellLetter 6 = .ok (.iastore, 1) := by decide +kernel
theorem dX7_tellLetter_7 : decode cX7_tellLetter 7 = .ok (.aload_n 0, 1) := by decide +kernel
theorem dX7_tellLetter_8 : decode cX7_tellLetter 8 = .ok (.dup, 1) := by decide +kernel
theorem dX7_tellLetter_9 : decode cX7_tellLetter 9 = .ok (.getfield 40, 3) := by decide +kernel
theorem dX7_tellLetter_12 : decode cX7_tellLetter 12 = .ok (.iconst 1, 1) := by decide +kernel
theorem dX7_tellLetter_13 : decode cX7_tellLetter 13 = .ok (.iadd, 1) := by decide +kernel
theorem dX7_tellLetter_14 : decode cX7_tellLetter 14 = .ok (.putfield 40, 3) := by decide +kernel
theorem dX7_tellLetter_17 : decode cX7_tellLetter 17 = .ok (.return_, 1) := by decide +kernel
theorem dX7_hasName_0 : decode cX7_hasName 0 = .ok (.iconst 0, 1) := by decide +kernel
theorem dX7_hasName_1 : decode cX7_hasName 1 = .ok (.istore_n 3, 1) := by decide +kernel
theorem dX7_hasName_2 : decode cX7_hasName 2 = .ok (.iload_n 3, 1) := by decide +kernel
theorem dX7_hasName_3 : decode cX7_hasName 3 = .ok (.aload_n 0, 1) := by decide +kernel
theorem dX7_hasName_4 : decode cX7_hasName 4 = .ok (.getfield 44, 3) := by decide +kernel
theorem dX7_hasName_7 : decode cX7_hasName 7 = .ok (.if_icmp .ge 22, 3) := by decide +kernel
theorem dX7_hasName_10 : decode cX7_hasName 10 = .ok (.aload_n 0, 1) := by decide +kernel
theorem dX7_hasName_11 : decode cX7_hasName 11 = .ok (.getfield 21, 3) := by decide +kernel
theorem dX7_hasName_14 : decode cX7_hasName 14 = .ok (.iload_n 3, 1) := by decide +kernel
theorem dX7_hasName_15 : decode cX7_hasName 15 = .ok (.laload, 1) := by decide +kernel
theorem dX7_hasName_16 : decode cX7_hasName 16 = .ok (.lload_n 1, 1) := by decide +kernel
theorem dX7_hasName_17 : decode cX7_hasName 17 = .ok (.lcmp, 1) := by decide +kernel
theorem dX7_hasName_18 : decode cX7_hasName 18 = .ok (.ifCond .ne 5, 3) := by decide +kernel
theorem dX7_hasName_21 : decode cX7_hasName 21 = .ok (.iconst 1, 1) := by decide +kernel
theorem dX7_hasName_22 : decode cX7_hasName 22 = .ok (.ireturn, 1) := by decide +kernel
theorem dX7_hasName_23 : decode cX7_hasName 23 = .ok (.iinc 3 1, 3) := by decide +kernel
theorem dX7_hasName_26 : decode cX7_hasName 26 = .ok (.goto (-24), 3) := by decide +kernel
theorem dX7_hasName_29 : decode cX7_hasName 29 = .ok (.iconst 0, 1) := by decide +kernel
theorem dX7_hasName_30 : decode cX7_hasName 30 = .ok (.ireturn, 1) := by decide +kernel
theorem dX7_tellWord_0 : decode cX7_tellWord 0 = .ok (.aload_n 0, 1) := by decide +kernel
theorem dX7_tellWord_1 : decode cX7_tellWord 1 = .ok (.getfield 21, 3) := by decide +kernel
theorem dX7_tellWord_4 : decode cX7_tellWord 4 = .ok (.aload_n 0, 1) := by decide +kernel
theorem dX7_tellWord_5 : decode cX7_tellWord 5 = .ok (.getfield 44, 3) := by decide +kernel
theorem dX7_tellWord_8 : decode cX7_tellWord 8 = .ok (.lload_n 1, 1) := by decide +kernel
theorem dX7_tellWord_9 : decode cX7_tellWord 9 = .ok (.lastore, 1) := by decide +kernel
theorem dX7_tellWord_10 : decode cX7_tellWord 10 = .ok (.aload_n 0, 1) := by decide +kernel
theorem dX7_tellWord_11 : decode cX7_tellWord 11 = .ok (.getfield 25, 3) := by decide +kernel
theorem dX7_tellWord_14 : decode cX7_tellWord 14 = .ok (.aload_n 0, 1) := by decide +kernel
theorem dX7_tellWord_15 : decode cX7_tellWord 15 = .ok (.getfield 44, 3) := by decide +kernel
theorem dX7_tellWord_18 : decode cX7_tellWord 18 = .ok (.iload_n 3, 1) := by decide +kernel
theorem dX7_tellWord_19 : decode cX7_tellWord 19 = .ok (.iastore, 1) := by decide +kernel
theorem dX7_tellWord_20 : decode cX7_tellWord 20 = .ok (.aload_n 0, 1) := by decide +kernel
theorem dX7_tellWord_21 : decode cX7_tellWord 21 = .ok (.getfield 28, 3) := by decide +kernel
theorem dX7_tellWord_24 : decode cX7_tellWord 24 = .ok (.aload_n 0, 1) := by decide +kernel
theorem dX7_tellWord_25 : decode cX7_tellWord 25 = .ok (.getfield 44, 3) := by decide +kernel
theorem dX7_tellWord_28 : decode cX7_tellWord 28 = .ok (.lload 4, 2) := by decide +kernel
theorem dX7_tellWord_30 : decode cX7_tellWord 30 = .ok (.lastore, 1) := by decide +kernel
theorem dX7_tellWord_31 : decode cX7_tellWord 31 = .ok (.aload_n 0, 1) := by decide +kernel
theorem dX7_tellWord_32 : decode cX7_tellWord 32 = .ok (.dup, 1) := by decide +kernel
theorem dX7_tellWord_33 : decode cX7_tellWord 33 = .ok (.getfield 44, 3) := by decide +kernel
theorem dX7_tellWord_36 : decode cX7_tellWord 36 = .ok (.iconst 1, 1) := by decide +kernel
theorem dX7_tellWord_37 : decode cX7_tellWord 37 = .ok (.iadd, 1) := by decide +kernel
theorem dX7_tellWord_38 : decode cX7_tellWord 38 = .ok (.putfield 44, 3) := by decide +kernel
theorem dX7_tellWord_41 : decode cX7_tellWord 41 = .ok (.return_, 1) := by decide +kernel
theorem dX7_tellAsk_0 : decode cX7_tellAsk 0 = .ok (.aload_n 0, 1) := by decide +kernel
theorem dX7_tellAsk_1 : decode cX7_tellAsk 1 = .ok (.getfield 37, 3) := by decide +kernel
theorem dX7_tellAsk_4 : decode cX7_tellAsk 4 = .ok (.aload_n 0, 1) := by decide +kernel
theorem dX7_tellAsk_5 : decode cX7_tellAsk 5 = .ok (.getfield 47, 3) := by decide +kernel
theorem dX7_tellAsk_8 : decode cX7_tellAsk 8 = .ok (.iload_n 1, 1) := by decide +kernel
theorem dX7_tellAsk_9 : decode cX7_tellAsk 9 = .ok (.iastore, 1) := by decide +kernel
theorem dX7_tellAsk_10 : decode cX7_tellAsk 10 = .ok (.aload_n 0, 1) := by decide +kernel
theorem dX7_tellAsk_11 : decode cX7_tellAsk 11 = .ok (.dup, 1) := by decide +kernel
theorem dX7_tellAsk_12 : decode cX7_tellAsk 12 = .ok (.getfield 47, 3) := by decide +kernel
theorem dX7_tellAsk_15 : decode cX7_tellAsk 15 = .ok (.iconst 1, 1) := by decide +kernel
theorem dX7_tellAsk_16 : decode cX7_tellAsk 16 = .ok (.iadd, 1) := by decide +kernel
theorem dX7_tellAsk_17 : decode cX7_tellAsk 17 = .ok (.putfield 47, 3) := by decide +kernel
theorem dX7_tellAsk_20 : decode cX7_tellAsk 20 = .ok (.return_, 1) := by decide +kernel
set_option maxRecDepth 20000 in
theorem ggX7_settle_X3_blurRow : GoodIn wsX7_settle wsX3_blurRow := goodIn_r _ [8, 9, 10, 7, 11, 12, 13, 14, 15, 16, 17, 18, 19, 20] (by decide +kernel) (by decide +kernel)
set_option maxRecDepth 20000 in
theorem gX7_settle_X3_blurRow : GoodIn wsX7_settle (va_wsS RX7 50 yX3_blurRow wsX3_blurRow) := goodIn_app (goodIn_of _ (by decide +kernel)) ggX7_settle_X3_blurRow
set_option maxRecDepth 20000 in
theorem ggX7_settle_X7_rowAt : GoodIn wsX7_settle wsX7_rowAt := goodIn_r _ [25, 2, 37, 38, 39, 40, 41, 42, 43, 44, 45, 46] (by decide +kernel) (by decide +kernel)
set_option maxRecDepth 20000 in
theorem gX7_settle_X7_rowAt : GoodIn wsX7_settle (wsV RX7 56 RX7 yX7_rowAt wsX7_rowAt) := goodIn_app (goodIn_of _ (by decide +kernel)) ggX7_settle_X7_rowAt
set_option maxRecDepth 20000 in
theorem ggX7_settle_X7_withRow : GoodIn wsX7_settle wsX7_withRow := goodIn_r _ [29, 1, 21, 22, 23, 24, 25, 2, 37, 38, 39, 40, 41, 42, 43, 44, 45, 46] (by decide +kernel) (by decide +kernel)
set_option maxRecDepth 20000 in
theorem gX7_settle_X7_withRow : GoodIn wsX7_settle (wsV RX7 60 RX7 yX7_withRow wsX7_withRow) := goodIn_app (goodIn_of _ (by decide +kernel)) ggX7_settle_X7_withRow
set_option maxRecDepth 20000 in
theorem ggX7_settle_X7_differingInOneFrom : GoodIn wsX7_settle wsX7_differingInOneFrom := goodIn_r _ [33, 1, 2, 34, 35, 7, 36, 9, 10, 11, 12, 13, 14, 37, 38, 39, 40, 41, 42, 43, 44, 45, 46] (by decide +kernel) (by decide +kernel)
set_option maxRecDepth 20000 in
theorem gX7_settle_X7_differingInOneFrom : GoodIn wsX7_settle (wsV RX7 64 RX7 yX7_differingInOneFrom wsX7_differingInOneFrom) := goodIn_app (goodIn_of _ (by decide +kernel)) ggX7_settle_X7_differingInOneFrom
theorem dX7_settle_0 : decode cX7_settle 0 = .ok (.iconst 1, 1) := by decide +kernel
theorem dX7_settle_1 : decode cX7_settle 1 = .ok (.istore_n 1, 1) := by decide +kernel
theorem dX7_settle_2 : decode cX7_settle 2 = .ok (.iload_n 1, 1) := by decide +kernel
theorem dX7_settle_3 : decode cX7_settle 3 = .ok (.bipush 6, 2) := by decide +kernel
theorem dX7_settle_5 : decode cX7_settle 5 = .ok (.if_icmp .ge 46, 3) := by decide +kernel
theorem dX7_settle_8 : decode cX7_settle 8 = .ok (.iconst 0, 1) := by decide +kernel
theorem dX7_settle_9 : decode cX7_settle 9 = .ok (.istore_n 2, 1) := by decide +kernel
theorem dX7_settle_10 : decode cX7_settle 10 = .ok (.iload_n 2, 1) := by decide +kernel
theorem dX7_settle_11 : decode cX7_settle 11 = .ok (.aload_n 0, 1) := by decide +kernel
theorem dX7_settle_12 : decode cX7_settle 12 = .ok (.getfield 44, 3) := by decide +kernel
theorem dX7_settle_15 : decode cX7_settle 15 = .ok (.if_icmp .ge 30, 3) := by decide +kernel
theorem dX7_settle_18 : decode cX7_settle 18 = .ok (.aload_n 0, 1) := by decide +kernel
theorem dX7_settle_19 : decode cX7_settle 19 = .ok (.getfield 28, 3) := by decide +kernel
theorem dX7_settle_22 : decode cX7_settle 22 = .ok (.iload_n 1, 1) := by decide +kernel
theorem dX7_settle_23 : decode cX7_settle 23 = .ok (.bipush 16, 2) := by decide +kernel
theorem dX7_settle_25 : decode cX7_settle 25 = .ok (.imul, 1) := by decide +kernel
theorem dX7_settle_26 : decode cX7_settle 26 = .ok (.iload_n 2, 1) := by decide +kernel
theorem dX7_settle_27 : decode cX7_settle 27 = .ok (.iadd, 1) := by decide +kernel
theorem dX7_settle_28 : decode cX7_settle 28 = .ok (.aload_n 0, 1) := by decide +kernel
theorem dX7_settle_29 : decode cX7_settle 29 = .ok (.getfield 28, 3) := by decide +kernel
theorem dX7_settle_32 : decode cX7_settle 32 = .ok (.iload_n 2, 1) := by decide +kernel
theorem dX7_settle_33 : decode cX7_settle 33 = .ok (.laload, 1) := by decide +kernel
theorem dX7_settle_34 : decode cX7_settle 34 = .ok (.iload_n 1, 1) := by decide +kernel
theorem dX7_settle_35 : decode cX7_settle 35 = .ok (.invokestatic 50, 3) := by decide +kernel
theorem dX7_settle_38 : decode cX7_settle 38 = .ok (.lastore, 1) := by decide +kernel
theorem dX7_settle_39 : decode cX7_settle 39 = .ok (.iinc 2 1, 3) := by decide +kernel
theorem dX7_settle_42 : decode cX7_settle 42 = .ok (.goto (-32), 3) := by decide +kernel
theorem dX7_settle_45 : decode cX7_settle 45 = .ok (.iinc 1 1, 3) := by decide +kernel
theorem dX7_settle_48 : decode cX7_settle 48 = .ok (.goto (-46), 3) := by decide +kernel
theorem dX7_settle_51 : decode cX7_settle 51 = .ok (.iconst 0, 1) := by decide +kernel
theorem dX7_settle_52 : decode cX7_settle 52 = .ok (.istore_n 1, 1) := by decide +kernel
theorem dX7_settle_53 : decode cX7_settle 53 = .ok (.iload_n 1, 1) := by decide +kernel
theorem dX7_settle_54 : decode cX7_settle 54 = .ok (.bipush 6, 2) := by decide +kernel
theorem dX7_settle_56 : decode cX7_settle 56 = .ok (.if_icmp .ge 47, 3) := by decide +kernel
theorem dX7_settle_59 : decode cX7_settle 59 = .ok (.iconst 0, 1) := by decide +kernel
theorem dX7_settle_60 : decode cX7_settle 60 = .ok (.istore_n 2, 1) := by decide +kernel
theorem dX7_settle_61 : decode cX7_settle 61 = .ok (.iload_n 2, 1) := by decide +kernel
theorem dX7_settle_62 : decode cX7_settle 62 = .ok (.aload_n 0, 1) := by decide +kernel
theorem dX7_settle_63 : decode cX7_settle 63 = .ok (.getfield 44, 3) := by decide +kernel
theorem dX7_settle_66 : decode cX7_settle 66 = .ok (.if_icmp .ge 31, 3) := by decide +kernel
theorem dX7_settle_69 : decode cX7_settle 69 = .ok (.aload_n 0, 1) := by decide +kernel
theorem dX7_settle_70 : decode cX7_settle 70 = .ok (.getfield 31, 3) := by decide +kernel
theorem dX7_settle_73 : decode cX7_settle 73 = .ok (.iload_n 1, 1) := by decide +kernel
theorem dX7_settle_74 : decode cX7_settle 74 = .ok (.bipush 16, 2) := by decide +kernel
theorem dX7_settle_76 : decode cX7_settle 76 = .ok (.imul, 1) := by decide +kernel
theorem dX7_settle_77 : decode cX7_settle 77 = .ok (.iload_n 2, 1) := by decide +kernel
theorem dX7_settle_78 : decode cX7_settle 78 = .ok (.iadd, 1) := by decide +kernel
theorem dX7_settle_79 : decode cX7_settle 79 = .ok (.aload_n 0, 1) := by decide +kernel
theorem dX7_settle_80 : decode cX7_settle 80 = .ok (.iload_n 1, 1) := by decide +kernel
theorem dX7_settle_81 : decode cX7_settle 81 = .ok (.aload_n 0, 1) := by decide +kernel
theorem dX7_settle_82 : decode cX7_settle 82 = .ok (.iload_n 1, 1) := by decide +kernel
theorem dX7_settle_83 : decode cX7_settle 83 = .ok (.iload_n 2, 1) := by decide +kernel
theorem dX7_settle_84 : decode cX7_settle 84 = .ok (.invokevirtual 56, 3) := by decide +kernel
theorem dX7_settle_87 : decode cX7_settle 87 = .ok (.invokevirtual 60, 3) := by decide +kernel
theorem dX7_settle_90 : decode cX7_settle 90 = .ok (.iastore, 1) := by decide +kernel
theorem dX7_settle_91 : decode cX7_settle 91 = .ok (.iinc 2 1, 3) := by decide +kernel
theorem dX7_settle_94 : decode cX7_settle 94 = .ok (.goto (-33), 3) := by decide +kernel
theorem dX7_settle_97 : decode cX7_settle 97 = .ok (.iinc 1 1, 3) := by decide +kernel
theorem dX7_settle_100 : decode cX7_settle 100 = .ok (.goto (-47), 3) := by decide +kernel
theorem dX7_settle_103 : decode cX7_settle 103 = .ok (.iconst 0, 1) := by decide +kernel
theorem dX7_settle_104 : decode cX7_settle 104 = .ok (.istore_n 1, 1) := by decide +kernel
theorem dX7_settle_105 : decode cX7_settle 105 = .ok (.iload_n 1, 1) := by decide +kernel
theorem dX7_settle_106 : decode cX7_settle 106 = .ok (.aload_n 0, 1) := by decide +kernel
theorem dX7_settle_107 : decode cX7_settle 107 = .ok (.getfield 44, 3) := by decide +kernel
theorem dX7_settle_110 : decode cX7_settle 110 = .ok (.if_icmp .ge 20, 3) := by decide +kernel
theorem dX7_settle_113 : decode cX7_settle 113 = .ok (.aload_n 0, 1) := by decide +kernel
theorem dX7_settle_114 : decode cX7_settle 114 = .ok (.getfield 34, 3) := by decide +kernel
theorem dX7_settle_117 : decode cX7_settle 117 = .ok (.iload_n 1, 1) := by decide +kernel
theorem dX7_settle_118 : decode cX7_settle 118 = .ok (.aload_n 0, 1) := by decide +kernel
theorem dX7_settle_119 : decode cX7_settle 119 = .ok (.iload_n 1, 1) := by decide +kernel
theorem dX7_settle_120 : decode cX7_settle 120 = .ok (.invokevirtual 64, 3) := by decide +kernel
theorem dX7_settle_123 : decode cX7_settle 123 = .ok (.iastore, 1) := by decide +kernel
theorem dX7_settle_124 : decode cX7_settle 124 = .ok (.iinc 1 1, 3) := by decide +kernel
theorem dX7_settle_127 : decode cX7_settle 127 = .ok (.goto (-22), 3) := by decide +kernel
theorem dX7_settle_130 : decode cX7_settle 130 = .ok (.return_, 1) := by decide +kernel
set_option maxRecDepth 20000 in
theorem ggX7_withRow_X7_rowAt : GoodIn wsX7_withRow wsX7_rowAt := goodIn_r _ [6, 7, 8, 9, 10, 11, 12, 13, 14, 15, 16, 17] (by decide +kernel) (by decide +kernel)
set_option maxRecDepth 20000 in
theorem gX7_withRow_X7_rowAt : GoodIn wsX7_withRow (wsV RX7 56 RX7 yX7_rowAt wsX7_rowAt) := goodIn_app (goodIn_of _ (by decide +kernel)) ggX7_withRow_X7_rowAt
theorem dX7_withRow_0 : decode cX7_withRow 0 = .ok (.iconst 0, 1) := by decide +kernel
theorem dX7_withRow_1 : decode cX7_withRow 1 = .ok (.istore 4, 2) := by decide +kernel
theorem dX7_withRow_3 : decode cX7_withRow 3 = .ok (.iconst 0, 1) := by decide +kernel
theorem dX7_withRow_4 : decode cX7_withRow 4 = .ok (.istore 5, 2) := by decide +kernel
theorem dX7_withRow_6 : decode cX7_withRow 6 = .ok (.iload 5, 2) := by decide +kernel
theorem dX7_withRow_8 : decode cX7_withRow 8 = .ok (.aload_n 0, 1) := by decide +kernel
theorem dX7_withRow_9 : decode cX7_withRow 9 = .ok (.getfield 44, 3) := by decide +kernel
theorem dX7_withRow_12 : decode cX7_withRow 12 = .ok (.if_icmp .ge 30, 3) := by decide +kernel
theorem dX7_withRow_15 : decode cX7_withRow 15 = .ok (.aload_n 0, 1) := by decide +kernel
theorem dX7_withRow_16 : decode cX7_withRow 16 = .ok (.iload_n 1, 1) := by decide +kernel
theorem dX7_withRow_17 : decode cX7_withRow 17 = .ok (.iload 5, 2) := by decide +kernel
theorem dX7_withRow_19 : decode cX7_withRow 19 = .ok (.invokevirtual 56, 3) := by decide +kernel
theorem dX7_withRow_22 : decode cX7_withRow 22 = .ok (.lload_n 2, 1) := by decide +kernel
theorem dX7_withRow_23 : decode cX7_withRow 23 = .ok (.lcmp, 1) := by decide +kernel
theorem dX7_withRow_24 : decode cX7_withRow 24 = .ok (.ifCond .ne 12, 3) := by decide +kernel
theorem dX7_withRow_27 : decode cX7_withRow 27 = .ok (.iload 4, 2) := by decide +kernel
theorem dX7_withRow_29 : decode cX7_withRow 29 = .ok (.iconst 1, 1) := by decide +kernel
theorem dX7_withRow_30 : decode cX7_withRow 30 = .ok (.iload 5, 2) := by decide +kernel
theorem dX7_withRow_32 : decode cX7_withRow 32 = .ok (.ishl, 1) := by decide +kernel
theorem dX7_withRow_33 : decode cX7_withRow 33 = .ok (.ior, 1) := by decide +kernel
theorem dX7_withRow_34 : decode cX7_withRow 34 = .ok (.istore 4, 2) := by decide +kernel
theorem dX7_withRow_36 : decode cX7_withRow 36 = .ok (.iinc 5 1, 3) := by decide +kernel
theorem dX7_withRow_39 : decode cX7_withRow 39 = .ok (.goto (-33), 3) := by decide +kernel
theorem dX7_withRow_42 : decode cX7_withRow 42 = .ok (.iload 4, 2) := by decide +kernel
theorem dX7_withRow_44 : decode cX7_withRow 44 = .ok (.ireturn, 1) := by decide +kernel
set_option maxRecDepth 20000 in
theorem ggX7_differingInOneFrom_X3_differInOne : GoodIn wsX7_differingInOneFrom wsX3_differInOne := goodIn_r _ [6, 7, 8, 5, 9, 10, 11, 12] (by decide +kernel) (by decide +kernel)
set_option maxRecDepth 20000 in
theorem gX7_differingInOneFrom_X3_differInOne : GoodIn wsX7_differingInOneFrom (va_wsS RX7 68 yX3_differInOne wsX3_differInOne) := goodIn_app (goodIn_of _ (by decide +kernel)) ggX7_differingInOneFrom_X3_differInOne
theorem dX7_differingInOneFrom_0 : decode cX7_differingInOneFrom 0 = .ok (.iconst 0, 1) := by decide +kernel
theorem dX7_differingInOneFrom_1 : decode cX7_differingInOneFrom 1 = .ok (.istore_n 2, 1) := by decide +kernel
theorem dX7_differingInOneFrom_2 : decode cX7_differingInOneFrom 2 = .ok (.iconst 0, 1) := by decide +kernel
theorem dX7_differingInOneFrom_3 : decode cX7_differingInOneFrom 3 = .ok (.istore_n 3, 1) := by decide +kernel
theorem dX7_differingInOneFrom_4 : decode cX7_differingInOneFrom 4 = .ok (.iload_n 3, 1) := by decide +kernel
theorem dX7_differingInOneFrom_5 : decode cX7_differingInOneFrom 5 = .ok (.aload_n 0, 1) := by decide +kernel
theorem dX7_differingInOneFrom_6 : decode cX7_differingInOneFrom 6 = .ok (.getfield 44, 3) := by decide +kernel
theorem dX7_differingInOneFrom_9 : decode cX7_differingInOneFrom 9 = .ok (.if_icmp .ge 33, 3) := by decide +kernel
theorem dX7_differingInOneFrom_12 : decode cX7_differingInOneFrom 12 = .ok (.aload_n 0, 1) := by decide +kernel
theorem dX7_differingInOneFrom_13 : decode cX7_differingInOneFrom 13 = .ok (.getfield 28, 3) := by decide +kernel
theorem dX7_differingInOneFrom_16 : decode cX7_differingInOneFrom 16 = .ok (.iload_n 3, 1) := by decide +kernel
theorem dX7_differingInOneFrom_17 : decode cX7_differingInOneFrom 17 = .ok (.laload, 1) := by decide +kernel
theorem dX7_differingInOneFrom_18 : decode cX7_differingInOneFrom 18 = .ok (.aload_n 0, 1) := by decide +kernel
theorem dX7_differingInOneFrom_19 : decode cX7_differingInOneFrom 19 = .ok (.getfield 28, 3) := by decide +kernel
theorem dX7_differingInOneFrom_22 : decode cX7_differingInOneFrom 22 = .ok (.iload_n 1, 1) := by decide +kernel
theorem dX7_differingInOneFrom_23 : decode cX7_differingInOneFrom 23 = .ok (.laload, 1) := by decide +kernel
theorem dX7_differingInOneFrom_24 : decode cX7_differingInOneFrom 24 = .ok (.invokestatic 68, 3) := by decide +kernel
theorem dX7_differingInOneFrom_27 : decode cX7_differingInOneFrom 27 = .ok (.ifCond .eq 9, 3) := by decide +kernel
theorem dX7_differingInOneFrom_30 : decode cX7_differingInOneFrom 30 = .ok (.iload_n 2, 1) := by decide +kernel
theorem dX7_differingInOneFrom_31 : decode cX7_differingInOneFrom 31 = .ok (.iconst 1, 1) := by decide +kernel
theorem dX7_differingInOneFrom_32 : decode cX7_differingInOneFrom 32 = .ok (.iload_n 3, 1) := by decide +kernel
theorem dX7_differingInOneFrom_33 : decode cX7_differingInOneFrom 33 = .ok (.ishl, 1) := by decide +kernel
theorem dX7_differingInOneFrom_34 : decode cX7_differingInOneFrom 34 = .ok (.ior, 1) := by decide +kernel
theorem dX7_differingInOneFrom_35 : decode cX7_differingInOneFrom 35 = .ok (.istore_n 2, 1) := by decide +kernel
theorem dX7_differingInOneFrom_36 : decode cX7_differingInOneFrom 36 = .ok (.iinc 3 1, 3) := by decide +kernel
theorem dX7_differingInOneFrom_39 : decode cX7_differingInOneFrom 39 = .ok (.goto (-35), 3) := by decide +kernel
theorem dX7_differingInOneFrom_42 : decode cX7_differingInOneFrom 42 = .ok (.iload_n 2, 1) := by decide +kernel
theorem dX7_differingInOneFrom_43 : decode cX7_differingInOneFrom 43 = .ok (.ireturn, 1) := by decide +kernel
theorem dX7_isWord_0 : decode cX7_isWord 0 = .ok (.iload_n 1, 1) := by decide +kernel
theorem dX7_isWord_1 : decode cX7_isWord 1 = .ok (.ifCond .lt 15, 3) := by decide +kernel
theorem dX7_isWord_4 : decode cX7_isWord 4 = .ok (.iload_n 1, 1) := by decide +kernel
theorem dX7_isWord_5 : decode cX7_isWord 5 = .ok (.aload_n 0, 1) := by decide +kernel
theorem dX7_isWord_6 : decode cX7_isWord 6 = .ok (.getfield 44, 3) := by decide +kernel
theorem dX7_isWord_9 : decode cX7_isWord 9 = .ok (.if_icmp .ge 7, 3) := by decide +kernel
theorem dX7_isWord_12 : decode cX7_isWord 12 = .ok (.iconst 1, 1) := by decide +kernel
theorem dX7_isWord_13 : decode cX7_isWord 13 = .ok (.goto 4, 3) := by decide +kernel
theorem dX7_isWord_16 : decode cX7_isWord 16 = .ok (.iconst 0, 1) := by decide +kernel
theorem dX7_isWord_17 : decode cX7_isWord 17 = .ok (.ireturn, 1) := by decide +kernel
theorem dX7_isAsk_0 : decode cX7_isAsk 0 = .ok (.iload_n 1, 1) := by decide +kernel
theorem dX7_isAsk_1 : decode cX7_isAsk 1 = .ok (.ifCond .lt 15, 3) := by decide +kernel
theorem dX7_isAsk_4 : decode cX7_isAsk 4 = .ok (.iload_n 1, 1) := by decide +kernel
theorem dX7_isAsk_5 : decode cX7_isAsk 5 = .ok (.aload_n 0, 1) := by decide +kernel
theorem dX7_isAsk_6 : decode cX7_isAsk 6 = .ok (.getfield 47, 3) := by decide +kernel
theorem dX7_isAsk_9 : decode cX7_isAsk 9 = .ok (.if_icmp .ge 7, 3) := by decide +kernel
theorem dX7_isAsk_12 : decode cX7_isAsk 12 = .ok (.iconst 1, 1) := by decide +kernel
theorem dX7_isAsk_13 : decode cX7_isAsk 13 = .ok (.goto 4, 3) := by decide +kernel
theorem dX7_isAsk_16 : decode cX7_isAsk 16 = .ok (.iconst 0, 1) := by decide +kernel
theorem dX7_isAsk_17 : decode cX7_isAsk 17 = .ok (.ireturn, 1) := by decide +kernel
set_option maxRecDepth 20000 in
theorem ggX7_fits_X7_isAsk : GoodIn wsX7_fits wsX7_isAsk := goodIn_r _ [6, 7, 16, 17, 18, 19, 20, 21, 22, 23, 24, 25] (by decide +kernel) (by decide +kernel)
set_option maxRecDepth 20000 in
theorem gX7_fits_X7_isAsk : GoodIn wsX7_fits (wsV RX7 72 RX7 yX7_isAsk wsX7_isAsk) := goodIn_app (goodIn_of _ (by decide +kernel)) ggX7_fits_X7_isAsk
set_option maxRecDepth 20000 in
theorem ggX7_fits_X7_isWord : GoodIn wsX7_fits wsX7_isWord := goodIn_r _ [11, 12, 16, 17, 18, 19, 20, 21, 22, 23, 24, 25] (by decide +kernel) (by decide +kernel)
set_option maxRecDepth 20000 in
theorem gX7_fits_X7_isWord : GoodIn wsX7_fits (wsV RX7 76 RX7 yX7_isWord wsX7_isWord) := goodIn_app (goodIn_of _ (by decide +kernel)) ggX7_fits_X7_isWord
set_option maxRecDepth 20000 in
theorem ggX7_fits_X8_isIn : GoodIn wsX7_fits wsX8_isIn := goodIn_r _ [15] (by decide +kernel) (by decide +kernel)
set_option maxRecDepth 20000 in
theorem gX7_fits_X8_isIn_n79 : GoodIn wsX7_fits (wsX8_isIn) := ggX7_fits_X8_isIn
theorem dX7_fits_0 : decode cX7_fits 0 = .ok (.aload_n 0, 1) := by decide +kernel
theorem dX7_fits_1 : decode cX7_fits 1 = .ok (.iload_n 1, 1) := by decide +kernel
theorem dX7_fits_2 : decode cX7_fits 2 = .ok (.invokevirtual 72, 3) := by decide +kernel
theorem dX7_fits_5 : decode cX7_fits 5 = .ok (.ifCond .eq 28, 3) := by decide +kernel
theorem dX7_fits_8 : decode cX7_fits 8 = .ok (.aload_n 0, 1) := by decide +kernel
theorem dX7_fits_9 : decode cX7_fits 9 = .ok (.iload_n 2, 1) := by decide +kernel
theorem dX7_fits_10 : decode cX7_fits 10 = .ok (.invokevirtual 76, 3) := by decide +kernel
theorem dX7_fits_13 : decode cX7_fits 13 = .ok (.ifCond .eq 20, 3) := by decide +kernel
theorem dX7_fits_16 : decode cX7_fits 16 = .ok (.aload_n 0, 1) := by decide +kernel
theorem dX7_fits_17 : decode cX7_fits 17 = .ok (.getfield 37, 3) := by decide +kernel
theorem dX7_fits_20 : decode cX7_fits 20 = .ok (.iload_n 1, 1) := by decide +kernel
theorem dX7_fits_21 : decode cX7_fits 21 = .ok (.iaload, 1) := by decide +kernel
theorem dX7_fits_22 : decode cX7_fits 22 = .ok (.iload_n 2, 1) := by decide +kernel
theorem dX7_fits_23 : decode cX7_fits 23 = .ok (.invokestatic 79, 3) := by decide +kernel
theorem dX7_fits_26 : decode cX7_fits 26 = .ok (.ifCond .eq 7, 3) := by decide +kernel
theorem dX7_fits_29 : decode cX7_fits 29 = .ok (.iconst 1, 1) := by decide +kernel
theorem dX7_fits_30 : decode cX7_fits 30 = .ok (.goto 4, 3) := by decide +kernel
theorem dX7_fits_33 : decode cX7_fits 33 = .ok (.iconst 0, 1) := by decide +kernel
theorem dX7_fits_34 : decode cX7_fits 34 = .ok (.ireturn, 1) := by decide +kernel
theorem dX7_allWords_0 : decode cX7_allWords 0 = .ok (.iconst 1, 1) := by decide +kernel
theorem dX7_allWords_1 : decode cX7_allWords 1 = .ok (.aload_n 0, 1) := by decide +kernel
theorem dX7_allWords_2 : decode cX7_allWords 2 = .ok (.getfield 44, 3) := by decide +kernel
theorem dX7_allWords_5 : decode cX7_allWords 5 = .ok (.ishl, 1) := by decide +kernel
theorem dX7_allWords_6 : decode cX7_allWords 6 = .ok (.iconst 1, 1) := by decide +kernel
theorem dX7_allWords_7 : decode cX7_allWords 7 = .ok (.isub, 1) := by decide +kernel
theorem dX7_allWords_8 : decode cX7_allWords 8 = .ok (.ireturn, 1) := by decide +kernel
set_option maxRecDepth 20000 in
theorem ggX7_asksWith_X8_isIn : GoodIn wsX7_asksWith wsX8_isIn := goodIn_r _ [5] (by decide +kernel) (by decide +kernel)
set_option maxRecDepth 20000 in
theorem gX7_asksWith_X8_isIn_n79 : GoodIn wsX7_asksWith (wsX8_isIn) := ggX7_asksWith_X8_isIn
theorem dX7_asksWith_0 : decode cX7_asksWith 0 = .ok (.iconst 0, 1) := by decide +kernel
theorem dX7_asksWith_1 : decode cX7_asksWith 1 = .ok (.istore_n 2, 1) := by decide +kernel
theorem dX7_asksWith_2 : decode cX7_asksWith 2 = .ok (.iconst 0, 1) := by decide +kernel
theorem dX7_asksWith_3 : decode cX7_asksWith 3 = .ok (.istore_n 3, 1) := by decide +kernel
theorem dX7_asksWith_4 : decode cX7_asksWith 4 = .ok (.iload_n 3, 1) := by decide +kernel
theorem dX7_asksWith_5 : decode cX7_asksWith 5 = .ok (.aload_n 0, 1) := by decide +kernel
theorem dX7_asksWith_6 : decode cX7_asksWith 6 = .ok (.getfield 47, 3) := by decide +kernel
theorem dX7_asksWith_9 : decode cX7_asksWith 9 = .ok (.if_icmp .ge 25, 3) := by decide +kernel
theorem dX7_asksWith_12 : decode cX7_asksWith 12 = .ok (.aload_n 0, 1) := by decide +kernel
theorem dX7_asksWith_13 : decode cX7_asksWith 13 = .ok (.getfield 37, 3) := by decide +kernel
theorem dX7_asksWith_16 : decode cX7_asksWith 16 = .ok (.iload_n 3, 1) := by decide +kernel
theorem dX7_asksWith_17 : decode cX7_asksWith 17 = .ok (.iaload, 1) := by decide +kernel
theorem dX7_asksWith_18 : decode cX7_asksWith 18 = .ok (.iload_n 1, 1) := by decide +kernel
theorem dX7_asksWith_19 : decode cX7_asksWith 19 = .ok (.invokestatic 79, 3) := by decide +kernel
theorem dX7_asksWith_22 : decode cX7_asksWith 22 = .ok (.ifCond .eq 6, 3) := by decide +kernel
theorem dX7_asksWith_25 : decode cX7_asksWith 25 = .ok (.iinc 2 1, 3) := by decide +kernel
theorem dX7_asksWith_28 : decode cX7_asksWith 28 = .ok (.iinc 3 1, 3) := by decide +kernel
theorem dX7_asksWith_31 : decode cX7_asksWith 31 = .ok (.goto (-27), 3) := by decide +kernel
theorem dX7_asksWith_34 : decode cX7_asksWith 34 = .ok (.iload_n 2, 1) := by decide +kernel
theorem dX7_asksWith_35 : decode cX7_asksWith 35 = .ok (.ireturn, 1) := by decide +kernel
theorem dX7_rowAt_0 : decode cX7_rowAt 0 = .ok (.aload_n 0, 1) := by decide +kernel
theorem dX7_rowAt_1 : decode cX7_rowAt 1 = .ok (.getfield 28, 3) := by decide +kernel
theorem dX7_rowAt_4 : decode cX7_rowAt 4 = .ok (.iload_n 1, 1) := by decide +kernel
theorem dX7_rowAt_5 : decode cX7_rowAt 5 = .ok (.bipush 16, 2) := by decide +kernel
theorem dX7_rowAt_7 : decode cX7_rowAt 7 = .ok (.imul, 1) := by decide +kernel
theorem dX7_rowAt_8 : decode cX7_rowAt 8 = .ok (.iload_n 2, 1) := by decide +kernel
theorem dX7_rowAt_9 : decode cX7_rowAt 9 = .ok (.iadd, 1) := by decide +kernel
theorem dX7_rowAt_10 : decode cX7_rowAt 10 = .ok (.laload, 1) := by decide +kernel
theorem dX7_rowAt_11 : decode cX7_rowAt 11 = .ok (.lreturn, 1) := by decide +kernel
theorem dX7_alikeTo_0 : decode cX7_alikeTo 0 = .ok (.aload_n 0, 1) := by decide +kernel
theorem dX7_alikeTo_1 : decode cX7_alikeTo 1 = .ok (.getfield 31, 3) := by decide +kernel
theorem dX7_alikeTo_4 : decode cX7_alikeTo 4 = .ok (.iload_n 2, 1) := by decide +kernel
theorem dX7_alikeTo_5 : decode cX7_alikeTo 5 = .ok (.bipush 16, 2) := by decide +kernel
theorem dX7_alikeTo_7 : decode cX7_alikeTo 7 = .ok (.imul, 1) := by decide +kernel
theorem dX7_alikeTo_8 : decode cX7_alikeTo 8 = .ok (.iload_n 1, 1) := by decide +kernel
theorem dX7_alikeTo_9 : decode cX7_alikeTo 9 = .ok (.iadd, 1) := by decide +kernel
theorem dX7_alikeTo_10 : decode cX7_alikeTo 10 = .ok (.iaload, 1) := by decide +kernel
theorem dX7_alikeTo_11 : decode cX7_alikeTo 11 = .ok (.ireturn, 1) := by decide +kernel
set_option maxRecDepth 20000 in
theorem ggX7_areAlike_X7_rowAt : GoodIn wsX7_areAlike wsX7_rowAt := goodIn_r _ [5, 6, 7, 8, 9, 10, 11, 12, 13, 14, 15, 16] (by decide +kernel) (by decide +kernel)
set_option maxRecDepth 20000 in
theorem gX7_areAlike_X7_rowAt : GoodIn wsX7_areAlike (wsV RX7 56 RX7 yX7_rowAt wsX7_rowAt) := goodIn_app (goodIn_of _ (by decide +kernel)) ggX7_areAlike_X7_rowAt
theorem dX7_areAlike_0 : decode cX7_areAlike 0 = .ok (.aload_n 0, 1) := by decide +kernel
theorem dX7_areAlike_1 : decode cX7_areAlike 1 = .ok (.iload_n 3, 1) := by decide +kernel
theorem dX7_areAlike_2 : decode cX7_areAlike 2 = .ok (.iload_n 1, 1) := by decide +kernel
theorem dX7_areAlike_3 : decode cX7_areAlike 3 = .ok (.invokevirtual 56, 3) := by decide +kernel
theorem dX7_areAlike_6 : decode cX7_areAlike 6 = .ok (.aload_n 0, 1) := by decide +kernel
theorem dX7_areAlike_7 : decode cX7_areAlike 7 = .ok (.iload_n 3, 1) := by decide +kernel
theorem dX7_areAlike_8 : decode cX7_areAlike 8 = .ok (.iload_n 2, 1) := by decide +kernel
theorem dX7_areAlike_9 : decode cX7_areAlike 9 = .ok (.invokevirtual 56, 3) := by decide +kernel
theorem dX7_areAlike_12 : decode cX7_areAlike 12 = .ok (.lcmp, 1) := by decide +kernel
theorem dX7_areAlike_13 : decode cX7_areAlike 13 = .ok (.ifCond .ne 7, 3) := by decide +kernel
theorem dX7_areAlike_16 : decode cX7_areAlike 16 = .ok (.iconst 1, 1) := by decide +kernel
theorem dX7_areAlike_17 : decode cX7_areAlike 17 = .ok (.goto 4, 3) := by decide +kernel
theorem dX7_areAlike_20 : decode cX7_areAlike 20 = .ok (.iconst 0, 1) := by decide +kernel
theorem dX7_areAlike_21 : decode cX7_areAlike 21 = .ok (.ireturn, 1) := by decide +kernel
set_option maxRecDepth 20000 in
theorem ggX7_meantBy_X7_withRow : GoodIn wsX7_meantBy wsX7_withRow := goodIn_r _ [6, 7, 8, 9, 10, 5, 11, 12, 13, 14, 15, 16, 17, 18, 19, 20, 21, 22] (by decide +kernel) (by decide +kernel)
set_option maxRecDepth 20000 in
theorem gX7_meantBy_X7_withRow : GoodIn wsX7_meantBy (wsV RX7 60 RX7 yX7_withRow wsX7_withRow) := goodIn_app (goodIn_of _ (by decide +kernel)) ggX7_meantBy_X7_withRow
theorem dX7_meantBy_0 : decode cX7_meantBy 0 = .ok (.aload_n 0, 1) := by decide +kernel
theorem dX7_meantBy_1 : decode cX7_meantBy 1 = .ok (.getfield 37, 3) := by decide +kernel
theorem dX7_meantBy_4 : decode cX7_meantBy 4 = .ok (.iload_n 1, 1) := by decide +kernel
theorem dX7_meantBy_5 : decode cX7_meantBy 5 = .ok (.iaload, 1) := by decide +kernel
theorem dX7_meantBy_6 : decode cX7_meantBy 6 = .ok (.aload_n 0, 1) := by decide +kernel
theorem dX7_meantBy_7 : decode cX7_meantBy 7 = .ok (.iload_n 2, 1) := by decide +kernel
theorem dX7_meantBy_8 : decode cX7_meantBy 8 = .ok (.lload_n 3, 1) := by decide +kernel
theorem dX7_meantBy_9 : decode cX7_meantBy 9 = .ok (.invokevirtual 60, 3) := by decide +kernel
theorem dX7_meantBy_12 : decode cX7_meantBy 12 = .ok (.iand, 1) := by decide +kernel
theorem dX7_meantBy_13 : decode cX7_meantBy 13 = .ok (.ireturn, 1) := by decide +kernel
set_option maxRecDepth 20000 in
theorem ggX7_heardAs_X7_alikeTo : GoodIn wsX7_heardAs wsX7_alikeTo := goodIn_r _ [6, 7, 8, 9, 10, 11, 12, 13, 14, 15, 16, 17] (by decide +kernel) (by decide +kernel)
set_option maxRecDepth 20000 in
theorem gX7_heardAs_X7_alikeTo : GoodIn wsX7_heardAs (wsV RX7 83 RX7 yX7_alikeTo wsX7_alikeTo) := goodIn_app (goodIn_of _ (by decide +kernel)) ggX7_heardAs_X7_alikeTo
theorem dX7_heardAs_0 : decode cX7_heardAs 0 = .ok (.aload_n 0, 1) := by decide +kernel
theorem dX7_heardAs_1 : decode cX7_heardAs 1 = .ok (.getfield 37, 3) := by decide +kernel
theorem dX7_heardAs_4 : decode cX7_heardAs 4 = .ok (.iload_n 1, 1) := by decide +kernel
theorem dX7_heardAs_5 : decode cX7_heardAs 5 = .ok (.iaload, 1) := by decide +kernel
theorem dX7_heardAs_6 : decode cX7_heardAs 6 = .ok (.aload_n 0, 1) := by decide +kernel
theorem dX7_heardAs_7 : decode cX7_heardAs 7 = .ok (.iload_n 2, 1) := by decide +kernel
theorem dX7_heardAs_8 : decode cX7_heardAs 8 = .ok (.iload_n 3, 1) := by decide +kernel
theorem dX7_heardAs_9 : decode cX7_heardAs 9 = .ok (.invokevirtual 83, 3) := by decide +kernel
theorem dX7_heardAs_12 : decode cX7_heardAs 12 = .ok (.iand, 1) := by decide +kernel
theorem dX7_heardAs_13 : decode cX7_heardAs 13 = .ok (.ireturn, 1) := by decide +kernel
set_option maxRecDepth 20000 in
theorem ggX7_isSure_X7_heardAs : GoodIn wsX7_isSure wsX7_heardAs := goodIn_r _ [5, 6, 7, 8, 9, 4, 10, 11, 19, 20, 21, 22, 23, 24, 25, 26, 27, 28] (by decide +kernel) (by decide +kernel)
set_option maxRecDepth 20000 in
theorem gX7_isSure_X7_heardAs : GoodIn wsX7_isSure (wsV RX7 87 RX7 yX7_heardAs wsX7_heardAs) := goodIn_app (goodIn_of _ (by decide +kernel)) ggX7_isSure_X7_heardAs
set_option maxRecDepth 20000 in
theorem ggX7_isSure_J6_bitCount_0f7a4 : GoodIn wsX7_isSure wsJ6_bitCount_0f7a4 := goodIn_r _ [15, 16, 17, 18] (by decide +kernel) (by decide +kernel)
set_option maxRecDepth 20000 in
theorem gX7_isSure_J6_bitCount_0f7a4 : GoodIn wsX7_isSure (va_wsS RX7 91 yJ6_bitCount_0f7a4 wsJ6_bitCount_0f7a4) := goodIn_app (goodIn_of _ (by decide +kernel)) ggX7_isSure_J6_bitCount_0f7a4
theorem dX7_isSure_0 : decode cX7_isSure 0 = .ok (.aload_n 0, 1) := by decide +kernel
theorem dX7_isSure_1 : decode cX7_isSure 1 = .ok (.iload_n 1, 1) := by decide +kernel
theorem dX7_isSure_2 : decode cX7_isSure 2 = .ok (.iload_n 2, 1) := by decide +kernel
theorem dX7_isSure_3 : decode cX7_isSure 3 = .ok (.iload_n 3, 1) := by decide +kernel
theorem dX7_isSure_4 : decode cX7_isSure 4 = .ok (.invokevirtual 87, 3) := by decide +kernel
theorem dX7_isSure_7 : decode cX7_isSure 7 = .ok (.invokestatic 91, 3) := by decide +kernel
theorem dX7_isSure_10 : decode cX7_isSure 10 = .ok (.iconst 1, 1) := by decide +kernel
theorem dX7_isSure_11 : decode cX7_isSure 11 = .ok (.if_icmp .ne 7, 3) := by decide +kernel
theorem dX7_isSure_14 : decode cX7_isSure 14 = .ok (.iconst 1, 1) := by decide +kernel
theorem dX7_isSure_15 : decode cX7_isSure 15 = .ok (.goto 4, 3) := by decide +kernel
theorem dX7_isSure_18 : decode cX7_isSure 18 = .ok (.iconst 0, 1) := by decide +kernel
theorem dX7_isSure_19 : decode cX7_isSure 19 = .ok (.ireturn, 1) := by decide +kernel
set_option maxRecDepth 20000 in
theorem ggX7_cutOf_X8_isIn : GoodIn wsX7_cutOf wsX8_isIn := goodIn_r _ [4] (by decide +kernel) (by decide +kernel)
set_option maxRecDepth 20000 in
theorem gX7_cutOf_X8_isIn_n79 : GoodIn wsX7_cutOf (wsX8_isIn) := ggX7_cutOf_X8_isIn
set_option maxRecDepth 20000 in
theorem ggX7_cutOf_X7_alikeTo : GoodIn wsX7_cutOf wsX7_alikeTo := goodIn_r _ [9, 10, 11, 12, 13, 14, 15, 16, 17, 18, 19, 20] (by decide +kernel) (by decide +kernel)
set_option maxRecDepth 20000 in
theorem gX7_cutOf_X7_alikeTo : GoodIn wsX7_cutOf (wsV RX7 83 RX7 yX7_alikeTo wsX7_alikeTo) := goodIn_app (goodIn_of _ (by decide +kernel)) ggX7_cutOf_X7_alikeTo
theorem dX7_cutOf_0 : decode cX7_cutOf 0 = .ok (.iconst 0, 1) := by decide +kernel
theorem dX7_cutOf_1 : decode cX7_cutOf 1 = .ok (.istore_n 3, 1) := by decide +kernel
theorem dX7_cutOf_2 : decode cX7_cutOf 2 = .ok (.iconst 0, 1) := by decide +kernel
theorem dX7_cutOf_3 : decode cX7_cutOf 3 = .ok (.istore 4, 2) := by decide +kernel
theorem dX7_cutOf_5 : decode cX7_cutOf 5 = .ok (.iload 4, 2) := by decide +kernel
theorem dX7_cutOf_7 : decode cX7_cutOf 7 = .ok (.aload_n 0, 1) := by decide +kernel
theorem dX7_cutOf_8 : decode cX7_cutOf 8 = .ok (.getfield 44, 3) := by decide +kernel
theorem dX7_cutOf_11 : decode cX7_cutOf 11 = .ok (.if_icmp .ge 37, 3) := by decide +kernel
theorem dX7_cutOf_14 : decode cX7_cutOf 14 = .ok (.iload_n 1, 1) := by decide +kernel
theorem dX7_cutOf_15 : decode cX7_cutOf 15 = .ok (.iload 4, 2) := by decide +kernel
theorem dX7_cutOf_17 : decode cX7_cutOf 17 = .ok (.invokestatic 79, 3) := by decide +kernel
theorem dX7_cutOf_20 : decode cX7_cutOf 20 = .ok (.ifCond .eq 22, 3) := by decide +kernel
theorem dX7_cutOf_23 : decode cX7_cutOf 23 = .ok (.aload_n 0, 1) := by decide +kernel
theorem dX7_cutOf_24 : decode cX7_cutOf 24 = .ok (.iload 4, 2) := by decide +kernel
theorem dX7_cutOf_26 : decode cX7_cutOf 26 = .ok (.iload_n 2, 1) := by decide +kernel
theorem dX7_cutOf_27 : decode cX7_cutOf 27 = .ok (.invokevirtual 83, 3) := by decide +kernel
theorem dX7_cutOf_30 : decode cX7_cutOf 30 = .ok (.iload_n 3, 1) := by decide +kernel
theorem dX7_cutOf_31 : decode cX7_cutOf 31 = .ok (.iand, 1) := by decide +kernel
theorem dX7_cutOf_32 : decode cX7_cutOf 32 = .ok (.ifCond .ne 10, 3) := by decide +kernel
theorem dX7_cutOf_35 : decode cX7_cutOf 35 = .ok (.iload_n 3, 1) := by decide +kernel
theorem dX7_cutOf_36 : decode cX7_cutOf 36 = .ok (.iconst 1, 1) := by decide +kernel
theorem dX7_cutOf_37 : decode cX7_cutOf 37 = .ok (.iload 4, 2) := by decide +kernel
theorem dX7_cutOf_39 : decode cX7_cutOf 39 = .ok (.ishl, 1) := by decide +kernel
theorem dX7_cutOf_40 : decode cX7_cutOf 40 = .ok (.ior, 1) := by decide +kernel
theorem dX7_cutOf_41 : decode cX7_cutOf 41 = .ok (.istore_n 3, 1) := by decide +kernel
theorem dX7_cutOf_42 : decode cX7_cutOf 42 = .ok (.iinc 4 1, 3) := by decide +kernel
theorem dX7_cutOf_45 : decode cX7_cutOf 45 = .ok (.goto (-40), 3) := by decide +kernel
theorem dX7_cutOf_48 : decode cX7_cutOf 48 = .ok (.iload_n 3, 1) := by decide +kernel
theorem dX7_cutOf_49 : decode cX7_cutOf 49 = .ok (.ireturn, 1) := by decide +kernel
set_option maxRecDepth 20000 in
theorem ggX7_alikePairs_X8_isIn : GoodIn wsX7_alikePairs wsX8_isIn := goodIn_r _ [4] (by decide +kernel) (by decide +kernel)
set_option maxRecDepth 20000 in
theorem gX7_alikePairs_X8_isIn_n79 : GoodIn wsX7_alikePairs (wsX8_isIn) := ggX7_alikePairs_X8_isIn
set_option maxRecDepth 20000 in
theorem ggX7_alikePairs_X7_alikeTo : GoodIn wsX7_alikePairs wsX7_alikeTo := goodIn_r _ [9, 10, 18, 19, 20, 21, 22, 23, 24, 25, 26, 27] (by decide +kernel) (by decide +kernel)
set_option maxRecDepth 20000 in
theorem gX7_alikePairs_X7_alikeTo : GoodIn wsX7_alikePairs (wsV RX7 83 RX7 yX7_alikeTo wsX7_alikeTo) := goodIn_app (goodIn_of _ (by decide +kernel)) ggX7_alikePairs_X7_alikeTo
set_option maxRecDepth 20000 in
theorem ggX7_alikePairs_J6_bitCount_0f7a4 : GoodIn wsX7_alikePairs wsJ6_bitCount_0f7a4 := goodIn_r _ [14, 15, 16, 17] (by decide +kernel) (by decide +kernel)
set_option maxRecDepth 20000 in
theorem gX7_alikePairs_J6_bitCount_0f7a4 : GoodIn wsX7_alikePairs (va_wsS RX7 91 yJ6_bitCount_0f7a4 wsJ6_bitCount_0f7a4) := goodIn_app (goodIn_of _ (by decide +kernel)) ggX7_alikePairs_J6_bitCount_0f7a4
theorem dX7_alikePairs_0 : decode cX7_alikePairs 0 = .ok (.iconst 0, 1) := by decide +kernel
theorem dX7_alikePairs_1 : decode cX7_alikePairs 1 = .ok (.istore_n 3, 1) := by decide +kernel
theorem dX7_alikePairs_2 : decode cX7_alikePairs 2 = .ok (.iconst 0, 1) := by decide +kernel
theorem dX7_alikePairs_3 : decode cX7_alikePairs 3 = .ok (.istore 4, 2) := by decide +kernel
theorem dX7_alikePairs_5 : decode cX7_alikePairs 5 = .ok (.iload 4, 2) := by decide +kernel
theorem dX7_alikePairs_7 : decode cX7_alikePairs 7 = .ok (.aload_n 0, 1) := by decide +kernel
theorem dX7_alikePairs_8 : decode cX7_alikePairs 8 = .ok (.getfield 44, 3) := by decide +kernel
theorem dX7_alikePairs_11 : decode cX7_alikePairs 11 = .ok (.if_icmp .ge 35, 3) := by decide +kernel
theorem dX7_alikePairs_14 : decode cX7_alikePairs 14 = .ok (.iload_n 1, 1) := by decide +kernel
theorem dX7_alikePairs_15 : decode cX7_alikePairs 15 = .ok (.iload 4, 2) := by decide +kernel
theorem dX7_alikePairs_17 : decode cX7_alikePairs 17 = .ok (.invokestatic 79, 3) := by decide +kernel
theorem dX7_alikePairs_20 : decode cX7_alikePairs 20 = .ok (.ifCond .eq 20, 3) := by decide +kernel
theorem dX7_alikePairs_23 : decode cX7_alikePairs 23 = .ok (.iload_n 3, 1) := by decide +kernel
theorem dX7_alikePairs_24 : decode cX7_alikePairs 24 = .ok (.aload_n 0, 1) := by decide +kernel
theorem dX7_alikePairs_25 : decode cX7_alikePairs 25 = .ok (.iload 4, 2) := by decide +kernel
theorem dX7_alikePairs_27 : decode cX7_alikePairs 27 = .ok (.iload_n 2, 1) := by decide +kernel
theorem dX7_alikePairs_28 : decode cX7_alikePairs 28 = .ok (.invokevirtual 83, 3) := by decide +kernel
theorem dX7_alikePairs_31 : decode cX7_alikePairs 31 = .ok (.iload_n 1, 1) := by decide +kernel
theorem dX7_alikePairs_32 : decode cX7_alikePairs 32 = .ok (.iand, 1) := by decide +kernel
theorem dX7_alikePairs_33 : decode cX7_alikePairs 33 = .ok (.invokestatic 91, 3) := by decide +kernel
theorem dX7_alikePairs_36 : decode cX7_alikePairs 36 = .ok (.iconst 1, 1) := by decide +kernel
theorem dX7_alikePairs_37 : decode cX7_alikePairs 37 = .ok (.isub, 1) := by decide +kernel
theorem dX7_alikePairs_38 : decode cX7_alikePairs 38 = .ok (.iadd, 1) := by decide +kernel
theorem dX7_alikePairs_39 : decode cX7_alikePairs 39 = .ok (.istore_n 3, 1) := by decide +kernel
theorem dX7_alikePairs_40 : decode cX7_alikePairs 40 = .ok (.iinc 4 1, 3) := by decide +kernel
theorem dX7_alikePairs_43 : decode cX7_alikePairs 43 = .ok (.goto (-38), 3) := by decide +kernel
theorem dX7_alikePairs_46 : decode cX7_alikePairs 46 = .ok (.iload_n 3, 1) := by decide +kernel
theorem dX7_alikePairs_47 : decode cX7_alikePairs 47 = .ok (.iconst 2, 1) := by decide +kernel
theorem dX7_alikePairs_48 : decode cX7_alikePairs 48 = .ok (.idiv, 1) := by decide +kernel
theorem dX7_alikePairs_49 : decode cX7_alikePairs 49 = .ok (.ireturn, 1) := by decide +kernel
set_option maxRecDepth 20000 in
theorem ggX8_init_X5_init : GoodIn wsX8_init wsX5_init := goodIn_r _ [35, 36, 2, 3, 37, 38, 39, 107, 108] (by decide +kernel) (by decide +kernel)
set_option maxRecDepth 20000 in
theorem gX8_init_X5_init : GoodIn wsX8_init (wsX5_init) := ggX8_init_X5_init
set_option maxRecDepth 20000 in
theorem ggX8_init_X6_init : GoodIn wsX8_init wsX6_init := goodIn_r _ [42, 43, 2, 3, 44, 45, 29, 30, 46, 47, 48, 49, 50, 51, 52, 53, 54, 55, 56, 57, 58, 59, 60, 61, 62, 63, 64, 65, 66, 117, 118, 119, 120, 121, 122, 123, 124, 152, 153, 154, 155, 156, 157, 158, 159, 160, 161] (by decide +kernel) (by decide +kernel)
set_option maxRecDepth 20000 in
theorem gX8_init_X6_init : GoodIn wsX8_init (wsX6_init) := ggX8_init_X6_init
set_option maxRecDepth 20000 in
theorem ggX8_init_X4_init : GoodIn wsX8_init wsX4_init := goodIn_r _ [69, 70, 2, 3, 51, 71, 72, 73, 74, 64, 65, 66, 125, 126, 127] (by decide +kernel) (by decide +kernel)
set_option maxRecDepth 20000 in
theorem gX8_init_X4_init : GoodIn wsX8_init (wsX4_init) := ggX8_init_X4_init
set_option maxRecDepth 20000 in
theorem ggX8_init_X1_init : GoodIn wsX8_init wsX1_init := goodIn_r _ [77, 78, 2, 3, 79, 51, 80, 81, 82, 83, 84, 85, 86, 87, 128, 129, 130, 131, 132, 133, 134, 135, 136, 137, 138, 139, 140] (by decide +kernel) (by decide +kernel)
set_option maxRecDepth 20000 in
theorem gX8_init_X1_init : GoodIn wsX8_init (wsX1_init) := ggX8_init_X1_init
set_option maxRecDepth 20000 in
theorem ggX8_init_X0_init : GoodIn wsX8_init wsX0_init := goodIn_r _ [90, 91, 2, 3, 92, 51, 93, 94, 95, 96, 97, 98, 99, 100, 141, 142, 143, 144, 145, 146, 147, 148, 149] (by decide +kernel) (by decide +kernel)
set_option maxRecDepth 20000 in
theorem gX8_init_X0_init : GoodIn wsX8_init (wsX0_init) := ggX8_init_X0_init
set_option maxRecDepth 20000 in
theorem ggX8_init_X2_init : GoodIn wsX8_init wsX2_init := goodIn_r _ [103, 104, 2, 3, 51, 105, 150, 151] (by decide +kernel) (by decide +kernel)
set_option maxRecDepth 20000 in
theorem gX8_init_X2_init : GoodIn wsX8_init (wsX2_init) := ggX8_init_X2_init
set_option maxRecDepth 20000 in
theorem ggX8_init_X7_init : GoodIn wsX8_init wsX7_init := goodIn_r _ [49, 50, 2, 3, 51, 52, 53, 54, 55, 56, 57, 58, 59, 60, 61, 62, 63, 64, 65, 66, 152, 153, 154, 155, 156, 157, 158, 159, 160, 161] (by decide +kernel) (by decide +kernel)
set_option maxRecDepth 20000 in
theorem gX8_init_X7_init : GoodIn wsX8_init (wsX7_init) := ggX8_init_X7_init
theorem dX8_init_0 : decode cX8_init 0 = .ok (.aload_n 0, 1) := by decide +kernel
theorem dX8_init_1 : decode cX8_init 1 = .ok (.invokespecial 1, 3) := by decide +kernel
theorem dX8_init_4 : decode cX8_init 4 = .ok (.aload_n 0, 1) := by decide +kernel
theorem dX8_init_5 : decode cX8_init 5 = .ok (.new 7, 3) := by decide +kernel
theorem dX8_init_8 : decode cX8_init 8 = .ok (.dup, 1) := by decide +kernel
theorem dX8_init_9 : decode cX8_init 9 = .ok (.invokespecial 9, 3) := by decide +kernel
theorem dX8_init_12 : decode cX8_init 12 = .ok (.putfield 10, 3) := by decide +kernel
theorem dX8_init_15 : decode cX8_init 15 = .ok (.aload_n 0, 1) := by decide +kernel
theorem dX8_init_16 : decode cX8_init 16 = .ok (.new 16, 3) := by decide +kernel
theorem dX8_init_19 : decode cX8_init 19 = .ok (.dup, 1) := by decide +kernel
theorem dX8_init_20 : decode cX8_init 20 = .ok (.aload_n 0, 1) := by decide +kernel
theorem dX8_init_21 : decode cX8_init 21 = .ok (.getfield 10, 3) := by decide +kernel
theorem dX8_init_24 : decode cX8_init 24 = .ok (.invokespecial 18, 3) := by decide +kernel
theorem dX8_init_27 : decode cX8_init 27 = .ok (.putfield 21, 3) := by decide +kernel
theorem dX8_init_30 : decode cX8_init 30 = .ok (.aload_n 0, 1) := by decide +kernel
theorem dX8_init_31 : decode cX8_init 31 = .ok (.new 25, 3) := by decide +kernel
theorem dX8_init_34 : decode cX8_init 34 = .ok (.dup, 1) := by decide +kernel
theorem dX8_init_35 : decode cX8_init 35 = .ok (.invokespecial 27, 3) := by decide +kernel
theorem dX8_init_38 : decode cX8_init 38 = .ok (.putfield 28, 3) := by decide +kernel
theorem dX8_init_41 : decode cX8_init 41 = .ok (.aload_n 0, 1) := by decide +kernel
theorem dX8_init_42 : decode cX8_init 42 = .ok (.new 32, 3) := by decide +kernel
theorem dX8_init_45 : decode cX8_init 45 = .ok (.dup, 1) := by decide +kernel
theorem dX8_init_46 : decode cX8_init 46 = .ok (.aload_n 0, 1) := by decide +kernel
theorem dX8_init_47 : decode cX8_init 47 = .ok (.getfield 28, 3) := by decide +kernel
theorem dX8_init_50 : decode cX8_init 50 = .ok (.invokespecial 34, 3) := by decide +kernel
theorem dX8_init_53 : decode cX8_init 53 = .ok (.putfield 37, 3) := by decide +kernel
theorem dX8_init_56 : decode cX8_init 56 = .ok (.aload_n 0, 1) := by decide +kernel
theorem dX8_init_57 : decode cX8_init 57 = .ok (.new 41, 3) := by decide +kernel
theorem dX8_init_60 : decode cX8_init 60 = .ok (.dup, 1) := by decide +kernel
theorem dX8_init_61 : decode cX8_init 61 = .ok (.aload_n 0, 1) := by decide +kernel
theorem dX8_init_62 : decode cX8_init 62 = .ok (.getfield 37, 3) := by decide +kernel
theorem dX8_init_65 : decode cX8_init 65 = .ok (.invokespecial 43, 3) := by decide +kernel
theorem dX8_init_68 : decode cX8_init 68 = .ok (.putfield 46, 3) := by decide +kernel
theorem dX8_init_71 : decode cX8_init 71 = .ok (.aload_n 0, 1) := by decide +kernel
theorem dX8_init_72 : decode cX8_init 72 = .ok (.new 50, 3) := by decide +kernel
theorem dX8_init_75 : decode cX8_init 75 = .ok (.dup, 1) := by decide +kernel
theorem dX8_init_76 : decode cX8_init 76 = .ok (.invokespecial 52, 3) := by decide +kernel
theorem dX8_init_79 : decode cX8_init 79 = .ok (.putfield 53, 3) := by decide +kernel
theorem dX8_init_82 : decode cX8_init 82 = .ok (.aload_n 0, 1) := by decide +kernel
theorem dX8_init_83 : decode cX8_init 83 = .ok (.new 57, 3) := by decide +kernel
theorem dX8_init_86 : decode cX8_init 86 = .ok (.dup, 1) := by decide +kernel
theorem dX8_init_87 : decode cX8_init 87 = .ok (.invokespecial 59, 3) := by decide +kernel
theorem dX8_init_90 : decode cX8_init 90 = .ok (.putfield 60, 3) := by decide +kernel
theorem dX8_init_93 : decode cX8_init 93 = .ok (.aload_n 0, 1) := by decide +kernel
theorem dX8_init_94 : decode cX8_init 94 = .ok (.iconst 0, 1) := by decide +kernel
theorem dX8_init_95 : decode cX8_init 95 = .ok (.putfield 64, 3) := by decide +kernel
theorem dX8_init_98 : decode cX8_init 98 = .ok (.return_, 1) := by decide +kernel
set_option maxRecDepth 20000 in
theorem ggX8_feed_X5_addEight : GoodIn wsX8_feed wsX5_addEight := goodIn_r _ [7, 8, 9, 18, 19] (by decide +kernel) (by decide +kernel)
set_option maxRecDepth 20000 in
theorem gX8_feed_X5_addEight : GoodIn wsX8_feed (wsV RX8 68 RX5 yX5_addEight wsX5_addEight) := goodIn_app (goodIn_of _ (by decide +kernel)) ggX8_feed_X5_addEight
theorem dX8_feed_0 : decode cX8_feed 0 = .ok (.aload_n 0, 1) := by decide +kernel
theorem dX8_feed_1 : decode cX8_feed 1 = .ok (.getfield 10, 3) := by decide +kernel
theorem dX8_feed_4 : decode cX8_feed 4 = .ok (.lload_n 1, 1) := by decide +kernel
theorem dX8_feed_5 : decode cX8_feed 5 = .ok (.invokevirtual 68, 3) := by decide +kernel
theorem dX8_feed_8 : decode cX8_feed 8 = .ok (.ifCond .eq 13, 3) := by decide +kernel
theorem dX8_feed_11 : decode cX8_feed 11 = .ok (.aload_n 0, 1) := by decide +kernel
theorem dX8_feed_12 : decode cX8_feed 12 = .ok (.getfield 10, 3) := by decide +kernel
theorem dX8_feed_15 : decode cX8_feed 15 = .ok (.getfield 72, 3) := by decide +kernel
theorem dX8_feed_18 : decode cX8_feed 18 = .ok (.goto 5, 3) := by decide +kernel
theorem dX8_feed_21 : decode cX8_feed 21 = .ok (.bipush (-3), 2) := by decide +kernel
theorem dX8_feed_23 : decode cX8_feed 23 = .ok (.ireturn, 1) := by decide +kernel
theorem dX8_end_0 : decode cX8_end 0 = .ok (.aload_n 0, 1) := by decide +kernel
theorem dX8_end_1 : decode cX8_end 1 = .ok (.getfield 10, 3) := by decide +kernel
theorem dX8_end_4 : decode cX8_end 4 = .ok (.getfield 72, 3) := by decide +kernel
theorem dX8_end_7 : decode cX8_end 7 = .ok (.istore_n 2, 1) := by decide +kernel
theorem dX8_end_8 : decode cX8_end 8 = .ok (.iload_n 1, 1) := by decide +kernel
theorem dX8_end_9 : decode cX8_end 9 = .ok (.ifCond .lt 8, 3) := by decide +kernel
theorem dX8_end_12 : decode cX8_end 12 = .ok (.iload_n 1, 1) := by decide +kernel
theorem dX8_end_13 : decode cX8_end 13 = .ok (.iload_n 2, 1) := by decide +kernel
theorem dX8_end_14 : decode cX8_end 14 = .ok (.if_icmp .le 5, 3) := by decide +kernel
theorem dX8_end_17 : decode cX8_end 17 = .ok (.iconst (-1), 1) := by decide +kernel
theorem dX8_end_18 : decode cX8_end 18 = .ok (.ireturn, 1) := by decide +kernel
theorem dX8_end_19 : decode cX8_end 19 = .ok (.aload_n 0, 1) := by decide +kernel
theorem dX8_end_20 : decode cX8_end 20 = .ok (.getfield 10, 3) := by decide +kernel
theorem dX8_end_23 : decode cX8_end 23 = .ok (.iload_n 1, 1) := by decide +kernel
theorem dX8_end_24 : decode cX8_end 24 = .ok (.putfield 72, 3) := by decide +kernel
theorem dX8_end_27 : decode cX8_end 27 = .ok (.iload_n 2, 1) := by decide +kernel
theorem dX8_end_28 : decode cX8_end 28 = .ok (.ireturn, 1) := by decide +kernel
set_option maxRecDepth 20000 in
theorem ggX8_tongue_X6_readText : GoodIn wsX8_tongue wsX6_readText := goodIn_r _ [18, 19, 20, 21, 22, 23, 24, 25, 26, 27, 28, 29, 30, 31, 32, 33, 34, 35, 36, 37, 38, 39, 17, 40, 41, 42, 43, 44, 45, 46, 47, 48, 49, 50, 51, 52, 53, 54, 55, 56, 57, 58, 59, 60, 61, 62, 63, 64, 65, 66, 67, 68, 69, 70, 71, 72, 73, 74, 75, 76, 77, 78, 79, 80, 81, 82, 83, 84, 85, 86, 87, 88, 89, 90, 91, 92, 93, 94, 95, 96, 97, 98, 99, 100, 101, 102, 103, 104, 105, 106, 107, 108, 109, 110, 111, 112, 113, 114, 115, 116, 117, 118, 119, 120, 121, 122, 123, 124, 125, 126, 127, 128, 129, 130, 131, 132, 133, 134, 135, 136, 137, 138, 139, 140, 141, 142, 143, 144, 145, 146, 147, 148, 149, 150, 151, 152, 153, 154, 155, 156, 157, 158, 159, 160, 161, 162, 163, 164, 165, 166, 167, 168, 169, 170, 171, 172, 173, 174, 175, 176, 177, 178, 179, 180, 181, 237, 238, 239, 240, 241, 242, 243, 244, 245, 246, 247, 248, 249, 250, 251, 252, 253, 254, 235, 236] (by decide +kernel) (by decide +kernel)
set_option maxRecDepth 20000 in
theorem gX8_tongue_X6_readText : GoodIn wsX8_tongue (wsV RX8 77 RX6 yX6_readText wsX6_readText) := goodIn_app (goodIn_of _ (by decide +kernel)) ggX8_tongue_X6_readText
set_option maxRecDepth 20000 in
theorem ggX8_tongue_X7_settle : GoodIn wsX8_tongue wsX7_settle := goodIn_r _ [185, 31, 164, 186, 187, 188, 189, 157, 190, 191, 192, 193, 194, 195, 196, 197, 198, 199, 200, 156, 158, 201, 202, 203, 27, 204, 205, 206, 207, 208, 209, 210, 211, 212, 213, 214, 215, 245, 246, 247, 248, 249, 250, 251, 252, 253, 254] (by decide +kernel) (by decide +kernel)
set_option maxRecDepth 20000 in
theorem gX8_tongue_X7_settle : GoodIn wsX8_tongue (wsV RX8 90 RX7 yX7_settle wsX7_settle) := goodIn_app (goodIn_of _ (by decide +kernel)) ggX8_tongue_X7_settle
theorem dX8_tongue_0 : decode cX8_tongue 0 = .ok (.aload_n 0, 1) := by decide +kernel
theorem dX8_tongue_1 : decode cX8_tongue 1 = .ok (.getfield 46, 3) := by decide +kernel
theorem dX8_tongue_4 : decode cX8_tongue 4 = .ok (.getfield 75, 3) := by decide +kernel
theorem dX8_tongue_7 : decode cX8_tongue 7 = .ok (.ifCond .gt 13, 3) := by decide +kernel
theorem dX8_tongue_10 : decode cX8_tongue 10 = .ok (.aload_n 0, 1) := by decide +kernel
theorem dX8_tongue_11 : decode cX8_tongue 11 = .ok (.getfield 53, 3) := by decide +kernel
theorem dX8_tongue_14 : decode cX8_tongue 14 = .ok (.getfield 76, 3) := by decide +kernel
theorem dX8_tongue_17 : decode cX8_tongue 17 = .ok (.ifCond .le 6, 3) := by decide +kernel
theorem dX8_tongue_20 : decode cX8_tongue 20 = .ok (.bipush (-2), 2) := by decide +kernel
theorem dX8_tongue_22 : decode cX8_tongue 22 = .ok (.ireturn, 1) := by decide +kernel
theorem dX8_tongue_23 : decode cX8_tongue 23 = .ok (.aload_n 0, 1) := by decide +kernel
theorem dX8_tongue_24 : decode cX8_tongue 24 = .ok (.getfield 21, 3) := by decide +kernel
theorem dX8_tongue_27 : decode cX8_tongue 27 = .ok (.invokevirtual 77, 3) := by decide +kernel
theorem dX8_tongue_30 : decode cX8_tongue 30 = .ok (.istore_n 1, 1) := by decide +kernel
theorem dX8_tongue_31 : decode cX8_tongue 31 = .ok (.aload_n 0, 1) := by decide +kernel
theorem dX8_tongue_32 : decode cX8_tongue 32 = .ok (.getfield 10, 3) := by decide +kernel
theorem dX8_tongue_35 : decode cX8_tongue 35 = .ok (.iconst 0, 1) := by decide +kernel
theorem dX8_tongue_36 : decode cX8_tongue 36 = .ok (.putfield 72, 3) := by decide +kernel
theorem dX8_tongue_39 : decode cX8_tongue 39 = .ok (.aload_n 0, 1) := by decide +kernel
theorem dX8_tongue_40 : decode cX8_tongue 40 = .ok (.aload_n 0, 1) := by decide +kernel
theorem dX8_tongue_41 : decode cX8_tongue 41 = .ok (.getfield 21, 3) := by decide +kernel
theorem dX8_tongue_44 : decode cX8_tongue 44 = .ok (.getfield 81, 3) := by decide +kernel
theorem dX8_tongue_47 : decode cX8_tongue 47 = .ok (.putfield 64, 3) := by decide +kernel
theorem dX8_tongue_50 : decode cX8_tongue 50 = .ok (.iload_n 1, 1) := by decide +kernel
theorem dX8_tongue_51 : decode cX8_tongue 51 = .ok (.ifCond .ne 14, 3) := by decide +kernel
theorem dX8_tongue_54 : decode cX8_tongue 54 = .ok (.bipush (-10), 2) := by decide +kernel
theorem dX8_tongue_56 : decode cX8_tongue 56 = .ok (.aload_n 0, 1) := by decide +kernel
theorem dX8_tongue_57 : decode cX8_tongue 57 = .ok (.getfield 21, 3) := by decide +kernel
theorem dX8_tongue_60 : decode cX8_tongue 60 = .ok (.getfield 84, 3) := by decide +kernel
theorem dX8_tongue_63 : decode cX8_tongue 63 = .ok (.isub, 1) := by decide +kernel
theorem dX8_tongue_64 : decode cX8_tongue 64 = .ok (.ireturn, 1) := by decide +kernel
theorem dX8_tongue_65 : decode cX8_tongue 65 = .ok (.aload_n 0, 1) := by decide +kernel
theorem dX8_tongue_66 : decode cX8_tongue 66 = .ok (.getfield 60, 3) := by decide +kernel
theorem dX8_tongue_69 : decode cX8_tongue 69 = .ok (.astore_n 2, 1) := by decide +kernel
theorem dX8_tongue_70 : decode cX8_tongue 70 = .ok (.aload_n 0, 1) := by decide +kernel
theorem dX8_tongue_71 : decode cX8_tongue 71 = .ok (.aload_n 0, 1) := by decide +kernel
theorem dX8_tongue_72 : decode cX8_tongue 72 = .ok (.getfield 21, 3) := by decide +kernel
theorem dX8_tongue_75 : decode cX8_tongue 75 = .ok (.getfield 87, 3) := by decide +kernel
theorem dX8_tongue_78 : decode cX8_tongue 78 = .ok (.putfield 60, 3) := by decide +kernel
theorem dX8_tongue_81 : decode cX8_tongue 81 = .ok (.aload_n 0, 1) := by decide +kernel
theorem dX8_tongue_82 : decode cX8_tongue 82 = .ok (.getfield 21, 3) := by decide +kernel
theorem dX8_tongue_85 : decode cX8_tongue 85 = .ok (.aload_n 2, 1) := by decide +kernel
theorem dX8_tongue_86 : decode cX8_tongue 86 = .ok (.putfield 87, 3) := by decide +kernel
theorem dX8_tongue_89 : decode cX8_tongue 89 = .ok (.aload_n 0, 1) := by decide +kernel
theorem dX8_tongue_90 : decode cX8_tongue 90 = .ok (.getfield 60, 3) := by decide +kernel
theorem dX8_tongue_93 : decode cX8_tongue 93 = .ok (.invokevirtual 90, 3) := by decide +kernel
theorem dX8_tongue_96 : decode cX8_tongue 96 = .ok (.aload_n 0, 1) := by decide +kernel
theorem dX8_tongue_97 : decode cX8_tongue 97 = .ok (.getfield 60, 3) := by decide +kernel
theorem dX8_tongue_100 : decode cX8_tongue 100 = .ok (.getfield 93, 3) := by decide +kernel
theorem dX8_tongue_103 : decode cX8_tongue 103 = .ok (.ireturn, 1) := by decide +kernel
theorem dX8_fault_0 : decode cX8_fault 0 = .ok (.aload_n 0, 1) := by decide +kernel
theorem dX8_fault_1 : decode cX8_fault 1 = .ok (.getfield 64, 3) := by decide +kernel
theorem dX8_fault_4 : decode cX8_fault 4 = .ok (.ireturn, 1) := by decide +kernel
set_option maxRecDepth 20000 in
theorem ggX8_word_X7_isWord : GoodIn wsX8_word wsX7_isWord := goodIn_r _ [8, 9, 42, 43, 44, 45, 46, 47, 48, 49, 50, 51] (by decide +kernel) (by decide +kernel)
set_option maxRecDepth 20000 in
theorem gX8_word_X7_isWord : GoodIn wsX8_word (wsV RX8 96 RX7 yX7_isWord wsX7_isWord) := goodIn_app (goodIn_of _ (by decide +kernel)) ggX8_word_X7_isWord
set_option maxRecDepth 20000 in
theorem ggX8_word_X3_length : GoodIn wsX8_word wsX3_length := goodIn_r _ [13, 14, 15, 12, 16] (by decide +kernel) (by decide +kernel)
set_option maxRecDepth 20000 in
theorem gX8_word_X3_length : GoodIn wsX8_word (va_wsS RX8 108 yX3_length wsX3_length) := goodIn_app (goodIn_of _ (by decide +kernel)) ggX8_word_X3_length
set_option maxRecDepth 20000 in
theorem ggX8_word_X3_heights : GoodIn wsX8_word wsX3_heights := goodIn_r _ [19, 20, 11, 12, 13, 14, 15, 16] (by decide +kernel) (by decide +kernel)
set_option maxRecDepth 20000 in
theorem gX8_word_X3_heights : GoodIn wsX8_word (va_wsS RX8 114 yX3_heights wsX3_heights) := goodIn_app (goodIn_of _ (by decide +kernel)) ggX8_word_X3_heights
set_option maxRecDepth 20000 in
theorem ggX8_word_X7_asksWith : GoodIn wsX8_word wsX7_asksWith := goodIn_r _ [24, 25, 26, 27, 28, 29, 42, 43, 44, 45, 46, 47, 48, 49, 50, 51] (by decide +kernel) (by decide +kernel)
set_option maxRecDepth 20000 in
theorem gX8_word_X7_asksWith : GoodIn wsX8_word (wsV RX8 117 RX7 yX7_asksWith wsX7_asksWith) := goodIn_app (goodIn_of _ (by decide +kernel)) ggX8_word_X7_asksWith
set_option maxRecDepth 20000 in
theorem ggX8_word_X3_markAt : GoodIn wsX8_word wsX3_markAt := goodIn_r _ [16] (by decide +kernel) (by decide +kernel)
set_option maxRecDepth 20000 in
theorem gX8_word_X3_markAt : GoodIn wsX8_word (va_wsS RX8 121 yX3_markAt wsX3_markAt) := goodIn_app (goodIn_of _ (by decide +kernel)) ggX8_word_X3_markAt
set_option maxRecDepth 20000 in
theorem ggX8_word_X8_orBad : GoodIn wsX8_word wsX8_orBad := goodIn_r _ [33] (by decide +kernel) (by decide +kernel)
set_option maxRecDepth 20000 in
theorem gX8_word_X8_orBad : GoodIn wsX8_word (va_wsS RX8 125 yX8_orBad wsX8_orBad) := goodIn_app (goodIn_of _ (by decide +kernel)) ggX8_word_X8_orBad
theorem dX8_word_0 : decode cX8_word 0 = .ok (.aload_n 0, 1) := by decide +kernel
theorem dX8_word_1 : decode cX8_word 1 = .ok (.getfield 60, 3) := by decide +kernel
theorem dX8_word_4 : decode cX8_word 4 = .ok (.iload_n 1, 1) := by decide +kernel
theorem dX8_word_5 : decode cX8_word 5 = .ok (.invokevirtual 96, 3) := by decide +kernel
theorem dX8_word_8 : decode cX8_word 8 = .ok (.ifCond .ne 5, 3) := by decide +kernel
theorem dX8_word_11 : decode cX8_word 11 = .ok (.iconst (-1), 1) := by decide +kernel
theorem dX8_word_12 : decode cX8_word 12 = .ok (.ireturn, 1) := by decide +kernel
theorem dX8_word_13 : decode cX8_word 13 = .ok (.iload_n 2, 1) := by decide +kernel
theorem dX8_word_14 : decode cX8_word 14 = .ok (.tableswitch 75 0 3 #[30, 40, 53, 66], 30) := by decide +kernel
theorem dX8_word_44 : decode cX8_word 44 = .ok (.aload_n 0, 1) := by decide +kernel
theorem dX8_word_45 : decode cX8_word 45 = .ok (.getfield 60, 3) := by decide +kernel
theorem dX8_word_48 : decode cX8_word 48 = .ok (.getfield 100, 3) := by decide +kernel
theorem dX8_word_51 : decode cX8_word 51 = .ok (.iload_n 1, 1) := by decide +kernel
theorem dX8_word_52 : decode cX8_word 52 = .ok (.iaload, 1) := by decide +kernel
theorem dX8_word_53 : decode cX8_word 53 = .ok (.ireturn, 1) := by decide +kernel
theorem dX8_word_54 : decode cX8_word 54 = .ok (.aload_n 0, 1) := by decide +kernel
theorem dX8_word_55 : decode cX8_word 55 = .ok (.getfield 60, 3) := by decide +kernel
theorem dX8_word_58 : decode cX8_word 58 = .ok (.getfield 104, 3) := by decide +kernel
theorem dX8_word_61 : decode cX8_word 61 = .ok (.iload_n 1, 1) := by decide +kernel
theorem dX8_word_62 : decode cX8_word 62 = .ok (.laload, 1) := by decide +kernel
theorem dX8_word_63 : decode cX8_word 63 = .ok (.invokestatic 108, 3) := by decide +kernel
theorem dX8_word_66 : decode cX8_word 66 = .ok (.ireturn, 1) := by decide +kernel
theorem dX8_word_67 : decode cX8_word 67 = .ok (.aload_n 0, 1) := by decide +kernel
theorem dX8_word_68 : decode cX8_word 68 = .ok (.getfield 60, 3) := by decide +kernel
theorem dX8_word_71 : decode cX8_word 71 = .ok (.getfield 104, 3) := by decide +kernel
theorem dX8_word_74 : decode cX8_word 74 = .ok (.iload_n 1, 1) := by decide +kernel
theorem dX8_word_75 : decode cX8_word 75 = .ok (.laload, 1) := by decide +kernel
theorem dX8_word_76 : decode cX8_word 76 = .ok (.invokestatic 114, 3) := by decide +kernel
theorem dX8_word_79 : decode cX8_word 79 = .ok (.ireturn, 1) := by decide +kernel
theorem dX8_word_80 : decode cX8_word 80 = .ok (.aload_n 0, 1) := by decide +kernel
theorem dX8_word_81 : decode cX8_word 81 = .ok (.getfield 60, 3) := by decide +kernel
theorem dX8_word_84 : decode cX8_word 84 = .ok (.iload_n 1, 1) := by decide +kernel
theorem dX8_word_85 : decode cX8_word 85 = .ok (.invokevirtual 117, 3) := by decide +kernel
theorem dX8_word_88 : decode cX8_word 88 = .ok (.ireturn, 1) := by decide +kernel
theorem dX8_word_89 : decode cX8_word 89 = .ok (.iload_n 2, 1) := by decide +kernel
theorem dX8_word_90 : decode cX8_word 90 = .ok (.bipush 10, 2) := by decide +kernel
theorem dX8_word_92 : decode cX8_word 92 = .ok (.if_icmp .ge 7, 3) := by decide +kernel
theorem dX8_word_95 : decode cX8_word 95 = .ok (.iconst (-1), 1) := by decide +kernel
theorem dX8_word_96 : decode cX8_word 96 = .ok (.goto 22, 3) := by decide +kernel
theorem dX8_word_99 : decode cX8_word 99 = .ok (.aload_n 0, 1) := by decide +kernel
theorem dX8_word_100 : decode cX8_word 100 = .ok (.getfield 60, 3) := by decide +kernel
theorem dX8_word_103 : decode cX8_word 103 = .ok (.getfield 104, 3) := by decide +kernel
theorem dX8_word_106 : decode cX8_word 106 = .ok (.iload_n 1, 1) := by decide +kernel
theorem dX8_word_107 : decode cX8_word 107 = .ok (.laload, 1) := by decide +kernel
theorem dX8_word_108 : decode cX8_word 108 = .ok (.iload_n 2, 1) := by decide +kernel
theorem dX8_word_109 : decode cX8_word 109 = .ok (.bipush 10, 2) := by decide +kernel
theorem dX8_word_111 : decode cX8_word 111 = .ok (.isub, 1) := by decide +kernel
theorem dX8_word_112 : decode cX8_word 112 = .ok (.invokestatic 121, 3) := by decide +kernel
theorem dX8_word_115 : decode cX8_word 115 = .ok (.invokestatic 125, 3) := by decide +kernel
theorem dX8_word_118 : decode cX8_word 118 = .ok (.ireturn, 1) := by decide +kernel
set_option maxRecDepth 20000 in
theorem ggX8_ask_X7_isAsk : GoodIn wsX8_ask wsX7_isAsk := goodIn_r _ [7, 8, 24, 25, 26, 27, 28, 29, 30, 31, 32, 33] (by decide +kernel) (by decide +kernel)
set_option maxRecDepth 20000 in
theorem gX8_ask_X7_isAsk : GoodIn wsX8_ask (wsV RX8 128 RX7 yX7_isAsk wsX7_isAsk) := goodIn_app (goodIn_of _ (by decide +kernel)) ggX8_ask_X7_isAsk
set_option maxRecDepth 20000 in
theorem ggX8_ask_J6_bitCount_0f7a4 : GoodIn wsX8_ask wsJ6_bitCount_0f7a4 := goodIn_r _ [12, 13, 14, 15] (by decide +kernel) (by decide +kernel)
set_option maxRecDepth 20000 in
theorem gX8_ask_J6_bitCount_0f7a4 : GoodIn wsX8_ask (va_wsS RX8 134 yJ6_bitCount_0f7a4 wsJ6_bitCount_0f7a4) := goodIn_app (goodIn_of _ (by decide +kernel)) ggX8_ask_J6_bitCount_0f7a4
theorem dX8_ask_0 : decode cX8_ask 0 = .ok (.aload_n 0, 1) := by decide +kernel
theorem dX8_ask_1 : decode cX8_ask 1 = .ok (.getfield 60, 3) := by decide +kernel
theorem dX8_ask_4 : decode cX8_ask 4 = .ok (.iload_n 1, 1) := by decide +kernel
theorem dX8_ask_5 : decode cX8_ask 5 = .ok (.invokevirtual 128, 3) := by decide +kernel
theorem dX8_ask_8 : decode cX8_ask 8 = .ok (.ifCond .eq 12, 3) := by decide +kernel
theorem dX8_ask_11 : decode cX8_ask 11 = .ok (.iload_n 2, 1) := by decide +kernel
theorem dX8_ask_12 : decode cX8_ask 12 = .ok (.ifCond .lt 8, 3) := by decide +kernel
theorem dX8_ask_15 : decode cX8_ask 15 = .ok (.iload_n 2, 1) := by decide +kernel
theorem dX8_ask_16 : decode cX8_ask 16 = .ok (.iconst 1, 1) := by decide +kernel
theorem dX8_ask_17 : decode cX8_ask 17 = .ok (.if_icmp .le 5, 3) := by decide +kernel
theorem dX8_ask_20 : decode cX8_ask 20 = .ok (.iconst (-1), 1) := by decide +kernel
theorem dX8_ask_21 : decode cX8_ask 21 = .ok (.ireturn, 1) := by decide +kernel
theorem dX8_ask_22 : decode cX8_ask 22 = .ok (.iload_n 2, 1) := by decide +kernel
theorem dX8_ask_23 : decode cX8_ask 23 = .ok (.ifCond .ne 18, 3) := by decide +kernel
theorem dX8_ask_26 : decode cX8_ask 26 = .ok (.aload_n 0, 1) := by decide +kernel
theorem dX8_ask_27 : decode cX8_ask 27 = .ok (.getfield 60, 3) := by decide +kernel
theorem dX8_ask_30 : decode cX8_ask 30 = .ok (.getfield 131, 3) := by decide +kernel
theorem dX8_ask_33 : decode cX8_ask 33 = .ok (.iload_n 1, 1) := by decide +kernel
theorem dX8_ask_34 : decode cX8_ask 34 = .ok (.iaload, 1) := by decide +kernel
theorem dX8_ask_35 : decode cX8_ask 35 = .ok (.invokestatic 134, 3) := by decide +kernel
theorem dX8_ask_38 : decode cX8_ask 38 = .ok (.goto 12, 3) := by decide +kernel
theorem dX8_ask_41 : decode cX8_ask 41 = .ok (.aload_n 0, 1) := by decide +kernel
theorem dX8_ask_42 : decode cX8_ask 42 = .ok (.getfield 60, 3) := by decide +kernel
theorem dX8_ask_45 : decode cX8_ask 45 = .ok (.getfield 131, 3) := by decide +kernel
theorem dX8_ask_48 : decode cX8_ask 48 = .ok (.iload_n 1, 1) := by decide +kernel
theorem dX8_ask_49 : decode cX8_ask 49 = .ok (.iaload, 1) := by decide +kernel
theorem dX8_ask_50 : decode cX8_ask 50 = .ok (.ireturn, 1) := by decide +kernel
set_option maxRecDepth 20000 in
theorem ggX8_blurred_X7_isWord : GoodIn wsX8_blurred wsX7_isWord := goodIn_r _ [6, 7, 29, 30, 31, 32, 33, 34, 35, 36, 37, 38] (by decide +kernel) (by decide +kernel)
set_option maxRecDepth 20000 in
theorem gX8_blurred_X7_isWord : GoodIn wsX8_blurred (wsV RX8 96 RX7 yX7_isWord wsX7_isWord) := goodIn_app (goodIn_of _ (by decide +kernel)) ggX8_blurred_X7_isWord
set_option maxRecDepth 20000 in
theorem ggX8_blurred_X8_isBlur : GoodIn wsX8_blurred wsX8_isBlur := goodIn_r _ [11] (by decide +kernel) (by decide +kernel)
set_option maxRecDepth 20000 in
theorem gX8_blurred_X8_isBlur : GoodIn wsX8_blurred (va_wsS RX8 139 yX8_isBlur wsX8_isBlur) := goodIn_app (goodIn_of _ (by decide +kernel)) ggX8_blurred_X8_isBlur
set_option maxRecDepth 20000 in
theorem ggX8_blurred_X7_rowAt : GoodIn wsX8_blurred wsX7_rowAt := goodIn_r _ [15, 16, 29, 30, 31, 32, 33, 34, 35, 36, 37, 38] (by decide +kernel) (by decide +kernel)
set_option maxRecDepth 20000 in
theorem gX8_blurred_X7_rowAt : GoodIn wsX8_blurred (wsV RX8 142 RX7 yX7_rowAt wsX7_rowAt) := goodIn_app (goodIn_of _ (by decide +kernel)) ggX8_blurred_X7_rowAt
set_option maxRecDepth 20000 in
theorem ggX8_blurred_X3_markAt : GoodIn wsX8_blurred wsX3_markAt := goodIn_r _ [20] (by decide +kernel) (by decide +kernel)
set_option maxRecDepth 20000 in
theorem gX8_blurred_X3_markAt : GoodIn wsX8_blurred (va_wsS RX8 121 yX3_markAt wsX3_markAt) := goodIn_app (goodIn_of _ (by decide +kernel)) ggX8_blurred_X3_markAt
theorem dX8_blurred_0 : decode cX8_blurred 0 = .ok (.aload_n 0, 1) := by decide +kernel
theorem dX8_blurred_1 : decode cX8_blurred 1 = .ok (.getfield 60, 3) := by decide +kernel
theorem dX8_blurred_4 : decode cX8_blurred 4 = .ok (.iload_n 1, 1) := by decide +kernel
theorem dX8_blurred_5 : decode cX8_blurred 5 = .ok (.invokevirtual 96, 3) := by decide +kernel
theorem dX8_blurred_8 : decode cX8_blurred 8 = .ok (.ifCond .eq 14, 3) := by decide +kernel
theorem dX8_blurred_11 : decode cX8_blurred 11 = .ok (.iload_n 2, 1) := by decide +kernel
theorem dX8_blurred_12 : decode cX8_blurred 12 = .ok (.invokestatic 139, 3) := by decide +kernel
theorem dX8_blurred_15 : decode cX8_blurred 15 = .ok (.ifCond .eq 7, 3) := by decide +kernel
theorem dX8_blurred_18 : decode cX8_blurred 18 = .ok (.iload_n 3, 1) := by decide +kernel
theorem dX8_blurred_19 : decode cX8_blurred 19 = .ok (.ifCond .ge 5, 3) := by decide +kernel
theorem dX8_blurred_22 : decode cX8_blurred 22 = .ok (.iconst (-1), 1) := by decide +kernel
theorem dX8_blurred_23 : decode cX8_blurred 23 = .ok (.ireturn, 1) := by decide +kernel
theorem dX8_blurred_24 : decode cX8_blurred 24 = .ok (.aload_n 0, 1) := by decide +kernel
theorem dX8_blurred_25 : decode cX8_blurred 25 = .ok (.getfield 60, 3) := by decide +kernel
theorem dX8_blurred_28 : decode cX8_blurred 28 = .ok (.iload_n 2, 1) := by decide +kernel
theorem dX8_blurred_29 : decode cX8_blurred 29 = .ok (.iload_n 1, 1) := by decide +kernel
theorem dX8_blurred_30 : decode cX8_blurred 30 = .ok (.invokevirtual 142, 3) := by decide +kernel
theorem dX8_blurred_33 : decode cX8_blurred 33 = .ok (.iload_n 3, 1) := by decide +kernel
theorem dX8_blurred_34 : decode cX8_blurred 34 = .ok (.invokestatic 121, 3) := by decide +kernel
theorem dX8_blurred_37 : decode cX8_blurred 37 = .ok (.ireturn, 1) := by decide +kernel
set_option maxRecDepth 20000 in
theorem ggX8_apart_X7_isWord : GoodIn wsX8_apart wsX7_isWord := goodIn_r _ [6, 7, 29, 30, 31, 32, 33, 34, 35, 36, 37, 38] (by decide +kernel) (by decide +kernel)
set_option maxRecDepth 20000 in
theorem gX8_apart_X7_isWord : GoodIn wsX8_apart (wsV RX8 96 RX7 yX7_isWord wsX7_isWord) := goodIn_app (goodIn_of _ (by decide +kernel)) ggX8_apart_X7_isWord
set_option maxRecDepth 20000 in
theorem ggX8_apart_X8_isBlur : GoodIn wsX8_apart wsX8_isBlur := goodIn_r _ [11] (by decide +kernel) (by decide +kernel)
set_option maxRecDepth 20000 in
theorem gX8_apart_X8_isBlur : GoodIn wsX8_apart (va_wsS RX8 139 yX8_isBlur wsX8_isBlur) := goodIn_app (goodIn_of _ (by decide +kernel)) ggX8_apart_X8_isBlur
set_option maxRecDepth 20000 in
theorem ggX8_apart_X7_areAlike : GoodIn wsX8_apart wsX7_areAlike := goodIn_r _ [15, 16, 17, 18, 5, 19, 20, 29, 30, 31, 32, 33, 34, 35, 36, 37, 38] (by decide +kernel) (by decide +kernel)
set_option maxRecDepth 20000 in
theorem gX8_apart_X7_areAlike : GoodIn wsX8_apart (wsV RX8 146 RX7 yX7_areAlike wsX7_areAlike) := goodIn_app (goodIn_of _ (by decide +kernel)) ggX8_apart_X7_areAlike
theorem dX8_apart_0 : decode cX8_apart 0 = .ok (.aload_n 0, 1) := by decide +kernel
theorem dX8_apart_1 : decode cX8_apart 1 = .ok (.getfield 60, 3) := by decide +kernel
theorem dX8_apart_4 : decode cX8_apart 4 = .ok (.iload_n 1, 1) := by decide +kernel
theorem dX8_apart_5 : decode cX8_apart 5 = .ok (.invokevirtual 96, 3) := by decide +kernel
theorem dX8_apart_8 : decode cX8_apart 8 = .ok (.ifCond .eq 21, 3) := by decide +kernel
theorem dX8_apart_11 : decode cX8_apart 11 = .ok (.aload_n 0, 1) := by decide +kernel
theorem dX8_apart_12 : decode cX8_apart 12 = .ok (.getfield 60, 3) := by decide +kernel
theorem dX8_apart_15 : decode cX8_apart 15 = .ok (.iload_n 2, 1) := by decide +kernel
theorem dX8_apart_16 : decode cX8_apart 16 = .ok (.invokevirtual 96, 3) := by decide +kernel
theorem dX8_apart_19 : decode cX8_apart 19 = .ok (.ifCond .eq 10, 3) := by decide +kernel
theorem dX8_apart_22 : decode cX8_apart 22 = .ok (.iload_n 3, 1) := by decide +kernel
theorem dX8_apart_23 : decode cX8_apart 23 = .ok (.invokestatic 139, 3) := by decide +kernel
theorem dX8_apart_26 : decode cX8_apart 26 = .ok (.ifCond .ne 5, 3) := by decide +kernel
theorem dX8_apart_29 : decode cX8_apart 29 = .ok (.iconst (-1), 1) := by decide +kernel
theorem dX8_apart_30 : decode cX8_apart 30 = .ok (.ireturn, 1) := by decide +kernel
theorem dX8_apart_31 : decode cX8_apart 31 = .ok (.aload_n 0, 1) := by decide +kernel
theorem dX8_apart_32 : decode cX8_apart 32 = .ok (.getfield 60, 3) := by decide +kernel
theorem dX8_apart_35 : decode cX8_apart 35 = .ok (.iload_n 1, 1) := by decide +kernel
theorem dX8_apart_36 : decode cX8_apart 36 = .ok (.iload_n 2, 1) := by decide +kernel
theorem dX8_apart_37 : decode cX8_apart 37 = .ok (.iload_n 3, 1) := by decide +kernel
theorem dX8_apart_38 : decode cX8_apart 38 = .ok (.invokevirtual 146, 3) := by decide +kernel
theorem dX8_apart_41 : decode cX8_apart 41 = .ok (.ifCond .eq 7, 3) := by decide +kernel
theorem dX8_apart_44 : decode cX8_apart 44 = .ok (.iconst 0, 1) := by decide +kernel
theorem dX8_apart_45 : decode cX8_apart 45 = .ok (.goto 4, 3) := by decide +kernel
theorem dX8_apart_48 : decode cX8_apart 48 = .ok (.iconst 1, 1) := by decide +kernel
theorem dX8_apart_49 : decode cX8_apart 49 = .ok (.ireturn, 1) := by decide +kernel
set_option maxRecDepth 20000 in
theorem ggX8_until_X7_isWord : GoodIn wsX8_until wsX7_isWord := goodIn_r _ [6, 7, 25, 26, 27, 28, 29, 30, 31, 32, 33, 34] (by decide +kernel) (by decide +kernel)
set_option maxRecDepth 20000 in
theorem gX8_until_X7_isWord : GoodIn wsX8_until (wsV RX8 96 RX7 yX7_isWord wsX7_isWord) := goodIn_app (goodIn_of _ (by decide +kernel)) ggX8_until_X7_isWord
set_option maxRecDepth 20000 in
theorem ggX8_until_X7_areAlike : GoodIn wsX8_until wsX7_areAlike := goodIn_r _ [11, 12, 13, 14, 5, 15, 16, 25, 26, 27, 28, 29, 30, 31, 32, 33, 34] (by decide +kernel) (by decide +kernel)
set_option maxRecDepth 20000 in
theorem gX8_until_X7_areAlike : GoodIn wsX8_until (wsV RX8 146 RX7 yX7_areAlike wsX7_areAlike) := goodIn_app (goodIn_of _ (by decide +kernel)) ggX8_until_X7_areAlike
theorem dX8_until_0 : decode cX8_until 0 = .ok (.aload_n 0, 1) := by decide +kernel
theorem dX8_until_1 : decode cX8_until 1 = .ok (.getfield 60, 3) := by decide +kernel
theorem dX8_until_4 : decode cX8_until 4 = .ok (.iload_n 1, 1) := by decide +kernel
theorem dX8_until_5 : decode cX8_until 5 = .ok (.invokevirtual 96, 3) := by decide +kernel
theorem dX8_until_8 : decode cX8_until 8 = .ok (.ifCond .eq 14, 3) := by decide +kernel
theorem dX8_until_11 : decode cX8_until 11 = .ok (.aload_n 0, 1) := by decide +kernel
theorem dX8_until_12 : decode cX8_until 12 = .ok (.getfield 60, 3) := by decide +kernel
theorem dX8_until_15 : decode cX8_until 15 = .ok (.iload_n 2, 1) := by decide +kernel
theorem dX8_until_16 : decode cX8_until 16 = .ok (.invokevirtual 96, 3) := by decide +kernel
theorem dX8_until_19 : decode cX8_until 19 = .ok (.ifCond .ne 5, 3) := by decide +kernel
theorem dX8_until_22 : decode cX8_until 22 = .ok (.iconst (-1), 1) := by decide +kernel
theorem dX8_until_23 : decode cX8_until 23 = .ok (.ireturn, 1) := by decide +kernel
theorem dX8_until_24 : decode cX8_until 24 = .ok (.iconst 0, 1) := by decide +kernel
theorem dX8_until_25 : decode cX8_until 25 = .ok (.istore_n 3, 1) := by decide +kernel
theorem dX8_until_26 : decode cX8_until 26 = .ok (.iload_n 3, 1) := by decide +kernel
theorem dX8_until_27 : decode cX8_until 27 = .ok (.bipush 6, 2) := by decide +kernel
theorem dX8_until_29 : decode cX8_until 29 = .ok (.if_icmp .ge 24, 3) := by decide +kernel
theorem dX8_until_32 : decode cX8_until 32 = .ok (.aload_n 0, 1) := by decide +kernel
theorem dX8_until_33 : decode cX8_until 33 = .ok (.getfield 60, 3) := by decide +kernel
theorem dX8_until_36 : decode cX8_until 36 = .ok (.iload_n 1, 1) := by decide +kernel
theorem dX8_until_37 : decode cX8_until 37 = .ok (.iload_n 2, 1) := by decide +kernel
theorem dX8_until_38 : decode cX8_until 38 = .ok (.iload_n 3, 1) := by decide +kernel
theorem dX8_until_39 : decode cX8_until 39 = .ok (.invokevirtual 146, 3) := by decide +kernel
theorem dX8_until_42 : decode cX8_until 42 = .ok (.ifCond .eq 5, 3) := by decide +kernel
theorem dX8_until_45 : decode cX8_until 45 = .ok (.iload_n 3, 1) := by decide +kernel
theorem dX8_until_46 : decode cX8_until 46 = .ok (.ireturn, 1) := by decide +kernel
theorem dX8_until_47 : decode cX8_until 47 = .ok (.iinc 3 1, 3) := by decide +kernel
theorem dX8_until_50 : decode cX8_until 50 = .ok (.goto (-24), 3) := by decide +kernel
theorem dX8_until_53 : decode cX8_until 53 = .ok (.bipush (-4), 2) := by decide +kernel
theorem dX8_until_55 : decode cX8_until 55 = .ok (.ireturn, 1) := by decide +kernel
set_option maxRecDepth 20000 in
theorem ggX8_cut_X7_isAsk : GoodIn wsX8_cut wsX7_isAsk := goodIn_r _ [7, 8, 49, 50, 51, 52, 53, 54, 55, 56, 57, 58] (by decide +kernel) (by decide +kernel)
set_option maxRecDepth 20000 in
theorem gX8_cut_X7_isAsk : GoodIn wsX8_cut (wsV RX8 128 RX7 yX7_isAsk wsX7_isAsk) := goodIn_app (goodIn_of _ (by decide +kernel)) ggX8_cut_X7_isAsk
set_option maxRecDepth 20000 in
theorem ggX8_cut_X8_isBlur : GoodIn wsX8_cut wsX8_isBlur := goodIn_r _ [12] (by decide +kernel) (by decide +kernel)
set_option maxRecDepth 20000 in
theorem gX8_cut_X8_isBlur : GoodIn wsX8_cut (va_wsS RX8 139 yX8_isBlur wsX8_isBlur) := goodIn_app (goodIn_of _ (by decide +kernel)) ggX8_cut_X8_isBlur
set_option maxRecDepth 20000 in
theorem ggX8_cut_X7_allWords : GoodIn wsX8_cut wsX7_allWords := goodIn_r _ [16, 17, 49, 50, 51, 52, 53, 54, 55, 56, 57, 58] (by decide +kernel) (by decide +kernel)
set_option maxRecDepth 20000 in
theorem gX8_cut_X7_allWords : GoodIn wsX8_cut (wsV RX8 150 RX7 yX7_allWords wsX7_allWords) := goodIn_app (goodIn_of _ (by decide +kernel)) ggX8_cut_X7_allWords
set_option maxRecDepth 20000 in
theorem ggX8_cut_X7_cutOf : GoodIn wsX8_cut wsX7_cutOf := goodIn_r _ [21, 17, 22, 11, 23, 24, 25, 26, 6, 27, 28, 49, 50, 51, 52, 53, 54, 55, 56, 57, 58] (by decide +kernel) (by decide +kernel)
set_option maxRecDepth 20000 in
theorem gX8_cut_X7_cutOf : GoodIn wsX8_cut (wsV RX8 154 RX7 yX7_cutOf wsX7_cutOf) := goodIn_app (goodIn_of _ (by decide +kernel)) ggX8_cut_X7_cutOf
set_option maxRecDepth 20000 in
theorem ggX8_cut_J6_bitCount_0f7a4 : GoodIn wsX8_cut wsJ6_bitCount_0f7a4 := goodIn_r _ [32, 33, 34, 35] (by decide +kernel) (by decide +kernel)
set_option maxRecDepth 20000 in
theorem gX8_cut_J6_bitCount_0f7a4 : GoodIn wsX8_cut (va_wsS RX8 134 yJ6_bitCount_0f7a4 wsJ6_bitCount_0f7a4) := goodIn_app (goodIn_of _ (by decide +kernel)) ggX8_cut_J6_bitCount_0f7a4
set_option maxRecDepth 20000 in
theorem ggX8_cut_X7_alikePairs : GoodIn wsX8_cut wsX7_alikePairs := goodIn_r _ [39, 17, 22, 11, 23, 24, 25, 26, 6, 27, 28, 40, 30, 31, 32, 33, 34, 35, 49, 50, 51, 52, 53, 54, 55, 56, 57, 58] (by decide +kernel) (by decide +kernel)
set_option maxRecDepth 20000 in
theorem gX8_cut_X7_alikePairs : GoodIn wsX8_cut (wsV RX8 158 RX7 yX7_alikePairs wsX7_alikePairs) := goodIn_app (goodIn_of _ (by decide +kernel)) ggX8_cut_X7_alikePairs
theorem dX8_cut_0 : decode cX8_cut 0 = .ok (.iload_n 1, 1) := by decide +kernel
theorem dX8_cut_1 : decode cX8_cut 1 = .ok (.bipush (-4), 2) := by decide +kernel
theorem dX8_cut_3 : decode cX8_cut 3 = .ok (.if_icmp .ne 7, 3) := by decide +kernel
theorem dX8_cut_6 : decode cX8_cut 6 = .ok (.iconst 1, 1) := by decide +kernel
theorem dX8_cut_7 : decode cX8_cut 7 = .ok (.goto 4, 3) := by decide +kernel
theorem dX8_cut_10 : decode cX8_cut 10 = .ok (.iconst 0, 1) := by decide +kernel
theorem dX8_cut_11 : decode cX8_cut 11 = .ok (.istore 4, 2) := by decide +kernel
theorem dX8_cut_13 : decode cX8_cut 13 = .ok (.iload 4, 2) := by decide +kernel
theorem dX8_cut_15 : decode cX8_cut 15 = .ok (.ifCond .ne 14, 3) := by decide +kernel
theorem dX8_cut_18 : decode cX8_cut 18 = .ok (.aload_n 0, 1) := by decide +kernel
theorem dX8_cut_19 : decode cX8_cut 19 = .ok (.getfield 60, 3) := by decide +kernel
theorem dX8_cut_22 : decode cX8_cut 22 = .ok (.iload_n 1, 1) := by decide +kernel
theorem dX8_cut_23 : decode cX8_cut 23 = .ok (.invokevirtual 128, 3) := by decide +kernel
theorem dX8_cut_26 : decode cX8_cut 26 = .ok (.ifCond .eq 10, 3) := by decide +kernel
theorem dX8_cut_29 : decode cX8_cut 29 = .ok (.iload_n 2, 1) := by decide +kernel
theorem dX8_cut_30 : decode cX8_cut 30 = .ok (.invokestatic 139, 3) := by decide +kernel
theorem dX8_cut_33 : decode cX8_cut 33 = .ok (.ifCond .ne 5, 3) := by decide +kernel
theorem dX8_cut_36 : decode cX8_cut 36 = .ok (.iconst (-1), 1) := by decide +kernel
theorem dX8_cut_37 : decode cX8_cut 37 = .ok (.ireturn, 1) := by decide +kernel
theorem dX8_cut_38 : decode cX8_cut 38 = .ok (.iload 4, 2) := by decide +kernel
theorem dX8_cut_40 : decode cX8_cut 40 = .ok (.ifCond .eq 13, 3) := by decide +kernel
theorem dX8_cut_43 : decode cX8_cut 43 = .ok (.aload_n 0, 1) := by decide +kernel
theorem dX8_cut_44 : decode cX8_cut 44 = .ok (.getfield 60, 3) := by decide +kernel
theorem dX8_cut_47 : decode cX8_cut 47 = .ok (.invokevirtual 150, 3) := by decide +kernel
theorem dX8_cut_50 : decode cX8_cut 50 = .ok (.goto 12, 3) := by decide +kernel
theorem dX8_cut_53 : decode cX8_cut 53 = .ok (.aload_n 0, 1) := by decide +kernel
theorem dX8_cut_54 : decode cX8_cut 54 = .ok (.getfield 60, 3) := by decide +kernel
theorem dX8_cut_57 : decode cX8_cut 57 = .ok (.getfield 131, 3) := by decide +kernel
theorem dX8_cut_60 : decode cX8_cut 60 = .ok (.iload_n 1, 1) := by decide +kernel
theorem dX8_cut_61 : decode cX8_cut 61 = .ok (.iaload, 1) := by decide +kernel
theorem dX8_cut_62 : decode cX8_cut 62 = .ok (.istore 5, 2) := by decide +kernel
theorem dX8_cut_64 : decode cX8_cut 64 = .ok (.iload_n 3, 1) := by decide +kernel
theorem dX8_cut_65 : decode cX8_cut 65 = .ok (.tableswitch 63 0 2 #[27, 41, 52], 27) := by decide +kernel
theorem dX8_cut_92 : decode cX8_cut 92 = .ok (.aload_n 0, 1) := by decide +kernel
theorem dX8_cut_93 : decode cX8_cut 93 = .ok (.getfield 60, 3) := by decide +kernel
theorem dX8_cut_96 : decode cX8_cut 96 = .ok (.iload 5, 2) := by decide +kernel
theorem dX8_cut_98 : decode cX8_cut 98 = .ok (.iload_n 2, 1) := by decide +kernel
theorem dX8_cut_99 : decode cX8_cut 99 = .ok (.invokevirtual 154, 3) := by decide +kernel
theorem dX8_cut_102 : decode cX8_cut 102 = .ok (.invokestatic 134, 3) := by decide +kernel
theorem dX8_cut_105 : decode cX8_cut 105 = .ok (.ireturn, 1) := by decide +kernel
theorem dX8_cut_106 : decode cX8_cut 106 = .ok (.aload_n 0, 1) := by decide +kernel
theorem dX8_cut_107 : decode cX8_cut 107 = .ok (.getfield 60, 3) := by decide +kernel
theorem dX8_cut_110 : decode cX8_cut 110 = .ok (.iload 5, 2) := by decide +kernel
theorem dX8_cut_112 : decode cX8_cut 112 = .ok (.iload_n 2, 1) := by decide +kernel
theorem dX8_cut_113 : decode cX8_cut 113 = .ok (.invokevirtual 154, 3) := by decide +kernel
theorem dX8_cut_116 : decode cX8_cut 116 = .ok (.ireturn, 1) := by decide +kernel
theorem dX8_cut_117 : decode cX8_cut 117 = .ok (.aload_n 0, 1) := by decide +kernel
theorem dX8_cut_118 : decode cX8_cut 118 = .ok (.getfield 60, 3) := by decide +kernel
theorem dX8_cut_121 : decode cX8_cut 121 = .ok (.iload 5, 2) := by decide +kernel
theorem dX8_cut_123 : decode cX8_cut 123 = .ok (.iload_n 2, 1) := by decide +kernel
theorem dX8_cut_124 : decode cX8_cut 124 = .ok (.invokevirtual 158, 3) := by decide +kernel
theorem dX8_cut_127 : decode cX8_cut 127 = .ok (.ireturn, 1) := by decide +kernel
theorem dX8_cut_128 : decode cX8_cut 128 = .ok (.iconst (-1), 1) := by decide +kernel
theorem dX8_cut_129 : decode cX8_cut 129 = .ok (.ireturn, 1) := by decide +kernel
set_option maxRecDepth 20000 in
theorem ggX8_means_X7_isAsk : GoodIn wsX8_means wsX7_isAsk := goodIn_r _ [7, 8, 61, 62, 63, 64, 65, 66, 67, 68, 69, 70] (by decide +kernel) (by decide +kernel)
set_option maxRecDepth 20000 in
theorem gX8_means_X7_isAsk : GoodIn wsX8_means (wsV RX8 128 RX7 yX7_isAsk wsX7_isAsk) := goodIn_app (goodIn_of _ (by decide +kernel)) ggX8_means_X7_isAsk
set_option maxRecDepth 20000 in
theorem ggX8_means_X8_isBlur : GoodIn wsX8_means wsX8_isBlur := goodIn_r _ [12] (by decide +kernel) (by decide +kernel)
set_option maxRecDepth 20000 in
theorem gX8_means_X8_isBlur : GoodIn wsX8_means (va_wsS RX8 139 yX8_isBlur wsX8_isBlur) := goodIn_app (goodIn_of _ (by decide +kernel)) ggX8_means_X8_isBlur
set_option maxRecDepth 20000 in
theorem ggX8_means_X4_isSheet : GoodIn wsX8_means wsX4_isSheet := goodIn_r _ [16] (by decide +kernel) (by decide +kernel)
set_option maxRecDepth 20000 in
theorem gX8_means_X4_isSheet : GoodIn wsX8_means (va_wsS RX8 161 yX4_isSheet wsX4_isSheet) := goodIn_app (goodIn_of _ (by decide +kernel)) ggX8_means_X4_isSheet
set_option maxRecDepth 20000 in
theorem ggX8_means_X4_isLane : GoodIn wsX8_means wsX4_isLane := goodIn_r _ [19] (by decide +kernel) (by decide +kernel)
set_option maxRecDepth 20000 in
theorem gX8_means_X4_isLane : GoodIn wsX8_means (va_wsS RX8 164 yX4_isLane wsX4_isLane) := goodIn_app (goodIn_of _ (by decide +kernel)) ggX8_means_X4_isLane
set_option maxRecDepth 20000 in
theorem ggX8_means_X4_faultOfRow : GoodIn wsX8_means wsX4_faultOfRow := goodIn_r _ [23, 24, 25, 71, 72, 73] (by decide +kernel) (by decide +kernel)
set_option maxRecDepth 20000 in
theorem gX8_means_X4_faultOfRow : GoodIn wsX8_means (wsV RX8 167 RX4 yX4_faultOfRow wsX4_faultOfRow) := goodIn_app (goodIn_of _ (by decide +kernel)) ggX8_means_X4_faultOfRow
set_option maxRecDepth 20000 in
theorem ggX8_means_X4_cellAt : GoodIn wsX8_means wsX4_cellAt := goodIn_r _ [29, 30, 71, 72, 73] (by decide +kernel) (by decide +kernel)
set_option maxRecDepth 20000 in
theorem gX8_means_X4_cellAt : GoodIn wsX8_means (wsV RX8 171 RX4 yX4_cellAt wsX4_cellAt) := goodIn_app (goodIn_of _ (by decide +kernel)) ggX8_means_X4_cellAt
set_option maxRecDepth 20000 in
theorem ggX8_means_X3_isMark : GoodIn wsX8_means wsX3_isMark := goodIn_r _ [34] (by decide +kernel) (by decide +kernel)
set_option maxRecDepth 20000 in
theorem gX8_means_X3_isMark : GoodIn wsX8_means (va_wsS RX8 174 yX3_isMark wsX3_isMark) := goodIn_app (goodIn_of _ (by decide +kernel)) ggX8_means_X3_isMark
set_option maxRecDepth 20000 in
theorem ggX8_means_X3_with : GoodIn wsX8_means wsX3_with := goodIn_r _ [37] (by decide +kernel) (by decide +kernel)
set_option maxRecDepth 20000 in
theorem gX8_means_X3_with : GoodIn wsX8_means (va_wsS RX8 177 yX3_with wsX3_with) := goodIn_app (goodIn_of _ (by decide +kernel)) ggX8_means_X3_with
set_option maxRecDepth 20000 in
theorem ggX8_means_X7_meantBy : GoodIn wsX8_means wsX7_meantBy := goodIn_r _ [41, 42, 43, 44, 45, 6, 46, 47, 48, 49, 50, 51, 52, 61, 62, 63, 64, 65, 66, 67, 68, 69, 70] (by decide +kernel) (by decide +kernel)
set_option maxRecDepth 20000 in
theorem gX8_means_X7_meantBy : GoodIn wsX8_means (wsV RX8 181 RX7 yX7_meantBy wsX7_meantBy) := goodIn_app (goodIn_of _ (by decide +kernel)) ggX8_means_X7_meantBy
theorem dX8_means_0 : decode cX8_means 0 = .ok (.aload_n 0, 1) := by decide +kernel
theorem dX8_means_1 : decode cX8_means 1 = .ok (.getfield 60, 3) := by decide +kernel
theorem dX8_means_4 : decode cX8_means 4 = .ok (.iload_n 1, 1) := by decide +kernel
theorem dX8_means_5 : decode cX8_means 5 = .ok (.invokevirtual 128, 3) := by decide +kernel
theorem dX8_means_8 : decode cX8_means 8 = .ok (.ifCond .eq 37, 3) := by decide +kernel
theorem dX8_means_11 : decode cX8_means 11 = .ok (.iload_n 2, 1) := by decide +kernel
theorem dX8_means_12 : decode cX8_means 12 = .ok (.invokestatic 139, 3) := by decide +kernel
theorem dX8_means_15 : decode cX8_means 15 = .ok (.ifCond .eq 30, 3) := by decide +kernel
theorem dX8_means_18 : decode cX8_means 18 = .ok (.iload_n 3, 1) := by decide +kernel
theorem dX8_means_19 : decode cX8_means 19 = .ok (.invokestatic 161, 3) := by decide +kernel
theorem dX8_means_22 : decode cX8_means 22 = .ok (.ifCond .eq 23, 3) := by decide +kernel
theorem dX8_means_25 : decode cX8_means 25 = .ok (.iload 4, 2) := by decide +kernel
theorem dX8_means_27 : decode cX8_means 27 = .ok (.invokestatic 164, 3) := by decide +kernel
theorem dX8_means_30 : decode cX8_means 30 = .ok (.ifCond .eq 15, 3) := by decide +kernel
theorem dX8_means_33 : decode cX8_means 33 = .ok (.iload 6, 2) := by decide +kernel
theorem dX8_means_35 : decode cX8_means 35 = .ok (.ifCond .lt 10, 3) := by decide +kernel
theorem dX8_means_38 : decode cX8_means 38 = .ok (.iload 6, 2) := by decide +kernel
theorem dX8_means_40 : decode cX8_means 40 = .ok (.bipush 8, 2) := by decide +kernel
theorem dX8_means_42 : decode cX8_means 42 = .ok (.if_icmp .le 5, 3) := by decide +kernel
theorem dX8_means_45 : decode cX8_means 45 = .ok (.iconst (-1), 1) := by decide +kernel
theorem dX8_means_46 : decode cX8_means 46 = .ok (.ireturn, 1) := by decide +kernel
theorem dX8_means_47 : decode cX8_means 47 = .ok (.aload_n 0, 1) := by decide +kernel
theorem dX8_means_48 : decode cX8_means 48 = .ok (.getfield 28, 3) := by decide +kernel
theorem dX8_means_51 : decode cX8_means 51 = .ok (.iload_n 3, 1) := by decide +kernel
theorem dX8_means_52 : decode cX8_means 52 = .ok (.iload 4, 2) := by decide +kernel
theorem dX8_means_54 : decode cX8_means 54 = .ok (.iload 5, 2) := by decide +kernel
theorem dX8_means_56 : decode cX8_means 56 = .ok (.iload 6, 2) := by decide +kernel
theorem dX8_means_58 : decode cX8_means 58 = .ok (.invokevirtual 167, 3) := by decide +kernel
theorem dX8_means_61 : decode cX8_means 61 = .ok (.istore 7, 2) := by decide +kernel
theorem dX8_means_63 : decode cX8_means 63 = .ok (.iload 7, 2) := by decide +kernel
theorem dX8_means_65 : decode cX8_means 65 = .ok (.ifCond .eq 9, 3) := by decide +kernel
theorem dX8_means_68 : decode cX8_means 68 = .ok (.bipush (-10), 2) := by decide +kernel
theorem dX8_means_70 : decode cX8_means 70 = .ok (.iload 7, 2) := by decide +kernel
theorem dX8_means_72 : decode cX8_means 72 = .ok (.isub, 1) := by decide +kernel
theorem dX8_means_73 : decode cX8_means 73 = .ok (.ireturn, 1) := by decide +kernel
theorem dX8_means_74 : decode cX8_means 74 = .ok (.lconst 0, 1) := by decide +kernel
theorem dX8_means_75 : decode cX8_means 75 = .ok (.lstore 8, 2) := by decide +kernel
theorem dX8_means_77 : decode cX8_means 77 = .ok (.iconst 0, 1) := by decide +kernel
theorem dX8_means_78 : decode cX8_means 78 = .ok (.istore 10, 2) := by decide +kernel
theorem dX8_means_80 : decode cX8_means 80 = .ok (.iload 10, 2) := by decide +kernel
theorem dX8_means_82 : decode cX8_means 82 = .ok (.iload 6, 2) := by decide +kernel
theorem dX8_means_84 : decode cX8_means 84 = .ok (.if_icmp .ge 45, 3) := by decide +kernel
theorem dX8_means_87 : decode cX8_means 87 = .ok (.aload_n 0, 1) := by decide +kernel
theorem dX8_means_88 : decode cX8_means 88 = .ok (.getfield 28, 3) := by decide +kernel
theorem dX8_means_91 : decode cX8_means 91 = .ok (.iload_n 3, 1) := by decide +kernel
theorem dX8_means_92 : decode cX8_means 92 = .ok (.iload 5, 2) := by decide +kernel
theorem dX8_means_94 : decode cX8_means 94 = .ok (.iload 10, 2) := by decide +kernel
theorem dX8_means_96 : decode cX8_means 96 = .ok (.iadd, 1) := by decide +kernel
theorem dX8_means_97 : decode cX8_means 97 = .ok (.invokevirtual 171, 3) := by decide +kernel
theorem dX8_means_100 : decode cX8_means 100 = .ok (.istore 11, 2) := by decide +kernel
theorem dX8_means_102 : decode cX8_means 102 = .ok (.iload 11, 2) := by decide +kernel
theorem dX8_means_104 : decode cX8_means 104 = .ok (.invokestatic 174, 3) := by decide +kernel
theorem dX8_means_107 : decode cX8_means 107 = .ok (.ifCond .ne 5, 3) := by decide +kernel
theorem dX8_means_110 : decode cX8_means 110 = .ok (.iconst 0, 1) := by decide +kernel
theorem dX8_means_111 : decode cX8_means 111 = .ok (.ireturn, 1) := by decide +kernel
theorem dX8_means_112 : decode cX8_means 112 = .ok (.lload 8, 2) := by decide +kernel
theorem dX8_means_114 : decode cX8_means 114 = .ok (.iload 10, 2) := by decide +kernel
theorem dX8_means_116 : decode cX8_means 116 = .ok (.iload 11, 2) := by decide +kernel
theorem dX8_means_118 : decode cX8_means 118 = .ok (.invokestatic 177, 3) := by decide +kernel
theorem dX8_means_121 : decode cX8_means 121 = .ok (.lstore 8, 2) := by decide +kernel
theorem dX8_means_123 : decode cX8_means 123 = .ok (.iinc 10 1, 3) := by decide +kernel
theorem dX8_means_126 : decode cX8_means 126 = .ok (.goto (-46), 3) := by decide +kernel
theorem dX8_means_129 : decode cX8_means 129 = .ok (.aload_n 0, 1) := by decide +kernel
theorem dX8_means_130 : decode cX8_means 130 = .ok (.getfield 60, 3) := by decide +kernel
theorem dX8_means_133 : decode cX8_means 133 = .ok (.iload_n 1, 1) := by decide +kernel
theorem dX8_means_134 : decode cX8_means 134 = .ok (.iload_n 2, 1) := by decide +kernel
theorem dX8_means_135 : decode cX8_means 135 = .ok (.lload 8, 2) := by decide +kernel
theorem dX8_means_137 : decode cX8_means 137 = .ok (.invokevirtual 181, 3) := by decide +kernel
theorem dX8_means_140 : decode cX8_means 140 = .ok (.ireturn, 1) := by decide +kernel
set_option maxRecDepth 20000 in
theorem ggX8_both_X7_fits : GoodIn wsX8_both wsX7_fits := goodIn_r _ [6, 7, 8, 9, 10, 5, 11, 12, 13, 14, 15, 16, 17, 18, 19, 20, 41, 42, 43, 44, 45, 46, 47, 48, 49, 50] (by decide +kernel) (by decide +kernel)
set_option maxRecDepth 20000 in
theorem gX8_both_X7_fits : GoodIn wsX8_both (wsV RX8 185 RX7 yX7_fits wsX7_fits) := goodIn_app (goodIn_of _ (by decide +kernel)) ggX8_both_X7_fits
set_option maxRecDepth 20000 in
theorem ggX8_both_X8_isBlur : GoodIn wsX8_both wsX8_isBlur := goodIn_r _ [23] (by decide +kernel) (by decide +kernel)
set_option maxRecDepth 20000 in
theorem gX8_both_X8_isBlur : GoodIn wsX8_both (va_wsS RX8 139 yX8_isBlur wsX8_isBlur) := goodIn_app (goodIn_of _ (by decide +kernel)) ggX8_both_X8_isBlur
set_option maxRecDepth 20000 in
theorem ggX8_both_X7_heardAs : GoodIn wsX8_both wsX7_heardAs := goodIn_r _ [27, 7, 28, 29, 30, 5, 31, 32, 41, 42, 43, 44, 45, 46, 47, 48, 49, 50] (by decide +kernel) (by decide +kernel)
set_option maxRecDepth 20000 in
theorem gX8_both_X7_heardAs : GoodIn wsX8_both (wsV RX8 189 RX7 yX7_heardAs wsX7_heardAs) := goodIn_app (goodIn_of _ (by decide +kernel)) ggX8_both_X7_heardAs
theorem dX8_both_0 : decode cX8_both 0 = .ok (.aload_n 0, 1) := by decide +kernel
theorem dX8_both_1 : decode cX8_both 1 = .ok (.getfield 60, 3) := by decide +kernel
theorem dX8_both_4 : decode cX8_both 4 = .ok (.iload_n 1, 1) := by decide +kernel
theorem dX8_both_5 : decode cX8_both 5 = .ok (.iload_n 2, 1) := by decide +kernel
theorem dX8_both_6 : decode cX8_both 6 = .ok (.invokevirtual 185, 3) := by decide +kernel
theorem dX8_both_9 : decode cX8_both 9 = .ok (.ifCond .eq 18, 3) := by decide +kernel
theorem dX8_both_12 : decode cX8_both 12 = .ok (.iload_n 3, 1) := by decide +kernel
theorem dX8_both_13 : decode cX8_both 13 = .ok (.invokestatic 139, 3) := by decide +kernel
theorem dX8_both_16 : decode cX8_both 16 = .ok (.ifCond .eq 11, 3) := by decide +kernel
theorem dX8_both_19 : decode cX8_both 19 = .ok (.iload 4, 2) := by decide +kernel
theorem dX8_both_21 : decode cX8_both 21 = .ok (.invokestatic 139, 3) := by decide +kernel
theorem dX8_both_24 : decode cX8_both 24 = .ok (.ifCond .ne 5, 3) := by decide +kernel
theorem dX8_both_27 : decode cX8_both 27 = .ok (.iconst (-1), 1) := by decide +kernel
theorem dX8_both_28 : decode cX8_both 28 = .ok (.ireturn, 1) := by decide +kernel
theorem dX8_both_29 : decode cX8_both 29 = .ok (.aload_n 0, 1) := by decide +kernel
theorem dX8_both_30 : decode cX8_both 30 = .ok (.getfield 60, 3) := by decide +kernel
theorem dX8_both_33 : decode cX8_both 33 = .ok (.iload_n 1, 1) := by decide +kernel
theorem dX8_both_34 : decode cX8_both 34 = .ok (.iload_n 2, 1) := by decide +kernel
theorem dX8_both_35 : decode cX8_both 35 = .ok (.iload_n 3, 1) := by decide +kernel
theorem dX8_both_36 : decode cX8_both 36 = .ok (.invokevirtual 189, 3) := by decide +kernel
theorem dX8_both_39 : decode cX8_both 39 = .ok (.aload_n 0, 1) := by decide +kernel
theorem dX8_both_40 : decode cX8_both 40 = .ok (.getfield 60, 3) := by decide +kernel
theorem dX8_both_43 : decode cX8_both 43 = .ok (.iload_n 1, 1) := by decide +kernel
theorem dX8_both_44 : decode cX8_both 44 = .ok (.iload_n 2, 1) := by decide +kernel
theorem dX8_both_45 : decode cX8_both 45 = .ok (.iload 4, 2) := by decide +kernel
theorem dX8_both_47 : decode cX8_both 47 = .ok (.invokevirtual 189, 3) := by decide +kernel
theorem dX8_both_50 : decode cX8_both 50 = .ok (.iand, 1) := by decide +kernel
theorem dX8_both_51 : decode cX8_both 51 = .ok (.ireturn, 1) := by decide +kernel
set_option maxRecDepth 20000 in
theorem ggX8_sure_X7_fits : GoodIn wsX8_sure wsX7_fits := goodIn_r _ [6, 7, 8, 9, 10, 5, 11, 12, 13, 14, 15, 16, 17, 18, 19, 20, 49, 50, 51, 52, 53, 54, 55, 56, 57, 58] (by decide +kernel) (by decide +kernel)
set_option maxRecDepth 20000 in
theorem gX8_sure_X7_fits : GoodIn wsX8_sure (wsV RX8 185 RX7 yX7_fits wsX7_fits) := goodIn_app (goodIn_of _ (by decide +kernel)) ggX8_sure_X7_fits
set_option maxRecDepth 20000 in
theorem ggX8_sure_X7_isSure : GoodIn wsX8_sure wsX7_isSure := goodIn_r _ [24, 25, 26, 27, 5, 28, 7, 29, 30, 31, 32, 33, 34, 35, 36, 37, 38, 39, 40, 49, 50, 51, 52, 53, 54, 55, 56, 57, 58] (by decide +kernel) (by decide +kernel)
set_option maxRecDepth 20000 in
theorem gX8_sure_X7_isSure : GoodIn wsX8_sure (wsV RX8 193 RX7 yX7_isSure wsX7_isSure) := goodIn_app (goodIn_of _ (by decide +kernel)) ggX8_sure_X7_isSure
theorem dX8_sure_0 : decode cX8_sure 0 = .ok (.aload_n 0, 1) := by decide +kernel
theorem dX8_sure_1 : decode cX8_sure 1 = .ok (.getfield 60, 3) := by decide +kernel
theorem dX8_sure_4 : decode cX8_sure 4 = .ok (.iload_n 1, 1) := by decide +kernel
theorem dX8_sure_5 : decode cX8_sure 5 = .ok (.iload_n 2, 1) := by decide +kernel
theorem dX8_sure_6 : decode cX8_sure 6 = .ok (.invokevirtual 185, 3) := by decide +kernel
theorem dX8_sure_9 : decode cX8_sure 9 = .ok (.ifCond .ne 5, 3) := by decide +kernel
theorem dX8_sure_12 : decode cX8_sure 12 = .ok (.iconst (-1), 1) := by decide +kernel
theorem dX8_sure_13 : decode cX8_sure 13 = .ok (.ireturn, 1) := by decide +kernel
theorem dX8_sure_14 : decode cX8_sure 14 = .ok (.iconst 5, 1) := by decide +kernel
theorem dX8_sure_15 : decode cX8_sure 15 = .ok (.istore_n 3, 1) := by decide +kernel
theorem dX8_sure_16 : decode cX8_sure 16 = .ok (.iload_n 3, 1) := by decide +kernel
theorem dX8_sure_17 : decode cX8_sure 17 = .ok (.ifCond .lt 24, 3) := by decide +kernel
theorem dX8_sure_20 : decode cX8_sure 20 = .ok (.aload_n 0, 1) := by decide +kernel
theorem dX8_sure_21 : decode cX8_sure 21 = .ok (.getfield 60, 3) := by decide +kernel
theorem dX8_sure_24 : decode cX8_sure 24 = .ok (.iload_n 1, 1) := by decide +kernel
theorem dX8_sure_25 : decode cX8_sure 25 = .ok (.iload_n 2, 1) := by decide +kernel
theorem dX8_sure_26 : decode cX8_sure 26 = .ok (.iload_n 3, 1) := by decide +kernel
theorem dX8_sure_27 : decode cX8_sure 27 = .ok (.invokevirtual 193, 3) := by decide +kernel
theorem dX8_sure_30 : decode cX8_sure 30 = .ok (.ifCond .eq 5, 3) := by decide +kernel
theorem dX8_sure_33 : decode cX8_sure 33 = .ok (.iload_n 3, 1) := by decide +kernel
theorem dX8_sure_34 : decode cX8_sure 34 = .ok (.ireturn, 1) := by decide +kernel
theorem dX8_sure_35 : decode cX8_sure 35 = .ok (.iinc 3 (-1), 3) := by decide +kernel
theorem dX8_sure_38 : decode cX8_sure 38 = .ok (.goto (-22), 3) := by decide +kernel
theorem dX8_sure_41 : decode cX8_sure 41 = .ok (.bipush (-4), 2) := by decide +kernel
theorem dX8_sure_43 : decode cX8_sure 43 = .ok (.ireturn, 1) := by decide +kernel
set_option maxRecDepth 20000 in
theorem ggX8_place_X8_isMeasure : GoodIn wsX8_place wsX8_isMeasure := goodIn_r _ [6] (by decide +kernel) (by decide +kernel)
set_option maxRecDepth 20000 in
theorem gX8_place_X8_isMeasure : GoodIn wsX8_place (va_wsS RX8 196 yX8_isMeasure wsX8_isMeasure) := goodIn_app (goodIn_of _ (by decide +kernel)) ggX8_place_X8_isMeasure
set_option maxRecDepth 20000 in
theorem ggX8_place_X1_addPlace : GoodIn wsX8_place wsX1_addPlace := goodIn_r _ [11, 12, 13, 14, 15, 24, 25, 26, 27, 28, 29, 30, 31, 32, 33, 34, 35, 36] (by decide +kernel) (by decide +kernel)
set_option maxRecDepth 20000 in
theorem gX8_place_X1_addPlace : GoodIn wsX8_place (wsV RX8 199 RX1 yX1_addPlace wsX1_addPlace) := goodIn_app (goodIn_of _ (by decide +kernel)) ggX8_place_X1_addPlace
theorem dX8_place_0 : decode cX8_place 0 = .ok (.iload_n 1, 1) := by decide +kernel
theorem dX8_place_1 : decode cX8_place 1 = .ok (.invokestatic 196, 3) := by decide +kernel
theorem dX8_place_4 : decode cX8_place 4 = .ok (.ifCond .eq 17, 3) := by decide +kernel
theorem dX8_place_7 : decode cX8_place 7 = .ok (.iload_n 2, 1) := by decide +kernel
theorem dX8_place_8 : decode cX8_place 8 = .ok (.invokestatic 196, 3) := by decide +kernel
theorem dX8_place_11 : decode cX8_place 11 = .ok (.ifCond .eq 10, 3) := by decide +kernel
theorem dX8_place_14 : decode cX8_place 14 = .ok (.iload_n 3, 1) := by decide +kernel
theorem dX8_place_15 : decode cX8_place 15 = .ok (.invokestatic 196, 3) := by decide +kernel
theorem dX8_place_18 : decode cX8_place 18 = .ok (.ifCond .ne 5, 3) := by decide +kernel
theorem dX8_place_21 : decode cX8_place 21 = .ok (.iconst (-1), 1) := by decide +kernel
theorem dX8_place_22 : decode cX8_place 22 = .ok (.ireturn, 1) := by decide +kernel
theorem dX8_place_23 : decode cX8_place 23 = .ok (.aload_n 0, 1) := by decide +kernel
theorem dX8_place_24 : decode cX8_place 24 = .ok (.getfield 37, 3) := by decide +kernel
theorem dX8_place_27 : decode cX8_place 27 = .ok (.iload_n 1, 1) := by decide +kernel
theorem dX8_place_28 : decode cX8_place 28 = .ok (.iload_n 2, 1) := by decide +kernel
theorem dX8_place_29 : decode cX8_place 29 = .ok (.iload_n 3, 1) := by decide +kernel
theorem dX8_place_30 : decode cX8_place 30 = .ok (.invokevirtual 199, 3) := by decide +kernel
theorem dX8_place_33 : decode cX8_place 33 = .ok (.ifCond .eq 15, 3) := by decide +kernel
theorem dX8_place_36 : decode cX8_place 36 = .ok (.aload_n 0, 1) := by decide +kernel
theorem dX8_place_37 : decode cX8_place 37 = .ok (.getfield 37, 3) := by decide +kernel
theorem dX8_place_40 : decode cX8_place 40 = .ok (.getfield 202, 3) := by decide +kernel
theorem dX8_place_43 : decode cX8_place 43 = .ok (.iconst 1, 1) := by decide +kernel
theorem dX8_place_44 : decode cX8_place 44 = .ok (.isub, 1) := by decide +kernel
theorem dX8_place_45 : decode cX8_place 45 = .ok (.goto 5, 3) := by decide +kernel
theorem dX8_place_48 : decode cX8_place 48 = .ok (.bipush (-3), 2) := by decide +kernel
theorem dX8_place_50 : decode cX8_place 50 = .ok (.ireturn, 1) := by decide +kernel
set_option maxRecDepth 20000 in
theorem ggX8_ridge_X8_isMeasure : GoodIn wsX8_ridge wsX8_isMeasure := goodIn_r _ [6] (by decide +kernel) (by decide +kernel)
set_option maxRecDepth 20000 in
theorem gX8_ridge_X8_isMeasure : GoodIn wsX8_ridge (va_wsS RX8 196 yX8_isMeasure wsX8_isMeasure) := goodIn_app (goodIn_of _ (by decide +kernel)) ggX8_ridge_X8_isMeasure
set_option maxRecDepth 20000 in
theorem ggX8_ridge_X1_addRidge : GoodIn wsX8_ridge wsX1_addRidge := goodIn_r _ [11, 12, 13, 14, 23, 24, 25, 26, 27, 28, 29, 30, 31, 32, 33, 34, 35] (by decide +kernel) (by decide +kernel)
set_option maxRecDepth 20000 in
theorem gX8_ridge_X1_addRidge : GoodIn wsX8_ridge (wsV RX8 205 RX1 yX1_addRidge wsX1_addRidge) := goodIn_app (goodIn_of _ (by decide +kernel)) ggX8_ridge_X1_addRidge
theorem dX8_ridge_0 : decode cX8_ridge 0 = .ok (.iload_n 1, 1) := by decide +kernel
theorem dX8_ridge_1 : decode cX8_ridge 1 = .ok (.invokestatic 196, 3) := by decide +kernel
theorem dX8_ridge_4 : decode cX8_ridge 4 = .ok (.ifCond .eq 10, 3) := by decide +kernel
theorem dX8_ridge_7 : decode cX8_ridge 7 = .ok (.iload_n 2, 1) := by decide +kernel
theorem dX8_ridge_8 : decode cX8_ridge 8 = .ok (.invokestatic 196, 3) := by decide +kernel
theorem dX8_ridge_11 : decode cX8_ridge 11 = .ok (.ifCond .ne 5, 3) := by decide +kernel
theorem dX8_ridge_14 : decode cX8_ridge 14 = .ok (.iconst (-1), 1) := by decide +kernel
theorem dX8_ridge_15 : decode cX8_ridge 15 = .ok (.ireturn, 1) := by decide +kernel
theorem dX8_ridge_16 : decode cX8_ridge 16 = .ok (.aload_n 0, 1) := by decide +kernel
theorem dX8_ridge_17 : decode cX8_ridge 17 = .ok (.getfield 37, 3) := by decide +kernel
theorem dX8_ridge_20 : decode cX8_ridge 20 = .ok (.iload_n 1, 1) := by decide +kernel
theorem dX8_ridge_21 : decode cX8_ridge 21 = .ok (.iload_n 2, 1) := by decide +kernel
theorem dX8_ridge_22 : decode cX8_ridge 22 = .ok (.invokevirtual 205, 3) := by decide +kernel
theorem dX8_ridge_25 : decode cX8_ridge 25 = .ok (.ifCond .eq 13, 3) := by decide +kernel
theorem dX8_ridge_28 : decode cX8_ridge 28 = .ok (.aload_n 0, 1) := by decide +kernel
theorem dX8_ridge_29 : decode cX8_ridge 29 = .ok (.getfield 37, 3) := by decide +kernel
theorem dX8_ridge_32 : decode cX8_ridge 32 = .ok (.getfield 208, 3) := by decide +kernel
theorem dX8_ridge_35 : decode cX8_ridge 35 = .ok (.goto 5, 3) := by decide +kernel
theorem dX8_ridge_38 : decode cX8_ridge 38 = .ok (.bipush (-3), 2) := by decide +kernel
theorem dX8_ridge_40 : decode cX8_ridge 40 = .ok (.ireturn, 1) := by decide +kernel
set_option maxRecDepth 20000 in
theorem ggX8_sheet_X4_isSheet : GoodIn wsX8_sheet wsX4_isSheet := goodIn_r _ [5] (by decide +kernel) (by decide +kernel)
set_option maxRecDepth 20000 in
theorem gX8_sheet_X4_isSheet : GoodIn wsX8_sheet (va_wsS RX8 161 yX4_isSheet wsX4_isSheet) := goodIn_app (goodIn_of _ (by decide +kernel)) ggX8_sheet_X4_isSheet
set_option maxRecDepth 20000 in
theorem ggX8_sheet_X4_isLane : GoodIn wsX8_sheet wsX4_isLane := goodIn_r _ [8] (by decide +kernel) (by decide +kernel)
set_option maxRecDepth 20000 in
theorem gX8_sheet_X4_isLane : GoodIn wsX8_sheet (va_wsS RX8 164 yX4_isLane wsX4_isLane) := goodIn_app (goodIn_of _ (by decide +kernel)) ggX8_sheet_X4_isLane
set_option maxRecDepth 20000 in
theorem ggX8_sheet_X4_renew : GoodIn wsX8_sheet wsX4_renew := goodIn_r _ [12, 13, 14, 15, 24, 25, 26] (by decide +kernel) (by decide +kernel)
set_option maxRecDepth 20000 in
theorem gX8_sheet_X4_renew : GoodIn wsX8_sheet (wsV RX8 211 RX4 yX4_renew wsX4_renew) := goodIn_app (goodIn_of _ (by decide +kernel)) ggX8_sheet_X4_renew
theorem dX8_sheet_0 : decode cX8_sheet 0 = .ok (.iload_n 1, 1) := by decide +kernel
theorem dX8_sheet_1 : decode cX8_sheet 1 = .ok (.invokestatic 161, 3) := by decide +kernel
theorem dX8_sheet_4 : decode cX8_sheet 4 = .ok (.ifCond .eq 16, 3) := by decide +kernel
theorem dX8_sheet_7 : decode cX8_sheet 7 = .ok (.iload_n 2, 1) := by decide +kernel
theorem dX8_sheet_8 : decode cX8_sheet 8 = .ok (.invokestatic 164, 3) := by decide +kernel
theorem dX8_sheet_11 : decode cX8_sheet 11 = .ok (.ifCond .eq 9, 3) := by decide +kernel
theorem dX8_sheet_14 : decode cX8_sheet 14 = .ok (.iload_n 3, 1) := by decide +kernel
theorem dX8_sheet_15 : decode cX8_sheet 15 = .ok (.bipush 60, 2) := by decide +kernel
theorem dX8_sheet_17 : decode cX8_sheet 17 = .ok (.if_icmp .le 5, 3) := by decide +kernel
theorem dX8_sheet_20 : decode cX8_sheet 20 = .ok (.iconst (-1), 1) := by decide +kernel
theorem dX8_sheet_21 : decode cX8_sheet 21 = .ok (.ireturn, 1) := by decide +kernel
theorem dX8_sheet_22 : decode cX8_sheet 22 = .ok (.iload_n 3, 1) := by decide +kernel
theorem dX8_sheet_23 : decode cX8_sheet 23 = .ok (.ifCond .ge 6, 3) := by decide +kernel
theorem dX8_sheet_26 : decode cX8_sheet 26 = .ok (.bipush (-14), 2) := by decide +kernel
theorem dX8_sheet_28 : decode cX8_sheet 28 = .ok (.ireturn, 1) := by decide +kernel
theorem dX8_sheet_29 : decode cX8_sheet 29 = .ok (.aload_n 0, 1) := by decide +kernel
theorem dX8_sheet_30 : decode cX8_sheet 30 = .ok (.getfield 28, 3) := by decide +kernel
theorem dX8_sheet_33 : decode cX8_sheet 33 = .ok (.iload_n 1, 1) := by decide +kernel
theorem dX8_sheet_34 : decode cX8_sheet 34 = .ok (.iload_n 2, 1) := by decide +kernel
theorem dX8_sheet_35 : decode cX8_sheet 35 = .ok (.iload_n 3, 1) := by decide +kernel
theorem dX8_sheet_36 : decode cX8_sheet 36 = .ok (.invokevirtual 211, 3) := by decide +kernel
theorem dX8_sheet_39 : decode cX8_sheet 39 = .ok (.iconst 1, 1) := by decide +kernel
theorem dX8_sheet_40 : decode cX8_sheet 40 = .ok (.ireturn, 1) := by decide +kernel
set_option maxRecDepth 20000 in
theorem ggX8_lay_X4_isSheet : GoodIn wsX8_lay wsX4_isSheet := goodIn_r _ [6] (by decide +kernel) (by decide +kernel)
set_option maxRecDepth 20000 in
theorem gX8_lay_X4_isSheet : GoodIn wsX8_lay (va_wsS RX8 161 yX4_isSheet wsX4_isSheet) := goodIn_app (goodIn_of _ (by decide +kernel)) ggX8_lay_X4_isSheet
set_option maxRecDepth 20000 in
theorem ggX8_lay_X4_faultOfRow : GoodIn wsX8_lay wsX4_faultOfRow := goodIn_r _ [10, 11, 12, 26, 27, 28] (by decide +kernel) (by decide +kernel)
set_option maxRecDepth 20000 in
theorem gX8_lay_X4_faultOfRow : GoodIn wsX8_lay (wsV RX8 167 RX4 yX4_faultOfRow wsX4_faultOfRow) := goodIn_app (goodIn_of _ (by decide +kernel)) ggX8_lay_X4_faultOfRow
set_option maxRecDepth 20000 in
theorem ggX8_lay_X4_put : GoodIn wsX8_lay wsX4_put := goodIn_r _ [16, 12, 17, 26, 27, 28] (by decide +kernel) (by decide +kernel)
set_option maxRecDepth 20000 in
theorem gX8_lay_X4_put : GoodIn wsX8_lay (wsV RX8 218 RX4 yX4_put wsX4_put) := goodIn_app (goodIn_of _ (by decide +kernel)) ggX8_lay_X4_put
theorem dX8_lay_0 : decode cX8_lay 0 = .ok (.iload_n 1, 1) := by decide +kernel
theorem dX8_lay_1 : decode cX8_lay 1 = .ok (.invokestatic 161, 3) := by decide +kernel
theorem dX8_lay_4 : decode cX8_lay 4 = .ok (.ifCond .ne 5, 3) := by decide +kernel
theorem dX8_lay_7 : decode cX8_lay 7 = .ok (.iconst (-1), 1) := by decide +kernel
theorem dX8_lay_8 : decode cX8_lay 8 = .ok (.ireturn, 1) := by decide +kernel
theorem dX8_lay_9 : decode cX8_lay 9 = .ok (.aload_n 0, 1) := by decide +kernel
theorem dX8_lay_10 : decode cX8_lay 10 = .ok (.getfield 28, 3) := by decide +kernel
theorem dX8_lay_13 : decode cX8_lay 13 = .ok (.iload_n 1, 1) := by decide +kernel
theorem dX8_lay_14 : decode cX8_lay 14 = .ok (.aload_n 0, 1) := by decide +kernel
theorem dX8_lay_15 : decode cX8_lay 15 = .ok (.getfield 28, 3) := by decide +kernel
theorem dX8_lay_18 : decode cX8_lay 18 = .ok (.getfield 215, 3) := by decide +kernel
theorem dX8_lay_21 : decode cX8_lay 21 = .ok (.iload_n 1, 1) := by decide +kernel
theorem dX8_lay_22 : decode cX8_lay 22 = .ok (.iaload, 1) := by decide +kernel
theorem dX8_lay_23 : decode cX8_lay 23 = .ok (.iload_n 2, 1) := by decide +kernel
theorem dX8_lay_24 : decode cX8_lay 24 = .ok (.iconst 1, 1) := by decide +kernel
theorem dX8_lay_25 : decode cX8_lay 25 = .ok (.invokevirtual 167, 3) := by decide +kernel
theorem dX8_lay_28 : decode cX8_lay 28 = .ok (.istore 4, 2) := by decide +kernel
theorem dX8_lay_30 : decode cX8_lay 30 = .ok (.iload 4, 2) := by decide +kernel
theorem dX8_lay_32 : decode cX8_lay 32 = .ok (.ifCond .eq 9, 3) := by decide +kernel
theorem dX8_lay_35 : decode cX8_lay 35 = .ok (.bipush (-10), 2) := by decide +kernel
theorem dX8_lay_37 : decode cX8_lay 37 = .ok (.iload 4, 2) := by decide +kernel
theorem dX8_lay_39 : decode cX8_lay 39 = .ok (.isub, 1) := by decide +kernel
theorem dX8_lay_40 : decode cX8_lay 40 = .ok (.ireturn, 1) := by decide +kernel
theorem dX8_lay_41 : decode cX8_lay 41 = .ok (.aload_n 0, 1) := by decide +kernel
theorem dX8_lay_42 : decode cX8_lay 42 = .ok (.getfield 28, 3) := by decide +kernel
theorem dX8_lay_45 : decode cX8_lay 45 = .ok (.iload_n 1, 1) := by decide +kernel
theorem dX8_lay_46 : decode cX8_lay 46 = .ok (.iload_n 2, 1) := by decide +kernel
theorem dX8_lay_47 : decode cX8_lay 47 = .ok (.iload_n 3, 1) := by decide +kernel
theorem dX8_lay_48 : decode cX8_lay 48 = .ok (.invokevirtual 218, 3) := by decide +kernel
theorem dX8_lay_51 : decode cX8_lay 51 = .ok (.iconst 1, 1) := by decide +kernel
theorem dX8_lay_52 : decode cX8_lay 52 = .ok (.ireturn, 1) := by decide +kernel
set_option maxRecDepth 20000 in
theorem ggX8_wind_X8_isHour : GoodIn wsX8_wind wsX8_isHour := goodIn_r _ [5] (by decide +kernel) (by decide +kernel)
set_option maxRecDepth 20000 in
theorem gX8_wind_X8_isHour : GoodIn wsX8_wind (va_wsS RX8 221 yX8_isHour wsX8_isHour) := goodIn_app (goodIn_of _ (by decide +kernel)) ggX8_wind_X8_isHour
set_option maxRecDepth 20000 in
theorem ggX8_wind_X4_windAt : GoodIn wsX8_wind wsX4_windAt := goodIn_r _ [10, 11, 12, 13, 14, 15, 16, 17, 18, 19, 20, 9, 21, 22, 23, 24, 25, 26, 27, 28, 41, 42, 43] (by decide +kernel) (by decide +kernel)
set_option maxRecDepth 20000 in
theorem gX8_wind_X4_windAt : GoodIn wsX8_wind (wsV RX8 224 RX4 yX4_windAt wsX4_windAt) := goodIn_app (goodIn_of _ (by decide +kernel)) ggX8_wind_X4_windAt
set_option maxRecDepth 20000 in
theorem ggX8_wind_X4_faultOfWind : GoodIn wsX8_wind wsX4_faultOfWind := goodIn_r _ [32, 18, 19, 20, 9, 21, 22, 23, 41, 42, 43] (by decide +kernel) (by decide +kernel)
set_option maxRecDepth 20000 in
theorem gX8_wind_X4_faultOfWind : GoodIn wsX8_wind (wsV RX8 227 RX4 yX4_faultOfWind wsX4_faultOfWind) := goodIn_app (goodIn_of _ (by decide +kernel)) ggX8_wind_X4_faultOfWind
theorem dX8_wind_0 : decode cX8_wind 0 = .ok (.iload_n 1, 1) := by decide +kernel
theorem dX8_wind_1 : decode cX8_wind 1 = .ok (.invokestatic 221, 3) := by decide +kernel
theorem dX8_wind_4 : decode cX8_wind 4 = .ok (.ifCond .eq 12, 3) := by decide +kernel
theorem dX8_wind_7 : decode cX8_wind 7 = .ok (.iload_n 2, 1) := by decide +kernel
theorem dX8_wind_8 : decode cX8_wind 8 = .ok (.ifCond .lt 8, 3) := by decide +kernel
theorem dX8_wind_11 : decode cX8_wind 11 = .ok (.iload_n 2, 1) := by decide +kernel
theorem dX8_wind_12 : decode cX8_wind 12 = .ok (.iconst 1, 1) := by decide +kernel
theorem dX8_wind_13 : decode cX8_wind 13 = .ok (.if_icmp .le 6, 3) := by decide +kernel
theorem dX8_wind_16 : decode cX8_wind 16 = .ok (.bipush (-10), 2) := by decide +kernel
theorem dX8_wind_18 : decode cX8_wind 18 = .ok (.ireturn, 1) := by decide +kernel
theorem dX8_wind_19 : decode cX8_wind 19 = .ok (.iload_n 2, 1) := by decide +kernel
theorem dX8_wind_20 : decode cX8_wind 20 = .ok (.ifCond .ne 14, 3) := by decide +kernel
theorem dX8_wind_23 : decode cX8_wind 23 = .ok (.aload_n 0, 1) := by decide +kernel
theorem dX8_wind_24 : decode cX8_wind 24 = .ok (.getfield 28, 3) := by decide +kernel
theorem dX8_wind_27 : decode cX8_wind 27 = .ok (.iload_n 1, 1) := by decide +kernel
theorem dX8_wind_28 : decode cX8_wind 28 = .ok (.invokevirtual 224, 3) := by decide +kernel
theorem dX8_wind_31 : decode cX8_wind 31 = .ok (.goto 11, 3) := by decide +kernel
theorem dX8_wind_34 : decode cX8_wind 34 = .ok (.aload_n 0, 1) := by decide +kernel
theorem dX8_wind_35 : decode cX8_wind 35 = .ok (.getfield 28, 3) := by decide +kernel
theorem dX8_wind_38 : decode cX8_wind 38 = .ok (.iload_n 1, 1) := by decide +kernel
theorem dX8_wind_39 : decode cX8_wind 39 = .ok (.invokevirtual 227, 3) := by decide +kernel
theorem dX8_wind_42 : decode cX8_wind 42 = .ok (.ireturn, 1) := by decide +kernel
set_option maxRecDepth 20000 in
theorem ggX8_blur_X1_isPlace : GoodIn wsX8_blur wsX1_isPlace := goodIn_r _ [6, 7, 67, 68, 69, 70, 71, 72, 73, 74, 75, 76, 77, 78, 79] (by decide +kernel) (by decide +kernel)
set_option maxRecDepth 20000 in
theorem gX8_blur_X1_isPlace : GoodIn wsX8_blur (wsV RX8 230 RX1 yX1_isPlace wsX1_isPlace) := goodIn_app (goodIn_of _ (by decide +kernel)) ggX8_blur_X1_isPlace
set_option maxRecDepth 20000 in
theorem ggX8_blur_X8_isHour : GoodIn wsX8_blur wsX8_isHour := goodIn_r _ [11] (by decide +kernel) (by decide +kernel)
set_option maxRecDepth 20000 in
theorem gX8_blur_X8_isHour : GoodIn wsX8_blur (va_wsS RX8 221 yX8_isHour wsX8_isHour) := goodIn_app (goodIn_of _ (by decide +kernel)) ggX8_blur_X8_isHour
set_option maxRecDepth 20000 in
theorem ggX8_blur_X1_blurFrom : GoodIn wsX8_blur wsX1_blurFrom := goodIn_r _ [15, 16, 17, 18, 19, 20, 21, 22, 23, 24, 25, 26, 27, 28, 29, 30, 31, 32, 33, 34, 35, 36, 37, 38, 39, 40, 41, 42, 43, 44, 45, 46, 47, 48, 49, 50, 51, 52, 5, 53, 54, 55, 56, 57, 58, 67, 68, 69, 70, 71, 72, 73, 74, 75, 76, 77, 78, 79, 80, 81, 82] (by decide +kernel) (by decide +kernel)
set_option maxRecDepth 20000 in
theorem gX8_blur_X1_blurFrom : GoodIn wsX8_blur (wsV RX8 233 RX1 yX1_blurFrom wsX1_blurFrom) := goodIn_app (goodIn_of _ (by decide +kernel)) ggX8_blur_X1_blurFrom
theorem dX8_blur_0 : decode cX8_blur 0 = .ok (.aload_n 0, 1) := by decide +kernel
theorem dX8_blur_1 : decode cX8_blur 1 = .ok (.getfield 37, 3) := by decide +kernel
theorem dX8_blur_4 : decode cX8_blur 4 = .ok (.iload_n 1, 1) := by decide +kernel
theorem dX8_blur_5 : decode cX8_blur 5 = .ok (.invokevirtual 230, 3) := by decide +kernel
theorem dX8_blur_8 : decode cX8_blur 8 = .ok (.ifCond .eq 21, 3) := by decide +kernel
theorem dX8_blur_11 : decode cX8_blur 11 = .ok (.aload_n 0, 1) := by decide +kernel
theorem dX8_blur_12 : decode cX8_blur 12 = .ok (.getfield 37, 3) := by decide +kernel
theorem dX8_blur_15 : decode cX8_blur 15 = .ok (.iload_n 2, 1) := by decide +kernel
theorem dX8_blur_16 : decode cX8_blur 16 = .ok (.invokevirtual 230, 3) := by decide +kernel
theorem dX8_blur_19 : decode cX8_blur 19 = .ok (.ifCond .eq 10, 3) := by decide +kernel
theorem dX8_blur_22 : decode cX8_blur 22 = .ok (.iload_n 3, 1) := by decide +kernel
theorem dX8_blur_23 : decode cX8_blur 23 = .ok (.invokestatic 221, 3) := by decide +kernel
theorem dX8_blur_26 : decode cX8_blur 26 = .ok (.ifCond .ne 5, 3) := by decide +kernel
theorem dX8_blur_29 : decode cX8_blur 29 = .ok (.iconst (-1), 1) := by decide +kernel
theorem dX8_blur_30 : decode cX8_blur 30 = .ok (.ireturn, 1) := by decide +kernel
theorem dX8_blur_31 : decode cX8_blur 31 = .ok (.aload_n 0, 1) := by decide +kernel
theorem dX8_blur_32 : decode cX8_blur 32 = .ok (.getfield 37, 3) := by decide +kernel
theorem dX8_blur_35 : decode cX8_blur 35 = .ok (.iload_n 1, 1) := by decide +kernel
theorem dX8_blur_36 : decode cX8_blur 36 = .ok (.iload_n 2, 1) := by decide +kernel
theorem dX8_blur_37 : decode cX8_blur 37 = .ok (.iload_n 3, 1) := by decide +kernel
theorem dX8_blur_38 : decode cX8_blur 38 = .ok (.invokevirtual 233, 3) := by decide +kernel
theorem dX8_blur_41 : decode cX8_blur 41 = .ok (.ireturn, 1) := by decide +kernel
set_option maxRecDepth 20000 in
theorem ggX8_hears_X1_isPlace : GoodIn wsX8_hears wsX1_isPlace := goodIn_r _ [6, 7, 81, 82, 83, 84, 85, 86, 87, 88, 89, 90, 91, 92, 93] (by decide +kernel) (by decide +kernel)
set_option maxRecDepth 20000 in
theorem gX8_hears_X1_isPlace : GoodIn wsX8_hears (wsV RX8 230 RX1 yX1_isPlace wsX1_isPlace) := goodIn_app (goodIn_of _ (by decide +kernel)) ggX8_hears_X1_isPlace
set_option maxRecDepth 20000 in
theorem ggX8_hears_X8_isHour : GoodIn wsX8_hears wsX8_isHour := goodIn_r _ [11] (by decide +kernel) (by decide +kernel)
set_option maxRecDepth 20000 in
theorem gX8_hears_X8_isHour : GoodIn wsX8_hears (va_wsS RX8 221 yX8_isHour wsX8_isHour) := goodIn_app (goodIn_of _ (by decide +kernel)) ggX8_hears_X8_isHour
set_option maxRecDepth 20000 in
theorem ggX8_hears_X1_hearersOf : GoodIn wsX8_hears wsX1_hearersOf := goodIn_r _ [15, 7, 16, 17, 18, 5, 19, 20, 21, 22, 23, 24, 25, 26, 27, 28, 29, 30, 31, 32, 33, 34, 35, 36, 37, 38, 39, 40, 41, 42, 43, 44, 45, 46, 47, 48, 49, 50, 51, 52, 53, 54, 55, 56, 57, 58, 59, 60, 61, 62, 81, 82, 83, 84, 85, 86, 87, 88, 89, 90, 91, 92, 93, 94, 95, 96] (by decide +kernel) (by decide +kernel)
set_option maxRecDepth 20000 in
theorem gX8_hears_X1_hearersOf : GoodIn wsX8_hears (wsV RX8 236 RX1 yX1_hearersOf wsX1_hearersOf) := goodIn_app (goodIn_of _ (by decide +kernel)) ggX8_hears_X1_hearersOf
set_option maxRecDepth 20000 in
theorem ggX8_hears_J6_bitCount_0f7a4 : GoodIn wsX8_hears wsJ6_bitCount_0f7a4 := goodIn_r _ [65, 66, 67, 68] (by decide +kernel) (by decide +kernel)
set_option maxRecDepth 20000 in
theorem gX8_hears_J6_bitCount_0f7a4 : GoodIn wsX8_hears (va_wsS RX8 134 yJ6_bitCount_0f7a4 wsJ6_bitCount_0f7a4) := goodIn_app (goodIn_of _ (by decide +kernel)) ggX8_hears_J6_bitCount_0f7a4
set_option maxRecDepth 20000 in
theorem ggX8_hears_X1_heardFrom : GoodIn wsX8_hears wsX1_heardFrom := goodIn_r _ [72, 7, 16, 17, 18, 5, 19, 20, 21, 22, 23, 24, 25, 26, 27, 28, 29, 30, 31, 32, 33, 34, 35, 36, 37, 38, 39, 40, 41, 42, 43, 44, 45, 46, 47, 48, 49, 50, 51, 52, 53, 54, 55, 56, 57, 58, 59, 60, 61, 62, 81, 82, 83, 84, 85, 86, 87, 88, 89, 90, 91, 92, 93, 94, 95, 96] (by decide +kernel) (by decide +kernel)
set_option maxRecDepth 20000 in
theorem gX8_hears_X1_heardFrom : GoodIn wsX8_hears (wsV RX8 239 RX1 yX1_heardFrom wsX1_heardFrom) := goodIn_app (goodIn_of _ (by decide +kernel)) ggX8_hears_X1_heardFrom
theorem dX8_hears_0 : decode cX8_hears 0 = .ok (.aload_n 0, 1) := by decide +kernel
theorem dX8_hears_1 : decode cX8_hears 1 = .ok (.getfield 37, 3) := by decide +kernel
theorem dX8_hears_4 : decode cX8_hears 4 = .ok (.iload_n 1, 1) := by decide +kernel
theorem dX8_hears_5 : decode cX8_hears 5 = .ok (.invokevirtual 230, 3) := by decide +kernel
theorem dX8_hears_8 : decode cX8_hears 8 = .ok (.ifCond .eq 10, 3) := by decide +kernel
theorem dX8_hears_11 : decode cX8_hears 11 = .ok (.iload_n 2, 1) := by decide +kernel
theorem dX8_hears_12 : decode cX8_hears 12 = .ok (.invokestatic 221, 3) := by decide +kernel
theorem dX8_hears_15 : decode cX8_hears 15 = .ok (.ifCond .ne 5, 3) := by decide +kernel
theorem dX8_hears_18 : decode cX8_hears 18 = .ok (.iconst (-1), 1) := by decide +kernel
theorem dX8_hears_19 : decode cX8_hears 19 = .ok (.ireturn, 1) := by decide +kernel
theorem dX8_hears_20 : decode cX8_hears 20 = .ok (.iload_n 3, 1) := by decide +kernel
theorem dX8_hears_21 : decode cX8_hears 21 = .ok (.tableswitch 63 0 2 #[27, 40, 53], 27) := by decide +kernel
theorem dX8_hears_48 : decode cX8_hears 48 = .ok (.aload_n 0, 1) := by decide +kernel
theorem dX8_hears_49 : decode cX8_hears 49 = .ok (.getfield 37, 3) := by decide +kernel
theorem dX8_hears_52 : decode cX8_hears 52 = .ok (.iload_n 1, 1) := by decide +kernel
theorem dX8_hears_53 : decode cX8_hears 53 = .ok (.iload_n 2, 1) := by decide +kernel
theorem dX8_hears_54 : decode cX8_hears 54 = .ok (.invokevirtual 236, 3) := by decide +kernel
theorem dX8_hears_57 : decode cX8_hears 57 = .ok (.invokestatic 134, 3) := by decide +kernel
theorem dX8_hears_60 : decode cX8_hears 60 = .ok (.ireturn, 1) := by decide +kernel
theorem dX8_hears_61 : decode cX8_hears 61 = .ok (.aload_n 0, 1) := by decide +kernel
theorem dX8_hears_62 : decode cX8_hears 62 = .ok (.getfield 37, 3) := by decide +kernel
theorem dX8_hears_65 : decode cX8_hears 65 = .ok (.iload_n 1, 1) := by decide +kernel
theorem dX8_hears_66 : decode cX8_hears 66 = .ok (.iload_n 2, 1) := by decide +kernel
theorem dX8_hears_67 : decode cX8_hears 67 = .ok (.invokevirtual 239, 3) := by decide +kernel
theorem dX8_hears_70 : decode cX8_hears 70 = .ok (.invokestatic 134, 3) := by decide +kernel
theorem dX8_hears_73 : decode cX8_hears 73 = .ok (.ireturn, 1) := by decide +kernel
theorem dX8_hears_74 : decode cX8_hears 74 = .ok (.aload_n 0, 1) := by decide +kernel
theorem dX8_hears_75 : decode cX8_hears 75 = .ok (.getfield 37, 3) := by decide +kernel
theorem dX8_hears_78 : decode cX8_hears 78 = .ok (.iload_n 1, 1) := by decide +kernel
theorem dX8_hears_79 : decode cX8_hears 79 = .ok (.iload_n 2, 1) := by decide +kernel
theorem dX8_hears_80 : decode cX8_hears 80 = .ok (.invokevirtual 236, 3) := by decide +kernel
theorem dX8_hears_83 : decode cX8_hears 83 = .ok (.ireturn, 1) := by decide +kernel
theorem dX8_hears_84 : decode cX8_hears 84 = .ok (.iconst (-1), 1) := by decide +kernel
theorem dX8_hears_85 : decode cX8_hears 85 = .ok (.ireturn, 1) := by decide +kernel
set_option maxRecDepth 20000 in
theorem ggX8_way_X1_isPlace : GoodIn wsX8_way wsX1_isPlace := goodIn_r _ [9, 10, 99, 100, 101, 102, 103, 104, 105, 106, 107, 108, 109, 110, 111] (by decide +kernel) (by decide +kernel)
set_option maxRecDepth 20000 in
theorem gX8_way_X1_isPlace : GoodIn wsX8_way (wsV RX8 230 RX1 yX1_isPlace wsX1_isPlace) := goodIn_app (goodIn_of _ (by decide +kernel)) ggX8_way_X1_isPlace
set_option maxRecDepth 20000 in
theorem ggX8_way_X8_isHour : GoodIn wsX8_way wsX8_isHour := goodIn_r _ [14] (by decide +kernel) (by decide +kernel)
set_option maxRecDepth 20000 in
theorem gX8_way_X8_isHour : GoodIn wsX8_way (va_wsS RX8 221 yX8_isHour wsX8_isHour) := goodIn_app (goodIn_of _ (by decide +kernel)) ggX8_way_X8_isHour
set_option maxRecDepth 20000 in
theorem ggX8_way_X1_findWay : GoodIn wsX8_way wsX1_findWay := goodIn_r _ [18, 19, 20, 21, 22, 23, 8, 24, 10, 25, 26, 27, 28, 29, 30, 31, 32, 33, 34, 35, 36, 37, 38, 39, 40, 41, 42, 43, 44, 45, 46, 47, 48, 49, 50, 51, 52, 53, 54, 55, 56, 57, 58, 59, 60, 61, 62, 63, 64, 65, 66, 67, 68, 69, 70, 71, 72, 73, 74, 75, 76, 77, 78, 79, 80, 81, 82, 83, 84, 85, 86, 87, 88, 89, 90, 99, 100, 101, 102, 103, 104, 105, 106, 107, 108, 109, 110, 111, 112, 113, 114] (by decide +kernel) (by decide +kernel)
set_option maxRecDepth 20000 in
theorem gX8_way_X1_findWay : GoodIn wsX8_way (wsV RX8 242 RX1 yX1_findWay wsX1_findWay) := goodIn_app (goodIn_of _ (by decide +kernel)) ggX8_way_X1_findWay
theorem dX8_way_0 : decode cX8_way 0 = .ok (.aload_n 0, 1) := by decide +kernel
theorem dX8_way_1 : decode cX8_way 1 = .ok (.getfield 37, 3) := by decide +kernel
theorem dX8_way_4 : decode cX8_way 4 = .ok (.iload_n 1, 1) := by decide +kernel
theorem dX8_way_5 : decode cX8_way 5 = .ok (.invokevirtual 230, 3) := by decide +kernel
theorem dX8_way_8 : decode cX8_way 8 = .ok (.ifCond .eq 26, 3) := by decide +kernel
theorem dX8_way_11 : decode cX8_way 11 = .ok (.aload_n 0, 1) := by decide +kernel
theorem dX8_way_12 : decode cX8_way 12 = .ok (.getfield 37, 3) := by decide +kernel
theorem dX8_way_15 : decode cX8_way 15 = .ok (.iload_n 2, 1) := by decide +kernel
theorem dX8_way_16 : decode cX8_way 16 = .ok (.invokevirtual 230, 3) := by decide +kernel
theorem dX8_way_19 : decode cX8_way 19 = .ok (.ifCond .eq 15, 3) := by decide +kernel
theorem dX8_way_22 : decode cX8_way 22 = .ok (.iload_n 1, 1) := by decide +kernel
theorem dX8_way_23 : decode cX8_way 23 = .ok (.iload_n 2, 1) := by decide +kernel
theorem dX8_way_24 : decode cX8_way 24 = .ok (.if_icmp .eq 10, 3) := by decide +kernel
theorem dX8_way_27 : decode cX8_way 27 = .ok (.iload_n 3, 1) := by decide +kernel
theorem dX8_way_28 : decode cX8_way 28 = .ok (.invokestatic 221, 3) := by decide +kernel
theorem dX8_way_31 : decode cX8_way 31 = .ok (.ifCond .ne 5, 3) := by decide +kernel
theorem dX8_way_34 : decode cX8_way 34 = .ok (.iconst (-1), 1) := by decide +kernel
theorem dX8_way_35 : decode cX8_way 35 = .ok (.ireturn, 1) := by decide +kernel
theorem dX8_way_36 : decode cX8_way 36 = .ok (.iload 4, 2) := by decide +kernel
theorem dX8_way_38 : decode cX8_way 38 = .ok (.ifCond .lt 16, 3) := by decide +kernel
theorem dX8_way_41 : decode cX8_way 41 = .ok (.iload 4, 2) := by decide +kernel
theorem dX8_way_43 : decode cX8_way 43 = .ok (.iconst 1, 1) := by decide +kernel
theorem dX8_way_44 : decode cX8_way 44 = .ok (.if_icmp .le 12, 3) := by decide +kernel
theorem dX8_way_47 : decode cX8_way 47 = .ok (.iload 4, 2) := by decide +kernel
theorem dX8_way_49 : decode cX8_way 49 = .ok (.bipush 10, 2) := by decide +kernel
theorem dX8_way_51 : decode cX8_way 51 = .ok (.if_icmp .ge 5, 3) := by decide +kernel
theorem dX8_way_54 : decode cX8_way 54 = .ok (.iconst (-1), 1) := by decide +kernel
theorem dX8_way_55 : decode cX8_way 55 = .ok (.ireturn, 1) := by decide +kernel
theorem dX8_way_56 : decode cX8_way 56 = .ok (.aload_n 0, 1) := by decide +kernel
theorem dX8_way_57 : decode cX8_way 57 = .ok (.getfield 37, 3) := by decide +kernel
theorem dX8_way_60 : decode cX8_way 60 = .ok (.iload_n 1, 1) := by decide +kernel
theorem dX8_way_61 : decode cX8_way 61 = .ok (.iload_n 2, 1) := by decide +kernel
theorem dX8_way_62 : decode cX8_way 62 = .ok (.iload_n 3, 1) := by decide +kernel
theorem dX8_way_63 : decode cX8_way 63 = .ok (.invokevirtual 242, 3) := by decide +kernel
theorem dX8_way_66 : decode cX8_way 66 = .ok (.ifCond .ne 6, 3) := by decide +kernel
theorem dX8_way_69 : decode cX8_way 69 = .ok (.bipush (-4), 2) := by decide +kernel
theorem dX8_way_71 : decode cX8_way 71 = .ok (.ireturn, 1) := by decide +kernel
theorem dX8_way_72 : decode cX8_way 72 = .ok (.iload 4, 2) := by decide +kernel
theorem dX8_way_74 : decode cX8_way 74 = .ok (.ifCond .ne 11, 3) := by decide +kernel
theorem dX8_way_77 : decode cX8_way 77 = .ok (.aload_n 0, 1) := by decide +kernel
theorem dX8_way_78 : decode cX8_way 78 = .ok (.getfield 37, 3) := by decide +kernel
theorem dX8_way_81 : decode cX8_way 81 = .ok (.getfield 245, 3) := by decide +kernel
theorem dX8_way_84 : decode cX8_way 84 = .ok (.ireturn, 1) := by decide +kernel
theorem dX8_way_85 : decode cX8_way 85 = .ok (.iload 4, 2) := by decide +kernel
theorem dX8_way_87 : decode cX8_way 87 = .ok (.iconst 1, 1) := by decide +kernel
theorem dX8_way_88 : decode cX8_way 88 = .ok (.if_icmp .ne 11, 3) := by decide +kernel
theorem dX8_way_91 : decode cX8_way 91 = .ok (.aload_n 0, 1) := by decide +kernel
theorem dX8_way_92 : decode cX8_way 92 = .ok (.getfield 37, 3) := by decide +kernel
theorem dX8_way_95 : decode cX8_way 95 = .ok (.getfield 248, 3) := by decide +kernel
theorem dX8_way_98 : decode cX8_way 98 = .ok (.ireturn, 1) := by decide +kernel
theorem dX8_way_99 : decode cX8_way 99 = .ok (.iload 4, 2) := by decide +kernel
theorem dX8_way_101 : decode cX8_way 101 = .ok (.bipush 10, 2) := by decide +kernel
theorem dX8_way_103 : decode cX8_way 103 = .ok (.isub, 1) := by decide +kernel
theorem dX8_way_104 : decode cX8_way 104 = .ok (.aload_n 0, 1) := by decide +kernel
theorem dX8_way_105 : decode cX8_way 105 = .ok (.getfield 37, 3) := by decide +kernel
theorem dX8_way_108 : decode cX8_way 108 = .ok (.getfield 248, 3) := by decide +kernel
theorem dX8_way_111 : decode cX8_way 111 = .ok (.if_icmp .ge 19, 3) := by decide +kernel
theorem dX8_way_114 : decode cX8_way 114 = .ok (.aload_n 0, 1) := by decide +kernel
theorem dX8_way_115 : decode cX8_way 115 = .ok (.getfield 37, 3) := by decide +kernel
theorem dX8_way_118 : decode cX8_way 118 = .ok (.getfield 251, 3) := by decide +kernel
theorem dX8_way_121 : decode cX8_way 121 = .ok (.iload 4, 2) := by decide +kernel
theorem dX8_way_123 : decode cX8_way 123 = .ok (.bipush 10, 2) := by decide +kernel
theorem dX8_way_125 : decode cX8_way 125 = .ok (.isub, 1) := by decide +kernel
theorem dX8_way_126 : decode cX8_way 126 = .ok (.iaload, 1) := by decide +kernel
theorem dX8_way_127 : decode cX8_way 127 = .ok (.goto 5, 3) := by decide +kernel
theorem dX8_way_130 : decode cX8_way 130 = .ok (.bipush (-4), 2) := by decide +kernel
theorem dX8_way_132 : decode cX8_way 132 = .ok (.ireturn, 1) := by decide +kernel
set_option maxRecDepth 20000 in
theorem ggX8_call_X8_isTime : GoodIn wsX8_call wsX8_isTime := goodIn_r _ [9, 10, 11, 8, 12] (by decide +kernel) (by decide +kernel)
set_option maxRecDepth 20000 in
theorem gX8_call_X8_isTime : GoodIn wsX8_call (va_wsS RX8 254 yX8_isTime wsX8_isTime) := goodIn_app (goodIn_of _ (by decide +kernel)) ggX8_call_X8_isTime
set_option maxRecDepth 20000 in
theorem ggX8_call_X1_isPlace : GoodIn wsX8_call wsX1_isPlace := goodIn_r _ [17, 18, 80, 81, 82, 83, 84, 85, 86, 87, 88, 89, 90, 91, 92] (by decide +kernel) (by decide +kernel)
set_option maxRecDepth 20000 in
theorem gX8_call_X1_isPlace : GoodIn wsX8_call (wsV RX8 230 RX1 yX1_isPlace wsX1_isPlace) := goodIn_app (goodIn_of _ (by decide +kernel)) ggX8_call_X1_isPlace
set_option maxRecDepth 20000 in
theorem ggX8_call_X7_fits : GoodIn wsX8_call wsX7_fits := goodIn_r _ [23, 24, 25, 26, 27, 22, 28, 29, 30, 31, 32, 33, 34, 35, 8, 36, 93, 94, 95, 96, 97, 98, 99, 100, 101, 102] (by decide +kernel) (by decide +kernel)
set_option maxRecDepth 20000 in
theorem gX8_call_X7_fits : GoodIn wsX8_call (wsV RX8 185 RX7 yX7_fits wsX7_fits) := goodIn_app (goodIn_of _ (by decide +kernel)) ggX8_call_X7_fits
set_option maxRecDepth 20000 in
theorem ggX8_call_X0_mayRepeat : GoodIn wsX8_call wsX0_mayRepeat := goodIn_r _ [41, 42, 43, 44, 45, 46, 47, 40, 48, 49, 50, 51, 52, 53, 54, 71, 72, 73, 74, 75, 76, 77, 78, 79] (by decide +kernel) (by decide +kernel)
set_option maxRecDepth 20000 in
theorem gX8_call_X0_mayRepeat : GoodIn wsX8_call (wsV RX8 257 RX0 yX0_mayRepeat wsX0_mayRepeat) := goodIn_app (goodIn_of _ (by decide +kernel)) ggX8_call_X0_mayRepeat
set_option maxRecDepth 20000 in
theorem ggX8_call_X8_timeOf : GoodIn wsX8_call wsX8_timeOf := goodIn_r _ [57] (by decide +kernel) (by decide +kernel)
set_option maxRecDepth 20000 in
theorem gX8_call_X8_timeOf : GoodIn wsX8_call (va_wsS RX8 261 yX8_timeOf wsX8_timeOf) := goodIn_app (goodIn_of _ (by decide +kernel)) ggX8_call_X8_timeOf
set_option maxRecDepth 20000 in
theorem ggX8_call_X0_add : GoodIn wsX8_call wsX0_add := goodIn_r _ [61, 62, 49, 42, 43, 44, 54, 71, 72, 73, 74, 75, 76, 77, 78, 79] (by decide +kernel) (by decide +kernel)
set_option maxRecDepth 20000 in
theorem gX8_call_X0_add : GoodIn wsX8_call (wsV RX8 267 RX0 yX0_add wsX0_add) := goodIn_app (goodIn_of _ (by decide +kernel)) ggX8_call_X0_add
theorem dX8_call_0 : decode cX8_call 0 = .ok (.iload_n 1, 1) := by decide +kernel
theorem dX8_call_1 : decode cX8_call 1 = .ok (.iload_n 2, 1) := by decide +kernel
theorem dX8_call_2 : decode cX8_call 2 = .ok (.invokestatic 254, 3) := by decide +kernel
theorem dX8_call_5 : decode cX8_call 5 = .ok (.ifCond .eq 28, 3) := by decide +kernel
theorem dX8_call_8 : decode cX8_call 8 = .ok (.aload_n 0, 1) := by decide +kernel
theorem dX8_call_9 : decode cX8_call 9 = .ok (.getfield 37, 3) := by decide +kernel
theorem dX8_call_12 : decode cX8_call 12 = .ok (.iload_n 3, 1) := by decide +kernel
theorem dX8_call_13 : decode cX8_call 13 = .ok (.invokevirtual 230, 3) := by decide +kernel
theorem dX8_call_16 : decode cX8_call 16 = .ok (.ifCond .eq 17, 3) := by decide +kernel
theorem dX8_call_19 : decode cX8_call 19 = .ok (.aload_n 0, 1) := by decide +kernel
theorem dX8_call_20 : decode cX8_call 20 = .ok (.getfield 60, 3) := by decide +kernel
theorem dX8_call_23 : decode cX8_call 23 = .ok (.iload 4, 2) := by decide +kernel
theorem dX8_call_25 : decode cX8_call 25 = .ok (.iload 5, 2) := by decide +kernel
theorem dX8_call_27 : decode cX8_call 27 = .ok (.invokevirtual 185, 3) := by decide +kernel
theorem dX8_call_30 : decode cX8_call 30 = .ok (.ifCond .ne 5, 3) := by decide +kernel
theorem dX8_call_33 : decode cX8_call 33 = .ok (.iconst (-1), 1) := by decide +kernel
theorem dX8_call_34 : decode cX8_call 34 = .ok (.ireturn, 1) := by decide +kernel
theorem dX8_call_35 : decode cX8_call 35 = .ok (.iload 6, 2) := by decide +kernel
theorem dX8_call_37 : decode cX8_call 37 = .ok (.bipush (-4), 2) := by decide +kernel
theorem dX8_call_39 : decode cX8_call 39 = .ok (.if_icmp .eq 22, 3) := by decide +kernel
theorem dX8_call_42 : decode cX8_call 42 = .ok (.aload_n 0, 1) := by decide +kernel
theorem dX8_call_43 : decode cX8_call 43 = .ok (.getfield 46, 3) := by decide +kernel
theorem dX8_call_46 : decode cX8_call 46 = .ok (.iload 6, 2) := by decide +kernel
theorem dX8_call_48 : decode cX8_call 48 = .ok (.iload_n 3, 1) := by decide +kernel
theorem dX8_call_49 : decode cX8_call 49 = .ok (.iload 4, 2) := by decide +kernel
theorem dX8_call_51 : decode cX8_call 51 = .ok (.iload 5, 2) := by decide +kernel
theorem dX8_call_53 : decode cX8_call 53 = .ok (.invokevirtual 257, 3) := by decide +kernel
theorem dX8_call_56 : decode cX8_call 56 = .ok (.ifCond .ne 5, 3) := by decide +kernel
theorem dX8_call_59 : decode cX8_call 59 = .ok (.iconst (-1), 1) := by decide +kernel
theorem dX8_call_60 : decode cX8_call 60 = .ok (.ireturn, 1) := by decide +kernel
theorem dX8_call_61 : decode cX8_call 61 = .ok (.iload_n 1, 1) := by decide +kernel
theorem dX8_call_62 : decode cX8_call 62 = .ok (.iload_n 2, 1) := by decide +kernel
theorem dX8_call_63 : decode cX8_call 63 = .ok (.invokestatic 261, 3) := by decide +kernel
theorem dX8_call_66 : decode cX8_call 66 = .ok (.istore 7, 2) := by decide +kernel
theorem dX8_call_68 : decode cX8_call 68 = .ok (.aload_n 0, 1) := by decide +kernel
theorem dX8_call_69 : decode cX8_call 69 = .ok (.getfield 46, 3) := by decide +kernel
theorem dX8_call_72 : decode cX8_call 72 = .ok (.getfield 75, 3) := by decide +kernel
theorem dX8_call_75 : decode cX8_call 75 = .ok (.ifCond .le 28, 3) := by decide +kernel
theorem dX8_call_78 : decode cX8_call 78 = .ok (.iload 7, 2) := by decide +kernel
theorem dX8_call_80 : decode cX8_call 80 = .ok (.aload_n 0, 1) := by decide +kernel
theorem dX8_call_81 : decode cX8_call 81 = .ok (.getfield 46, 3) := by decide +kernel
theorem dX8_call_84 : decode cX8_call 84 = .ok (.getfield 264, 3) := by decide +kernel
theorem dX8_call_87 : decode cX8_call 87 = .ok (.aload_n 0, 1) := by decide +kernel
theorem dX8_call_88 : decode cX8_call 88 = .ok (.getfield 46, 3) := by decide +kernel
theorem dX8_call_91 : decode cX8_call 91 = .ok (.getfield 75, 3) := by decide +kernel
theorem dX8_call_94 : decode cX8_call 94 = .ok (.iconst 1, 1) := by decide +kernel
theorem dX8_call_95 : decode cX8_call 95 = .ok (.isub, 1) := by decide +kernel
theorem dX8_call_96 : decode cX8_call 96 = .ok (.iaload, 1) := by decide +kernel
theorem dX8_call_97 : decode cX8_call 97 = .ok (.if_icmp .ge 6, 3) := by decide +kernel
theorem dX8_call_100 : decode cX8_call 100 = .ok (.bipush (-2), 2) := by decide +kernel
theorem dX8_call_102 : decode cX8_call 102 = .ok (.ireturn, 1) := by decide +kernel
theorem dX8_call_103 : decode cX8_call 103 = .ok (.aload_n 0, 1) := by decide +kernel
theorem dX8_call_104 : decode cX8_call 104 = .ok (.getfield 46, 3) := by decide +kernel
theorem dX8_call_107 : decode cX8_call 107 = .ok (.getfield 75, 3) := by decide +kernel
theorem dX8_call_110 : decode cX8_call 110 = .ok (.bipush 30, 2) := by decide +kernel
theorem dX8_call_112 : decode cX8_call 112 = .ok (.if_icmp .lt 6, 3) := by decide +kernel
theorem dX8_call_115 : decode cX8_call 115 = .ok (.bipush (-3), 2) := by decide +kernel
theorem dX8_call_117 : decode cX8_call 117 = .ok (.ireturn, 1) := by decide +kernel
theorem dX8_call_118 : decode cX8_call 118 = .ok (.aload_n 0, 1) := by decide +kernel
theorem dX8_call_119 : decode cX8_call 119 = .ok (.getfield 46, 3) := by decide +kernel
theorem dX8_call_122 : decode cX8_call 122 = .ok (.iload 7, 2) := by decide +kernel
theorem dX8_call_124 : decode cX8_call 124 = .ok (.iload_n 3, 1) := by decide +kernel
theorem dX8_call_125 : decode cX8_call 125 = .ok (.iload 4, 2) := by decide +kernel
theorem dX8_call_127 : decode cX8_call 127 = .ok (.iload 5, 2) := by decide +kernel
theorem dX8_call_129 : decode cX8_call 129 = .ok (.iload 6, 2) := by decide +kernel
theorem dX8_call_131 : decode cX8_call 131 = .ok (.invokevirtual 267, 3) := by decide +kernel
theorem dX8_call_134 : decode cX8_call 134 = .ok (.aload_n 0, 1) := by decide +kernel
theorem dX8_call_135 : decode cX8_call 135 = .ok (.getfield 46, 3) := by decide +kernel
theorem dX8_call_138 : decode cX8_call 138 = .ok (.getfield 75, 3) := by decide +kernel
theorem dX8_call_141 : decode cX8_call 141 = .ok (.iconst 1, 1) := by decide +kernel
theorem dX8_call_142 : decode cX8_call 142 = .ok (.isub, 1) := by decide +kernel
theorem dX8_call_143 : decode cX8_call 143 = .ok (.ireturn, 1) := by decide +kernel
set_option maxRecDepth 20000 in
theorem ggX8_callOf_X0_isCall : GoodIn wsX8_callOf wsX0_isCall := goodIn_r _ [13, 14, 118, 119, 120, 121, 122, 123, 124, 125, 126] (by decide +kernel) (by decide +kernel)
set_option maxRecDepth 20000 in
theorem gX8_callOf_X0_isCall : GoodIn wsX8_callOf (wsV RX8 271 RX0 yX0_isCall wsX0_isCall) := goodIn_app (goodIn_of _ (by decide +kernel)) ggX8_callOf_X0_isCall
set_option maxRecDepth 20000 in
theorem ggX8_callOf_X0_isFalse : GoodIn wsX8_callOf wsX0_isFalse := goodIn_r _ [18, 19, 20, 118, 119, 120, 121, 122, 123, 124, 125, 126] (by decide +kernel) (by decide +kernel)
set_option maxRecDepth 20000 in
theorem gX8_callOf_X0_isFalse : GoodIn wsX8_callOf (wsV RX8 283 RX0 yX0_isFalse wsX0_isFalse) := goodIn_app (goodIn_of _ (by decide +kernel)) ggX8_callOf_X0_isFalse
set_option maxRecDepth 20000 in
theorem ggX8_callOf_X1_hearersOf : GoodIn wsX8_callOf wsX1_hearersOf := goodIn_r _ [25, 26, 27, 28, 29, 24, 30, 31, 32, 33, 34, 35, 36, 37, 38, 39, 40, 41, 42, 43, 44, 45, 46, 47, 48, 49, 50, 51, 52, 53, 54, 55, 56, 57, 58, 59, 60, 61, 62, 63, 64, 65, 66, 67, 68, 69, 70, 71, 72, 73, 127, 128, 129, 130, 131, 132, 133, 134, 135, 136, 137, 138, 139, 140, 141, 142] (by decide +kernel) (by decide +kernel)
set_option maxRecDepth 20000 in
theorem gX8_callOf_X1_hearersOf : GoodIn wsX8_callOf (wsV RX8 236 RX1 yX1_hearersOf wsX1_hearersOf) := goodIn_app (goodIn_of _ (by decide +kernel)) ggX8_callOf_X1_hearersOf
set_option maxRecDepth 20000 in
theorem ggX8_callOf_J6_bitCount_0f7a4 : GoodIn wsX8_callOf wsJ6_bitCount_0f7a4 := goodIn_r _ [76, 77, 78, 79] (by decide +kernel) (by decide +kernel)
set_option maxRecDepth 20000 in
theorem gX8_callOf_J6_bitCount_0f7a4 : GoodIn wsX8_callOf (va_wsS RX8 134 yJ6_bitCount_0f7a4 wsJ6_bitCount_0f7a4) := goodIn_app (goodIn_of _ (by decide +kernel)) ggX8_callOf_J6_bitCount_0f7a4
set_option maxRecDepth 20000 in
theorem ggX8_callOf_X0_sureHearers : GoodIn wsX8_callOf wsX0_sureHearers := goodIn_r _ [83, 84, 85, 86, 87, 88, 12, 89, 90, 91, 92, 93, 94, 28, 29, 24, 30, 31, 32, 33, 34, 35, 36, 37, 38, 39, 40, 41, 42, 43, 44, 45, 46, 47, 48, 49, 50, 51, 52, 53, 54, 55, 56, 57, 58, 59, 60, 61, 62, 63, 64, 65, 66, 67, 68, 69, 70, 71, 72, 73, 95, 96, 97, 98, 99, 100, 101, 102, 103, 104, 105, 106, 107, 108, 109, 75, 76, 77, 78, 79, 118, 119, 120, 121, 122, 123, 124, 125, 126, 127, 128, 129, 130, 131, 132, 133, 134, 135, 136, 137, 138, 139, 140, 141, 142, 143, 144, 145, 146, 147, 148, 149, 150, 151, 152] (by decide +kernel) (by decide +kernel)
set_option maxRecDepth 20000 in
theorem gX8_callOf_X0_sureHearers : GoodIn wsX8_callOf (wsV RX8 286 RX0 yX0_sureHearers wsX0_sureHearers) := goodIn_app (goodIn_of _ (by decide +kernel)) ggX8_callOf_X0_sureHearers
theorem dX8_callOf_0 : decode cX8_callOf 0 = .ok (.aload_n 0, 1) := by decide +kernel
theorem dX8_callOf_1 : decode cX8_callOf 1 = .ok (.getfield 46, 3) := by decide +kernel
theorem dX8_callOf_4 : decode cX8_callOf 4 = .ok (.iload_n 1, 1) := by decide +kernel
theorem dX8_callOf_5 : decode cX8_callOf 5 = .ok (.invokevirtual 271, 3) := by decide +kernel
theorem dX8_callOf_8 : decode cX8_callOf 8 = .ok (.ifCond .ne 5, 3) := by decide +kernel
theorem dX8_callOf_11 : decode cX8_callOf 11 = .ok (.iconst (-1), 1) := by decide +kernel
theorem dX8_callOf_12 : decode cX8_callOf 12 = .ok (.ireturn, 1) := by decide +kernel
theorem dX8_callOf_13 : decode cX8_callOf 13 = .ok (.iload_n 2, 1) := by decide +kernel
theorem dX8_callOf_14 : decode cX8_callOf 14 = .ok (.tableswitch 196 0 8 #[50, 63, 76, 86, 96, 106, 134, 151, 183], 50) := by decide +kernel
theorem dX8_callOf_64 : decode cX8_callOf 64 = .ok (.aload_n 0, 1) := by decide +kernel
theorem dX8_callOf_65 : decode cX8_callOf 65 = .ok (.getfield 46, 3) := by decide +kernel
theorem dX8_callOf_68 : decode cX8_callOf 68 = .ok (.getfield 264, 3) := by decide +kernel
theorem dX8_callOf_71 : decode cX8_callOf 71 = .ok (.iload_n 1, 1) := by decide +kernel
theorem dX8_callOf_72 : decode cX8_callOf 72 = .ok (.iaload, 1) := by decide +kernel
theorem dX8_callOf_73 : decode cX8_callOf 73 = .ok (.bipush 24, 2) := by decide +kernel
theorem dX8_callOf_75 : decode cX8_callOf 75 = .ok (.idiv, 1) := by decide +kernel
theorem dX8_callOf_76 : decode cX8_callOf 76 = .ok (.ireturn, 1) := by decide +kernel
theorem dX8_callOf_77 : decode cX8_callOf 77 = .ok (.aload_n 0, 1) := by decide +kernel
theorem dX8_callOf_78 : decode cX8_callOf 78 = .ok (.getfield 46, 3) := by decide +kernel
theorem dX8_callOf_81 : decode cX8_callOf 81 = .ok (.getfield 264, 3) := by decide +kernel
theorem dX8_callOf_84 : decode cX8_callOf 84 = .ok (.iload_n 1, 1) := by decide +kernel
theorem dX8_callOf_85 : decode cX8_callOf 85 = .ok (.iaload, 1) := by decide +kernel
theorem dX8_callOf_86 : decode cX8_callOf 86 = .ok (.bipush 24, 2) := by decide +kernel
theorem dX8_callOf_88 : decode cX8_callOf 88 = .ok (.irem, 1) := by decide +kernel
theorem dX8_callOf_89 : decode cX8_callOf 89 = .ok (.ireturn, 1) := by decide +kernel
theorem dX8_callOf_90 : decode cX8_callOf 90 = .ok (.aload_n 0, 1) := by decide +kernel
theorem dX8_callOf_91 : decode cX8_callOf 91 = .ok (.getfield 46, 3) := by decide +kernel
theorem dX8_callOf_94 : decode cX8_callOf 94 = .ok (.getfield 274, 3) := by decide +kernel
theorem dX8_callOf_97 : decode cX8_callOf 97 = .ok (.iload_n 1, 1) := by decide +kernel
theorem dX8_callOf_98 : decode cX8_callOf 98 = .ok (.iaload, 1) := by decide +kernel
theorem dX8_callOf_99 : decode cX8_callOf 99 = .ok (.ireturn, 1) := by decide +kernel
theorem dX8_callOf_100 : decode cX8_callOf 100 = .ok (.aload_n 0, 1) := by decide +kernel
theorem dX8_callOf_101 : decode cX8_callOf 101 = .ok (.getfield 46, 3) := by decide +kernel
theorem dX8_callOf_104 : decode cX8_callOf 104 = .ok (.getfield 277, 3) := by decide +kernel
theorem dX8_callOf_107 : decode cX8_callOf 107 = .ok (.iload_n 1, 1) := by decide +kernel
theorem dX8_callOf_108 : decode cX8_callOf 108 = .ok (.iaload, 1) := by decide +kernel
theorem dX8_callOf_109 : decode cX8_callOf 109 = .ok (.ireturn, 1) := by decide +kernel
theorem dX8_callOf_110 : decode cX8_callOf 110 = .ok (.aload_n 0, 1) := by decide +kernel
theorem dX8_callOf_111 : decode cX8_callOf 111 = .ok (.getfield 46, 3) := by decide +kernel
theorem dX8_callOf_114 : decode cX8_callOf 114 = .ok (.getfield 278, 3) := by decide +kernel
theorem dX8_callOf_117 : decode cX8_callOf 117 = .ok (.iload_n 1, 1) := by decide +kernel
theorem dX8_callOf_118 : decode cX8_callOf 118 = .ok (.iaload, 1) := by decide +kernel
theorem dX8_callOf_119 : decode cX8_callOf 119 = .ok (.ireturn, 1) := by decide +kernel
theorem dX8_callOf_120 : decode cX8_callOf 120 = .ok (.aload_n 0, 1) := by decide +kernel
theorem dX8_callOf_121 : decode cX8_callOf 121 = .ok (.getfield 46, 3) := by decide +kernel
theorem dX8_callOf_124 : decode cX8_callOf 124 = .ok (.getfield 280, 3) := by decide +kernel
theorem dX8_callOf_127 : decode cX8_callOf 127 = .ok (.iload_n 1, 1) := by decide +kernel
theorem dX8_callOf_128 : decode cX8_callOf 128 = .ok (.iaload, 1) := by decide +kernel
theorem dX8_callOf_129 : decode cX8_callOf 129 = .ok (.iload_n 1, 1) := by decide +kernel
theorem dX8_callOf_130 : decode cX8_callOf 130 = .ok (.if_icmp .ne 8, 3) := by decide +kernel
theorem dX8_callOf_133 : decode cX8_callOf 133 = .ok (.bipush (-4), 2) := by decide +kernel
theorem dX8_callOf_135 : decode cX8_callOf 135 = .ok (.goto 12, 3) := by decide +kernel
theorem dX8_callOf_138 : decode cX8_callOf 138 = .ok (.aload_n 0, 1) := by decide +kernel
theorem dX8_callOf_139 : decode cX8_callOf 139 = .ok (.getfield 46, 3) := by decide +kernel
theorem dX8_callOf_142 : decode cX8_callOf 142 = .ok (.getfield 280, 3) := by decide +kernel
theorem dX8_callOf_145 : decode cX8_callOf 145 = .ok (.iload_n 1, 1) := by decide +kernel
theorem dX8_callOf_146 : decode cX8_callOf 146 = .ok (.iaload, 1) := by decide +kernel
theorem dX8_callOf_147 : decode cX8_callOf 147 = .ok (.ireturn, 1) := by decide +kernel
theorem dX8_callOf_148 : decode cX8_callOf 148 = .ok (.aload_n 0, 1) := by decide +kernel
theorem dX8_callOf_149 : decode cX8_callOf 149 = .ok (.getfield 46, 3) := by decide +kernel
theorem dX8_callOf_152 : decode cX8_callOf 152 = .ok (.iload_n 1, 1) := by decide +kernel
theorem dX8_callOf_153 : decode cX8_callOf 153 = .ok (.invokevirtual 283, 3) := by decide +kernel
theorem dX8_callOf_156 : decode cX8_callOf 156 = .ok (.ifCond .eq 7, 3) := by decide +kernel
theorem dX8_callOf_159 : decode cX8_callOf 159 = .ok (.iconst 1, 1) := by decide +kernel
theorem dX8_callOf_160 : decode cX8_callOf 160 = .ok (.goto 4, 3) := by decide +kernel
theorem dX8_callOf_163 : decode cX8_callOf 163 = .ok (.iconst 0, 1) := by decide +kernel
theorem dX8_callOf_164 : decode cX8_callOf 164 = .ok (.ireturn, 1) := by decide +kernel
theorem dX8_callOf_165 : decode cX8_callOf 165 = .ok (.aload_n 0, 1) := by decide +kernel
theorem dX8_callOf_166 : decode cX8_callOf 166 = .ok (.getfield 37, 3) := by decide +kernel
theorem dX8_callOf_169 : decode cX8_callOf 169 = .ok (.aload_n 0, 1) := by decide +kernel
theorem dX8_callOf_170 : decode cX8_callOf 170 = .ok (.getfield 46, 3) := by decide +kernel
theorem dX8_callOf_173 : decode cX8_callOf 173 = .ok (.getfield 274, 3) := by decide +kernel
theorem dX8_callOf_176 : decode cX8_callOf 176 = .ok (.iload_n 1, 1) := by decide +kernel
theorem dX8_callOf_177 : decode cX8_callOf 177 = .ok (.iaload, 1) := by decide +kernel
theorem dX8_callOf_178 : decode cX8_callOf 178 = .ok (.aload_n 0, 1) := by decide +kernel
theorem dX8_callOf_179 : decode cX8_callOf 179 = .ok (.getfield 46, 3) := by decide +kernel
theorem dX8_callOf_182 : decode cX8_callOf 182 = .ok (.getfield 264, 3) := by decide +kernel
theorem dX8_callOf_185 : decode cX8_callOf 185 = .ok (.iload_n 1, 1) := by decide +kernel
theorem dX8_callOf_186 : decode cX8_callOf 186 = .ok (.iaload, 1) := by decide +kernel
theorem dX8_callOf_187 : decode cX8_callOf 187 = .ok (.bipush 24, 2) := by decide +kernel
theorem dX8_callOf_189 : decode cX8_callOf 189 = .ok (.irem, 1) := by decide +kernel
theorem dX8_callOf_190 : decode cX8_callOf 190 = .ok (.invokevirtual 236, 3) := by decide +kernel
theorem dX8_callOf_193 : decode cX8_callOf 193 = .ok (.invokestatic 134, 3) := by decide +kernel
theorem dX8_callOf_196 : decode cX8_callOf 196 = .ok (.ireturn, 1) := by decide +kernel
theorem dX8_callOf_197 : decode cX8_callOf 197 = .ok (.aload_n 0, 1) := by decide +kernel
theorem dX8_callOf_198 : decode cX8_callOf 198 = .ok (.getfield 46, 3) := by decide +kernel
theorem dX8_callOf_201 : decode cX8_callOf 201 = .ok (.iload_n 1, 1) := by decide +kernel
theorem dX8_callOf_202 : decode cX8_callOf 202 = .ok (.aload_n 0, 1) := by decide +kernel
theorem dX8_callOf_203 : decode cX8_callOf 203 = .ok (.getfield 60, 3) := by decide +kernel
theorem dX8_callOf_206 : decode cX8_callOf 206 = .ok (.invokevirtual 286, 3) := by decide +kernel
theorem dX8_callOf_209 : decode cX8_callOf 209 = .ok (.ireturn, 1) := by decide +kernel
theorem dX8_callOf_210 : decode cX8_callOf 210 = .ok (.iconst (-1), 1) := by decide +kernel
theorem dX8_callOf_211 : decode cX8_callOf 211 = .ok (.ireturn, 1) := by decide +kernel
set_option maxRecDepth 20000 in
theorem ggX8_lie_X0_isCall : GoodIn wsX8_lie wsX0_isCall := goodIn_r _ [7, 8, 27, 28, 29, 30, 31, 32, 33, 34, 35] (by decide +kernel) (by decide +kernel)
set_option maxRecDepth 20000 in
theorem gX8_lie_X0_isCall : GoodIn wsX8_lie (wsV RX8 271 RX0 yX0_isCall wsX0_isCall) := goodIn_app (goodIn_of _ (by decide +kernel)) ggX8_lie_X0_isCall
set_option maxRecDepth 20000 in
theorem ggX8_lie_X0_isRepeat : GoodIn wsX8_lie wsX0_isRepeat := goodIn_r _ [12, 13, 27, 28, 29, 30, 31, 32, 33, 34, 35] (by decide +kernel) (by decide +kernel)
set_option maxRecDepth 20000 in
theorem gX8_lie_X0_isRepeat : GoodIn wsX8_lie (wsV RX8 290 RX0 yX0_isRepeat wsX0_isRepeat) := goodIn_app (goodIn_of _ (by decide +kernel)) ggX8_lie_X0_isRepeat
set_option maxRecDepth 20000 in
theorem ggX8_lie_X0_isFalse : GoodIn wsX8_lie wsX0_isFalse := goodIn_r _ [17, 18, 13, 27, 28, 29, 30, 31, 32, 33, 34, 35] (by decide +kernel) (by decide +kernel)
set_option maxRecDepth 20000 in
theorem gX8_lie_X0_isFalse : GoodIn wsX8_lie (wsV RX8 283 RX0 yX0_isFalse wsX0_isFalse) := goodIn_app (goodIn_of _ (by decide +kernel)) ggX8_lie_X0_isFalse
theorem dX8_lie_0 : decode cX8_lie 0 = .ok (.aload_n 0, 1) := by decide +kernel
theorem dX8_lie_1 : decode cX8_lie 1 = .ok (.getfield 46, 3) := by decide +kernel
theorem dX8_lie_4 : decode cX8_lie 4 = .ok (.iload_n 1, 1) := by decide +kernel
theorem dX8_lie_5 : decode cX8_lie 5 = .ok (.invokevirtual 271, 3) := by decide +kernel
theorem dX8_lie_8 : decode cX8_lie 8 = .ok (.ifCond .ne 5, 3) := by decide +kernel
theorem dX8_lie_11 : decode cX8_lie 11 = .ok (.iconst (-1), 1) := by decide +kernel
theorem dX8_lie_12 : decode cX8_lie 12 = .ok (.ireturn, 1) := by decide +kernel
theorem dX8_lie_13 : decode cX8_lie 13 = .ok (.aload_n 0, 1) := by decide +kernel
theorem dX8_lie_14 : decode cX8_lie 14 = .ok (.getfield 46, 3) := by decide +kernel
theorem dX8_lie_17 : decode cX8_lie 17 = .ok (.iload_n 1, 1) := by decide +kernel
theorem dX8_lie_18 : decode cX8_lie 18 = .ok (.invokevirtual 290, 3) := by decide +kernel
theorem dX8_lie_21 : decode cX8_lie 21 = .ok (.ifCond .eq 6, 3) := by decide +kernel
theorem dX8_lie_24 : decode cX8_lie 24 = .ok (.bipush (-2), 2) := by decide +kernel
theorem dX8_lie_26 : decode cX8_lie 26 = .ok (.ireturn, 1) := by decide +kernel
theorem dX8_lie_27 : decode cX8_lie 27 = .ok (.aload_n 0, 1) := by decide +kernel
theorem dX8_lie_28 : decode cX8_lie 28 = .ok (.getfield 46, 3) := by decide +kernel
theorem dX8_lie_31 : decode cX8_lie 31 = .ok (.iload_n 1, 1) := by decide +kernel
theorem dX8_lie_32 : decode cX8_lie 32 = .ok (.invokevirtual 283, 3) := by decide +kernel
theorem dX8_lie_35 : decode cX8_lie 35 = .ok (.ifCond .eq 7, 3) := by decide +kernel
theorem dX8_lie_38 : decode cX8_lie 38 = .ok (.iconst 1, 1) := by decide +kernel
theorem dX8_lie_39 : decode cX8_lie 39 = .ok (.goto 4, 3) := by decide +kernel
theorem dX8_lie_42 : decode cX8_lie 42 = .ok (.iconst 0, 1) := by decide +kernel
theorem dX8_lie_43 : decode cX8_lie 43 = .ok (.istore_n 3, 1) := by decide +kernel
theorem dX8_lie_44 : decode cX8_lie 44 = .ok (.aload_n 0, 1) := by decide +kernel
theorem dX8_lie_45 : decode cX8_lie 45 = .ok (.getfield 46, 3) := by decide +kernel
theorem dX8_lie_48 : decode cX8_lie 48 = .ok (.getfield 293, 3) := by decide +kernel
theorem dX8_lie_51 : decode cX8_lie 51 = .ok (.iload_n 1, 1) := by decide +kernel
theorem dX8_lie_52 : decode cX8_lie 52 = .ok (.iload_n 2, 1) := by decide +kernel
theorem dX8_lie_53 : decode cX8_lie 53 = .ok (.bastore, 1) := by decide +kernel
theorem dX8_lie_54 : decode cX8_lie 54 = .ok (.iload_n 3, 1) := by decide +kernel
theorem dX8_lie_55 : decode cX8_lie 55 = .ok (.ireturn, 1) := by decide +kernel
set_option maxRecDepth 20000 in
theorem ggX8_has_X1_isPlace : GoodIn wsX8_has wsX1_isPlace := goodIn_r _ [8, 9, 114, 115, 116, 117, 118, 119, 120, 121, 122, 123, 124, 125, 126] (by decide +kernel) (by decide +kernel)
set_option maxRecDepth 20000 in
theorem gX8_has_X1_isPlace : GoodIn wsX8_has (wsV RX8 230 RX1 yX1_isPlace wsX1_isPlace) := goodIn_app (goodIn_of _ (by decide +kernel)) ggX8_has_X1_isPlace
set_option maxRecDepth 20000 in
theorem ggX8_has_X0_isCall : GoodIn wsX8_has wsX0_isCall := goodIn_r _ [14, 15, 127, 128, 129, 130, 131, 132, 133, 134, 135] (by decide +kernel) (by decide +kernel)
set_option maxRecDepth 20000 in
theorem gX8_has_X0_isCall : GoodIn wsX8_has (wsV RX8 271 RX0 yX0_isCall wsX0_isCall) := goodIn_app (goodIn_of _ (by decide +kernel)) ggX8_has_X0_isCall
set_option maxRecDepth 20000 in
theorem ggX8_has_X8_isTime : GoodIn wsX8_has wsX8_isTime := goodIn_r _ [19, 20, 21, 18, 22] (by decide +kernel) (by decide +kernel)
set_option maxRecDepth 20000 in
theorem gX8_has_X8_isTime : GoodIn wsX8_has (va_wsS RX8 254 yX8_isTime wsX8_isTime) := goodIn_app (goodIn_of _ (by decide +kernel)) ggX8_has_X8_isTime
set_option maxRecDepth 20000 in
theorem ggX8_has_X0_isRepeat : GoodIn wsX8_has wsX0_isRepeat := goodIn_r _ [26, 27, 127, 128, 129, 130, 131, 132, 133, 134, 135] (by decide +kernel) (by decide +kernel)
set_option maxRecDepth 20000 in
theorem gX8_has_X0_isRepeat : GoodIn wsX8_has (wsV RX8 290 RX0 yX0_isRepeat wsX0_isRepeat) := goodIn_app (goodIn_of _ (by decide +kernel)) ggX8_has_X0_isRepeat
set_option maxRecDepth 20000 in
theorem ggX8_has_X8_timeOf : GoodIn wsX8_has wsX8_timeOf := goodIn_r _ [30] (by decide +kernel) (by decide +kernel)
set_option maxRecDepth 20000 in
theorem gX8_has_X8_timeOf : GoodIn wsX8_has (va_wsS RX8 261 yX8_timeOf wsX8_timeOf) := goodIn_app (goodIn_of _ (by decide +kernel)) ggX8_has_X8_timeOf
set_option maxRecDepth 20000 in
theorem ggX8_has_X0_callsUpTo : GoodIn wsX8_has wsX0_callsUpTo := goodIn_r _ [34, 15, 35, 127, 128, 129, 130, 131, 132, 133, 134, 135] (by decide +kernel) (by decide +kernel)
set_option maxRecDepth 20000 in
theorem gX8_has_X0_callsUpTo : GoodIn wsX8_has (wsV RX8 297 RX0 yX0_callsUpTo wsX0_callsUpTo) := goodIn_app (goodIn_of _ (by decide +kernel)) ggX8_has_X0_callsUpTo
set_option maxRecDepth 20000 in
theorem ggX8_has_X0_heldFrom : GoodIn wsX8_has wsX0_heldFrom := goodIn_r _ [39, 27, 40, 41, 42, 13, 43, 44, 45, 35, 46, 47, 48, 49, 50, 7, 51, 52, 53, 54, 55, 56, 57, 58, 59, 60, 61, 62, 63, 64, 65, 66, 67, 68, 69, 70, 71, 72, 73, 74, 75, 76, 77, 78, 79, 80, 81, 82, 83, 84, 85, 86, 87, 88, 89, 90, 91, 92, 93, 94, 95, 96, 97, 98, 99, 100, 101, 102, 103, 104, 105, 127, 128, 129, 130, 131, 132, 133, 134, 135, 114, 115, 116, 117, 118, 119, 120, 121, 122, 123, 124, 125, 126, 136, 137, 138, 139, 140, 141, 142, 143, 144, 145, 146, 147, 148] (by decide +kernel) (by decide +kernel)
set_option maxRecDepth 20000 in
theorem gX8_has_X0_heldFrom : GoodIn wsX8_has (wsV RX8 300 RX0 yX0_heldFrom wsX0_heldFrom) := goodIn_app (goodIn_of _ (by decide +kernel)) ggX8_has_X0_heldFrom
theorem dX8_has_0 : decode cX8_has 0 = .ok (.aload_n 0, 1) := by decide +kernel
theorem dX8_has_1 : decode cX8_has 1 = .ok (.getfield 37, 3) := by decide +kernel
theorem dX8_has_4 : decode cX8_has 4 = .ok (.iload_n 1, 1) := by decide +kernel
theorem dX8_has_5 : decode cX8_has 5 = .ok (.invokevirtual 230, 3) := by decide +kernel
theorem dX8_has_8 : decode cX8_has 8 = .ok (.ifCond .eq 23, 3) := by decide +kernel
theorem dX8_has_11 : decode cX8_has 11 = .ok (.aload_n 0, 1) := by decide +kernel
theorem dX8_has_12 : decode cX8_has 12 = .ok (.getfield 46, 3) := by decide +kernel
theorem dX8_has_15 : decode cX8_has 15 = .ok (.iload_n 2, 1) := by decide +kernel
theorem dX8_has_16 : decode cX8_has 16 = .ok (.invokevirtual 271, 3) := by decide +kernel
theorem dX8_has_19 : decode cX8_has 19 = .ok (.ifCond .eq 12, 3) := by decide +kernel
theorem dX8_has_22 : decode cX8_has 22 = .ok (.iload_n 3, 1) := by decide +kernel
theorem dX8_has_23 : decode cX8_has 23 = .ok (.iload 4, 2) := by decide +kernel
theorem dX8_has_25 : decode cX8_has 25 = .ok (.invokestatic 254, 3) := by decide +kernel
theorem dX8_has_28 : decode cX8_has 28 = .ok (.ifCond .ne 5, 3) := by decide +kernel
theorem dX8_has_31 : decode cX8_has 31 = .ok (.iconst (-1), 1) := by decide +kernel
theorem dX8_has_32 : decode cX8_has 32 = .ok (.ireturn, 1) := by decide +kernel
theorem dX8_has_33 : decode cX8_has 33 = .ok (.aload_n 0, 1) := by decide +kernel
theorem dX8_has_34 : decode cX8_has 34 = .ok (.getfield 46, 3) := by decide +kernel
theorem dX8_has_37 : decode cX8_has 37 = .ok (.iload_n 2, 1) := by decide +kernel
theorem dX8_has_38 : decode cX8_has 38 = .ok (.invokevirtual 290, 3) := by decide +kernel
theorem dX8_has_41 : decode cX8_has 41 = .ok (.ifCond .eq 6, 3) := by decide +kernel
theorem dX8_has_44 : decode cX8_has 44 = .ok (.bipush (-2), 2) := by decide +kernel
theorem dX8_has_46 : decode cX8_has 46 = .ok (.ireturn, 1) := by decide +kernel
theorem dX8_has_47 : decode cX8_has 47 = .ok (.aload_n 0, 1) := by decide +kernel
theorem dX8_has_48 : decode cX8_has 48 = .ok (.getfield 46, 3) := by decide +kernel
theorem dX8_has_51 : decode cX8_has 51 = .ok (.iload_n 1, 1) := by decide +kernel
theorem dX8_has_52 : decode cX8_has 52 = .ok (.iload_n 2, 1) := by decide +kernel
theorem dX8_has_53 : decode cX8_has 53 = .ok (.aload_n 0, 1) := by decide +kernel
theorem dX8_has_54 : decode cX8_has 54 = .ok (.getfield 46, 3) := by decide +kernel
theorem dX8_has_57 : decode cX8_has 57 = .ok (.iload_n 3, 1) := by decide +kernel
theorem dX8_has_58 : decode cX8_has 58 = .ok (.iload 4, 2) := by decide +kernel
theorem dX8_has_60 : decode cX8_has 60 = .ok (.invokestatic 261, 3) := by decide +kernel
theorem dX8_has_63 : decode cX8_has 63 = .ok (.invokevirtual 297, 3) := by decide +kernel
theorem dX8_has_66 : decode cX8_has 66 = .ok (.aload_n 0, 1) := by decide +kernel
theorem dX8_has_67 : decode cX8_has 67 = .ok (.getfield 60, 3) := by decide +kernel
theorem dX8_has_70 : decode cX8_has 70 = .ok (.invokevirtual 300, 3) := by decide +kernel
theorem dX8_has_73 : decode cX8_has 73 = .ok (.ireturn, 1) := by decide +kernel
set_option maxRecDepth 20000 in
theorem ggX8_knows_X1_isPlace : GoodIn wsX8_knows wsX1_isPlace := goodIn_r _ [8, 9, 134, 135, 136, 137, 138, 139, 140, 141, 142, 143, 144, 145, 146] (by decide +kernel) (by decide +kernel)
set_option maxRecDepth 20000 in
theorem gX8_knows_X1_isPlace : GoodIn wsX8_knows (wsV RX8 230 RX1 yX1_isPlace wsX1_isPlace) := goodIn_app (goodIn_of _ (by decide +kernel)) ggX8_knows_X1_isPlace
set_option maxRecDepth 20000 in
theorem ggX8_knows_X7_isAsk : GoodIn wsX8_knows wsX7_isAsk := goodIn_r _ [14, 15, 147, 148, 149, 150, 151, 152, 153, 154, 155, 156] (by decide +kernel) (by decide +kernel)
set_option maxRecDepth 20000 in
theorem gX8_knows_X7_isAsk : GoodIn wsX8_knows (wsV RX8 128 RX7 yX7_isAsk wsX7_isAsk) := goodIn_app (goodIn_of _ (by decide +kernel)) ggX8_knows_X7_isAsk
set_option maxRecDepth 20000 in
theorem ggX8_knows_X8_isTime : GoodIn wsX8_knows wsX8_isTime := goodIn_r _ [19, 20, 21, 18, 22] (by decide +kernel) (by decide +kernel)
set_option maxRecDepth 20000 in
theorem gX8_knows_X8_isTime : GoodIn wsX8_knows (va_wsS RX8 254 yX8_isTime wsX8_isTime) := goodIn_app (goodIn_of _ (by decide +kernel)) ggX8_knows_X8_isTime
set_option maxRecDepth 20000 in
theorem ggX8_knows_X8_timeOf : GoodIn wsX8_knows wsX8_timeOf := goodIn_r _ [25] (by decide +kernel) (by decide +kernel)
set_option maxRecDepth 20000 in
theorem gX8_knows_X8_timeOf : GoodIn wsX8_knows (va_wsS RX8 261 yX8_timeOf wsX8_timeOf) := goodIn_app (goodIn_of _ (by decide +kernel)) ggX8_knows_X8_timeOf
set_option maxRecDepth 20000 in
theorem ggX8_knows_X0_callsUpTo : GoodIn wsX8_knows wsX0_callsUpTo := goodIn_r _ [30, 31, 32, 157, 158, 159, 160, 161, 162, 163, 164, 165] (by decide +kernel) (by decide +kernel)
set_option maxRecDepth 20000 in
theorem gX8_knows_X0_callsUpTo : GoodIn wsX8_knows (wsV RX8 297 RX0 yX0_callsUpTo wsX0_callsUpTo) := goodIn_app (goodIn_of _ (by decide +kernel)) ggX8_knows_X0_callsUpTo
set_option maxRecDepth 20000 in
theorem ggX8_knows_X0_knownTo : GoodIn wsX8_knows wsX0_knownTo := goodIn_r _ [36, 37, 38, 39, 40, 41, 42, 43, 44, 45, 46, 29, 47, 48, 49, 50, 51, 52, 53, 54, 55, 56, 57, 58, 59, 32, 60, 61, 62, 7, 63, 64, 65, 66, 67, 68, 69, 70, 71, 72, 73, 74, 75, 76, 77, 78, 79, 80, 81, 82, 83, 84, 85, 86, 87, 88, 89, 90, 91, 92, 93, 94, 95, 96, 97, 98, 99, 100, 101, 102, 103, 104, 105, 106, 107, 108, 109, 13, 110, 111, 112, 113, 114, 115, 116, 117, 118, 119, 120, 121, 122, 123, 124, 125, 157, 158, 159, 160, 161, 162, 163, 164, 165, 134, 135, 136, 137, 138, 139, 140, 141, 142, 143, 144, 145, 146, 166, 167, 168, 147, 148, 149, 150, 151, 152, 153, 154, 155, 156] (by decide +kernel) (by decide +kernel)
set_option maxRecDepth 20000 in
theorem gX8_knows_X0_knownTo : GoodIn wsX8_knows (wsV RX8 304 RX0 yX0_knownTo wsX0_knownTo) := goodIn_app (goodIn_of _ (by decide +kernel)) ggX8_knows_X0_knownTo
theorem dX8_knows_0 : decode cX8_knows 0 = .ok (.aload_n 0, 1) := by decide +kernel
theorem dX8_knows_1 : decode cX8_knows 1 = .ok (.getfield 37, 3) := by decide +kernel
theorem dX8_knows_4 : decode cX8_knows 4 = .ok (.iload_n 1, 1) := by decide +kernel
theorem dX8_knows_5 : decode cX8_knows 5 = .ok (.invokevirtual 230, 3) := by decide +kernel
theorem dX8_knows_8 : decode cX8_knows 8 = .ok (.ifCond .eq 23, 3) := by decide +kernel
theorem dX8_knows_11 : decode cX8_knows 11 = .ok (.aload_n 0, 1) := by decide +kernel
theorem dX8_knows_12 : decode cX8_knows 12 = .ok (.getfield 60, 3) := by decide +kernel
theorem dX8_knows_15 : decode cX8_knows 15 = .ok (.iload_n 2, 1) := by decide +kernel
theorem dX8_knows_16 : decode cX8_knows 16 = .ok (.invokevirtual 128, 3) := by decide +kernel
theorem dX8_knows_19 : decode cX8_knows 19 = .ok (.ifCond .eq 12, 3) := by decide +kernel
theorem dX8_knows_22 : decode cX8_knows 22 = .ok (.iload_n 3, 1) := by decide +kernel
theorem dX8_knows_23 : decode cX8_knows 23 = .ok (.iload 4, 2) := by decide +kernel
theorem dX8_knows_25 : decode cX8_knows 25 = .ok (.invokestatic 254, 3) := by decide +kernel
theorem dX8_knows_28 : decode cX8_knows 28 = .ok (.ifCond .ne 5, 3) := by decide +kernel
theorem dX8_knows_31 : decode cX8_knows 31 = .ok (.iconst (-1), 1) := by decide +kernel
theorem dX8_knows_32 : decode cX8_knows 32 = .ok (.ireturn, 1) := by decide +kernel
theorem dX8_knows_33 : decode cX8_knows 33 = .ok (.aload_n 0, 1) := by decide +kernel
theorem dX8_knows_34 : decode cX8_knows 34 = .ok (.getfield 46, 3) := by decide +kernel
theorem dX8_knows_37 : decode cX8_knows 37 = .ok (.iload_n 1, 1) := by decide +kernel
theorem dX8_knows_38 : decode cX8_knows 38 = .ok (.iload_n 2, 1) := by decide +kernel
theorem dX8_knows_39 : decode cX8_knows 39 = .ok (.aload_n 0, 1) := by decide +kernel
theorem dX8_knows_40 : decode cX8_knows 40 = .ok (.getfield 46, 3) := by decide +kernel
theorem dX8_knows_43 : decode cX8_knows 43 = .ok (.iload_n 3, 1) := by decide +kernel
theorem dX8_knows_44 : decode cX8_knows 44 = .ok (.iload 4, 2) := by decide +kernel
theorem dX8_knows_46 : decode cX8_knows 46 = .ok (.invokestatic 261, 3) := by decide +kernel
theorem dX8_knows_49 : decode cX8_knows 49 = .ok (.invokevirtual 297, 3) := by decide +kernel
theorem dX8_knows_52 : decode cX8_knows 52 = .ok (.aload_n 0, 1) := by decide +kernel
theorem dX8_knows_53 : decode cX8_knows 53 = .ok (.getfield 60, 3) := by decide +kernel
theorem dX8_knows_56 : decode cX8_knows 56 = .ok (.invokevirtual 304, 3) := by decide +kernel
theorem dX8_knows_59 : decode cX8_knows 59 = .ok (.ireturn, 1) := by decide +kernel
set_option maxRecDepth 20000 in
theorem ggX8_since_X1_isPlace : GoodIn wsX8_since wsX1_isPlace := goodIn_r _ [8, 9, 132, 133, 134, 135, 136, 137, 138, 139, 140, 141, 142, 143, 144] (by decide +kernel) (by decide +kernel)
set_option maxRecDepth 20000 in
theorem gX8_since_X1_isPlace : GoodIn wsX8_since (wsV RX8 230 RX1 yX1_isPlace wsX1_isPlace) := goodIn_app (goodIn_of _ (by decide +kernel)) ggX8_since_X1_isPlace
set_option maxRecDepth 20000 in
theorem ggX8_since_X7_fits : GoodIn wsX8_since wsX7_fits := goodIn_r _ [14, 15, 16, 17, 18, 13, 19, 20, 21, 22, 23, 24, 25, 26, 27, 28, 145, 146, 147, 148, 149, 150, 151, 152, 153, 154] (by decide +kernel) (by decide +kernel)
set_option maxRecDepth 20000 in
theorem gX8_since_X7_fits : GoodIn wsX8_since (wsV RX8 185 RX7 yX7_fits wsX7_fits) := goodIn_app (goodIn_of _ (by decide +kernel)) ggX8_since_X7_fits
set_option maxRecDepth 20000 in
theorem ggX8_since_X0_firstKnown : GoodIn wsX8_since wsX0_firstKnown := goodIn_r _ [33, 34, 35, 36, 37, 38, 39, 40, 41, 42, 43, 44, 32, 45, 46, 47, 48, 49, 50, 51, 52, 53, 54, 55, 56, 57, 58, 59, 60, 61, 7, 62, 63, 64, 65, 66, 67, 68, 69, 70, 71, 72, 73, 74, 75, 76, 77, 78, 79, 80, 81, 82, 83, 84, 85, 86, 87, 88, 89, 90, 91, 92, 93, 94, 95, 96, 97, 98, 99, 100, 101, 102, 103, 104, 105, 106, 107, 108, 13, 109, 15, 110, 111, 112, 113, 114, 115, 116, 117, 118, 119, 120, 121, 122, 123, 155, 156, 157, 158, 159, 160, 161, 162, 163, 132, 133, 134, 135, 136, 137, 138, 139, 140, 141, 142, 143, 144, 164, 165, 166, 145, 146, 147, 148, 149, 150, 151, 152, 153, 154] (by decide +kernel) (by decide +kernel)
set_option maxRecDepth 20000 in
theorem gX8_since_X0_firstKnown : GoodIn wsX8_since (wsV RX8 307 RX0 yX0_firstKnown wsX0_firstKnown) := goodIn_app (goodIn_of _ (by decide +kernel)) ggX8_since_X0_firstKnown
theorem dX8_since_0 : decode cX8_since 0 = .ok (.aload_n 0, 1) := by decide +kernel
theorem dX8_since_1 : decode cX8_since 1 = .ok (.getfield 37, 3) := by decide +kernel
theorem dX8_since_4 : decode cX8_since 4 = .ok (.iload_n 1, 1) := by decide +kernel
theorem dX8_since_5 : decode cX8_since 5 = .ok (.invokevirtual 230, 3) := by decide +kernel
theorem dX8_since_8 : decode cX8_since 8 = .ok (.ifCond .eq 15, 3) := by decide +kernel
theorem dX8_since_11 : decode cX8_since 11 = .ok (.aload_n 0, 1) := by decide +kernel
theorem dX8_since_12 : decode cX8_since 12 = .ok (.getfield 60, 3) := by decide +kernel
theorem dX8_since_15 : decode cX8_since 15 = .ok (.iload_n 2, 1) := by decide +kernel
theorem dX8_since_16 : decode cX8_since 16 = .ok (.iload_n 3, 1) := by decide +kernel
theorem dX8_since_17 : decode cX8_since 17 = .ok (.invokevirtual 185, 3) := by decide +kernel
theorem dX8_since_20 : decode cX8_since 20 = .ok (.ifCond .ne 5, 3) := by decide +kernel
theorem dX8_since_23 : decode cX8_since 23 = .ok (.iconst (-1), 1) := by decide +kernel
theorem dX8_since_24 : decode cX8_since 24 = .ok (.ireturn, 1) := by decide +kernel
theorem dX8_since_25 : decode cX8_since 25 = .ok (.aload_n 0, 1) := by decide +kernel
theorem dX8_since_26 : decode cX8_since 26 = .ok (.getfield 46, 3) := by decide +kernel
theorem dX8_since_29 : decode cX8_since 29 = .ok (.iload_n 1, 1) := by decide +kernel
theorem dX8_since_30 : decode cX8_since 30 = .ok (.iload_n 2, 1) := by decide +kernel
theorem dX8_since_31 : decode cX8_since 31 = .ok (.iload_n 3, 1) := by decide +kernel
theorem dX8_since_32 : decode cX8_since 32 = .ok (.aload_n 0, 1) := by decide +kernel
theorem dX8_since_33 : decode cX8_since 33 = .ok (.getfield 60, 3) := by decide +kernel
theorem dX8_since_36 : decode cX8_since 36 = .ok (.invokevirtual 307, 3) := by decide +kernel
theorem dX8_since_39 : decode cX8_since 39 = .ok (.ireturn, 1) := by decide +kernel
set_option maxRecDepth 20000 in
theorem ggX8_spread_X7_fits : GoodIn wsX8_spread wsX7_fits := goodIn_r _ [9, 10, 11, 12, 13, 8, 14, 15, 16, 17, 18, 19, 20, 21, 22, 23, 156, 157, 158, 159, 160, 161, 162, 163, 164, 165] (by decide +kernel) (by decide +kernel)
set_option maxRecDepth 20000 in
theorem gX8_spread_X7_fits : GoodIn wsX8_spread (wsV RX8 185 RX7 yX7_fits wsX7_fits) := goodIn_app (goodIn_of _ (by decide +kernel)) ggX8_spread_X7_fits
set_option maxRecDepth 20000 in
theorem ggX8_spread_X8_isTime : GoodIn wsX8_spread wsX8_isTime := goodIn_r _ [26, 27, 28, 22, 29] (by decide +kernel) (by decide +kernel)
set_option maxRecDepth 20000 in
theorem gX8_spread_X8_isTime : GoodIn wsX8_spread (va_wsS RX8 254 yX8_isTime wsX8_isTime) := goodIn_app (goodIn_of _ (by decide +kernel)) ggX8_spread_X8_isTime
set_option maxRecDepth 20000 in
theorem ggX8_spread_X8_timeOf : GoodIn wsX8_spread wsX8_timeOf := goodIn_r _ [32] (by decide +kernel) (by decide +kernel)
set_option maxRecDepth 20000 in
theorem gX8_spread_X8_timeOf : GoodIn wsX8_spread (va_wsS RX8 261 yX8_timeOf wsX8_timeOf) := goodIn_app (goodIn_of _ (by decide +kernel)) ggX8_spread_X8_timeOf
set_option maxRecDepth 20000 in
theorem ggX8_spread_X0_callsUpTo : GoodIn wsX8_spread wsX0_callsUpTo := goodIn_r _ [37, 38, 39, 166, 167, 168, 169, 170, 171, 172, 173, 174] (by decide +kernel) (by decide +kernel)
set_option maxRecDepth 20000 in
theorem gX8_spread_X0_callsUpTo : GoodIn wsX8_spread (wsV RX8 297 RX0 yX0_callsUpTo wsX0_callsUpTo) := goodIn_app (goodIn_of _ (by decide +kernel)) ggX8_spread_X0_callsUpTo
set_option maxRecDepth 20000 in
theorem ggX8_spread_X0_knownTo : GoodIn wsX8_spread wsX0_knownTo := goodIn_r _ [43, 44, 45, 46, 47, 48, 49, 50, 51, 52, 53, 36, 54, 55, 56, 57, 58, 59, 60, 61, 62, 63, 64, 65, 66, 39, 67, 68, 69, 70, 71, 72, 73, 74, 75, 76, 77, 78, 79, 80, 81, 82, 83, 84, 85, 86, 87, 88, 89, 90, 91, 92, 93, 94, 95, 96, 97, 98, 99, 100, 101, 102, 103, 104, 105, 106, 107, 108, 109, 110, 111, 112, 113, 114, 115, 116, 117, 8, 118, 10, 119, 120, 121, 122, 123, 124, 125, 126, 127, 128, 129, 130, 131, 132, 166, 167, 168, 169, 170, 171, 172, 173, 174, 143, 144, 145, 146, 147, 148, 149, 150, 151, 152, 153, 154, 155, 175, 176, 177, 156, 157, 158, 159, 160, 161, 162, 163, 164, 165] (by decide +kernel) (by decide +kernel)
set_option maxRecDepth 20000 in
theorem gX8_spread_X0_knownTo : GoodIn wsX8_spread (wsV RX8 304 RX0 yX0_knownTo wsX0_knownTo) := goodIn_app (goodIn_of _ (by decide +kernel)) ggX8_spread_X0_knownTo
set_option maxRecDepth 20000 in
theorem ggX8_spread_X8_isIn : GoodIn wsX8_spread wsX8_isIn := goodIn_r _ [23] (by decide +kernel) (by decide +kernel)
set_option maxRecDepth 20000 in
theorem gX8_spread_X8_isIn : GoodIn wsX8_spread (va_wsS RX8 310 yX8_isIn wsX8_isIn) := goodIn_app (goodIn_of _ (by decide +kernel)) ggX8_spread_X8_isIn
set_option maxRecDepth 20000 in
theorem ggX8_spread_J6_bitCount_0f7a4 : GoodIn wsX8_spread wsJ6_bitCount_0f7a4 := goodIn_r _ [129, 130, 131, 132] (by decide +kernel) (by decide +kernel)
set_option maxRecDepth 20000 in
theorem gX8_spread_J6_bitCount_0f7a4 : GoodIn wsX8_spread (va_wsS RX8 134 yJ6_bitCount_0f7a4 wsJ6_bitCount_0f7a4) := goodIn_app (goodIn_of _ (by decide +kernel)) ggX8_spread_J6_bitCount_0f7a4
theorem dX8_spread_0 : decode cX8_spread 0 = .ok (.aload_n 0, 1) := by decide +kernel
theorem dX8_spread_1 : decode cX8_spread 1 = .ok (.getfield 60, 3) := by decide +kernel
theorem dX8_spread_4 : decode cX8_spread 4 = .ok (.iload_n 1, 1) := by decide +kernel
theorem dX8_spread_5 : decode cX8_spread 5 = .ok (.iload_n 2, 1) := by decide +kernel
theorem dX8_spread_6 : decode cX8_spread 6 = .ok (.invokevirtual 185, 3) := by decide +kernel
theorem dX8_spread_9 : decode cX8_spread 9 = .ok (.ifCond .eq 23, 3) := by decide +kernel
theorem dX8_spread_12 : decode cX8_spread 12 = .ok (.iload_n 3, 1) := by decide +kernel
theorem dX8_spread_13 : decode cX8_spread 13 = .ok (.iload 4, 2) := by decide +kernel
theorem dX8_spread_15 : decode cX8_spread 15 = .ok (.invokestatic 254, 3) := by decide +kernel
theorem dX8_spread_18 : decode cX8_spread 18 = .ok (.ifCond .eq 14, 3) := by decide +kernel
theorem dX8_spread_21 : decode cX8_spread 21 = .ok (.iload 5, 2) := by decide +kernel
theorem dX8_spread_23 : decode cX8_spread 23 = .ok (.ifCond .lt 9, 3) := by decide +kernel
theorem dX8_spread_26 : decode cX8_spread 26 = .ok (.iload 5, 2) := by decide +kernel
theorem dX8_spread_28 : decode cX8_spread 28 = .ok (.iconst 1, 1) := by decide +kernel
theorem dX8_spread_29 : decode cX8_spread 29 = .ok (.if_icmp .le 5, 3) := by decide +kernel
theorem dX8_spread_32 : decode cX8_spread 32 = .ok (.iconst (-1), 1) := by decide +kernel
theorem dX8_spread_33 : decode cX8_spread 33 = .ok (.ireturn, 1) := by decide +kernel
theorem dX8_spread_34 : decode cX8_spread 34 = .ok (.aload_n 0, 1) := by decide +kernel
theorem dX8_spread_35 : decode cX8_spread 35 = .ok (.getfield 46, 3) := by decide +kernel
theorem dX8_spread_38 : decode cX8_spread 38 = .ok (.iload_n 3, 1) := by decide +kernel
theorem dX8_spread_39 : decode cX8_spread 39 = .ok (.iload 4, 2) := by decide +kernel
theorem dX8_spread_41 : decode cX8_spread 41 = .ok (.invokestatic 261, 3) := by decide +kernel
theorem dX8_spread_44 : decode cX8_spread 44 = .ok (.invokevirtual 297, 3) := by decide +kernel
theorem dX8_spread_47 : decode cX8_spread 47 = .ok (.istore 6, 2) := by decide +kernel
theorem dX8_spread_49 : decode cX8_spread 49 = .ok (.iconst 0, 1) := by decide +kernel
theorem dX8_spread_50 : decode cX8_spread 50 = .ok (.istore 7, 2) := by decide +kernel
theorem dX8_spread_52 : decode cX8_spread 52 = .ok (.iconst 0, 1) := by decide +kernel
theorem dX8_spread_53 : decode cX8_spread 53 = .ok (.istore 8, 2) := by decide +kernel
theorem dX8_spread_55 : decode cX8_spread 55 = .ok (.iload 8, 2) := by decide +kernel
theorem dX8_spread_57 : decode cX8_spread 57 = .ok (.aload_n 0, 1) := by decide +kernel
theorem dX8_spread_58 : decode cX8_spread 58 = .ok (.getfield 37, 3) := by decide +kernel
theorem dX8_spread_61 : decode cX8_spread 61 = .ok (.getfield 202, 3) := by decide +kernel
theorem dX8_spread_64 : decode cX8_spread 64 = .ok (.if_icmp .ge 41, 3) := by decide +kernel
theorem dX8_spread_67 : decode cX8_spread 67 = .ok (.aload_n 0, 1) := by decide +kernel
theorem dX8_spread_68 : decode cX8_spread 68 = .ok (.getfield 46, 3) := by decide +kernel
theorem dX8_spread_71 : decode cX8_spread 71 = .ok (.iload 8, 2) := by decide +kernel
theorem dX8_spread_73 : decode cX8_spread 73 = .ok (.iload_n 1, 1) := by decide +kernel
theorem dX8_spread_74 : decode cX8_spread 74 = .ok (.iload 6, 2) := by decide +kernel
theorem dX8_spread_76 : decode cX8_spread 76 = .ok (.aload_n 0, 1) := by decide +kernel
theorem dX8_spread_77 : decode cX8_spread 77 = .ok (.getfield 60, 3) := by decide +kernel
theorem dX8_spread_80 : decode cX8_spread 80 = .ok (.invokevirtual 304, 3) := by decide +kernel
theorem dX8_spread_83 : decode cX8_spread 83 = .ok (.iload_n 2, 1) := by decide +kernel
theorem dX8_spread_84 : decode cX8_spread 84 = .ok (.invokestatic 310, 3) := by decide +kernel
theorem dX8_spread_87 : decode cX8_spread 87 = .ok (.ifCond .eq 12, 3) := by decide +kernel
theorem dX8_spread_90 : decode cX8_spread 90 = .ok (.iload 7, 2) := by decide +kernel
theorem dX8_spread_92 : decode cX8_spread 92 = .ok (.iconst 1, 1) := by decide +kernel
theorem dX8_spread_93 : decode cX8_spread 93 = .ok (.iload 8, 2) := by decide +kernel
theorem dX8_spread_95 : decode cX8_spread 95 = .ok (.ishl, 1) := by decide +kernel
theorem dX8_spread_96 : decode cX8_spread 96 = .ok (.ior, 1) := by decide +kernel
theorem dX8_spread_97 : decode cX8_spread 97 = .ok (.istore 7, 2) := by decide +kernel
theorem dX8_spread_99 : decode cX8_spread 99 = .ok (.iinc 8 1, 3) := by decide +kernel
theorem dX8_spread_102 : decode cX8_spread 102 = .ok (.goto (-47), 3) := by decide +kernel
theorem dX8_spread_105 : decode cX8_spread 105 = .ok (.iload 5, 2) := by decide +kernel
theorem dX8_spread_107 : decode cX8_spread 107 = .ok (.ifCond .ne 11, 3) := by decide +kernel
theorem dX8_spread_110 : decode cX8_spread 110 = .ok (.iload 7, 2) := by decide +kernel
theorem dX8_spread_112 : decode cX8_spread 112 = .ok (.invokestatic 134, 3) := by decide +kernel
theorem dX8_spread_115 : decode cX8_spread 115 = .ok (.goto 5, 3) := by decide +kernel
theorem dX8_spread_118 : decode cX8_spread 118 = .ok (.iload 7, 2) := by decide +kernel
theorem dX8_spread_120 : decode cX8_spread 120 = .ok (.ireturn, 1) := by decide +kernel
theorem dX8_child_0 : decode cX8_child 0 = .ok (.aload_n 0, 1) := by decide +kernel
theorem dX8_child_1 : decode cX8_child 1 = .ok (.getfield 53, 3) := by decide +kernel
theorem dX8_child_4 : decode cX8_child 4 = .ok (.getfield 76, 3) := by decide +kernel
theorem dX8_child_7 : decode cX8_child 7 = .ok (.iconst 4, 1) := by decide +kernel
theorem dX8_child_8 : decode cX8_child 8 = .ok (.if_icmp .lt 6, 3) := by decide +kernel
theorem dX8_child_11 : decode cX8_child 11 = .ok (.bipush (-3), 2) := by decide +kernel
theorem dX8_child_13 : decode cX8_child 13 = .ok (.ireturn, 1) := by decide +kernel
theorem dX8_child_14 : decode cX8_child 14 = .ok (.aload_n 0, 1) := by decide +kernel
theorem dX8_child_15 : decode cX8_child 15 = .ok (.getfield 53, 3) := by decide +kernel
theorem dX8_child_18 : decode cX8_child 18 = .ok (.dup, 1) := by decide +kernel
theorem dX8_child_19 : decode cX8_child 19 = .ok (.getfield 76, 3) := by decide +kernel
theorem dX8_child_22 : decode cX8_child 22 = .ok (.iconst 1, 1) := by decide +kernel
theorem dX8_child_23 : decode cX8_child 23 = .ok (.iadd, 1) := by decide +kernel
theorem dX8_child_24 : decode cX8_child 24 = .ok (.putfield 76, 3) := by decide +kernel
theorem dX8_child_27 : decode cX8_child 27 = .ok (.aload_n 0, 1) := by decide +kernel
theorem dX8_child_28 : decode cX8_child 28 = .ok (.getfield 53, 3) := by decide +kernel
theorem dX8_child_31 : decode cX8_child 31 = .ok (.getfield 76, 3) := by decide +kernel
theorem dX8_child_34 : decode cX8_child 34 = .ok (.iconst 1, 1) := by decide +kernel
theorem dX8_child_35 : decode cX8_child 35 = .ok (.isub, 1) := by decide +kernel
theorem dX8_child_36 : decode cX8_child 36 = .ok (.ireturn, 1) := by decide +kernel
set_option maxRecDepth 20000 in
theorem ggX8_learn_X2_isChild : GoodIn wsX8_learn wsX2_isChild := goodIn_r _ [7, 8, 31, 32] (by decide +kernel) (by decide +kernel)
set_option maxRecDepth 20000 in
theorem gX8_learn_X2_isChild : GoodIn wsX8_learn (wsV RX8 313 RX2 yX2_isChild wsX2_isChild) := goodIn_app (goodIn_of _ (by decide +kernel)) ggX8_learn_X2_isChild
set_option maxRecDepth 20000 in
theorem ggX8_learn_X7_isWord : GoodIn wsX8_learn wsX7_isWord := goodIn_r _ [13, 14, 33, 34, 35, 36, 37, 38, 39, 40, 41, 42] (by decide +kernel) (by decide +kernel)
set_option maxRecDepth 20000 in
theorem gX8_learn_X7_isWord : GoodIn wsX8_learn (wsV RX8 96 RX7 yX7_isWord wsX7_isWord) := goodIn_app (goodIn_of _ (by decide +kernel)) ggX8_learn_X7_isWord
set_option maxRecDepth 20000 in
theorem ggX8_learn_X2_teach : GoodIn wsX8_learn wsX2_teach := goodIn_r _ [18, 19, 20, 21, 22, 31, 32] (by decide +kernel) (by decide +kernel)
set_option maxRecDepth 20000 in
theorem gX8_learn_X2_teach : GoodIn wsX8_learn (wsV RX8 316 RX2 yX2_teach wsX2_teach) := goodIn_app (goodIn_of _ (by decide +kernel)) ggX8_learn_X2_teach
theorem dX8_learn_0 : decode cX8_learn 0 = .ok (.aload_n 0, 1) := by decide +kernel
theorem dX8_learn_1 : decode cX8_learn 1 = .ok (.getfield 53, 3) := by decide +kernel
theorem dX8_learn_4 : decode cX8_learn 4 = .ok (.iload_n 1, 1) := by decide +kernel
theorem dX8_learn_5 : decode cX8_learn 5 = .ok (.invokevirtual 313, 3) := by decide +kernel
theorem dX8_learn_8 : decode cX8_learn 8 = .ok (.ifCond .eq 30, 3) := by decide +kernel
theorem dX8_learn_11 : decode cX8_learn 11 = .ok (.aload_n 0, 1) := by decide +kernel
theorem dX8_learn_12 : decode cX8_learn 12 = .ok (.getfield 60, 3) := by decide +kernel
theorem dX8_learn_15 : decode cX8_learn 15 = .ok (.iload_n 2, 1) := by decide +kernel
theorem dX8_learn_16 : decode cX8_learn 16 = .ok (.invokevirtual 96, 3) := by decide +kernel
theorem dX8_learn_19 : decode cX8_learn 19 = .ok (.ifCond .eq 19, 3) := by decide +kernel
theorem dX8_learn_22 : decode cX8_learn 22 = .ok (.aload_n 0, 1) := by decide +kernel
theorem dX8_learn_23 : decode cX8_learn 23 = .ok (.getfield 60, 3) := by decide +kernel
theorem dX8_learn_26 : decode cX8_learn 26 = .ok (.iload_n 3, 1) := by decide +kernel
theorem dX8_learn_27 : decode cX8_learn 27 = .ok (.invokevirtual 96, 3) := by decide +kernel
theorem dX8_learn_30 : decode cX8_learn 30 = .ok (.ifCond .eq 8, 3) := by decide +kernel
theorem dX8_learn_33 : decode cX8_learn 33 = .ok (.iload_n 2, 1) := by decide +kernel
theorem dX8_learn_34 : decode cX8_learn 34 = .ok (.iload_n 3, 1) := by decide +kernel
theorem dX8_learn_35 : decode cX8_learn 35 = .ok (.if_icmp .ne 5, 3) := by decide +kernel
theorem dX8_learn_38 : decode cX8_learn 38 = .ok (.iconst (-1), 1) := by decide +kernel
theorem dX8_learn_39 : decode cX8_learn 39 = .ok (.ireturn, 1) := by decide +kernel
theorem dX8_learn_40 : decode cX8_learn 40 = .ok (.aload_n 0, 1) := by decide +kernel
theorem dX8_learn_41 : decode cX8_learn 41 = .ok (.getfield 53, 3) := by decide +kernel
theorem dX8_learn_44 : decode cX8_learn 44 = .ok (.iload_n 1, 1) := by decide +kernel
theorem dX8_learn_45 : decode cX8_learn 45 = .ok (.iload_n 2, 1) := by decide +kernel
theorem dX8_learn_46 : decode cX8_learn 46 = .ok (.iload_n 3, 1) := by decide +kernel
theorem dX8_learn_47 : decode cX8_learn 47 = .ok (.invokevirtual 316, 3) := by decide +kernel
theorem dX8_learn_50 : decode cX8_learn 50 = .ok (.ifCond .eq 7, 3) := by decide +kernel
theorem dX8_learn_53 : decode cX8_learn 53 = .ok (.iconst 1, 1) := by decide +kernel
theorem dX8_learn_54 : decode cX8_learn 54 = .ok (.goto 4, 3) := by decide +kernel
theorem dX8_learn_57 : decode cX8_learn 57 = .ok (.iconst 0, 1) := by decide +kernel
theorem dX8_learn_58 : decode cX8_learn 58 = .ok (.ireturn, 1) := by decide +kernel
set_option maxRecDepth 20000 in
theorem ggX8_childOf_X2_isChild : GoodIn wsX8_childOf wsX2_isChild := goodIn_r _ [7, 8, 74, 75] (by decide +kernel) (by decide +kernel)
set_option maxRecDepth 20000 in
theorem gX8_childOf_X2_isChild : GoodIn wsX8_childOf (wsV RX8 313 RX2 yX2_isChild wsX2_isChild) := goodIn_app (goodIn_of _ (by decide +kernel)) ggX8_childOf_X2_isChild
set_option maxRecDepth 20000 in
theorem ggX8_childOf_X2_learnedPairs : GoodIn wsX8_childOf wsX2_learnedPairs := goodIn_r _ [12, 13, 14, 15, 16, 17, 18, 19, 20, 74, 75] (by decide +kernel) (by decide +kernel)
set_option maxRecDepth 20000 in
theorem gX8_childOf_X2_learnedPairs : GoodIn wsX8_childOf (wsV RX8 319 RX2 yX2_learnedPairs wsX2_learnedPairs) := goodIn_app (goodIn_of _ (by decide +kernel)) ggX8_childOf_X2_learnedPairs
set_option maxRecDepth 20000 in
theorem ggX8_childOf_X7_allWords : GoodIn wsX8_childOf wsX7_allWords := goodIn_r _ [25, 26, 76, 77, 78, 79, 80, 81, 82, 83, 84, 85] (by decide +kernel) (by decide +kernel)
set_option maxRecDepth 20000 in
theorem gX8_childOf_X7_allWords : GoodIn wsX8_childOf (wsV RX8 150 RX7 yX7_allWords wsX7_allWords) := goodIn_app (goodIn_of _ (by decide +kernel)) ggX8_childOf_X7_allWords
set_option maxRecDepth 20000 in
theorem ggX8_childOf_X2_confusedPairs : GoodIn wsX8_childOf wsX2_confusedPairs := goodIn_r _ [30, 31, 32, 33, 34, 35, 36, 37, 6, 38, 39, 13, 14, 15, 16, 17, 18, 19, 20, 76, 77, 78, 79, 80, 81, 82, 83, 84, 85, 74, 75] (by decide +kernel) (by decide +kernel)
set_option maxRecDepth 20000 in
theorem gX8_childOf_X2_confusedPairs : GoodIn wsX8_childOf (wsV RX8 322 RX2 yX2_confusedPairs wsX2_confusedPairs) := goodIn_app (goodIn_of _ (by decide +kernel)) ggX8_childOf_X2_confusedPairs
set_option maxRecDepth 20000 in
theorem ggX8_childOf_X2_groups : GoodIn wsX8_childOf wsX2_groups := goodIn_r _ [43, 31, 44, 45, 46, 6, 47, 32, 33, 34, 35, 36, 37, 38, 39, 13, 48, 49, 16, 50, 51, 76, 77, 78, 79, 80, 81, 82, 83, 84, 85, 74, 75] (by decide +kernel) (by decide +kernel)
set_option maxRecDepth 20000 in
theorem gX8_childOf_X2_groups : GoodIn wsX8_childOf (wsV RX8 326 RX2 yX2_groups wsX2_groups) := goodIn_app (goodIn_of _ (by decide +kernel)) ggX8_childOf_X2_groups
set_option maxRecDepth 20000 in
theorem ggX8_childOf_X2_greatestGroup : GoodIn wsX8_childOf wsX2_greatestGroup := goodIn_r _ [55, 31, 56, 57, 58, 59, 44, 45, 46, 6, 47, 32, 33, 34, 35, 36, 37, 38, 39, 13, 14, 15, 16, 17, 18, 19, 20, 76, 77, 78, 79, 80, 81, 82, 83, 84, 85, 74, 75] (by decide +kernel) (by decide +kernel)
set_option maxRecDepth 20000 in
theorem gX8_childOf_X2_greatestGroup : GoodIn wsX8_childOf (wsV RX8 329 RX2 yX2_greatestGroup wsX2_greatestGroup) := goodIn_app (goodIn_of _ (by decide +kernel)) ggX8_childOf_X2_greatestGroup
set_option maxRecDepth 20000 in
theorem ggX8_childOf_X7_isWord : GoodIn wsX8_childOf wsX7_isWord := goodIn_r _ [63, 26, 76, 77, 78, 79, 80, 81, 82, 83, 84, 85] (by decide +kernel) (by decide +kernel)
set_option maxRecDepth 20000 in
theorem gX8_childOf_X7_isWord : GoodIn wsX8_childOf (wsV RX8 96 RX7 yX7_isWord wsX7_isWord) := goodIn_app (goodIn_of _ (by decide +kernel)) ggX8_childOf_X7_isWord
set_option maxRecDepth 20000 in
theorem ggX8_childOf_X2_groupWith : GoodIn wsX8_childOf wsX2_groupWith := goodIn_r _ [47, 31, 32, 33, 34, 35, 36, 37, 6, 38, 39, 13, 76, 77, 78, 79, 80, 81, 82, 83, 84, 85, 74, 75] (by decide +kernel) (by decide +kernel)
set_option maxRecDepth 20000 in
theorem gX8_childOf_X2_groupWith : GoodIn wsX8_childOf (wsV RX8 332 RX2 yX2_groupWith wsX2_groupWith) := goodIn_app (goodIn_of _ (by decide +kernel)) ggX8_childOf_X2_groupWith
set_option maxRecDepth 20000 in
theorem ggX8_childOf_J6_numberOfTrailingZeros_0f7a4 : GoodIn wsX8_childOf wsJ6_numberOfTrailingZeros_0f7a4 := goodIn_r _ [50, 51] (by decide +kernel) (by decide +kernel)
set_option maxRecDepth 20000 in
theorem gX8_childOf_J6_numberOfTrailingZeros_0f7a4 : GoodIn wsX8_childOf (va_wsS RX8 335 yJ6_numberOfTrailingZeros_0f7a4 wsJ6_numberOfTrailingZeros_0f7a4) := goodIn_app (goodIn_of _ (by decide +kernel)) ggX8_childOf_J6_numberOfTrailingZeros_0f7a4
theorem dX8_childOf_0 : decode cX8_childOf 0 = .ok (.aload_n 0, 1) := by decide +kernel
theorem dX8_childOf_1 : decode cX8_childOf 1 = .ok (.getfield 53, 3) := by decide +kernel
theorem dX8_childOf_4 : decode cX8_childOf 4 = .ok (.iload_n 1, 1) := by decide +kernel
theorem dX8_childOf_5 : decode cX8_childOf 5 = .ok (.invokevirtual 313, 3) := by decide +kernel
theorem dX8_childOf_8 : decode cX8_childOf 8 = .ok (.ifCond .ne 5, 3) := by decide +kernel
theorem dX8_childOf_11 : decode cX8_childOf 11 = .ok (.iconst (-1), 1) := by decide +kernel
theorem dX8_childOf_12 : decode cX8_childOf 12 = .ok (.ireturn, 1) := by decide +kernel
theorem dX8_childOf_13 : decode cX8_childOf 13 = .ok (.iload_n 2, 1) := by decide +kernel
theorem dX8_childOf_14 : decode cX8_childOf 14 = .ok (.tableswitch 85 0 3 #[30, 39, 59, 72], 30) := by decide +kernel
theorem dX8_childOf_44 : decode cX8_childOf 44 = .ok (.aload_n 0, 1) := by decide +kernel
theorem dX8_childOf_45 : decode cX8_childOf 45 = .ok (.getfield 53, 3) := by decide +kernel
theorem dX8_childOf_48 : decode cX8_childOf 48 = .ok (.iload_n 1, 1) := by decide +kernel
theorem dX8_childOf_49 : decode cX8_childOf 49 = .ok (.invokevirtual 319, 3) := by decide +kernel
theorem dX8_childOf_52 : decode cX8_childOf 52 = .ok (.ireturn, 1) := by decide +kernel
theorem dX8_childOf_53 : decode cX8_childOf 53 = .ok (.aload_n 0, 1) := by decide +kernel
theorem dX8_childOf_54 : decode cX8_childOf 54 = .ok (.getfield 53, 3) := by decide +kernel
theorem dX8_childOf_57 : decode cX8_childOf 57 = .ok (.iload_n 1, 1) := by decide +kernel
theorem dX8_childOf_58 : decode cX8_childOf 58 = .ok (.aload_n 0, 1) := by decide +kernel
theorem dX8_childOf_59 : decode cX8_childOf 59 = .ok (.getfield 60, 3) := by decide +kernel
theorem dX8_childOf_62 : decode cX8_childOf 62 = .ok (.invokevirtual 150, 3) := by decide +kernel
theorem dX8_childOf_65 : decode cX8_childOf 65 = .ok (.aload_n 0, 1) := by decide +kernel
theorem dX8_childOf_66 : decode cX8_childOf 66 = .ok (.getfield 60, 3) := by decide +kernel
theorem dX8_childOf_69 : decode cX8_childOf 69 = .ok (.invokevirtual 322, 3) := by decide +kernel
theorem dX8_childOf_72 : decode cX8_childOf 72 = .ok (.ireturn, 1) := by decide +kernel
theorem dX8_childOf_73 : decode cX8_childOf 73 = .ok (.aload_n 0, 1) := by decide +kernel
theorem dX8_childOf_74 : decode cX8_childOf 74 = .ok (.getfield 53, 3) := by decide +kernel
theorem dX8_childOf_77 : decode cX8_childOf 77 = .ok (.iload_n 1, 1) := by decide +kernel
theorem dX8_childOf_78 : decode cX8_childOf 78 = .ok (.aload_n 0, 1) := by decide +kernel
theorem dX8_childOf_79 : decode cX8_childOf 79 = .ok (.getfield 60, 3) := by decide +kernel
theorem dX8_childOf_82 : decode cX8_childOf 82 = .ok (.invokevirtual 326, 3) := by decide +kernel
theorem dX8_childOf_85 : decode cX8_childOf 85 = .ok (.ireturn, 1) := by decide +kernel
theorem dX8_childOf_86 : decode cX8_childOf 86 = .ok (.aload_n 0, 1) := by decide +kernel
theorem dX8_childOf_87 : decode cX8_childOf 87 = .ok (.getfield 53, 3) := by decide +kernel
theorem dX8_childOf_90 : decode cX8_childOf 90 = .ok (.iload_n 1, 1) := by decide +kernel
theorem dX8_childOf_91 : decode cX8_childOf 91 = .ok (.aload_n 0, 1) := by decide +kernel
theorem dX8_childOf_92 : decode cX8_childOf 92 = .ok (.getfield 60, 3) := by decide +kernel
theorem dX8_childOf_95 : decode cX8_childOf 95 = .ok (.invokevirtual 329, 3) := by decide +kernel
theorem dX8_childOf_98 : decode cX8_childOf 98 = .ok (.ireturn, 1) := by decide +kernel
theorem dX8_childOf_99 : decode cX8_childOf 99 = .ok (.iload_n 2, 1) := by decide +kernel
theorem dX8_childOf_100 : decode cX8_childOf 100 = .ok (.bipush 10, 2) := by decide +kernel
theorem dX8_childOf_102 : decode cX8_childOf 102 = .ok (.if_icmp .lt 17, 3) := by decide +kernel
theorem dX8_childOf_105 : decode cX8_childOf 105 = .ok (.aload_n 0, 1) := by decide +kernel
theorem dX8_childOf_106 : decode cX8_childOf 106 = .ok (.getfield 60, 3) := by decide +kernel
theorem dX8_childOf_109 : decode cX8_childOf 109 = .ok (.iload_n 2, 1) := by decide +kernel
theorem dX8_childOf_110 : decode cX8_childOf 110 = .ok (.bipush 10, 2) := by decide +kernel
theorem dX8_childOf_112 : decode cX8_childOf 112 = .ok (.isub, 1) := by decide +kernel
theorem dX8_childOf_113 : decode cX8_childOf 113 = .ok (.invokevirtual 96, 3) := by decide +kernel
theorem dX8_childOf_116 : decode cX8_childOf 116 = .ok (.ifCond .ne 5, 3) := by decide +kernel
theorem dX8_childOf_119 : decode cX8_childOf 119 = .ok (.iconst (-1), 1) := by decide +kernel
theorem dX8_childOf_120 : decode cX8_childOf 120 = .ok (.ireturn, 1) := by decide +kernel
theorem dX8_childOf_121 : decode cX8_childOf 121 = .ok (.aload_n 0, 1) := by decide +kernel
theorem dX8_childOf_122 : decode cX8_childOf 122 = .ok (.getfield 53, 3) := by decide +kernel
theorem dX8_childOf_125 : decode cX8_childOf 125 = .ok (.iload_n 1, 1) := by decide +kernel
theorem dX8_childOf_126 : decode cX8_childOf 126 = .ok (.iload_n 2, 1) := by decide +kernel
theorem dX8_childOf_127 : decode cX8_childOf 127 = .ok (.bipush 10, 2) := by decide +kernel
theorem dX8_childOf_129 : decode cX8_childOf 129 = .ok (.isub, 1) := by decide +kernel
theorem dX8_childOf_130 : decode cX8_childOf 130 = .ok (.aload_n 0, 1) := by decide +kernel
theorem dX8_childOf_131 : decode cX8_childOf 131 = .ok (.getfield 60, 3) := by decide +kernel
theorem dX8_childOf_134 : decode cX8_childOf 134 = .ok (.invokevirtual 332, 3) := by decide +kernel
theorem dX8_childOf_137 : decode cX8_childOf 137 = .ok (.invokestatic 335, 3) := by decide +kernel
theorem dX8_childOf_140 : decode cX8_childOf 140 = .ok (.ireturn, 1) := by decide +kernel
set_option maxRecDepth 20000 in
theorem ggX8_lessons_X2_isChild : GoodIn wsX8_lessons wsX2_isChild := goodIn_r _ [8, 9, 55, 56] (by decide +kernel) (by decide +kernel)
set_option maxRecDepth 20000 in
theorem gX8_lessons_X2_isChild : GoodIn wsX8_lessons (wsV RX8 313 RX2 yX2_isChild wsX2_isChild) := goodIn_app (goodIn_of _ (by decide +kernel)) ggX8_lessons_X2_isChild
set_option maxRecDepth 20000 in
theorem ggX8_lessons_X7_isAsk : GoodIn wsX8_lessons wsX7_isAsk := goodIn_r _ [14, 15, 45, 46, 47, 48, 49, 50, 51, 52, 53, 54] (by decide +kernel) (by decide +kernel)
set_option maxRecDepth 20000 in
theorem gX8_lessons_X7_isAsk : GoodIn wsX8_lessons (wsV RX8 128 RX7 yX7_isAsk wsX7_isAsk) := goodIn_app (goodIn_of _ (by decide +kernel)) ggX8_lessons_X7_isAsk
set_option maxRecDepth 20000 in
theorem ggX8_lessons_X2_confusedPairs : GoodIn wsX8_lessons wsX2_confusedPairs := goodIn_r _ [19, 20, 21, 22, 23, 24, 25, 26, 7, 27, 28, 29, 30, 31, 32, 33, 34, 35, 36, 45, 46, 47, 48, 49, 50, 51, 52, 53, 54, 55, 56] (by decide +kernel) (by decide +kernel)
set_option maxRecDepth 20000 in
theorem gX8_lessons_X2_confusedPairs : GoodIn wsX8_lessons (wsV RX8 322 RX2 yX2_confusedPairs wsX2_confusedPairs) := goodIn_app (goodIn_of _ (by decide +kernel)) ggX8_lessons_X2_confusedPairs
theorem dX8_lessons_0 : decode cX8_lessons 0 = .ok (.aload_n 0, 1) := by decide +kernel
theorem dX8_lessons_1 : decode cX8_lessons 1 = .ok (.getfield 53, 3) := by decide +kernel
theorem dX8_lessons_4 : decode cX8_lessons 4 = .ok (.iload_n 1, 1) := by decide +kernel
theorem dX8_lessons_5 : decode cX8_lessons 5 = .ok (.invokevirtual 313, 3) := by decide +kernel
theorem dX8_lessons_8 : decode cX8_lessons 8 = .ok (.ifCond .eq 14, 3) := by decide +kernel
theorem dX8_lessons_11 : decode cX8_lessons 11 = .ok (.aload_n 0, 1) := by decide +kernel
theorem dX8_lessons_12 : decode cX8_lessons 12 = .ok (.getfield 60, 3) := by decide +kernel
theorem dX8_lessons_15 : decode cX8_lessons 15 = .ok (.iload_n 2, 1) := by decide +kernel
theorem dX8_lessons_16 : decode cX8_lessons 16 = .ok (.invokevirtual 128, 3) := by decide +kernel
theorem dX8_lessons_19 : decode cX8_lessons 19 = .ok (.ifCond .ne 5, 3) := by decide +kernel
theorem dX8_lessons_22 : decode cX8_lessons 22 = .ok (.iconst (-1), 1) := by decide +kernel
theorem dX8_lessons_23 : decode cX8_lessons 23 = .ok (.ireturn, 1) := by decide +kernel
theorem dX8_lessons_24 : decode cX8_lessons 24 = .ok (.aload_n 0, 1) := by decide +kernel
theorem dX8_lessons_25 : decode cX8_lessons 25 = .ok (.getfield 53, 3) := by decide +kernel
theorem dX8_lessons_28 : decode cX8_lessons 28 = .ok (.iload_n 1, 1) := by decide +kernel
theorem dX8_lessons_29 : decode cX8_lessons 29 = .ok (.aload_n 0, 1) := by decide +kernel
theorem dX8_lessons_30 : decode cX8_lessons 30 = .ok (.getfield 60, 3) := by decide +kernel
theorem dX8_lessons_33 : decode cX8_lessons 33 = .ok (.getfield 131, 3) := by decide +kernel
theorem dX8_lessons_36 : decode cX8_lessons 36 = .ok (.iload_n 2, 1) := by decide +kernel
theorem dX8_lessons_37 : decode cX8_lessons 37 = .ok (.iaload, 1) := by decide +kernel
theorem dX8_lessons_38 : decode cX8_lessons 38 = .ok (.aload_n 0, 1) := by decide +kernel
theorem dX8_lessons_39 : decode cX8_lessons 39 = .ok (.getfield 60, 3) := by decide +kernel
theorem dX8_lessons_42 : decode cX8_lessons 42 = .ok (.invokevirtual 322, 3) := by decide +kernel
theorem dX8_lessons_45 : decode cX8_lessons 45 = .ok (.ireturn, 1) := by decide +kernel
set_option maxRecDepth 20000 in
theorem ggX8_count_X0_falseOnes : GoodIn wsX8_count wsX0_falseOnes := goodIn_r _ [20, 21, 22, 23, 24, 19, 25, 26, 27, 59, 60, 61, 62, 63, 64, 65, 66, 67] (by decide +kernel) (by decide +kernel)
set_option maxRecDepth 20000 in
theorem gX8_count_X0_falseOnes : GoodIn wsX8_count (wsV RX8 344 RX0 yX0_falseOnes wsX0_falseOnes) := goodIn_app (goodIn_of _ (by decide +kernel)) ggX8_count_X0_falseOnes
theorem dX8_count_0 : decode cX8_count 0 = .ok (.iload_n 1, 1) := by decide +kernel
theorem dX8_count_1 : decode cX8_count 1 = .ok (.tableswitch 155 0 9 #[55, 63, 71, 79, 87, 95, 103, 111, 119, 127], 55) := by decide +kernel
theorem dX8_count_56 : decode cX8_count 56 = .ok (.aload_n 0, 1) := by decide +kernel
theorem dX8_count_57 : decode cX8_count 57 = .ok (.getfield 60, 3) := by decide +kernel
theorem dX8_count_60 : decode cX8_count 60 = .ok (.getfield 93, 3) := by decide +kernel
theorem dX8_count_63 : decode cX8_count 63 = .ok (.ireturn, 1) := by decide +kernel
theorem dX8_count_64 : decode cX8_count 64 = .ok (.aload_n 0, 1) := by decide +kernel
theorem dX8_count_65 : decode cX8_count 65 = .ok (.getfield 60, 3) := by decide +kernel
theorem dX8_count_68 : decode cX8_count 68 = .ok (.getfield 338, 3) := by decide +kernel
theorem dX8_count_71 : decode cX8_count 71 = .ok (.ireturn, 1) := by decide +kernel
theorem dX8_count_72 : decode cX8_count 72 = .ok (.aload_n 0, 1) := by decide +kernel
theorem dX8_count_73 : decode cX8_count 73 = .ok (.getfield 60, 3) := by decide +kernel
theorem dX8_count_76 : decode cX8_count 76 = .ok (.getfield 341, 3) := by decide +kernel
theorem dX8_count_79 : decode cX8_count 79 = .ok (.ireturn, 1) := by decide +kernel
theorem dX8_count_80 : decode cX8_count 80 = .ok (.aload_n 0, 1) := by decide +kernel
theorem dX8_count_81 : decode cX8_count 81 = .ok (.getfield 37, 3) := by decide +kernel
theorem dX8_count_84 : decode cX8_count 84 = .ok (.getfield 202, 3) := by decide +kernel
theorem dX8_count_87 : decode cX8_count 87 = .ok (.ireturn, 1) := by decide +kernel
theorem dX8_count_88 : decode cX8_count 88 = .ok (.aload_n 0, 1) := by decide +kernel
theorem dX8_count_89 : decode cX8_count 89 = .ok (.getfield 37, 3) := by decide +kernel
theorem dX8_count_92 : decode cX8_count 92 = .ok (.getfield 208, 3) := by decide +kernel
theorem dX8_count_95 : decode cX8_count 95 = .ok (.ireturn, 1) := by decide +kernel
theorem dX8_count_96 : decode cX8_count 96 = .ok (.aload_n 0, 1) := by decide +kernel
theorem dX8_count_97 : decode cX8_count 97 = .ok (.getfield 46, 3) := by decide +kernel
theorem dX8_count_100 : decode cX8_count 100 = .ok (.getfield 75, 3) := by decide +kernel
theorem dX8_count_103 : decode cX8_count 103 = .ok (.ireturn, 1) := by decide +kernel
theorem dX8_count_104 : decode cX8_count 104 = .ok (.aload_n 0, 1) := by decide +kernel
theorem dX8_count_105 : decode cX8_count 105 = .ok (.getfield 46, 3) := by decide +kernel
theorem dX8_count_108 : decode cX8_count 108 = .ok (.invokevirtual 344, 3) := by decide +kernel
theorem dX8_count_111 : decode cX8_count 111 = .ok (.ireturn, 1) := by decide +kernel
theorem dX8_count_112 : decode cX8_count 112 = .ok (.aload_n 0, 1) := by decide +kernel
theorem dX8_count_113 : decode cX8_count 113 = .ok (.getfield 53, 3) := by decide +kernel
theorem dX8_count_116 : decode cX8_count 116 = .ok (.getfield 76, 3) := by decide +kernel
theorem dX8_count_119 : decode cX8_count 119 = .ok (.ireturn, 1) := by decide +kernel
theorem dX8_count_120 : decode cX8_count 120 = .ok (.aload_n 0, 1) := by decide +kernel
theorem dX8_count_121 : decode cX8_count 121 = .ok (.getfield 10, 3) := by decide +kernel
theorem dX8_count_124 : decode cX8_count 124 = .ok (.getfield 72, 3) := by decide +kernel
theorem dX8_count_127 : decode cX8_count 127 = .ok (.ireturn, 1) := by decide +kernel
theorem dX8_count_128 : decode cX8_count 128 = .ok (.aload_n 0, 1) := by decide +kernel
theorem dX8_count_129 : decode cX8_count 129 = .ok (.getfield 28, 3) := by decide +kernel
theorem dX8_count_132 : decode cX8_count 132 = .ok (.getfield 347, 3) := by decide +kernel
theorem dX8_count_135 : decode cX8_count 135 = .ok (.iconst 0, 1) := by decide +kernel
theorem dX8_count_136 : decode cX8_count 136 = .ok (.iaload, 1) := by decide +kernel
theorem dX8_count_137 : decode cX8_count 137 = .ok (.iconst (-1), 1) := by decide +kernel
theorem dX8_count_138 : decode cX8_count 138 = .ok (.if_icmp .ne 8, 3) := by decide +kernel
theorem dX8_count_141 : decode cX8_count 141 = .ok (.bipush (-4), 2) := by decide +kernel
theorem dX8_count_143 : decode cX8_count 143 = .ok (.goto 12, 3) := by decide +kernel
theorem dX8_count_146 : decode cX8_count 146 = .ok (.aload_n 0, 1) := by decide +kernel
theorem dX8_count_147 : decode cX8_count 147 = .ok (.getfield 28, 3) := by decide +kernel
theorem dX8_count_150 : decode cX8_count 150 = .ok (.getfield 347, 3) := by decide +kernel
theorem dX8_count_153 : decode cX8_count 153 = .ok (.iconst 0, 1) := by decide +kernel
theorem dX8_count_154 : decode cX8_count 154 = .ok (.iaload, 1) := by decide +kernel
theorem dX8_count_155 : decode cX8_count 155 = .ok (.ireturn, 1) := by decide +kernel
theorem dX8_count_156 : decode cX8_count 156 = .ok (.iconst (-1), 1) := by decide +kernel
theorem dX8_count_157 : decode cX8_count 157 = .ok (.ireturn, 1) := by decide +kernel
theorem dX8_orBad_0 : decode cX8_orBad 0 = .ok (.iload_n 0, 1) := by decide +kernel
theorem dX8_orBad_1 : decode cX8_orBad 1 = .ok (.bipush (-4), 2) := by decide +kernel
theorem dX8_orBad_3 : decode cX8_orBad 3 = .ok (.if_icmp .ne 7, 3) := by decide +kernel
theorem dX8_orBad_6 : decode cX8_orBad 6 = .ok (.iconst (-1), 1) := by decide +kernel
theorem dX8_orBad_7 : decode cX8_orBad 7 = .ok (.goto 4, 3) := by decide +kernel
theorem dX8_orBad_10 : decode cX8_orBad 10 = .ok (.iload_n 0, 1) := by decide +kernel
theorem dX8_orBad_11 : decode cX8_orBad 11 = .ok (.ireturn, 1) := by decide +kernel
theorem dX8_isBlur_0 : decode cX8_isBlur 0 = .ok (.iload_n 0, 1) := by decide +kernel
theorem dX8_isBlur_1 : decode cX8_isBlur 1 = .ok (.ifCond .lt 13, 3) := by decide +kernel
theorem dX8_isBlur_4 : decode cX8_isBlur 4 = .ok (.iload_n 0, 1) := by decide +kernel
theorem dX8_isBlur_5 : decode cX8_isBlur 5 = .ok (.bipush 6, 2) := by decide +kernel
theorem dX8_isBlur_7 : decode cX8_isBlur 7 = .ok (.if_icmp .ge 7, 3) := by decide +kernel
theorem dX8_isBlur_10 : decode cX8_isBlur 10 = .ok (.iconst 1, 1) := by decide +kernel
theorem dX8_isBlur_11 : decode cX8_isBlur 11 = .ok (.goto 4, 3) := by decide +kernel
theorem dX8_isBlur_14 : decode cX8_isBlur 14 = .ok (.iconst 0, 1) := by decide +kernel
theorem dX8_isBlur_15 : decode cX8_isBlur 15 = .ok (.ireturn, 1) := by decide +kernel
theorem dX8_isHour_0 : decode cX8_isHour 0 = .ok (.iload_n 0, 1) := by decide +kernel
theorem dX8_isHour_1 : decode cX8_isHour 1 = .ok (.ifCond .lt 13, 3) := by decide +kernel
theorem dX8_isHour_4 : decode cX8_isHour 4 = .ok (.iload_n 0, 1) := by decide +kernel
theorem dX8_isHour_5 : decode cX8_isHour 5 = .ok (.bipush 24, 2) := by decide +kernel
theorem dX8_isHour_7 : decode cX8_isHour 7 = .ok (.if_icmp .ge 7, 3) := by decide +kernel
theorem dX8_isHour_10 : decode cX8_isHour 10 = .ok (.iconst 1, 1) := by decide +kernel
theorem dX8_isHour_11 : decode cX8_isHour 11 = .ok (.goto 4, 3) := by decide +kernel
theorem dX8_isHour_14 : decode cX8_isHour 14 = .ok (.iconst 0, 1) := by decide +kernel
theorem dX8_isHour_15 : decode cX8_isHour 15 = .ok (.ireturn, 1) := by decide +kernel
set_option maxRecDepth 20000 in
theorem ggX8_isTime_X8_isHour : GoodIn wsX8_isTime wsX8_isHour := goodIn_r _ [4] (by decide +kernel) (by decide +kernel)
set_option maxRecDepth 20000 in
theorem gX8_isTime_X8_isHour : GoodIn wsX8_isTime (va_wsS RX8 221 yX8_isHour wsX8_isHour) := goodIn_app (goodIn_of _ (by decide +kernel)) ggX8_isTime_X8_isHour
theorem dX8_isTime_0 : decode cX8_isTime 0 = .ok (.iload_n 0, 1) := by decide +kernel
theorem dX8_isTime_1 : decode cX8_isTime 1 = .ok (.ifCond .lt 20, 3) := by decide +kernel
theorem dX8_isTime_4 : decode cX8_isTime 4 = .ok (.iload_n 0, 1) := by decide +kernel
theorem dX8_isTime_5 : decode cX8_isTime 5 = .ok (.bipush 100, 2) := by decide +kernel
theorem dX8_isTime_7 : decode cX8_isTime 7 = .ok (.if_icmp .ge 14, 3) := by decide +kernel
theorem dX8_isTime_10 : decode cX8_isTime 10 = .ok (.iload_n 1, 1) := by decide +kernel
theorem dX8_isTime_11 : decode cX8_isTime 11 = .ok (.invokestatic 221, 3) := by decide +kernel
theorem dX8_isTime_14 : decode cX8_isTime 14 = .ok (.ifCond .eq 7, 3) := by decide +kernel
theorem dX8_isTime_17 : decode cX8_isTime 17 = .ok (.iconst 1, 1) := by decide +kernel
theorem dX8_isTime_18 : decode cX8_isTime 18 = .ok (.goto 4, 3) := by decide +kernel
theorem dX8_isTime_21 : decode cX8_isTime 21 = .ok (.iconst 0, 1) := by decide +kernel
theorem dX8_isTime_22 : decode cX8_isTime 22 = .ok (.ireturn, 1) := by decide +kernel
theorem dX8_timeOf_0 : decode cX8_timeOf 0 = .ok (.iload_n 0, 1) := by decide +kernel
theorem dX8_timeOf_1 : decode cX8_timeOf 1 = .ok (.bipush 24, 2) := by decide +kernel
theorem dX8_timeOf_3 : decode cX8_timeOf 3 = .ok (.imul, 1) := by decide +kernel
theorem dX8_timeOf_4 : decode cX8_timeOf 4 = .ok (.iload_n 1, 1) := by decide +kernel
theorem dX8_timeOf_5 : decode cX8_timeOf 5 = .ok (.iadd, 1) := by decide +kernel
theorem dX8_timeOf_6 : decode cX8_timeOf 6 = .ok (.ireturn, 1) := by decide +kernel
theorem dX8_isMeasure_0 : decode cX8_isMeasure 0 = .ok (.iload_n 0, 1) := by decide +kernel
theorem dX8_isMeasure_1 : decode cX8_isMeasure 1 = .ok (.ifCond .lt 13, 3) := by decide +kernel
theorem dX8_isMeasure_4 : decode cX8_isMeasure 4 = .ok (.iload_n 0, 1) := by decide +kernel
theorem dX8_isMeasure_5 : decode cX8_isMeasure 5 = .ok (.bipush 100, 2) := by decide +kernel
theorem dX8_isMeasure_7 : decode cX8_isMeasure 7 = .ok (.if_icmp .ge 7, 3) := by decide +kernel
theorem dX8_isMeasure_10 : decode cX8_isMeasure 10 = .ok (.iconst 1, 1) := by decide +kernel
theorem dX8_isMeasure_11 : decode cX8_isMeasure 11 = .ok (.goto 4, 3) := by decide +kernel
theorem dX8_isMeasure_14 : decode cX8_isMeasure 14 = .ok (.iconst 0, 1) := by decide +kernel
theorem dX8_isMeasure_15 : decode cX8_isMeasure 15 = .ok (.ireturn, 1) := by decide +kernel
theorem dX8_isIn_0 : decode cX8_isIn 0 = .ok (.iload_n 0, 1) := by decide +kernel
theorem dX8_isIn_1 : decode cX8_isIn 1 = .ok (.iload_n 1, 1) := by decide +kernel
theorem dX8_isIn_2 : decode cX8_isIn 2 = .ok (.ishr, 1) := by decide +kernel
theorem dX8_isIn_3 : decode cX8_isIn 3 = .ok (.iconst 1, 1) := by decide +kernel
theorem dX8_isIn_4 : decode cX8_isIn 4 = .ok (.iand, 1) := by decide +kernel
theorem dX8_isIn_5 : decode cX8_isIn 5 = .ok (.ifCond .eq 7, 3) := by decide +kernel
theorem dX8_isIn_8 : decode cX8_isIn 8 = .ok (.iconst 1, 1) := by decide +kernel
theorem dX8_isIn_9 : decode cX8_isIn 9 = .ok (.goto 4, 3) := by decide +kernel
theorem dX8_isIn_12 : decode cX8_isIn 12 = .ok (.iconst 0, 1) := by decide +kernel
theorem dX8_isIn_13 : decode cX8_isIn 13 = .ok (.ireturn, 1) := by decide +kernel
