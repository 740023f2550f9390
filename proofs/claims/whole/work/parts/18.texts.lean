theorem dJ0_coder_7d493_0 : decode cJ0_coder_7d493 0 = .ok (.getstatic 38, 3) := by decide +kernel
theorem dJ0_coder_7d493_3 : decode cJ0_coder_7d493 3 = .ok (.ifCond .eq 10, 3) := by decide +kernel
theorem dJ0_coder_7d493_6 : decode cJ0_coder_7d493 6 = .ok (.aload_n 0, 1) := by decide +kernel
theorem dJ0_coder_7d493_7 : decode cJ0_coder_7d493 7 = .ok (.getfield 15, 3) := by decide +kernel
theorem dJ0_coder_7d493_10 : decode cJ0_coder_7d493 10 = .ok (.goto 4, 3) := by decide +kernel
theorem dJ0_coder_7d493_13 : decode cJ0_coder_7d493 13 = .ok (.iconst 1, 1) := by decide +kernel
theorem dJ0_coder_7d493_14 : decode cJ0_coder_7d493 14 = .ok (.ireturn, 1) := by decide +kernel
theorem dJ0_length_8abf5_0 : decode cJ0_length_8abf5 0 = .ok (.aload_n 0, 1) := by decide +kernel
theorem dJ0_length_8abf5_1 : decode cJ0_length_8abf5 1 = .ok (.getfield 9, 3) := by decide +kernel
theorem dJ0_length_8abf5_4 : decode cJ0_length_8abf5 4 = .ok (.arraylength, 1) := by decide +kernel
theorem dJ0_length_8abf5_5 : decode cJ0_length_8abf5 5 = .ok (.aload_n 0, 1) := by decide +kernel
theorem dJ0_length_8abf5_6 : decode cJ0_length_8abf5 6 = .ok (.invokevirtual 335, 3) := by decide +kernel
theorem dJ0_length_8abf5_9 : decode cJ0_length_8abf5 9 = .ok (.ishr, 1) := by decide +kernel
theorem dJ0_length_8abf5_10 : decode cJ0_length_8abf5 10 = .ok (.ireturn, 1) := by decide +kernel
theorem dJ0_isLatin1_aae02_0 : decode cJ0_isLatin1_aae02 0 = .ok (.getstatic 38, 3) := by decide +kernel
theorem dJ0_isLatin1_aae02_3 : decode cJ0_isLatin1_aae02 3 = .ok (.ifCond .eq 14, 3) := by decide +kernel
theorem dJ0_isLatin1_aae02_6 : decode cJ0_isLatin1_aae02 6 = .ok (.aload_n 0, 1) := by decide +kernel
theorem dJ0_isLatin1_aae02_7 : decode cJ0_isLatin1_aae02 7 = .ok (.getfield 15, 3) := by decide +kernel
theorem dJ0_isLatin1_aae02_10 : decode cJ0_isLatin1_aae02 10 = .ok (.ifCond .ne 7, 3) := by decide +kernel
theorem dJ0_isLatin1_aae02_13 : decode cJ0_isLatin1_aae02 13 = .ok (.iconst 1, 1) := by decide +kernel
theorem dJ0_isLatin1_aae02_14 : decode cJ0_isLatin1_aae02 14 = .ok (.goto 4, 3) := by decide +kernel
theorem dJ0_isLatin1_aae02_17 : decode cJ0_isLatin1_aae02 17 = .ok (.iconst 0, 1) := by decide +kernel
theorem dJ0_isLatin1_aae02_18 : decode cJ0_isLatin1_aae02 18 = .ok (.ireturn, 1) := by decide +kernel
theorem dJ3_checkIndex_8e157_0 : decode cJ3_checkIndex_8e157 0 = .ok (.iload_n 0, 1) := by decide +kernel
theorem dJ3_checkIndex_8e157_1 : decode cJ3_checkIndex_8e157 1 = .ok (.ifCond .lt 8, 3) := by decide +kernel
theorem dJ3_checkIndex_8e157_4 : decode cJ3_checkIndex_8e157 4 = .ok (.iload_n 0, 1) := by decide +kernel
theorem dJ3_checkIndex_8e157_5 : decode cJ3_checkIndex_8e157 5 = .ok (.iload_n 1, 1) := by decide +kernel
theorem dJ3_checkIndex_8e157_6 : decode cJ3_checkIndex_8e157 6 = .ok (.if_icmp .lt 10, 3) := by decide +kernel
theorem dJ3_checkIndex_8e157_9 : decode cJ3_checkIndex_8e157 9 = .ok (.aload_n 2, 1) := by decide +kernel
theorem dJ3_checkIndex_8e157_10 : decode cJ3_checkIndex_8e157 10 = .ok (.iload_n 0, 1) := by decide +kernel
theorem dJ3_checkIndex_8e157_11 : decode cJ3_checkIndex_8e157 11 = .ok (.iload_n 1, 1) := by decide +kernel
theorem dJ3_checkIndex_8e157_12 : decode cJ3_checkIndex_8e157 12 = .ok (.invokestatic 95, 3) := by decide +kernel
theorem dJ3_checkIndex_8e157_15 : decode cJ3_checkIndex_8e157 15 = .ok (.athrow, 1) := by decide +kernel
theorem dJ3_checkIndex_8e157_16 : decode cJ3_checkIndex_8e157 16 = .ok (.iload_n 0, 1) := by decide +kernel
theorem dJ3_checkIndex_8e157_17 : decode cJ3_checkIndex_8e157 17 = .ok (.ireturn, 1) := by decide +kernel
theorem dJ0_checkIndex_df160_0 : decode cJ0_checkIndex_df160 0 = .ok (.iload_n 0, 1) := by decide +kernel
theorem dJ0_checkIndex_df160_1 : decode cJ0_checkIndex_df160 1 = .ok (.iload_n 1, 1) := by decide +kernel
theorem dJ0_checkIndex_df160_2 : decode cJ0_checkIndex_df160 2 = .ok (.getstatic 1053, 3) := by decide +kernel
theorem dJ0_checkIndex_df160_5 : decode cJ0_checkIndex_df160 5 = .ok (.invokestatic 1059, 3) := by decide +kernel
theorem dJ0_checkIndex_df160_8 : decode cJ0_checkIndex_df160 8 = .ok (.pop, 1) := by decide +kernel
theorem dJ0_checkIndex_df160_9 : decode cJ0_checkIndex_df160 9 = .ok (.return_, 1) := by decide +kernel
theorem dJ1_charAt_3b067_0 : decode cJ1_charAt_3b067 0 = .ok (.iload_n 1, 1) := by decide +kernel
theorem dJ1_charAt_3b067_1 : decode cJ1_charAt_3b067 1 = .ok (.aload_n 0, 1) := by decide +kernel
theorem dJ1_charAt_3b067_2 : decode cJ1_charAt_3b067 2 = .ok (.arraylength, 1) := by decide +kernel
theorem dJ1_charAt_3b067_3 : decode cJ1_charAt_3b067 3 = .ok (.invokestatic 9, 3) := by decide +kernel
theorem dJ1_charAt_3b067_6 : decode cJ1_charAt_3b067 6 = .ok (.aload_n 0, 1) := by decide +kernel
theorem dJ1_charAt_3b067_7 : decode cJ1_charAt_3b067 7 = .ok (.iload_n 1, 1) := by decide +kernel
theorem dJ1_charAt_3b067_8 : decode cJ1_charAt_3b067 8 = .ok (.baload, 1) := by decide +kernel
theorem dJ1_charAt_3b067_9 : decode cJ1_charAt_3b067 9 = .ok (.sipush 255, 3) := by decide +kernel
theorem dJ1_charAt_3b067_12 : decode cJ1_charAt_3b067 12 = .ok (.iand, 1) := by decide +kernel
theorem dJ1_charAt_3b067_13 : decode cJ1_charAt_3b067 13 = .ok (.i2c, 1) := by decide +kernel
theorem dJ1_charAt_3b067_14 : decode cJ1_charAt_3b067 14 = .ok (.ireturn, 1) := by decide +kernel
theorem dJ0_charAt_5068e_0 : decode cJ0_charAt_5068e 0 = .ok (.aload_n 0, 1) := by decide +kernel
theorem dJ0_charAt_5068e_1 : decode cJ0_charAt_5068e 1 = .ok (.invokevirtual 492, 3) := by decide +kernel
theorem dJ0_charAt_5068e_4 : decode cJ0_charAt_5068e 4 = .ok (.ifCond .eq 12, 3) := by decide +kernel
theorem dJ0_charAt_5068e_7 : decode cJ0_charAt_5068e 7 = .ok (.aload_n 0, 1) := by decide +kernel
theorem dJ0_charAt_5068e_8 : decode cJ0_charAt_5068e 8 = .ok (.getfield 9, 3) := by decide +kernel
theorem dJ0_charAt_5068e_11 : decode cJ0_charAt_5068e 11 = .ok (.iload_n 1, 1) := by decide +kernel
theorem dJ0_charAt_5068e_12 : decode cJ0_charAt_5068e 12 = .ok (.invokestatic 495, 3) := by decide +kernel
theorem dJ0_charAt_5068e_15 : decode cJ0_charAt_5068e 15 = .ok (.ireturn, 1) := by decide +kernel
theorem dJ0_charAt_5068e_16 : decode cJ0_charAt_5068e 16 = .ok (.aload_n 0, 1) := by decide +kernel
theorem dJ0_charAt_5068e_17 : decode cJ0_charAt_5068e 17 = .ok (.getfield 9, 3) := by decide +kernel
theorem dJ0_charAt_5068e_20 : decode cJ0_charAt_5068e 20 = .ok (.iload_n 1, 1) := by decide +kernel
theorem dJ0_charAt_5068e_21 : decode cJ0_charAt_5068e 21 = .ok (.invokestatic 498, 3) := by decide +kernel
theorem dJ0_charAt_5068e_24 : decode cJ0_charAt_5068e 24 = .ok (.ireturn, 1) := by decide +kernel
theorem dX8_wordIs_0 : decode cX8_wordIs 0 = .ok (.aload_n 0, 1) := by decide +kernel
theorem dX8_wordIs_1 : decode cX8_wordIs 1 = .ok (.getfield 25, 3) := by decide +kernel
theorem dX8_wordIs_4 : decode cX8_wordIs 4 = .ok (.aload_n 0, 1) := by decide +kernel
theorem dX8_wordIs_5 : decode cX8_wordIs 5 = .ok (.getfield 28, 3) := by decide +kernel
theorem dX8_wordIs_8 : decode cX8_wordIs 8 = .ok (.isub, 1) := by decide +kernel
theorem dX8_wordIs_9 : decode cX8_wordIs 9 = .ok (.aload_n 1, 1) := by decide +kernel
theorem dX8_wordIs_10 : decode cX8_wordIs 10 = .ok (.invokevirtual 46, 3) := by decide +kernel
theorem dX8_wordIs_13 : decode cX8_wordIs 13 = .ok (.if_icmp .eq 5, 3) := by decide +kernel
theorem dX8_wordIs_16 : decode cX8_wordIs 16 = .ok (.iconst 0, 1) := by decide +kernel
theorem dX8_wordIs_17 : decode cX8_wordIs 17 = .ok (.ireturn, 1) := by decide +kernel
theorem dX8_wordIs_18 : decode cX8_wordIs 18 = .ok (.iconst 0, 1) := by decide +kernel
theorem dX8_wordIs_19 : decode cX8_wordIs 19 = .ok (.istore_n 2, 1) := by decide +kernel
theorem dX8_wordIs_20 : decode cX8_wordIs 20 = .ok (.iload_n 2, 1) := by decide +kernel
theorem dX8_wordIs_21 : decode cX8_wordIs 21 = .ok (.aload_n 1, 1) := by decide +kernel
theorem dX8_wordIs_22 : decode cX8_wordIs 22 = .ok (.invokevirtual 46, 3) := by decide +kernel
theorem dX8_wordIs_25 : decode cX8_wordIs 25 = .ok (.if_icmp .ge 30, 3) := by decide +kernel
theorem dX8_wordIs_28 : decode cX8_wordIs 28 = .ok (.aload_n 0, 1) := by decide +kernel
theorem dX8_wordIs_29 : decode cX8_wordIs 29 = .ok (.getfield 9, 3) := by decide +kernel
theorem dX8_wordIs_32 : decode cX8_wordIs 32 = .ok (.aload_n 0, 1) := by decide +kernel
theorem dX8_wordIs_33 : decode cX8_wordIs 33 = .ok (.getfield 28, 3) := by decide +kernel
theorem dX8_wordIs_36 : decode cX8_wordIs 36 = .ok (.iload_n 2, 1) := by decide +kernel
theorem dX8_wordIs_37 : decode cX8_wordIs 37 = .ok (.iadd, 1) := by decide +kernel
theorem dX8_wordIs_38 : decode cX8_wordIs 38 = .ok (.iaload, 1) := by decide +kernel
theorem dX8_wordIs_39 : decode cX8_wordIs 39 = .ok (.aload_n 1, 1) := by decide +kernel
theorem dX8_wordIs_40 : decode cX8_wordIs 40 = .ok (.iload_n 2, 1) := by decide +kernel
theorem dX8_wordIs_41 : decode cX8_wordIs 41 = .ok (.invokevirtual 50, 3) := by decide +kernel
theorem dX8_wordIs_44 : decode cX8_wordIs 44 = .ok (.if_icmp .eq 5, 3) := by decide +kernel
theorem dX8_wordIs_47 : decode cX8_wordIs 47 = .ok (.iconst 0, 1) := by decide +kernel
theorem dX8_wordIs_48 : decode cX8_wordIs 48 = .ok (.ireturn, 1) := by decide +kernel
theorem dX8_wordIs_49 : decode cX8_wordIs 49 = .ok (.iinc 2 1, 3) := by decide +kernel
theorem dX8_wordIs_52 : decode cX8_wordIs 52 = .ok (.goto (-32), 3) := by decide +kernel
theorem dX8_wordIs_55 : decode cX8_wordIs 55 = .ok (.iconst 1, 1) := by decide +kernel
theorem dX8_wordIs_56 : decode cX8_wordIs 56 = .ok (.ireturn, 1) := by decide +kernel
theorem dX8_linkedNumber_0 : decode cX8_linkedNumber 0 = .ok (.aload_n 0, 1) := by decide +kernel
theorem dX8_linkedNumber_1 : decode cX8_linkedNumber 1 = .ok (.iconst 0, 1) := by decide +kernel
theorem dX8_linkedNumber_2 : decode cX8_linkedNumber 2 = .ok (.aload_n 1, 1) := by decide +kernel
theorem dX8_linkedNumber_3 : decode cX8_linkedNumber 3 = .ok (.getfield 64, 3) := by decide +kernel
theorem dX8_linkedNumber_6 : decode cX8_linkedNumber 6 = .ok (.iconst 1, 1) := by decide +kernel
theorem dX8_linkedNumber_7 : decode cX8_linkedNumber 7 = .ok (.isub, 1) := by decide +kernel
theorem dX8_linkedNumber_8 : decode cX8_linkedNumber 8 = .ok (.invokevirtual 69, 3) := by decide +kernel
theorem dX8_linkedNumber_11 : decode cX8_linkedNumber 11 = .ok (.istore_n 3, 1) := by decide +kernel
theorem dX8_linkedNumber_12 : decode cX8_linkedNumber 12 = .ok (.iload_n 3, 1) := by decide +kernel
theorem dX8_linkedNumber_13 : decode cX8_linkedNumber 13 = .ok (.iconst (-1), 1) := by decide +kernel
theorem dX8_linkedNumber_14 : decode cX8_linkedNumber 14 = .ok (.if_icmp .eq 25, 3) := by decide +kernel
theorem dX8_linkedNumber_17 : decode cX8_linkedNumber 17 = .ok (.aload_n 1, 1) := by decide +kernel
theorem dX8_linkedNumber_18 : decode cX8_linkedNumber 18 = .ok (.iload_n 2, 1) := by decide +kernel
theorem dX8_linkedNumber_19 : decode cX8_linkedNumber 19 = .ok (.iload_n 3, 1) := by decide +kernel
theorem dX8_linkedNumber_20 : decode cX8_linkedNumber 20 = .ok (.invokevirtual 72, 3) := by decide +kernel
theorem dX8_linkedNumber_23 : decode cX8_linkedNumber 23 = .ok (.iconst (-1), 1) := by decide +kernel
theorem dX8_linkedNumber_24 : decode cX8_linkedNumber 24 = .ok (.if_icmp .ne 15, 3) := by decide +kernel
theorem dX8_linkedNumber_27 : decode cX8_linkedNumber 27 = .ok (.aload_n 0, 1) := by decide +kernel
theorem dX8_linkedNumber_28 : decode cX8_linkedNumber 28 = .ok (.iconst 2, 1) := by decide +kernel
theorem dX8_linkedNumber_29 : decode cX8_linkedNumber 29 = .ok (.aload_n 0, 1) := by decide +kernel
theorem dX8_linkedNumber_30 : decode cX8_linkedNumber 30 = .ok (.getfield 28, 3) := by decide +kernel
theorem dX8_linkedNumber_33 : decode cX8_linkedNumber 33 = .ok (.invokevirtual 38, 3) := by decide +kernel
theorem dX8_linkedNumber_36 : decode cX8_linkedNumber 36 = .ok (.pop, 1) := by decide +kernel
theorem dX8_linkedNumber_37 : decode cX8_linkedNumber 37 = .ok (.iconst (-1), 1) := by decide +kernel
theorem dX8_linkedNumber_38 : decode cX8_linkedNumber 38 = .ok (.ireturn, 1) := by decide +kernel
theorem dX8_linkedNumber_39 : decode cX8_linkedNumber 39 = .ok (.iload_n 3, 1) := by decide +kernel
theorem dX8_linkedNumber_40 : decode cX8_linkedNumber 40 = .ok (.ireturn, 1) := by decide +kernel
theorem dX3_kindOf_0 : decode cX3_kindOf 0 = .ok (.aload_n 1, 1) := by decide +kernel
theorem dX3_kindOf_1 : decode cX3_kindOf 1 = .ok (.ldc 114, 2) := by decide +kernel
theorem dX3_kindOf_3 : decode cX3_kindOf 3 = .ok (.invokevirtual 116, 3) := by decide +kernel
theorem dX3_kindOf_6 : decode cX3_kindOf 6 = .ok (.ifCond .eq 5, 3) := by decide +kernel
theorem dX3_kindOf_9 : decode cX3_kindOf 9 = .ok (.iconst 0, 1) := by decide +kernel
theorem dX3_kindOf_10 : decode cX3_kindOf 10 = .ok (.ireturn, 1) := by decide +kernel
theorem dX3_kindOf_11 : decode cX3_kindOf 11 = .ok (.aload_n 1, 1) := by decide +kernel
theorem dX3_kindOf_12 : decode cX3_kindOf 12 = .ok (.ldc 120, 2) := by decide +kernel
theorem dX3_kindOf_14 : decode cX3_kindOf 14 = .ok (.invokevirtual 116, 3) := by decide +kernel
theorem dX3_kindOf_17 : decode cX3_kindOf 17 = .ok (.ifCond .eq 5, 3) := by decide +kernel
theorem dX3_kindOf_20 : decode cX3_kindOf 20 = .ok (.iconst 1, 1) := by decide +kernel
theorem dX3_kindOf_21 : decode cX3_kindOf 21 = .ok (.ireturn, 1) := by decide +kernel
theorem dX3_kindOf_22 : decode cX3_kindOf 22 = .ok (.aload_n 1, 1) := by decide +kernel
theorem dX3_kindOf_23 : decode cX3_kindOf 23 = .ok (.ldc 122, 2) := by decide +kernel
theorem dX3_kindOf_25 : decode cX3_kindOf 25 = .ok (.invokevirtual 116, 3) := by decide +kernel
theorem dX3_kindOf_28 : decode cX3_kindOf 28 = .ok (.ifCond .eq 5, 3) := by decide +kernel
theorem dX3_kindOf_31 : decode cX3_kindOf 31 = .ok (.iconst 2, 1) := by decide +kernel
theorem dX3_kindOf_32 : decode cX3_kindOf 32 = .ok (.ireturn, 1) := by decide +kernel
theorem dX3_kindOf_33 : decode cX3_kindOf 33 = .ok (.aload_n 1, 1) := by decide +kernel
theorem dX3_kindOf_34 : decode cX3_kindOf 34 = .ok (.ldc 124, 2) := by decide +kernel
theorem dX3_kindOf_36 : decode cX3_kindOf 36 = .ok (.invokevirtual 116, 3) := by decide +kernel
theorem dX3_kindOf_39 : decode cX3_kindOf 39 = .ok (.ifCond .eq 5, 3) := by decide +kernel
theorem dX3_kindOf_42 : decode cX3_kindOf 42 = .ok (.iconst 3, 1) := by decide +kernel
theorem dX3_kindOf_43 : decode cX3_kindOf 43 = .ok (.ireturn, 1) := by decide +kernel
theorem dX3_kindOf_44 : decode cX3_kindOf 44 = .ok (.aload_n 1, 1) := by decide +kernel
theorem dX3_kindOf_45 : decode cX3_kindOf 45 = .ok (.ldc 126, 2) := by decide +kernel
theorem dX3_kindOf_47 : decode cX3_kindOf 47 = .ok (.invokevirtual 116, 3) := by decide +kernel
theorem dX3_kindOf_50 : decode cX3_kindOf 50 = .ok (.ifCond .eq 7, 3) := by decide +kernel
theorem dX3_kindOf_53 : decode cX3_kindOf 53 = .ok (.iconst 4, 1) := by decide +kernel
theorem dX3_kindOf_54 : decode cX3_kindOf 54 = .ok (.goto 4, 3) := by decide +kernel
theorem dX3_kindOf_57 : decode cX3_kindOf 57 = .ok (.iconst (-1), 1) := by decide +kernel
theorem dX3_kindOf_58 : decode cX3_kindOf 58 = .ok (.ireturn, 1) := by decide +kernel
theorem dX3_readClaim_0 : decode cX3_readClaim 0 = .ok (.aload_n 1, 1) := by decide +kernel
theorem dX3_readClaim_1 : decode cX3_readClaim 1 = .ok (.iconst 0, 1) := by decide +kernel
theorem dX3_readClaim_2 : decode cX3_readClaim 2 = .ok (.aload_n 0, 1) := by decide +kernel
theorem dX3_readClaim_3 : decode cX3_readClaim 3 = .ok (.getfield 43, 3) := by decide +kernel
theorem dX3_readClaim_6 : decode cX3_readClaim 6 = .ok (.iconst 1, 1) := by decide +kernel
theorem dX3_readClaim_7 : decode cX3_readClaim 7 = .ok (.isub, 1) := by decide +kernel
theorem dX3_readClaim_8 : decode cX3_readClaim 8 = .ok (.invokevirtual 127, 3) := by decide +kernel
theorem dX3_readClaim_11 : decode cX3_readClaim 11 = .ok (.istore_n 2, 1) := by decide +kernel
theorem dX3_readClaim_12 : decode cX3_readClaim 12 = .ok (.iload_n 2, 1) := by decide +kernel
theorem dX3_readClaim_13 : decode cX3_readClaim 13 = .ok (.iconst (-1), 1) := by decide +kernel
theorem dX3_readClaim_14 : decode cX3_readClaim 14 = .ok (.if_icmp .ne 5, 3) := by decide +kernel
theorem dX3_readClaim_17 : decode cX3_readClaim 17 = .ok (.iconst 0, 1) := by decide +kernel
theorem dX3_readClaim_18 : decode cX3_readClaim 18 = .ok (.ireturn, 1) := by decide +kernel
theorem dX3_readClaim_19 : decode cX3_readClaim 19 = .ok (.aload_n 1, 1) := by decide +kernel
theorem dX3_readClaim_20 : decode cX3_readClaim 20 = .ok (.iconst 0, 1) := by decide +kernel
theorem dX3_readClaim_21 : decode cX3_readClaim 21 = .ok (.aload_n 0, 1) := by decide +kernel
theorem dX3_readClaim_22 : decode cX3_readClaim 22 = .ok (.getfield 36, 3) := by decide +kernel
theorem dX3_readClaim_25 : decode cX3_readClaim 25 = .ok (.iconst 1, 1) := by decide +kernel
theorem dX3_readClaim_26 : decode cX3_readClaim 26 = .ok (.isub, 1) := by decide +kernel
theorem dX3_readClaim_27 : decode cX3_readClaim 27 = .ok (.invokevirtual 127, 3) := by decide +kernel
theorem dX3_readClaim_30 : decode cX3_readClaim 30 = .ok (.istore_n 3, 1) := by decide +kernel
theorem dX3_readClaim_31 : decode cX3_readClaim 31 = .ok (.iload_n 3, 1) := by decide +kernel
theorem dX3_readClaim_32 : decode cX3_readClaim 32 = .ok (.iconst (-1), 1) := by decide +kernel
theorem dX3_readClaim_33 : decode cX3_readClaim 33 = .ok (.if_icmp .ne 5, 3) := by decide +kernel
theorem dX3_readClaim_36 : decode cX3_readClaim 36 = .ok (.iconst 0, 1) := by decide +kernel
theorem dX3_readClaim_37 : decode cX3_readClaim 37 = .ok (.ireturn, 1) := by decide +kernel
theorem dX3_readClaim_38 : decode cX3_readClaim 38 = .ok (.aload_n 1, 1) := by decide +kernel
theorem dX3_readClaim_39 : decode cX3_readClaim 39 = .ok (.aload_n 0, 1) := by decide +kernel
theorem dX3_readClaim_40 : decode cX3_readClaim 40 = .ok (.iload_n 3, 1) := by decide +kernel
theorem dX3_readClaim_41 : decode cX3_readClaim 41 = .ok (.invokevirtual 134, 3) := by decide +kernel
theorem dX3_readClaim_44 : decode cX3_readClaim 44 = .ok (.istore 4, 2) := by decide +kernel
theorem dX3_readClaim_46 : decode cX3_readClaim 46 = .ok (.iload 4, 2) := by decide +kernel
theorem dX3_readClaim_48 : decode cX3_readClaim 48 = .ok (.iconst (-1), 1) := by decide +kernel
theorem dX3_readClaim_49 : decode cX3_readClaim 49 = .ok (.if_icmp .ne 5, 3) := by decide +kernel
theorem dX3_readClaim_52 : decode cX3_readClaim 52 = .ok (.iconst 0, 1) := by decide +kernel
theorem dX3_readClaim_53 : decode cX3_readClaim 53 = .ok (.ireturn, 1) := by decide +kernel
theorem dX3_readClaim_54 : decode cX3_readClaim 54 = .ok (.aload_n 0, 1) := by decide +kernel
theorem dX3_readClaim_55 : decode cX3_readClaim 55 = .ok (.getfield 33, 3) := by decide +kernel
theorem dX3_readClaim_58 : decode cX3_readClaim 58 = .ok (.iload_n 2, 1) := by decide +kernel
theorem dX3_readClaim_59 : decode cX3_readClaim 59 = .ok (.bipush 12, 2) := by decide +kernel
theorem dX3_readClaim_61 : decode cX3_readClaim 61 = .ok (.imul, 1) := by decide +kernel
theorem dX3_readClaim_62 : decode cX3_readClaim 62 = .ok (.iload_n 3, 1) := by decide +kernel
theorem dX3_readClaim_63 : decode cX3_readClaim 63 = .ok (.iadd, 1) := by decide +kernel
theorem dX3_readClaim_64 : decode cX3_readClaim 64 = .ok (.iload 4, 2) := by decide +kernel
theorem dX3_readClaim_66 : decode cX3_readClaim 66 = .ok (.iastore, 1) := by decide +kernel
theorem dX3_readClaim_67 : decode cX3_readClaim 67 = .ok (.iconst 1, 1) := by decide +kernel
theorem dX3_readClaim_68 : decode cX3_readClaim 68 = .ok (.ireturn, 1) := by decide +kernel
theorem dX3_readPlace_0 : decode cX3_readPlace 0 = .ok (.aload_n 1, 1) := by decide +kernel
theorem dX3_readPlace_1 : decode cX3_readPlace 1 = .ok (.iconst 0, 1) := by decide +kernel
theorem dX3_readPlace_2 : decode cX3_readPlace 2 = .ok (.bipush 60, 2) := by decide +kernel
theorem dX3_readPlace_4 : decode cX3_readPlace 4 = .ok (.invokevirtual 127, 3) := by decide +kernel
theorem dX3_readPlace_7 : decode cX3_readPlace 7 = .ok (.istore_n 2, 1) := by decide +kernel
theorem dX3_readPlace_8 : decode cX3_readPlace 8 = .ok (.iload_n 2, 1) := by decide +kernel
theorem dX3_readPlace_9 : decode cX3_readPlace 9 = .ok (.iconst (-1), 1) := by decide +kernel
theorem dX3_readPlace_10 : decode cX3_readPlace 10 = .ok (.if_icmp .ne 5, 3) := by decide +kernel
theorem dX3_readPlace_13 : decode cX3_readPlace 13 = .ok (.iconst 0, 1) := by decide +kernel
theorem dX3_readPlace_14 : decode cX3_readPlace 14 = .ok (.ireturn, 1) := by decide +kernel
theorem dX3_readPlace_15 : decode cX3_readPlace 15 = .ok (.aload_n 0, 1) := by decide +kernel
theorem dX3_readPlace_16 : decode cX3_readPlace 16 = .ok (.getfield 9, 3) := by decide +kernel
theorem dX3_readPlace_19 : decode cX3_readPlace 19 = .ok (.aload_n 0, 1) := by decide +kernel
theorem dX3_readPlace_20 : decode cX3_readPlace 20 = .ok (.getfield 36, 3) := by decide +kernel
theorem dX3_readPlace_23 : decode cX3_readPlace 23 = .ok (.iload_n 2, 1) := by decide +kernel
theorem dX3_readPlace_24 : decode cX3_readPlace 24 = .ok (.iastore, 1) := by decide +kernel
theorem dX3_readPlace_25 : decode cX3_readPlace 25 = .ok (.aload_n 0, 1) := by decide +kernel
theorem dX3_readPlace_26 : decode cX3_readPlace 26 = .ok (.dup, 1) := by decide +kernel
theorem dX3_readPlace_27 : decode cX3_readPlace 27 = .ok (.getfield 36, 3) := by decide +kernel
theorem dX3_readPlace_30 : decode cX3_readPlace 30 = .ok (.iconst 1, 1) := by decide +kernel
theorem dX3_readPlace_31 : decode cX3_readPlace 31 = .ok (.iadd, 1) := by decide +kernel
theorem dX3_readPlace_32 : decode cX3_readPlace 32 = .ok (.putfield 36, 3) := by decide +kernel
theorem dX3_readPlace_35 : decode cX3_readPlace 35 = .ok (.iconst 1, 1) := by decide +kernel
theorem dX3_readPlace_36 : decode cX3_readPlace 36 = .ok (.ireturn, 1) := by decide +kernel
theorem dX3_readDitch_0 : decode cX3_readDitch 0 = .ok (.aload_n 1, 1) := by decide +kernel
theorem dX3_readDitch_1 : decode cX3_readDitch 1 = .ok (.iconst 0, 1) := by decide +kernel
theorem dX3_readDitch_2 : decode cX3_readDitch 2 = .ok (.aload_n 0, 1) := by decide +kernel
theorem dX3_readDitch_3 : decode cX3_readDitch 3 = .ok (.getfield 36, 3) := by decide +kernel
theorem dX3_readDitch_6 : decode cX3_readDitch 6 = .ok (.iconst 1, 1) := by decide +kernel
theorem dX3_readDitch_7 : decode cX3_readDitch 7 = .ok (.isub, 1) := by decide +kernel
theorem dX3_readDitch_8 : decode cX3_readDitch 8 = .ok (.invokevirtual 127, 3) := by decide +kernel
theorem dX3_readDitch_11 : decode cX3_readDitch 11 = .ok (.istore_n 2, 1) := by decide +kernel
theorem dX3_readDitch_12 : decode cX3_readDitch 12 = .ok (.iload_n 2, 1) := by decide +kernel
theorem dX3_readDitch_13 : decode cX3_readDitch 13 = .ok (.iconst (-1), 1) := by decide +kernel
theorem dX3_readDitch_14 : decode cX3_readDitch 14 = .ok (.if_icmp .ne 5, 3) := by decide +kernel
theorem dX3_readDitch_17 : decode cX3_readDitch 17 = .ok (.iconst 0, 1) := by decide +kernel
theorem dX3_readDitch_18 : decode cX3_readDitch 18 = .ok (.ireturn, 1) := by decide +kernel
theorem dX3_readDitch_19 : decode cX3_readDitch 19 = .ok (.aload_n 1, 1) := by decide +kernel
theorem dX3_readDitch_20 : decode cX3_readDitch 20 = .ok (.iconst 0, 1) := by decide +kernel
theorem dX3_readDitch_21 : decode cX3_readDitch 21 = .ok (.aload_n 0, 1) := by decide +kernel
theorem dX3_readDitch_22 : decode cX3_readDitch 22 = .ok (.getfield 36, 3) := by decide +kernel
theorem dX3_readDitch_25 : decode cX3_readDitch 25 = .ok (.iconst 1, 1) := by decide +kernel
theorem dX3_readDitch_26 : decode cX3_readDitch 26 = .ok (.isub, 1) := by decide +kernel
theorem dX3_readDitch_27 : decode cX3_readDitch 27 = .ok (.invokevirtual 127, 3) := by decide +kernel
theorem dX3_readDitch_30 : decode cX3_readDitch 30 = .ok (.istore_n 3, 1) := by decide +kernel
theorem dX3_readDitch_31 : decode cX3_readDitch 31 = .ok (.iload_n 3, 1) := by decide +kernel
theorem dX3_readDitch_32 : decode cX3_readDitch 32 = .ok (.iconst (-1), 1) := by decide +kernel
theorem dX3_readDitch_33 : decode cX3_readDitch 33 = .ok (.if_icmp .ne 5, 3) := by decide +kernel
theorem dX3_readDitch_36 : decode cX3_readDitch 36 = .ok (.iconst 0, 1) := by decide +kernel
theorem dX3_readDitch_37 : decode cX3_readDitch 37 = .ok (.ireturn, 1) := by decide +kernel
theorem dX3_readDitch_38 : decode cX3_readDitch 38 = .ok (.iload_n 2, 1) := by decide +kernel
theorem dX3_readDitch_39 : decode cX3_readDitch 39 = .ok (.iload_n 3, 1) := by decide +kernel
theorem dX3_readDitch_40 : decode cX3_readDitch 40 = .ok (.if_icmp .eq 13, 3) := by decide +kernel
theorem dX3_readDitch_43 : decode cX3_readDitch 43 = .ok (.aload_n 0, 1) := by decide +kernel
theorem dX3_readDitch_44 : decode cX3_readDitch 44 = .ok (.iload_n 2, 1) := by decide +kernel
theorem dX3_readDitch_45 : decode cX3_readDitch 45 = .ok (.iload_n 3, 1) := by decide +kernel
theorem dX3_readDitch_46 : decode cX3_readDitch 46 = .ok (.invokevirtual 131, 3) := by decide +kernel
theorem dX3_readDitch_49 : decode cX3_readDitch 49 = .ok (.iconst (-1), 1) := by decide +kernel
theorem dX3_readDitch_50 : decode cX3_readDitch 50 = .ok (.if_icmp .eq 13, 3) := by decide +kernel
theorem dX3_readDitch_53 : decode cX3_readDitch 53 = .ok (.aload_n 1, 1) := by decide +kernel
theorem dX3_readDitch_54 : decode cX3_readDitch 54 = .ok (.iconst 2, 1) := by decide +kernel
theorem dX3_readDitch_55 : decode cX3_readDitch 55 = .ok (.aload_n 1, 1) := by decide +kernel
theorem dX3_readDitch_56 : decode cX3_readDitch 56 = .ok (.getfield 88, 3) := by decide +kernel
theorem dX3_readDitch_59 : decode cX3_readDitch 59 = .ok (.invokevirtual 91, 3) := by decide +kernel
theorem dX3_readDitch_62 : decode cX3_readDitch 62 = .ok (.ireturn, 1) := by decide +kernel
theorem dX3_readDitch_63 : decode cX3_readDitch 63 = .ok (.aload_n 0, 1) := by decide +kernel
theorem dX3_readDitch_64 : decode cX3_readDitch 64 = .ok (.getfield 18, 3) := by decide +kernel
theorem dX3_readDitch_67 : decode cX3_readDitch 67 = .ok (.aload_n 0, 1) := by decide +kernel
theorem dX3_readDitch_68 : decode cX3_readDitch 68 = .ok (.getfield 40, 3) := by decide +kernel
theorem dX3_readDitch_71 : decode cX3_readDitch 71 = .ok (.iload_n 2, 1) := by decide +kernel
theorem dX3_readDitch_72 : decode cX3_readDitch 72 = .ok (.iastore, 1) := by decide +kernel
theorem dX3_readDitch_73 : decode cX3_readDitch 73 = .ok (.aload_n 0, 1) := by decide +kernel
theorem dX3_readDitch_74 : decode cX3_readDitch 74 = .ok (.getfield 21, 3) := by decide +kernel
theorem dX3_readDitch_77 : decode cX3_readDitch 77 = .ok (.aload_n 0, 1) := by decide +kernel
theorem dX3_readDitch_78 : decode cX3_readDitch 78 = .ok (.getfield 40, 3) := by decide +kernel
theorem dX3_readDitch_81 : decode cX3_readDitch 81 = .ok (.iload_n 3, 1) := by decide +kernel
theorem dX3_readDitch_82 : decode cX3_readDitch 82 = .ok (.iastore, 1) := by decide +kernel
theorem dX3_readDitch_83 : decode cX3_readDitch 83 = .ok (.aload_n 0, 1) := by decide +kernel
theorem dX3_readDitch_84 : decode cX3_readDitch 84 = .ok (.getfield 24, 3) := by decide +kernel
theorem dX3_readDitch_87 : decode cX3_readDitch 87 = .ok (.iload_n 2, 1) := by decide +kernel
theorem dX3_readDitch_88 : decode cX3_readDitch 88 = .ok (.bipush 12, 2) := by decide +kernel
theorem dX3_readDitch_90 : decode cX3_readDitch 90 = .ok (.imul, 1) := by decide +kernel
theorem dX3_readDitch_91 : decode cX3_readDitch 91 = .ok (.iload_n 3, 1) := by decide +kernel
theorem dX3_readDitch_92 : decode cX3_readDitch 92 = .ok (.iadd, 1) := by decide +kernel
theorem dX3_readDitch_93 : decode cX3_readDitch 93 = .ok (.aload_n 0, 1) := by decide +kernel
theorem dX3_readDitch_94 : decode cX3_readDitch 94 = .ok (.getfield 40, 3) := by decide +kernel
theorem dX3_readDitch_97 : decode cX3_readDitch 97 = .ok (.iastore, 1) := by decide +kernel
theorem dX3_readDitch_98 : decode cX3_readDitch 98 = .ok (.aload_n 0, 1) := by decide +kernel
theorem dX3_readDitch_99 : decode cX3_readDitch 99 = .ok (.getfield 24, 3) := by decide +kernel
theorem dX3_readDitch_102 : decode cX3_readDitch 102 = .ok (.iload_n 3, 1) := by decide +kernel
theorem dX3_readDitch_103 : decode cX3_readDitch 103 = .ok (.bipush 12, 2) := by decide +kernel
theorem dX3_readDitch_105 : decode cX3_readDitch 105 = .ok (.imul, 1) := by decide +kernel
theorem dX3_readDitch_106 : decode cX3_readDitch 106 = .ok (.iload_n 2, 1) := by decide +kernel
theorem dX3_readDitch_107 : decode cX3_readDitch 107 = .ok (.iadd, 1) := by decide +kernel
theorem dX3_readDitch_108 : decode cX3_readDitch 108 = .ok (.aload_n 0, 1) := by decide +kernel
theorem dX3_readDitch_109 : decode cX3_readDitch 109 = .ok (.getfield 40, 3) := by decide +kernel
theorem dX3_readDitch_112 : decode cX3_readDitch 112 = .ok (.iastore, 1) := by decide +kernel
theorem dX3_readDitch_113 : decode cX3_readDitch 113 = .ok (.aload_n 0, 1) := by decide +kernel
theorem dX3_readDitch_114 : decode cX3_readDitch 114 = .ok (.getfield 15, 3) := by decide +kernel
theorem dX3_readDitch_117 : decode cX3_readDitch 117 = .ok (.iload_n 2, 1) := by decide +kernel
theorem dX3_readDitch_118 : decode cX3_readDitch 118 = .ok (.dup2, 1) := by decide +kernel
theorem dX3_readDitch_119 : decode cX3_readDitch 119 = .ok (.iaload, 1) := by decide +kernel
theorem dX3_readDitch_120 : decode cX3_readDitch 120 = .ok (.iconst 1, 1) := by decide +kernel
theorem dX3_readDitch_121 : decode cX3_readDitch 121 = .ok (.iload_n 3, 1) := by decide +kernel
theorem dX3_readDitch_122 : decode cX3_readDitch 122 = .ok (.ishl, 1) := by decide +kernel
theorem dX3_readDitch_123 : decode cX3_readDitch 123 = .ok (.ior, 1) := by decide +kernel
theorem dX3_readDitch_124 : decode cX3_readDitch 124 = .ok (.iastore, 1) := by decide +kernel
theorem dX3_readDitch_125 : decode cX3_readDitch 125 = .ok (.aload_n 0, 1) := by decide +kernel
theorem dX3_readDitch_126 : decode cX3_readDitch 126 = .ok (.getfield 15, 3) := by decide +kernel
theorem dX3_readDitch_129 : decode cX3_readDitch 129 = .ok (.iload_n 3, 1) := by decide +kernel
theorem dX3_readDitch_130 : decode cX3_readDitch 130 = .ok (.dup2, 1) := by decide +kernel
theorem dX3_readDitch_131 : decode cX3_readDitch 131 = .ok (.iaload, 1) := by decide +kernel
theorem dX3_readDitch_132 : decode cX3_readDitch 132 = .ok (.iconst 1, 1) := by decide +kernel
theorem dX3_readDitch_133 : decode cX3_readDitch 133 = .ok (.iload_n 2, 1) := by decide +kernel
theorem dX3_readDitch_134 : decode cX3_readDitch 134 = .ok (.ishl, 1) := by decide +kernel
theorem dX3_readDitch_135 : decode cX3_readDitch 135 = .ok (.ior, 1) := by decide +kernel
theorem dX3_readDitch_136 : decode cX3_readDitch 136 = .ok (.iastore, 1) := by decide +kernel
theorem dX3_readDitch_137 : decode cX3_readDitch 137 = .ok (.aload_n 0, 1) := by decide +kernel
theorem dX3_readDitch_138 : decode cX3_readDitch 138 = .ok (.dup, 1) := by decide +kernel
theorem dX3_readDitch_139 : decode cX3_readDitch 139 = .ok (.getfield 40, 3) := by decide +kernel
theorem dX3_readDitch_142 : decode cX3_readDitch 142 = .ok (.iconst 1, 1) := by decide +kernel
theorem dX3_readDitch_143 : decode cX3_readDitch 143 = .ok (.iadd, 1) := by decide +kernel
theorem dX3_readDitch_144 : decode cX3_readDitch 144 = .ok (.putfield 40, 3) := by decide +kernel
theorem dX3_readDitch_147 : decode cX3_readDitch 147 = .ok (.iconst 1, 1) := by decide +kernel
theorem dX3_readDitch_148 : decode cX3_readDitch 148 = .ok (.ireturn, 1) := by decide +kernel
theorem dX3_readPerson_0 : decode cX3_readPerson 0 = .ok (.aload_n 1, 1) := by decide +kernel
theorem dX3_readPerson_1 : decode cX3_readPerson 1 = .ok (.iconst 1, 1) := by decide +kernel
theorem dX3_readPerson_2 : decode cX3_readPerson 2 = .ok (.bipush 9, 2) := by decide +kernel
theorem dX3_readPerson_4 : decode cX3_readPerson 4 = .ok (.invokevirtual 127, 3) := by decide +kernel
theorem dX3_readPerson_7 : decode cX3_readPerson 7 = .ok (.istore_n 2, 1) := by decide +kernel
theorem dX3_readPerson_8 : decode cX3_readPerson 8 = .ok (.iload_n 2, 1) := by decide +kernel
theorem dX3_readPerson_9 : decode cX3_readPerson 9 = .ok (.iconst (-1), 1) := by decide +kernel
theorem dX3_readPerson_10 : decode cX3_readPerson 10 = .ok (.if_icmp .ne 5, 3) := by decide +kernel
theorem dX3_readPerson_13 : decode cX3_readPerson 13 = .ok (.iconst 0, 1) := by decide +kernel
theorem dX3_readPerson_14 : decode cX3_readPerson 14 = .ok (.ireturn, 1) := by decide +kernel
theorem dX3_readPerson_15 : decode cX3_readPerson 15 = .ok (.aload_n 1, 1) := by decide +kernel
theorem dX3_readPerson_16 : decode cX3_readPerson 16 = .ok (.iconst 0, 1) := by decide +kernel
theorem dX3_readPerson_17 : decode cX3_readPerson 17 = .ok (.aload_n 0, 1) := by decide +kernel
theorem dX3_readPerson_18 : decode cX3_readPerson 18 = .ok (.getfield 36, 3) := by decide +kernel
theorem dX3_readPerson_21 : decode cX3_readPerson 21 = .ok (.iconst 1, 1) := by decide +kernel
theorem dX3_readPerson_22 : decode cX3_readPerson 22 = .ok (.isub, 1) := by decide +kernel
theorem dX3_readPerson_23 : decode cX3_readPerson 23 = .ok (.invokevirtual 127, 3) := by decide +kernel
theorem dX3_readPerson_26 : decode cX3_readPerson 26 = .ok (.istore_n 3, 1) := by decide +kernel
theorem dX3_readPerson_27 : decode cX3_readPerson 27 = .ok (.iload_n 3, 1) := by decide +kernel
theorem dX3_readPerson_28 : decode cX3_readPerson 28 = .ok (.iconst (-1), 1) := by decide +kernel
theorem dX3_readPerson_29 : decode cX3_readPerson 29 = .ok (.if_icmp .ne 5, 3) := by decide +kernel
theorem dX3_readPerson_32 : decode cX3_readPerson 32 = .ok (.iconst 0, 1) := by decide +kernel
theorem dX3_readPerson_33 : decode cX3_readPerson 33 = .ok (.ireturn, 1) := by decide +kernel
theorem dX3_readPerson_34 : decode cX3_readPerson 34 = .ok (.aload_n 0, 1) := by decide +kernel
theorem dX3_readPerson_35 : decode cX3_readPerson 35 = .ok (.getfield 27, 3) := by decide +kernel
theorem dX3_readPerson_38 : decode cX3_readPerson 38 = .ok (.aload_n 0, 1) := by decide +kernel
theorem dX3_readPerson_39 : decode cX3_readPerson 39 = .ok (.getfield 43, 3) := by decide +kernel
theorem dX3_readPerson_42 : decode cX3_readPerson 42 = .ok (.iload_n 2, 1) := by decide +kernel
theorem dX3_readPerson_43 : decode cX3_readPerson 43 = .ok (.iastore, 1) := by decide +kernel
theorem dX3_readPerson_44 : decode cX3_readPerson 44 = .ok (.aload_n 0, 1) := by decide +kernel
theorem dX3_readPerson_45 : decode cX3_readPerson 45 = .ok (.getfield 30, 3) := by decide +kernel
theorem dX3_readPerson_48 : decode cX3_readPerson 48 = .ok (.aload_n 0, 1) := by decide +kernel
theorem dX3_readPerson_49 : decode cX3_readPerson 49 = .ok (.getfield 43, 3) := by decide +kernel
theorem dX3_readPerson_52 : decode cX3_readPerson 52 = .ok (.iload_n 3, 1) := by decide +kernel
theorem dX3_readPerson_53 : decode cX3_readPerson 53 = .ok (.iastore, 1) := by decide +kernel
theorem dX3_readPerson_54 : decode cX3_readPerson 54 = .ok (.aload_n 0, 1) := by decide +kernel
theorem dX3_readPerson_55 : decode cX3_readPerson 55 = .ok (.dup, 1) := by decide +kernel
theorem dX3_readPerson_56 : decode cX3_readPerson 56 = .ok (.getfield 43, 3) := by decide +kernel
theorem dX3_readPerson_59 : decode cX3_readPerson 59 = .ok (.iconst 1, 1) := by decide +kernel
theorem dX3_readPerson_60 : decode cX3_readPerson 60 = .ok (.iadd, 1) := by decide +kernel
theorem dX3_readPerson_61 : decode cX3_readPerson 61 = .ok (.putfield 43, 3) := by decide +kernel
theorem dX3_readPerson_64 : decode cX3_readPerson 64 = .ok (.iconst 1, 1) := by decide +kernel
theorem dX3_readPerson_65 : decode cX3_readPerson 65 = .ok (.ireturn, 1) := by decide +kernel
theorem dX3_readSpring_0 : decode cX3_readSpring 0 = .ok (.aload_n 1, 1) := by decide +kernel
theorem dX3_readSpring_1 : decode cX3_readSpring 1 = .ok (.iconst 0, 1) := by decide +kernel
theorem dX3_readSpring_2 : decode cX3_readSpring 2 = .ok (.aload_n 0, 1) := by decide +kernel
theorem dX3_readSpring_3 : decode cX3_readSpring 3 = .ok (.getfield 36, 3) := by decide +kernel
theorem dX3_readSpring_6 : decode cX3_readSpring 6 = .ok (.iconst 1, 1) := by decide +kernel
theorem dX3_readSpring_7 : decode cX3_readSpring 7 = .ok (.isub, 1) := by decide +kernel
theorem dX3_readSpring_8 : decode cX3_readSpring 8 = .ok (.invokevirtual 127, 3) := by decide +kernel
theorem dX3_readSpring_11 : decode cX3_readSpring 11 = .ok (.istore_n 2, 1) := by decide +kernel
theorem dX3_readSpring_12 : decode cX3_readSpring 12 = .ok (.iload_n 2, 1) := by decide +kernel
theorem dX3_readSpring_13 : decode cX3_readSpring 13 = .ok (.iconst (-1), 1) := by decide +kernel
theorem dX3_readSpring_14 : decode cX3_readSpring 14 = .ok (.if_icmp .ne 5, 3) := by decide +kernel
theorem dX3_readSpring_17 : decode cX3_readSpring 17 = .ok (.iconst 0, 1) := by decide +kernel
theorem dX3_readSpring_18 : decode cX3_readSpring 18 = .ok (.ireturn, 1) := by decide +kernel
theorem dX3_readSpring_19 : decode cX3_readSpring 19 = .ok (.aload_n 0, 1) := by decide +kernel
theorem dX3_readSpring_20 : decode cX3_readSpring 20 = .ok (.iload_n 2, 1) := by decide +kernel
theorem dX3_readSpring_21 : decode cX3_readSpring 21 = .ok (.putfield 46, 3) := by decide +kernel
theorem dX3_readSpring_24 : decode cX3_readSpring 24 = .ok (.iconst 1, 1) := by decide +kernel
theorem dX3_readSpring_25 : decode cX3_readSpring 25 = .ok (.ireturn, 1) := by decide +kernel
theorem dX3_readClause_0 : decode cX3_readClause 0 = .ok (.aload_n 1, 1) := by decide +kernel
theorem dX3_readClause_1 : decode cX3_readClause 1 = .ok (.invokevirtual 80, 3) := by decide +kernel
theorem dX3_readClause_4 : decode cX3_readClause 4 = .ok (.ifCond .ne 5, 3) := by decide +kernel
theorem dX3_readClause_7 : decode cX3_readClause 7 = .ok (.iconst 0, 1) := by decide +kernel
theorem dX3_readClause_8 : decode cX3_readClause 8 = .ok (.ireturn, 1) := by decide +kernel
theorem dX3_readClause_9 : decode cX3_readClause 9 = .ok (.aload_n 0, 1) := by decide +kernel
theorem dX3_readClause_10 : decode cX3_readClause 10 = .ok (.aload_n 1, 1) := by decide +kernel
theorem dX3_readClause_11 : decode cX3_readClause 11 = .ok (.invokevirtual 84, 3) := by decide +kernel
theorem dX3_readClause_14 : decode cX3_readClause 14 = .ok (.istore_n 3, 1) := by decide +kernel
theorem dX3_readClause_15 : decode cX3_readClause 15 = .ok (.iload_n 3, 1) := by decide +kernel
theorem dX3_readClause_16 : decode cX3_readClause 16 = .ok (.iconst (-1), 1) := by decide +kernel
theorem dX3_readClause_17 : decode cX3_readClause 17 = .ok (.if_icmp .ne 13, 3) := by decide +kernel
theorem dX3_readClause_20 : decode cX3_readClause 20 = .ok (.aload_n 1, 1) := by decide +kernel
theorem dX3_readClause_21 : decode cX3_readClause 21 = .ok (.iconst 1, 1) := by decide +kernel
theorem dX3_readClause_22 : decode cX3_readClause 22 = .ok (.aload_n 1, 1) := by decide +kernel
theorem dX3_readClause_23 : decode cX3_readClause 23 = .ok (.getfield 88, 3) := by decide +kernel
theorem dX3_readClause_26 : decode cX3_readClause 26 = .ok (.invokevirtual 91, 3) := by decide +kernel
theorem dX3_readClause_29 : decode cX3_readClause 29 = .ok (.ireturn, 1) := by decide +kernel
theorem dX3_readClause_30 : decode cX3_readClause 30 = .ok (.iload_n 2, 1) := by decide +kernel
theorem dX3_readClause_31 : decode cX3_readClause 31 = .ok (.bipush 60, 2) := by decide +kernel
theorem dX3_readClause_33 : decode cX3_readClause 33 = .ok (.if_icmp .ge 11, 3) := by decide +kernel
theorem dX3_readClause_36 : decode cX3_readClause 36 = .ok (.aload_n 0, 1) := by decide +kernel
theorem dX3_readClause_37 : decode cX3_readClause 37 = .ok (.iload_n 3, 1) := by decide +kernel
theorem dX3_readClause_38 : decode cX3_readClause 38 = .ok (.invokevirtual 95, 3) := by decide +kernel
theorem dX3_readClause_41 : decode cX3_readClause 41 = .ok (.ifCond .eq 13, 3) := by decide +kernel
theorem dX3_readClause_44 : decode cX3_readClause 44 = .ok (.aload_n 1, 1) := by decide +kernel
theorem dX3_readClause_45 : decode cX3_readClause 45 = .ok (.iconst 3, 1) := by decide +kernel
theorem dX3_readClause_46 : decode cX3_readClause 46 = .ok (.aload_n 1, 1) := by decide +kernel
theorem dX3_readClause_47 : decode cX3_readClause 47 = .ok (.getfield 88, 3) := by decide +kernel
theorem dX3_readClause_50 : decode cX3_readClause 50 = .ok (.invokevirtual 91, 3) := by decide +kernel
theorem dX3_readClause_53 : decode cX3_readClause 53 = .ok (.ireturn, 1) := by decide +kernel
theorem dX3_readClause_54 : decode cX3_readClause 54 = .ok (.iload_n 3, 1) := by decide +kernel
theorem dX3_readClause_55 : decode cX3_readClause 55 = .ok (.tableswitch 53 0 3 #[29, 35, 41, 47], 29) := by decide +kernel
theorem dX3_readClause_84 : decode cX3_readClause 84 = .ok (.aload_n 0, 1) := by decide +kernel
theorem dX3_readClause_85 : decode cX3_readClause 85 = .ok (.aload_n 1, 1) := by decide +kernel
theorem dX3_readClause_86 : decode cX3_readClause 86 = .ok (.invokevirtual 98, 3) := by decide +kernel
theorem dX3_readClause_89 : decode cX3_readClause 89 = .ok (.ireturn, 1) := by decide +kernel
theorem dX3_readClause_90 : decode cX3_readClause 90 = .ok (.aload_n 0, 1) := by decide +kernel
theorem dX3_readClause_91 : decode cX3_readClause 91 = .ok (.aload_n 1, 1) := by decide +kernel
theorem dX3_readClause_92 : decode cX3_readClause 92 = .ok (.invokevirtual 102, 3) := by decide +kernel
theorem dX3_readClause_95 : decode cX3_readClause 95 = .ok (.ireturn, 1) := by decide +kernel
theorem dX3_readClause_96 : decode cX3_readClause 96 = .ok (.aload_n 0, 1) := by decide +kernel
theorem dX3_readClause_97 : decode cX3_readClause 97 = .ok (.aload_n 1, 1) := by decide +kernel
theorem dX3_readClause_98 : decode cX3_readClause 98 = .ok (.invokevirtual 105, 3) := by decide +kernel
theorem dX3_readClause_101 : decode cX3_readClause 101 = .ok (.ireturn, 1) := by decide +kernel
theorem dX3_readClause_102 : decode cX3_readClause 102 = .ok (.aload_n 0, 1) := by decide +kernel
theorem dX3_readClause_103 : decode cX3_readClause 103 = .ok (.aload_n 1, 1) := by decide +kernel
theorem dX3_readClause_104 : decode cX3_readClause 104 = .ok (.invokevirtual 108, 3) := by decide +kernel
theorem dX3_readClause_107 : decode cX3_readClause 107 = .ok (.ireturn, 1) := by decide +kernel
theorem dX3_readClause_108 : decode cX3_readClause 108 = .ok (.aload_n 0, 1) := by decide +kernel
theorem dX3_readClause_109 : decode cX3_readClause 109 = .ok (.aload_n 1, 1) := by decide +kernel
theorem dX3_readClause_110 : decode cX3_readClause 110 = .ok (.invokevirtual 111, 3) := by decide +kernel
theorem dX3_readClause_113 : decode cX3_readClause 113 = .ok (.ireturn, 1) := by decide +kernel
theorem dX3_readFrom_0 : decode cX3_readFrom 0 = .ok (.aload_n 0, 1) := by decide +kernel
theorem dX3_readFrom_1 : decode cX3_readFrom 1 = .ok (.invokevirtual 63, 3) := by decide +kernel
theorem dX3_readFrom_4 : decode cX3_readFrom 4 = .ok (.iconst 0, 1) := by decide +kernel
theorem dX3_readFrom_5 : decode cX3_readFrom 5 = .ok (.istore_n 2, 1) := by decide +kernel
theorem dX3_readFrom_6 : decode cX3_readFrom 6 = .ok (.iload_n 2, 1) := by decide +kernel
theorem dX3_readFrom_7 : decode cX3_readFrom 7 = .ok (.bipush 60, 2) := by decide +kernel
theorem dX3_readFrom_9 : decode cX3_readFrom 9 = .ok (.if_icmp .gt 37, 3) := by decide +kernel
theorem dX3_readFrom_12 : decode cX3_readFrom 12 = .ok (.aload_n 1, 1) := by decide +kernel
theorem dX3_readFrom_13 : decode cX3_readFrom 13 = .ok (.invokevirtual 66, 3) := by decide +kernel
theorem dX3_readFrom_16 : decode cX3_readFrom 16 = .ok (.iconst (-1), 1) := by decide +kernel
theorem dX3_readFrom_17 : decode cX3_readFrom 17 = .ok (.if_icmp .eq 29, 3) := by decide +kernel
theorem dX3_readFrom_20 : decode cX3_readFrom 20 = .ok (.aload_n 0, 1) := by decide +kernel
theorem dX3_readFrom_21 : decode cX3_readFrom 21 = .ok (.aload_n 1, 1) := by decide +kernel
theorem dX3_readFrom_22 : decode cX3_readFrom 22 = .ok (.iload_n 2, 1) := by decide +kernel
theorem dX3_readFrom_23 : decode cX3_readFrom 23 = .ok (.invokevirtual 72, 3) := by decide +kernel
theorem dX3_readFrom_26 : decode cX3_readFrom 26 = .ok (.ifCond .eq 12, 3) := by decide +kernel
theorem dX3_readFrom_29 : decode cX3_readFrom 29 = .ok (.aload_n 1, 1) := by decide +kernel
theorem dX3_readFrom_30 : decode cX3_readFrom 30 = .ok (.bipush 59, 2) := by decide +kernel
theorem dX3_readFrom_32 : decode cX3_readFrom 32 = .ok (.invokevirtual 76, 3) := by decide +kernel
theorem dX3_readFrom_35 : decode cX3_readFrom 35 = .ok (.ifCond .ne 5, 3) := by decide +kernel
theorem dX3_readFrom_38 : decode cX3_readFrom 38 = .ok (.iconst 0, 1) := by decide +kernel
theorem dX3_readFrom_39 : decode cX3_readFrom 39 = .ok (.ireturn, 1) := by decide +kernel
theorem dX3_readFrom_40 : decode cX3_readFrom 40 = .ok (.iinc 2 1, 3) := by decide +kernel
theorem dX3_readFrom_43 : decode cX3_readFrom 43 = .ok (.goto (-37), 3) := by decide +kernel
theorem dX3_readFrom_46 : decode cX3_readFrom 46 = .ok (.iconst 1, 1) := by decide +kernel
theorem dX3_readFrom_47 : decode cX3_readFrom 47 = .ok (.ireturn, 1) := by decide +kernel
theorem dX1_clear_0 : decode cX1_clear 0 = .ok (.aload_n 0, 1) := by decide +kernel
theorem dX1_clear_1 : decode cX1_clear 1 = .ok (.iconst 0, 1) := by decide +kernel
theorem dX1_clear_2 : decode cX1_clear 2 = .ok (.putfield 18, 3) := by decide +kernel
theorem dX1_clear_5 : decode cX1_clear 5 = .ok (.aload_n 0, 1) := by decide +kernel
theorem dX1_clear_6 : decode cX1_clear 6 = .ok (.getfield 9, 3) := by decide +kernel
theorem dX1_clear_9 : decode cX1_clear 9 = .ok (.invokestatic 22, 3) := by decide +kernel
theorem dX1_clear_12 : decode cX1_clear 12 = .ok (.return_, 1) := by decide +kernel
theorem dX1_copyFrom_0 : decode cX1_copyFrom 0 = .ok (.aload_n 0, 1) := by decide +kernel
theorem dX1_copyFrom_1 : decode cX1_copyFrom 1 = .ok (.aload_n 1, 1) := by decide +kernel
theorem dX1_copyFrom_2 : decode cX1_copyFrom 2 = .ok (.getfield 18, 3) := by decide +kernel
theorem dX1_copyFrom_5 : decode cX1_copyFrom 5 = .ok (.putfield 18, 3) := by decide +kernel
theorem dX1_copyFrom_8 : decode cX1_copyFrom 8 = .ok (.aload_n 1, 1) := by decide +kernel
theorem dX1_copyFrom_9 : decode cX1_copyFrom 9 = .ok (.getfield 9, 3) := by decide +kernel
theorem dX1_copyFrom_12 : decode cX1_copyFrom 12 = .ok (.iconst 0, 1) := by decide +kernel
theorem dX1_copyFrom_13 : decode cX1_copyFrom 13 = .ok (.aload_n 0, 1) := by decide +kernel
theorem dX1_copyFrom_14 : decode cX1_copyFrom 14 = .ok (.getfield 9, 3) := by decide +kernel
theorem dX1_copyFrom_17 : decode cX1_copyFrom 17 = .ok (.iconst 0, 1) := by decide +kernel
theorem dX1_copyFrom_18 : decode cX1_copyFrom 18 = .ok (.aload_n 0, 1) := by decide +kernel
theorem dX1_copyFrom_19 : decode cX1_copyFrom 19 = .ok (.getfield 9, 3) := by decide +kernel
theorem dX1_copyFrom_22 : decode cX1_copyFrom 22 = .ok (.arraylength, 1) := by decide +kernel
theorem dX1_copyFrom_23 : decode cX1_copyFrom 23 = .ok (.invokestatic 26, 3) := by decide +kernel
theorem dX1_copyFrom_26 : decode cX1_copyFrom 26 = .ok (.return_, 1) := by decide +kernel
theorem dX1_readLine_0 : decode cX1_readLine 0 = .ok (.aload_n 1, 1) := by decide +kernel
theorem dX1_readLine_1 : decode cX1_readLine 1 = .ok (.iconst 0, 1) := by decide +kernel
theorem dX1_readLine_2 : decode cX1_readLine 2 = .ok (.aload_n 2, 1) := by decide +kernel
theorem dX1_readLine_3 : decode cX1_readLine 3 = .ok (.getfield 42, 3) := by decide +kernel
theorem dX1_readLine_6 : decode cX1_readLine 6 = .ok (.iconst 1, 1) := by decide +kernel
theorem dX1_readLine_7 : decode cX1_readLine 7 = .ok (.isub, 1) := by decide +kernel
theorem dX1_readLine_8 : decode cX1_readLine 8 = .ok (.invokevirtual 47, 3) := by decide +kernel
theorem dX1_readLine_11 : decode cX1_readLine 11 = .ok (.istore_n 3, 1) := by decide +kernel
theorem dX1_readLine_12 : decode cX1_readLine 12 = .ok (.iload_n 3, 1) := by decide +kernel
theorem dX1_readLine_13 : decode cX1_readLine 13 = .ok (.iconst (-1), 1) := by decide +kernel
theorem dX1_readLine_14 : decode cX1_readLine 14 = .ok (.if_icmp .ne 5, 3) := by decide +kernel
theorem dX1_readLine_17 : decode cX1_readLine 17 = .ok (.iconst 0, 1) := by decide +kernel
theorem dX1_readLine_18 : decode cX1_readLine 18 = .ok (.ireturn, 1) := by decide +kernel
theorem dX1_readLine_19 : decode cX1_readLine 19 = .ok (.aload_n 0, 1) := by decide +kernel
theorem dX1_readLine_20 : decode cX1_readLine 20 = .ok (.getfield 9, 3) := by decide +kernel
theorem dX1_readLine_23 : decode cX1_readLine 23 = .ok (.iload_n 3, 1) := by decide +kernel
theorem dX1_readLine_24 : decode cX1_readLine 24 = .ok (.iaload, 1) := by decide +kernel
theorem dX1_readLine_25 : decode cX1_readLine 25 = .ok (.iconst (-1), 1) := by decide +kernel
theorem dX1_readLine_26 : decode cX1_readLine 26 = .ok (.if_icmp .eq 13, 3) := by decide +kernel
theorem dX1_readLine_29 : decode cX1_readLine 29 = .ok (.aload_n 1, 1) := by decide +kernel
theorem dX1_readLine_30 : decode cX1_readLine 30 = .ok (.iconst 2, 1) := by decide +kernel
theorem dX1_readLine_31 : decode cX1_readLine 31 = .ok (.aload_n 1, 1) := by decide +kernel
theorem dX1_readLine_32 : decode cX1_readLine 32 = .ok (.getfield 51, 3) := by decide +kernel
theorem dX1_readLine_35 : decode cX1_readLine 35 = .ok (.invokevirtual 54, 3) := by decide +kernel
theorem dX1_readLine_38 : decode cX1_readLine 38 = .ok (.ireturn, 1) := by decide +kernel
theorem dX1_readLine_39 : decode cX1_readLine 39 = .ok (.aload_n 1, 1) := by decide +kernel
theorem dX1_readLine_40 : decode cX1_readLine 40 = .ok (.aload_n 2, 1) := by decide +kernel
theorem dX1_readLine_41 : decode cX1_readLine 41 = .ok (.iload_n 3, 1) := by decide +kernel
theorem dX1_readLine_42 : decode cX1_readLine 42 = .ok (.invokevirtual 58, 3) := by decide +kernel
theorem dX1_readLine_45 : decode cX1_readLine 45 = .ok (.istore 4, 2) := by decide +kernel
theorem dX1_readLine_47 : decode cX1_readLine 47 = .ok (.iload 4, 2) := by decide +kernel
theorem dX1_readLine_49 : decode cX1_readLine 49 = .ok (.iconst (-1), 1) := by decide +kernel
theorem dX1_readLine_50 : decode cX1_readLine 50 = .ok (.if_icmp .ne 5, 3) := by decide +kernel
theorem dX1_readLine_53 : decode cX1_readLine 53 = .ok (.iconst 0, 1) := by decide +kernel
theorem dX1_readLine_54 : decode cX1_readLine 54 = .ok (.ireturn, 1) := by decide +kernel
theorem dX1_readLine_55 : decode cX1_readLine 55 = .ok (.aload_n 0, 1) := by decide +kernel
theorem dX1_readLine_56 : decode cX1_readLine 56 = .ok (.getfield 9, 3) := by decide +kernel
theorem dX1_readLine_59 : decode cX1_readLine 59 = .ok (.iload_n 3, 1) := by decide +kernel
theorem dX1_readLine_60 : decode cX1_readLine 60 = .ok (.iload 4, 2) := by decide +kernel
theorem dX1_readLine_62 : decode cX1_readLine 62 = .ok (.iastore, 1) := by decide +kernel
theorem dX1_readLine_63 : decode cX1_readLine 63 = .ok (.aload_n 0, 1) := by decide +kernel
theorem dX1_readLine_64 : decode cX1_readLine 64 = .ok (.dup, 1) := by decide +kernel
theorem dX1_readLine_65 : decode cX1_readLine 65 = .ok (.getfield 18, 3) := by decide +kernel
theorem dX1_readLine_68 : decode cX1_readLine 68 = .ok (.iconst 1, 1) := by decide +kernel
theorem dX1_readLine_69 : decode cX1_readLine 69 = .ok (.iadd, 1) := by decide +kernel
theorem dX1_readLine_70 : decode cX1_readLine 70 = .ok (.putfield 18, 3) := by decide +kernel
theorem dX1_readLine_73 : decode cX1_readLine 73 = .ok (.aload_n 1, 1) := by decide +kernel
theorem dX1_readLine_74 : decode cX1_readLine 74 = .ok (.bipush 59, 2) := by decide +kernel
theorem dX1_readLine_76 : decode cX1_readLine 76 = .ok (.invokevirtual 62, 3) := by decide +kernel
theorem dX1_readLine_79 : decode cX1_readLine 79 = .ok (.ireturn, 1) := by decide +kernel
theorem dX1_readFrom_0 : decode cX1_readFrom 0 = .ok (.aload_n 0, 1) := by decide +kernel
theorem dX1_readFrom_1 : decode cX1_readFrom 1 = .ok (.invokevirtual 15, 3) := by decide +kernel
theorem dX1_readFrom_4 : decode cX1_readFrom 4 = .ok (.iconst 0, 1) := by decide +kernel
theorem dX1_readFrom_5 : decode cX1_readFrom 5 = .ok (.istore_n 3, 1) := by decide +kernel
theorem dX1_readFrom_6 : decode cX1_readFrom 6 = .ok (.iload_n 3, 1) := by decide +kernel
theorem dX1_readFrom_7 : decode cX1_readFrom 7 = .ok (.bipush 60, 2) := by decide +kernel
theorem dX1_readFrom_9 : decode cX1_readFrom 9 = .ok (.if_icmp .ge 28, 3) := by decide +kernel
theorem dX1_readFrom_12 : decode cX1_readFrom 12 = .ok (.aload_n 1, 1) := by decide +kernel
theorem dX1_readFrom_13 : decode cX1_readFrom 13 = .ok (.invokevirtual 32, 3) := by decide +kernel
theorem dX1_readFrom_16 : decode cX1_readFrom 16 = .ok (.iconst (-1), 1) := by decide +kernel
theorem dX1_readFrom_17 : decode cX1_readFrom 17 = .ok (.if_icmp .eq 20, 3) := by decide +kernel
theorem dX1_readFrom_20 : decode cX1_readFrom 20 = .ok (.aload_n 0, 1) := by decide +kernel
theorem dX1_readFrom_21 : decode cX1_readFrom 21 = .ok (.aload_n 1, 1) := by decide +kernel
theorem dX1_readFrom_22 : decode cX1_readFrom 22 = .ok (.aload_n 2, 1) := by decide +kernel
theorem dX1_readFrom_23 : decode cX1_readFrom 23 = .ok (.invokevirtual 38, 3) := by decide +kernel
theorem dX1_readFrom_26 : decode cX1_readFrom 26 = .ok (.ifCond .ne 5, 3) := by decide +kernel
theorem dX1_readFrom_29 : decode cX1_readFrom 29 = .ok (.iconst 0, 1) := by decide +kernel
theorem dX1_readFrom_30 : decode cX1_readFrom 30 = .ok (.ireturn, 1) := by decide +kernel
theorem dX1_readFrom_31 : decode cX1_readFrom 31 = .ok (.iinc 3 1, 3) := by decide +kernel
theorem dX1_readFrom_34 : decode cX1_readFrom 34 = .ok (.goto (-28), 3) := by decide +kernel
theorem dX1_readFrom_37 : decode cX1_readFrom 37 = .ok (.iconst 1, 1) := by decide +kernel
theorem dX1_readFrom_38 : decode cX1_readFrom 38 = .ok (.ireturn, 1) := by decide +kernel
noncomputable def r_J0_coder_7d493 (i0 : Nat) (m : Mem) : Option Int32 :=
  if i0 < strL.length then (some 0) else none
set_option maxHeartbeats 4000000 in
set_option maxRecDepth 20000 in
theorem ok_J0_coder_7d493 (i0 : Nat) (m : Mem) {z : Int32} (h : r_J0_coder_7d493 i0 m = some z) : Mt yJ0_coder_7d493 cJ0_coder_7d493 1 (some .byte) 1 0 0 0 [vR 105 i0] m (oI z) m := by
  refine Mt.of (by decide) (Nat.le_of_ble_eq_true rfl) (by decide +kernel) (hhF_ne (by decide)) ?_
  show Xj RJ0 cJ0_coder_7d493 1 (some .byte) 1 0 0 0 0 0 0 [(0, vR 105 i0)] [] m (oI z) m
  unfold r_J0_coder_7d493 at h
  refine xj_compact dJ0_coder_7d493_0 wt_749 ?_
  refine xj_if_eq (tgt := 13) dJ0_coder_7d493_3 (by decide) (fun c1 => ?_) (fun c1 => ?_)
  · exact absurd c1 (by decide)
  · refine xj_aload_n 0 dJ0_coder_7d493_6 rfl ?_
    by_cases c2 : i0 < strL.length
    case neg => rw [if_neg c2] at h; cases h
    rw [if_pos c2] at h
    refine xj_scod dJ0_coder_7d493_7 (strQ_at c2) wt_2027 ?_
    refine xj_goto (tgt := 14) dJ0_coder_7d493_10 (by decide) ?_
    cases h
    exact xj_ireturn dJ0_coder_7d493_14 rfl (by decide) (by decide)
noncomputable def r_J0_length_8abf5 (i0 : Nat) (m : Mem) : Option Int32 :=
  if i0 < strL.length then (bd1 (r_J0_coder_7d493 i0 m) fun z3 => (some ((nI (strQ i0).2.2.2.length) >>> (z3 &&& 31)))) else none
set_option maxHeartbeats 4000000 in
set_option maxRecDepth 20000 in
theorem ok_J0_length_8abf5 (i0 : Nat) (m : Mem) {z : Int32} (h : r_J0_length_8abf5 i0 m = some z) : Mt yJ0_length_8abf5 cJ0_length_8abf5 1 (some .int) 2 20 0 0 [vR 105 i0] m (oI z) m := by
  refine Mt.of (by decide) (Nat.le_of_ble_eq_true rfl) (by decide +kernel) (hhF_ne (by decide)) ?_
  show Xj RJ0 cJ0_length_8abf5 1 (some .int) 2 20 0 0 0 0 0 [(0, vR 105 i0)] [] m (oI z) m
  unfold r_J0_length_8abf5 at h
  refine xj_aload_n 0 dJ0_length_8abf5_0 rfl ?_
  by_cases c1 : i0 < strL.length
  case neg => rw [if_neg c1] at h; cases h
  rw [if_pos c1] at h
  refine xj_sval dJ0_length_8abf5_1 (strQ_at c1) wt_2026 ?_
  refine xj_slenb dJ0_length_8abf5_4 (strQ_at c1) ?_
  refine xj_aload_n 0 dJ0_length_8abf5_5 rfl ?_
  obtain ⟨z3, e2, h⟩ := bd1_some h
  refine xc_Ti0 (st := [vI (nI (strQ i0).2.2.2.length)]) (ok_J0_coder_7d493 i0 m e2) dJ0_length_8abf5_6 (strQ_at c1) ct_J0_335 rfl rfl (Nat.le_of_ble_eq_true rfl) (by decide) (by decide) (by decide) (by decide) ?_
  refine xj_ishr dJ0_length_8abf5_9 ?_
  cases h
  exact xj_ireturn dJ0_length_8abf5_10 rfl (by decide) (by decide)
noncomputable def r_J0_isLatin1_aae02 (i0 : Nat) (m : Mem) : Option Bool :=
  if i0 < strL.length then (some true) else none
set_option maxHeartbeats 4000000 in
set_option maxRecDepth 20000 in
theorem ok_J0_isLatin1_aae02 (i0 : Nat) (m : Mem) {z : Bool} (h : r_J0_isLatin1_aae02 i0 m = some z) : Mt yJ0_isLatin1_aae02 cJ0_isLatin1_aae02 1 (some .boolean) 1 0 0 0 [vR 105 i0] m (oB z) m := by
  refine Mt.of (by decide) (Nat.le_of_ble_eq_true rfl) (by decide +kernel) (hhF_ne (by decide)) ?_
  show Xj RJ0 cJ0_isLatin1_aae02 1 (some .boolean) 1 0 0 0 0 0 0 [(0, vR 105 i0)] [] m (oB z) m
  unfold r_J0_isLatin1_aae02 at h
  refine xj_compact dJ0_isLatin1_aae02_0 wt_749 ?_
  refine xj_if_eq (tgt := 17) dJ0_isLatin1_aae02_3 (by decide) (fun c1 => ?_) (fun c1 => ?_)
  · exact absurd c1 (by decide)
  · refine xj_aload_n 0 dJ0_isLatin1_aae02_6 rfl ?_
    by_cases c2 : i0 < strL.length
    case neg => rw [if_neg c2] at h; cases h
    rw [if_pos c2] at h
    refine xj_scod dJ0_isLatin1_aae02_7 (strQ_at c2) wt_2027 ?_
    refine xj_if_ne (tgt := 17) dJ0_isLatin1_aae02_10 (by decide) (fun c3 => ?_) (fun c3 => ?_)
    · exact absurd c3 (by decide)
    · refine xj_iconst (z := 1) dJ0_isLatin1_aae02_13 (by decide) ?_
      refine xj_goto (tgt := 18) dJ0_isLatin1_aae02_14 (by decide) ?_
      cases h
      exact xj_ireturn dJ0_isLatin1_aae02_18 rfl (by decide) (by decide)
noncomputable def r_J3_checkIndex_8e157_N (x0 : Int32) (x1 : Int32) : Option Int32 :=
  if x0 < 0 then (none) else (if x0 < x1 then (some x0) else (none))
set_option maxHeartbeats 4000000 in
set_option maxRecDepth 20000 in
theorem ok_J3_checkIndex_8e157_N (x0 : Int32) (x1 : Int32) (m : Mem) {z : Int32} (h : r_J3_checkIndex_8e157_N x0 x1 = some z) : Mt yJ3_checkIndex_8e157 cJ3_checkIndex_8e157 3 (some .int) 1 0 0 0 [vI x0, vI x1, vN] m (oI z) m := by
  refine Mt.of (by decide) (Nat.le_of_ble_eq_true rfl) (by decide +kernel) (hhF_ne (by decide)) ?_
  show Xj RJ3 cJ3_checkIndex_8e157 3 (some .int) 1 0 0 0 0 0 0 [(0, vI x0), (1, vI x1), (2, vN)] [] m (oI z) m
  unfold r_J3_checkIndex_8e157_N at h
  refine xj_iload_n 0 dJ3_checkIndex_8e157_0 rfl ?_
  refine xj_if_lt (tgt := 9) dJ3_checkIndex_8e157_1 (by decide) (fun c1 => ?_) (fun c1 => ?_)
  · rw [if_pos c1] at h
    cases h
  · rw [if_neg c1] at h
    refine xj_iload_n 0 dJ3_checkIndex_8e157_4 rfl ?_
    refine xj_iload_n 1 dJ3_checkIndex_8e157_5 rfl ?_
    refine xj_icmp_lt (tgt := 16) dJ3_checkIndex_8e157_6 (by decide) (fun c2 => ?_) (fun c2 => ?_)
    · rw [if_pos c2] at h
      refine xj_iload_n 0 dJ3_checkIndex_8e157_16 rfl ?_
      cases h
      exact xj_ireturn dJ3_checkIndex_8e157_17 rfl (by decide) (by decide)
    · rw [if_neg c2] at h
      cases h
noncomputable def r_J3_checkIndex_8e157_107 (x0 : Int32) (x1 : Int32) : Option Int32 :=
  if x0 < 0 then (none) else (if x0 < x1 then (some x0) else (none))
set_option maxHeartbeats 4000000 in
set_option maxRecDepth 20000 in
theorem ok_J3_checkIndex_8e157_107 (x0 : Int32) (x1 : Int32) (m : Mem) {z : Int32} (h : r_J3_checkIndex_8e157_107 x0 x1 = some z) : Mt yJ3_checkIndex_8e157 cJ3_checkIndex_8e157 3 (some .int) 1 0 0 0 [vI x0, vI x1, vR 107 0] m (oI z) m := by
  refine Mt.of (by decide) (Nat.le_of_ble_eq_true rfl) (by decide +kernel) (hhF_ne (by decide)) ?_
  show Xj RJ3 cJ3_checkIndex_8e157 3 (some .int) 1 0 0 0 0 0 0 [(0, vI x0), (1, vI x1), (2, vR 107 0)] [] m (oI z) m
  unfold r_J3_checkIndex_8e157_107 at h
  refine xj_iload_n 0 dJ3_checkIndex_8e157_0 rfl ?_
  refine xj_if_lt (tgt := 9) dJ3_checkIndex_8e157_1 (by decide) (fun c1 => ?_) (fun c1 => ?_)
  · rw [if_pos c1] at h
    cases h
  · rw [if_neg c1] at h
    refine xj_iload_n 0 dJ3_checkIndex_8e157_4 rfl ?_
    refine xj_iload_n 1 dJ3_checkIndex_8e157_5 rfl ?_
    refine xj_icmp_lt (tgt := 16) dJ3_checkIndex_8e157_6 (by decide) (fun c2 => ?_) (fun c2 => ?_)
    · rw [if_pos c2] at h
      refine xj_iload_n 0 dJ3_checkIndex_8e157_16 rfl ?_
      cases h
      exact xj_ireturn dJ3_checkIndex_8e157_17 rfl (by decide) (by decide)
    · rw [if_neg c2] at h
      cases h
noncomputable def r_J0_checkIndex_df160 (x0 : Int32) (x1 : Int32) : Option Unit :=
  bd1 (r_J3_checkIndex_8e157_N x0 x1) fun z2 => (some ())
set_option maxHeartbeats 4000000 in
set_option maxRecDepth 20000 in
theorem ok_J0_checkIndex_df160 (x0 : Int32) (x1 : Int32) (m : Mem)  (h : r_J0_checkIndex_df160 x0 x1 = some ()) : Mt yJ0_checkIndex_df160 cJ0_checkIndex_df160 2 none 2 22 0 0 [vI x0, vI x1] m oV m := by
  refine Mt.of (by decide) (Nat.le_of_ble_eq_true rfl) (by decide +kernel) (hhF_ne (by decide)) ?_
  show Xj RJ0 cJ0_checkIndex_df160 2 none 2 22 0 0 0 0 0 [(0, vI x0), (1, vI x1)] [] m oV m
  unfold r_J0_checkIndex_df160 at h
  refine xj_iload_n 0 dJ0_checkIndex_df160_0 rfl ?_
  refine xj_iload_n 1 dJ0_checkIndex_df160_1 rfl ?_
  refine xj_sioobe dJ0_checkIndex_df160_2 wt_765 ?_ ?_
  · obtain ⟨z2, e1, h⟩ := bd1_some h
    refine xc_Si0 (st := []) (ok_J3_checkIndex_8e157_N x0 x1 m e1) dJ0_checkIndex_df160_5 cs_J0_1059 rfl rfl (Nat.le_of_ble_eq_true rfl) (by decide) (by decide) (by decide) (by decide) ?_
    refine xj_pop dJ0_checkIndex_df160_8 rfl ?_
    cases h
    exact xj_return dJ0_checkIndex_df160_9 (by decide) (by decide)
  · obtain ⟨z2, e1, h⟩ := bd1_some h
    refine xc_Si0 (st := []) (ok_J3_checkIndex_8e157_107 x0 x1 m e1) dJ0_checkIndex_df160_5 cs_J0_1059 rfl rfl (Nat.le_of_ble_eq_true rfl) (by decide) (by decide) (by decide) (by decide) ?_
    refine xj_pop dJ0_checkIndex_df160_8 rfl ?_
    cases h
    exact xj_return dJ0_checkIndex_df160_9 (by decide) (by decide)
noncomputable def r_J1_charAt_3b067 (i0 : Nat) (x1 : Int32) : Option Int32 :=
  if i0 < strL.length then (bd1 (r_J0_checkIndex_df160 x1 (nI (strQ i0).2.2.2.length)) fun z3 => (if inb x1 (strQ i0).2.2.2.length = true then (if inb (((((strQ i0).2.2.2.getD x1.toNatClampNeg 0) &&& 255).toUInt32 % 65536).toInt32) 65536 = true then (some (((((strQ i0).2.2.2.getD x1.toNatClampNeg 0) &&& 255).toUInt32 % 65536).toInt32)) else none) else none)) else none
set_option maxHeartbeats 4000000 in
set_option maxRecDepth 20000 in
theorem ok_J1_charAt_3b067 (i0 : Nat) (x1 : Int32) (m : Mem) {z : Int32} (h : r_J1_charAt_3b067 i0 x1 = some z) : Mt yJ1_charAt_3b067 cJ1_charAt_3b067 2 (some .char) 3 43 0 0 [vR 106 i0, vI x1] m (oI z) m := by
  refine Mt.of (by decide) (Nat.le_of_ble_eq_true rfl) (by decide +kernel) (hhF_ne (by decide)) ?_
  show Xj RJ1 cJ1_charAt_3b067 2 (some .char) 3 43 0 0 0 0 0 [(0, vR 106 i0), (1, vI x1)] [] m (oI z) m
  unfold r_J1_charAt_3b067 at h
  refine xj_iload_n 1 dJ1_charAt_3b067_0 rfl ?_
  refine xj_aload_n 0 dJ1_charAt_3b067_1 rfl ?_
  by_cases c1 : i0 < strL.length
  case neg => rw [if_neg c1] at h; cases h
  rw [if_pos c1] at h
  refine xj_slenb dJ1_charAt_3b067_2 (strQ_at c1) ?_
  obtain ⟨z3, e2, h⟩ := bd1_some h
  refine xc_Sv0 (st := []) (ok_J0_checkIndex_df160 x1 (nI (strQ i0).2.2.2.length) m e2) dJ1_charAt_3b067_3 cs_J1_9 rfl rfl (Nat.le_of_ble_eq_true rfl) (by decide) (by decide) (by decide) (by decide) ?_
  refine xj_aload_n 0 dJ1_charAt_3b067_6 rfl ?_
  refine xj_iload_n 1 dJ1_charAt_3b067_7 rfl ?_
  by_cases c4 : inb x1 (strQ i0).2.2.2.length = true
  case neg => rw [if_neg c4] at h; cases h
  rw [if_pos c4] at h
  refine xj_sbald dJ1_charAt_3b067_8 (strQ_at c1) (inb_in c4) ?_
  refine xj_sipush (z := 255) dJ1_charAt_3b067_9 (by decide) ?_
  refine xj_iand dJ1_charAt_3b067_12 ?_
  refine xj_i2c dJ1_charAt_3b067_13 ?_
  by_cases c5 : inb (((((strQ i0).2.2.2.getD x1.toNatClampNeg 0) &&& 255).toUInt32 % 65536).toInt32) 65536 = true
  case neg => rw [if_neg c5] at h; cases h
  rw [if_pos c5] at h
  cases h
  exact xj_ireturn dJ1_charAt_3b067_14 (nar_ch c5) (by decide) (by decide)
noncomputable def r_J0_charAt_5068e (i0 : Nat) (x1 : Int32) (m : Mem) : Option Int32 :=
  if i0 < strL.length then (bd1 (r_J0_isLatin1_aae02 i0 m) fun z3 => (if z3 = true then (bd1 (r_J1_charAt_3b067 i0 x1) fun z6 => (if inb z6 65536 = true then (some z6) else none)) else (none))) else none
set_option maxHeartbeats 4000000 in
set_option maxRecDepth 20000 in
theorem ok_J0_charAt_5068e (i0 : Nat) (x1 : Int32) (m : Mem) {z : Int32} (h : r_J0_charAt_5068e i0 x1 m = some z) : Mt yJ0_charAt_5068e cJ0_charAt_5068e 2 (some .char) 4 64 0 0 [vR 105 i0, vI x1] m (oI z) m := by
  refine Mt.of (by decide) (Nat.le_of_ble_eq_true rfl) (by decide +kernel) (hhF_ne (by decide)) ?_
  show Xj RJ0 cJ0_charAt_5068e 2 (some .char) 4 64 0 0 0 0 0 [(0, vR 105 i0), (1, vI x1)] [] m (oI z) m
  unfold r_J0_charAt_5068e at h
  refine xj_aload_n 0 dJ0_charAt_5068e_0 rfl ?_
  by_cases c1 : i0 < strL.length
  case neg => rw [if_neg c1] at h; cases h
  rw [if_pos c1] at h
  obtain ⟨z3, e2, h⟩ := bd1_some h
  refine xc_Tb0 (st := []) (ok_J0_isLatin1_aae02 i0 m e2) dJ0_charAt_5068e_1 (strQ_at c1) ct_J0_492 rfl rfl (Nat.le_of_ble_eq_true rfl) (by decide) (by decide) (by decide) (by decide) ?_
  refine xj_if_eq (tgt := 16) dJ0_charAt_5068e_4 (by decide) (fun c4 => ?_) (fun c4 => ?_)
  · rw [if_neg (b2i_f c4)] at h
    cases h
  · rw [if_pos (b2i_t c4)] at h
    refine xj_aload_n 0 dJ0_charAt_5068e_7 rfl ?_
    refine xj_sval dJ0_charAt_5068e_8 (strQ_at c1) wt_2026 ?_
    refine xj_iload_n 1 dJ0_charAt_5068e_11 rfl ?_
    obtain ⟨z6, e5, h⟩ := bd1_some h
    refine xc_Si0 (st := []) (ok_J1_charAt_3b067 i0 x1 m e5) dJ0_charAt_5068e_12 cs_J0_495 rfl rfl (Nat.le_of_ble_eq_true rfl) (by decide) (by decide) (by decide) (by decide) ?_
    by_cases c7 : inb z6 65536 = true
    case neg => rw [if_neg c7] at h; cases h
    rw [if_pos c7] at h
    cases h
    exact xj_ireturn dJ0_charAt_5068e_15 (nar_ch c7) (by decide) (by decide)
noncomputable def r_X8_wordIs_b20 (i1 : Nat) (m : Mem) (x2 : Int32) : Option ((Int32) ⊕ (Unit ⊕ Bool)) :=
  if i1 < strL.length then (bd1 (r_J0_length_8abf5 i1 m) fun z7 => (if z7 ≤ x2 then (some (Sum.inr (Sum.inl ()))) else (if inb ((m 8 0 2) + x2) 600 = true then (bd1 (r_J0_charAt_5068e i1 x2 m) fun z11 => (if (m 37 0 (((m 8 0 2) + x2).toNatClampNeg)) = z11 then (some (Sum.inl (x2 + 1))) else (some (Sum.inr (Sum.inr false))))) else none))) else none
set_option maxHeartbeats 4000000 in
set_option maxRecDepth 20000 in
theorem ok_X8_wordIs_b20 (i1 : Nat) (m : Mem) (x2 : Int32) {r : (Int32) ⊕ (Unit ⊕ Bool)} (h : r_X8_wordIs_b20 i1 m x2 = some r) {o : Ou} {M' : Mem} (kb : ∀ (x2' : Int32), r = Sum.inl x2' → Xj RX8 cX8_wordIs 3 (some .boolean) 5 85 0 0 0 0 20 [(0, vR 8 0), (1, vR 105 i1), (2, vI x2')] [] m o M') (ke : r = Sum.inr (Sum.inl ()) → Xj RX8 cX8_wordIs 3 (some .boolean) 5 85 0 0 0 0 55 [] [] m o M') (kr : ∀ (z : Bool), r = Sum.inr (Sum.inr z) → o = (oB z) ∧ M' = m) : Xj RX8 cX8_wordIs 3 (some .boolean) 5 85 0 0 0 0 20 [(0, vR 8 0), (1, vR 105 i1), (2, vI x2)] [] m o M' := by
  unfold r_X8_wordIs_b20 at h
  refine xj_iload_n 2 dX8_wordIs_20 rfl ?_
  refine xj_aload_n 1 dX8_wordIs_21 rfl ?_
  by_cases c5 : i1 < strL.length
  case neg => rw [if_neg c5] at h; cases h
  rw [if_pos c5] at h
  obtain ⟨z7, e6, h⟩ := bd1_some h
  refine xc_Ti0 (st := [vI x2]) (ok_J0_length_8abf5 i1 m e6) dX8_wordIs_22 (strQ_at c5) ct_X8_46 rfl rfl (Nat.le_of_ble_eq_true rfl) (by decide) (by decide) (by decide) (by decide) ?_
  refine xj_icmp_ge (tgt := 55) dX8_wordIs_25 (by decide) (fun c8 => ?_) (fun c8 => ?_)
  · rw [if_pos c8] at h
    cases h
    refine xj_pick (ls' := []) [] rfl ?_
    exact ke  rfl
  · rw [if_neg c8] at h
    refine xj_aload_n 0 dX8_wordIs_28 rfl ?_
    refine xg_getR (k' := 37) (i' := 0) dX8_wordIs_29 fl_X8_9 rfl ?_
    refine xj_aload_n 0 dX8_wordIs_32 rfl ?_
    refine xg_getI (x := (m 8 0 2)) dX8_wordIs_33 fl_X8_28 rfl rfl ?_
    refine xj_iload_n 2 dX8_wordIs_36 rfl ?_
    refine xj_iadd dX8_wordIs_37 ?_
    by_cases c9 : inb ((m 8 0 2) + x2) 600 = true
    case neg => rw [if_neg c9] at h; cases h
    rw [if_pos c9] at h
    refine xg_iald (z := (m 37 0 (((m 8 0 2) + x2).toNatClampNeg))) (n := ((m 8 0 2) + x2).toNatClampNeg) dX8_wordIs_38 rfl (by decide) (inb_in c9) rfl rfl ?_
    refine xj_aload_n 1 dX8_wordIs_39 rfl ?_
    refine xj_iload_n 2 dX8_wordIs_40 rfl ?_
    obtain ⟨z11, e10, h⟩ := bd1_some h
    refine xc_Ti0 (st := [vI (m 37 0 (((m 8 0 2) + x2).toNatClampNeg))]) (ok_J0_charAt_5068e i1 x2 m e10) dX8_wordIs_41 (strQ_at c5) ct_X8_50 rfl rfl (Nat.le_of_ble_eq_true rfl) (by decide) (by decide) (by decide) (by decide) ?_
    refine xj_icmp_eq (tgt := 49) dX8_wordIs_44 (by decide) (fun c12 => ?_) (fun c12 => ?_)
    · rw [if_pos c12] at h
      refine xj_iinc (z := x2 + 1) (ls' := [(2, vI (x2 + 1)), (0, vR 8 0), (1, vR 105 i1)]) 2 dX8_wordIs_49 rfl rfl (by decide) rfl ?_
      refine xj_goto (tgt := 20) dX8_wordIs_52 (by decide) ?_
      cases h
      refine xj_pick (ls' := [(0, vR 8 0), (1, vR 105 i1), (2, vI (x2 + 1))]) [1, 2, 0] rfl ?_
      exact kb (x2 + 1) rfl
    · rw [if_neg c12] at h
      refine xj_iconst (z := 0) dX8_wordIs_47 (by decide) ?_
      cases h
      obtain ⟨rfl, rfl⟩ := kr _ rfl
      exact xj_ireturn dX8_wordIs_48 rfl (by decide) (by decide)
noncomputable def r_X8_wordIs_e55_h20 (m : Mem) : Option Bool :=
  some true
set_option maxHeartbeats 4000000 in
set_option maxRecDepth 20000 in
theorem ok_X8_wordIs_e55_h20 (m : Mem) {z : Bool} (h : r_X8_wordIs_e55_h20 m = some z) : Xj RX8 cX8_wordIs 3 (some .boolean) 5 85 0 0 0 0 55 [] [] m (oB z) m := by
  unfold r_X8_wordIs_e55_h20 at h
  refine xj_iconst (z := 1) dX8_wordIs_55 (by decide) ?_
  cases h
  exact xj_ireturn dX8_wordIs_56 rfl (by decide) (by decide)
noncomputable def r_X8_wordIs_l20 (i1 : Nat) (x2 : Int32) (m : Mem) : Option Bool :=
  bdS (loopO (fun s => r_X8_wordIs_b20 i1 m s) x2) (fun e => r_X8_wordIs_e55_h20 m) (fun q => some q)
set_option maxHeartbeats 4000000 in
set_option maxRecDepth 20000 in
theorem ok_X8_wordIs_l20 (i1 : Nat) (x2 : Int32) (m : Mem) {z : Bool} (h : r_X8_wordIs_l20 i1 x2 m = some z) : Xj RX8 cX8_wordIs 3 (some .boolean) 5 85 0 0 0 0 20 [(0, vR 8 0), (1, vR 105 i1), (2, vI x2)] [] m (oB z) m := by
  unfold r_X8_wordIs_l20 at h
  rcases bdS_some h with ⟨e, e1, h⟩ | ⟨q, e1, h⟩
  · refine loopO_ok (P := fun s : (Int32) => Xj RX8 cX8_wordIs 3 (some .boolean) 5 85 0 0 0 0 20 [(0, vR 8 0), (1, vR 105 i1), (2, vI s)] [] m (oB z) m) (Q := Sum.elim (fun e : Unit => Xj RX8 cX8_wordIs 3 (some .boolean) 5 85 0 0 0 0 55 [] [] m (oB z) m) (fun q : Bool => (oB z) = (oB q) ∧ m = m)) ?_ _ _ e1 ?_
    · intro s r9 h9 hi hx
      exact ok_X8_wordIs_b20 i1 m s h9 (by rintro _ rfl; exact hi _ rfl) (by rintro rfl; exact hx _ rfl) (by rintro _ rfl; exact hx _ rfl)
    · exact ok_X8_wordIs_e55_h20 m h 
  · refine loopO_ok (P := fun s : (Int32) => Xj RX8 cX8_wordIs 3 (some .boolean) 5 85 0 0 0 0 20 [(0, vR 8 0), (1, vR 105 i1), (2, vI s)] [] m (oB z) m) (Q := Sum.elim (fun e : Unit => Xj RX8 cX8_wordIs 3 (some .boolean) 5 85 0 0 0 0 55 [] [] m (oB z) m) (fun q : Bool => (oB z) = (oB q) ∧ m = m)) ?_ _ _ e1 ?_
    · intro s r9 h9 hi hx
      exact ok_X8_wordIs_b20 i1 m s h9 (by rintro _ rfl; exact hi _ rfl) (by rintro rfl; exact hx _ rfl) (by rintro _ rfl; exact hx _ rfl)
    · cases h; exact ⟨rfl, rfl⟩
noncomputable def r_X8_wordIs (i1 : Nat) (m : Mem) : Option Bool :=
  if i1 < strL.length then (bd1 (r_J0_length_8abf5 i1 m) fun z3 => (if ((m 8 0 6) - (m 8 0 2)) = z3 then (r_X8_wordIs_l20 i1 0 m) else (some false))) else none
set_option maxHeartbeats 4000000 in
set_option maxRecDepth 20000 in
theorem ok_X8_wordIs (i1 : Nat) (m : Mem) {z : Bool} (h : r_X8_wordIs i1 m = some z) : Mt yX8_wordIs cX8_wordIs 3 (some .boolean) 5 85 0 0 [vR 8 0, vR 105 i1] m (oB z) m := by
  refine Mt.of (by decide) (Nat.le_of_ble_eq_true rfl) (by decide +kernel) (hhF_ne (by decide)) ?_
  show Xj RX8 cX8_wordIs 3 (some .boolean) 5 85 0 0 0 0 0 [(0, vR 8 0), (1, vR 105 i1)] [] m (oB z) m
  unfold r_X8_wordIs at h
  refine xj_aload_n 0 dX8_wordIs_0 rfl ?_
  refine xg_getI (x := (m 8 0 6)) dX8_wordIs_1 fl_X8_25 rfl rfl ?_
  refine xj_aload_n 0 dX8_wordIs_4 rfl ?_
  refine xg_getI (x := (m 8 0 2)) dX8_wordIs_5 fl_X8_28 rfl rfl ?_
  refine xj_isub dX8_wordIs_8 ?_
  refine xj_aload_n 1 dX8_wordIs_9 rfl ?_
  by_cases c1 : i1 < strL.length
  case neg => rw [if_neg c1] at h; cases h
  rw [if_pos c1] at h
  obtain ⟨z3, e2, h⟩ := bd1_some h
  refine xc_Ti0 (st := [vI ((m 8 0 6) - (m 8 0 2))]) (ok_J0_length_8abf5 i1 m e2) dX8_wordIs_10 (strQ_at c1) ct_X8_46 rfl rfl (Nat.le_of_ble_eq_true rfl) (by decide) (by decide) (by decide) (by decide) ?_
  refine xj_icmp_eq (tgt := 18) dX8_wordIs_13 (by decide) (fun c4 => ?_) (fun c4 => ?_)
  · rw [if_pos c4] at h
    refine xj_iconst (z := 0) dX8_wordIs_18 (by decide) ?_
    refine xj_istore_n (ls' := [(2, vI 0), (0, vR 8 0), (1, vR 105 i1)]) dX8_wordIs_19 rfl (by decide) rfl ?_
    refine xj_pick (ls' := [(0, vR 8 0), (1, vR 105 i1), (2, vI 0)]) [1, 2, 0] rfl ?_
    exact ok_X8_wordIs_l20 i1 0 m h 
  · rw [if_neg c4] at h
    refine xj_iconst (z := 0) dX8_wordIs_16 (by decide) ?_
    cases h
    exact xj_ireturn dX8_wordIs_17 rfl (by decide) (by decide)
noncomputable def r_X8_linkedNumber (i1 : Nat) (x2 : Int32) (m : Mem) : Option (Int32 × Mem) :=
  bd2 (r_X8_number 0 ((m 3 i1 0) - 1) m) fun z3 m2 => (if z3 = (-1) then (some (z3, m2)) else (bd1 (r_X3_between i1 x2 z3 m2) fun z6 => (if z6 = (-1) then (bd2 (r_X8_wrong 2 (m2 8 0 2) m2) fun z10 m9 => (some ((-1), m9))) else (some (z3, m2)))))
set_option maxHeartbeats 4000000 in
set_option maxRecDepth 20000 in
theorem ok_X8_linkedNumber (i1 : Nat) (x2 : Int32) (m : Mem) {z : Int32} {m' : Mem} (h : r_X8_linkedNumber i1 x2 m = some (z, m')) : Mt yX8_linkedNumber cX8_linkedNumber 4 (some .int) 3 45 0 0 [vR 8 0, vR 3 i1, vI x2] m (oI z) m' := by
  refine Mt.of (by decide) (Nat.le_of_ble_eq_true rfl) (by decide +kernel) (hhF_ne (by decide)) ?_
  show Xj RX8 cX8_linkedNumber 4 (some .int) 3 45 0 0 0 0 0 [(0, vR 8 0), (1, vR 3 i1), (2, vI x2)] [] m (oI z) m'
  unfold r_X8_linkedNumber at h
  refine xj_aload_n 0 dX8_linkedNumber_0 rfl ?_
  refine xj_iconst (z := 0) dX8_linkedNumber_1 (by decide) ?_
  refine xj_aload_n 1 dX8_linkedNumber_2 rfl ?_
  refine xg_getI (x := (m 3 i1 0)) dX8_linkedNumber_3 fl_X8_64 rfl rfl ?_
  refine xj_iconst (z := 1) dX8_linkedNumber_6 (by decide) ?_
  refine xj_isub dX8_linkedNumber_7 ?_
  obtain ⟨z3, m2, e1, h⟩ := bd2_some h
  refine xc_Vi0 (st := []) (ok_X8_number 0 ((m 3 i1 0) - 1) m e1) dX8_linkedNumber_8 cv_X8_69 rfl rfl (Nat.le_of_ble_eq_true rfl) (by decide) (by decide) (by decide) (by decide) ?_
  refine xj_istore_n (ls' := [(3, vI z3), (0, vR 8 0), (1, vR 3 i1), (2, vI x2)]) dX8_linkedNumber_11 rfl (by decide) rfl ?_
  refine xj_iload_n 0 dX8_linkedNumber_12 rfl ?_
  refine xj_iconst (z := (-1)) dX8_linkedNumber_13 (by decide) ?_
  refine xj_icmp_eq (tgt := 39) dX8_linkedNumber_14 (by decide) (fun c4 => ?_) (fun c4 => ?_)
  · rw [if_pos c4] at h
    refine xj_iload_n 0 dX8_linkedNumber_39 rfl ?_
    cases h
    exact xj_ireturn dX8_linkedNumber_40 rfl (by decide) (by decide)
  · rw [if_neg c4] at h
    refine xj_aload_n 2 dX8_linkedNumber_17 rfl ?_
    refine xj_iload_n 3 dX8_linkedNumber_18 rfl ?_
    refine xj_iload_n 0 dX8_linkedNumber_19 rfl ?_
    obtain ⟨z6, e5, h⟩ := bd1_some h
    refine xc_Vi0 (st := []) (ok_X3_between i1 x2 z3 m2 e5) dX8_linkedNumber_20 cv_X8_72 rfl rfl (Nat.le_of_ble_eq_true rfl) (by decide) (by decide) (by decide) (by decide) ?_
    refine xj_iconst (z := (-1)) dX8_linkedNumber_23 (by decide) ?_
    refine xj_icmp_ne (tgt := 39) dX8_linkedNumber_24 (by decide) (fun c7 => ?_) (fun c7 => ?_)
    · rw [if_neg c7] at h
      refine xj_iload_n 0 dX8_linkedNumber_39 rfl ?_
      cases h
      exact xj_ireturn dX8_linkedNumber_40 rfl (by decide) (by decide)
    · rw [if_pos c7] at h
      refine xj_aload_n 1 dX8_linkedNumber_27 rfl ?_
      refine xj_iconst (z := 2) dX8_linkedNumber_28 (by decide) ?_
      refine xj_aload_n 1 dX8_linkedNumber_29 rfl ?_
      refine xg_getI (x := (m2 8 0 2)) dX8_linkedNumber_30 fl_X8_28 rfl rfl ?_
      obtain ⟨z10, m9, e8, h⟩ := bd2_some h
      refine xc_Vb0 (st := []) (ok_X8_wrong 2 (m2 8 0 2) m2 e8) dX8_linkedNumber_33 cv_X8_38 rfl rfl (Nat.le_of_ble_eq_true rfl) (by decide) (by decide) (by decide) (by decide) ?_
      refine xj_pop dX8_linkedNumber_36 rfl ?_
      refine xj_iconst (z := (-1)) dX8_linkedNumber_37 (by decide) ?_
      cases h
      exact xj_ireturn dX8_linkedNumber_38 rfl (by decide) (by decide)
noncomputable def r_X3_kindOf (i0 : Nat) (m : Mem) : Option Int32 :=
  bd1 (r_X8_wordIs 1 m) fun z2 => (if z2 = true then (some 0) else (bd1 (r_X8_wordIs 2 m) fun z5 => (if z5 = true then (some 1) else (bd1 (r_X8_wordIs 3 m) fun z8 => (if z8 = true then (some 2) else (bd1 (r_X8_wordIs 4 m) fun z11 => (if z11 = true then (some 3) else (bd1 (r_X8_wordIs 5 m) fun z14 => (if z14 = true then (some 4) else (some (-1)))))))))))
set_option maxHeartbeats 4000000 in
set_option maxRecDepth 20000 in
theorem ok_X3_kindOf (i0 : Nat) (m : Mem) {z : Int32} (h : r_X3_kindOf i0 m = some z) : Mt yX3_kindOf cX3_kindOf 2 (some .int) 6 107 0 0 [vR 3 i0, vR 8 0] m (oI z) m := by
  refine Mt.of (by decide) (Nat.le_of_ble_eq_true rfl) (by decide +kernel) (hhF_ne (by decide)) ?_
  show Xj RX3 cX3_kindOf 2 (some .int) 6 107 0 0 0 0 0 [(0, vR 3 i0), (1, vR 8 0)] [] m (oI z) m
  unfold r_X3_kindOf at h
  refine xj_aload_n 1 dX3_kindOf_0 rfl ?_
  refine xj_ldcS (n := 1) dX3_kindOf_1 rfl ?_
  obtain ⟨z2, e1, h⟩ := bd1_some h
  refine xc_Vb0 (st := []) (ok_X8_wordIs 1 m e1) dX3_kindOf_3 cv_X3_116 rfl rfl (Nat.le_of_ble_eq_true rfl) (by decide) (by decide) (by decide) (by decide) ?_
  refine xj_if_eq (tgt := 11) dX3_kindOf_6 (by decide) (fun c3 => ?_) (fun c3 => ?_)
  · rw [if_neg (b2i_f c3)] at h
    refine xj_aload_n 1 dX3_kindOf_11 rfl ?_
    refine xj_ldcS (n := 2) dX3_kindOf_12 rfl ?_
    obtain ⟨z5, e4, h⟩ := bd1_some h
    refine xc_Vb0 (st := []) (ok_X8_wordIs 2 m e4) dX3_kindOf_14 cv_X3_116 rfl rfl (Nat.le_of_ble_eq_true rfl) (by decide) (by decide) (by decide) (by decide) ?_
    refine xj_if_eq (tgt := 22) dX3_kindOf_17 (by decide) (fun c6 => ?_) (fun c6 => ?_)
    · rw [if_neg (b2i_f c6)] at h
      refine xj_aload_n 1 dX3_kindOf_22 rfl ?_
      refine xj_ldcS (n := 3) dX3_kindOf_23 rfl ?_
      obtain ⟨z8, e7, h⟩ := bd1_some h
      refine xc_Vb0 (st := []) (ok_X8_wordIs 3 m e7) dX3_kindOf_25 cv_X3_116 rfl rfl (Nat.le_of_ble_eq_true rfl) (by decide) (by decide) (by decide) (by decide) ?_
      refine xj_if_eq (tgt := 33) dX3_kindOf_28 (by decide) (fun c9 => ?_) (fun c9 => ?_)
      · rw [if_neg (b2i_f c9)] at h
        refine xj_aload_n 1 dX3_kindOf_33 rfl ?_
        refine xj_ldcS (n := 4) dX3_kindOf_34 rfl ?_
        obtain ⟨z11, e10, h⟩ := bd1_some h
        refine xc_Vb0 (st := []) (ok_X8_wordIs 4 m e10) dX3_kindOf_36 cv_X3_116 rfl rfl (Nat.le_of_ble_eq_true rfl) (by decide) (by decide) (by decide) (by decide) ?_
        refine xj_if_eq (tgt := 44) dX3_kindOf_39 (by decide) (fun c12 => ?_) (fun c12 => ?_)
        · rw [if_neg (b2i_f c12)] at h
          refine xj_aload_n 1 dX3_kindOf_44 rfl ?_
          refine xj_ldcS (n := 5) dX3_kindOf_45 rfl ?_
          obtain ⟨z14, e13, h⟩ := bd1_some h
          refine xc_Vb0 (st := []) (ok_X8_wordIs 5 m e13) dX3_kindOf_47 cv_X3_116 rfl rfl (Nat.le_of_ble_eq_true rfl) (by decide) (by decide) (by decide) (by decide) ?_
          refine xj_if_eq (tgt := 57) dX3_kindOf_50 (by decide) (fun c15 => ?_) (fun c15 => ?_)
          · rw [if_neg (b2i_f c15)] at h
            refine xj_iconst (z := (-1)) dX3_kindOf_57 (by decide) ?_
            cases h
            exact xj_ireturn dX3_kindOf_58 rfl (by decide) (by decide)
          · rw [if_pos (b2i_t c15)] at h
            refine xj_iconst (z := 4) dX3_kindOf_53 (by decide) ?_
            refine xj_goto (tgt := 58) dX3_kindOf_54 (by decide) ?_
            cases h
            exact xj_ireturn dX3_kindOf_58 rfl (by decide) (by decide)
        · rw [if_pos (b2i_t c12)] at h
          refine xj_iconst (z := 3) dX3_kindOf_42 (by decide) ?_
          cases h
          exact xj_ireturn dX3_kindOf_43 rfl (by decide) (by decide)
      · rw [if_pos (b2i_t c9)] at h
        refine xj_iconst (z := 2) dX3_kindOf_31 (by decide) ?_
        cases h
        exact xj_ireturn dX3_kindOf_32 rfl (by decide) (by decide)
    · rw [if_pos (b2i_t c6)] at h
      refine xj_iconst (z := 1) dX3_kindOf_20 (by decide) ?_
      cases h
      exact xj_ireturn dX3_kindOf_21 rfl (by decide) (by decide)
  · rw [if_pos (b2i_t c3)] at h
    refine xj_iconst (z := 0) dX3_kindOf_9 (by decide) ?_
    cases h
    exact xj_ireturn dX3_kindOf_10 rfl (by decide) (by decide)
noncomputable def r_X3_readClaim (i0 : Nat) (m : Mem) : Option (Bool × Mem) :=
  bd2 (r_X8_number 0 ((m 3 i0 2) - 1) m) fun z3 m2 => (if z3 = (-1) then (some (false, m2)) else (bd2 (r_X8_number 0 ((m2 3 i0 0) - 1) m2) fun z7 m6 => (if z7 = (-1) then (some (false, m6)) else (bd2 (r_X8_linkedNumber i0 z7 m6) fun z11 m10 => (if z11 = (-1) then (some (false, m10)) else (if inb ((z3 * 12) + z7) 72 = true then (some (true, (wr m10 32 i0 (((z3 * 12) + z7).toNatClampNeg) z11))) else none))))))
set_option maxHeartbeats 4000000 in
set_option maxRecDepth 20000 in
theorem ok_X3_readClaim (i0 : Nat) (m : Mem) {z : Bool} {m' : Mem} (h : r_X3_readClaim i0 m = some (z, m')) : Mt yX3_readClaim cX3_readClaim 5 (some .boolean) 4 68 0 0 [vR 3 i0, vR 8 0] m (oB z) m' := by
  refine Mt.of (by decide) (Nat.le_of_ble_eq_true rfl) (by decide +kernel) (hhF_ne (by decide)) ?_
  show Xj RX3 cX3_readClaim 5 (some .boolean) 4 68 0 0 0 0 0 [(0, vR 3 i0), (1, vR 8 0)] [] m (oB z) m'
  unfold r_X3_readClaim at h
  refine xj_aload_n 1 dX3_readClaim_0 rfl ?_
  refine xj_iconst (z := 0) dX3_readClaim_1 (by decide) ?_
  refine xj_aload_n 0 dX3_readClaim_2 rfl ?_
  refine xg_getI (x := (m 3 i0 2)) dX3_readClaim_3 fl_X3_43 rfl rfl ?_
  refine xj_iconst (z := 1) dX3_readClaim_6 (by decide) ?_
  refine xj_isub dX3_readClaim_7 ?_
  obtain ⟨z3, m2, e1, h⟩ := bd2_some h
  refine xc_Vi0 (st := []) (ok_X8_number 0 ((m 3 i0 2) - 1) m e1) dX3_readClaim_8 cv_X3_127 rfl rfl (Nat.le_of_ble_eq_true rfl) (by decide) (by decide) (by decide) (by decide) ?_
  refine xj_istore_n (ls' := [(2, vI z3), (0, vR 3 i0), (1, vR 8 0)]) dX3_readClaim_11 rfl (by decide) rfl ?_
  refine xj_iload_n 0 dX3_readClaim_12 rfl ?_
  refine xj_iconst (z := (-1)) dX3_readClaim_13 (by decide) ?_
  refine xj_icmp_ne (tgt := 19) dX3_readClaim_14 (by decide) (fun c4 => ?_) (fun c4 => ?_)
  · rw [if_neg c4] at h
    refine xj_aload_n 2 dX3_readClaim_19 rfl ?_
    refine xj_iconst (z := 0) dX3_readClaim_20 (by decide) ?_
    refine xj_aload_n 1 dX3_readClaim_21 rfl ?_
    refine xg_getI (x := (m2 3 i0 0)) dX3_readClaim_22 fl_X3_36 rfl rfl ?_
    refine xj_iconst (z := 1) dX3_readClaim_25 (by decide) ?_
    refine xj_isub dX3_readClaim_26 ?_
    obtain ⟨z7, m6, e5, h⟩ := bd2_some h
    refine xc_Vi0 (st := []) (ok_X8_number 0 ((m2 3 i0 0) - 1) m2 e5) dX3_readClaim_27 cv_X3_127 rfl rfl (Nat.le_of_ble_eq_true rfl) (by decide) (by decide) (by decide) (by decide) ?_
    refine xj_istore_n (ls' := [(3, vI z7), (2, vI z3), (0, vR 3 i0), (1, vR 8 0)]) dX3_readClaim_30 rfl (by decide) rfl ?_
    refine xj_iload_n 0 dX3_readClaim_31 rfl ?_
    refine xj_iconst (z := (-1)) dX3_readClaim_32 (by decide) ?_
    refine xj_icmp_ne (tgt := 38) dX3_readClaim_33 (by decide) (fun c8 => ?_) (fun c8 => ?_)
    · rw [if_neg c8] at h
      refine xj_aload_n 3 dX3_readClaim_38 rfl ?_
      refine xj_aload_n 2 dX3_readClaim_39 rfl ?_
      refine xj_iload_n 0 dX3_readClaim_40 rfl ?_
      obtain ⟨z11, m10, e9, h⟩ := bd2_some h
      refine xc_Vi0 (st := []) (ok_X8_linkedNumber i0 z7 m6 e9) dX3_readClaim_41 cv_X3_134 rfl rfl (Nat.le_of_ble_eq_true rfl) (by decide) (by decide) (by decide) (by decide) ?_
      refine xj_istore (ls' := [(4, vI z11), (3, vI z7), (2, vI z3), (0, vR 3 i0), (1, vR 8 0)]) dX3_readClaim_44 (by decide) rfl ?_
      refine xj_iload 0 dX3_readClaim_46 rfl ?_
      refine xj_iconst (z := (-1)) dX3_readClaim_48 (by decide) ?_
      refine xj_icmp_ne (tgt := 54) dX3_readClaim_49 (by decide) (fun c12 => ?_) (fun c12 => ?_)
      · rw [if_neg c12] at h
        refine xj_aload_n 3 dX3_readClaim_54 rfl ?_
        refine xg_getR (k' := 32) (i' := i0) dX3_readClaim_55 fl_X3_33 rfl ?_
        refine xj_iload_n 2 dX3_readClaim_58 rfl ?_
        refine xj_bipush (z := 12) dX3_readClaim_59 (by decide) ?_
        refine xj_imul dX3_readClaim_61 ?_
        refine xj_iload_n 1 dX3_readClaim_62 rfl ?_
        refine xj_iadd dX3_readClaim_63 ?_
        refine xj_iload 0 dX3_readClaim_64 rfl ?_
        by_cases c13 : inb ((z3 * 12) + z7) 72 = true
        case neg => rw [if_neg c13] at h; cases h
        rw [if_pos c13] at h
        refine xg_iast (n := ((z3 * 12) + z7).toNatClampNeg) dX3_readClaim_66 rfl (by decide) (inb_in c13) rfl ?_
        refine xj_iconst (z := 1) dX3_readClaim_67 (by decide) ?_
        cases h
        exact xj_ireturn dX3_readClaim_68 rfl (by decide) (by decide)
      · rw [if_pos c12] at h
        refine xj_iconst (z := 0) dX3_readClaim_52 (by decide) ?_
        cases h
        exact xj_ireturn dX3_readClaim_53 rfl (by decide) (by decide)
    · rw [if_pos c8] at h
      refine xj_iconst (z := 0) dX3_readClaim_36 (by decide) ?_
      cases h
      exact xj_ireturn dX3_readClaim_37 rfl (by decide) (by decide)
  · rw [if_pos c4] at h
    refine xj_iconst (z := 0) dX3_readClaim_17 (by decide) ?_
    cases h
    exact xj_ireturn dX3_readClaim_18 rfl (by decide) (by decide)
noncomputable def r_X3_readPlace (i0 : Nat) (m : Mem) : Option (Bool × Mem) :=
  bd2 (r_X8_number 0 60 m) fun z3 m2 => (if z3 = (-1) then (some (false, m2)) else (if inb (m2 3 i0 0) 12 = true then (some (true, (wr (wr m2 25 i0 ((m2 3 i0 0).toNatClampNeg) z3) 3 i0 0 ((m2 3 i0 0) + 1)))) else none))
set_option maxHeartbeats 4000000 in
set_option maxRecDepth 20000 in
theorem ok_X3_readPlace (i0 : Nat) (m : Mem) {z : Bool} {m' : Mem} (h : r_X3_readPlace i0 m = some (z, m')) : Mt yX3_readPlace cX3_readPlace 3 (some .boolean) 3 45 0 0 [vR 3 i0, vR 8 0] m (oB z) m' := by
  refine Mt.of (by decide) (Nat.le_of_ble_eq_true rfl) (by decide +kernel) (hhF_ne (by decide)) ?_
  show Xj RX3 cX3_readPlace 3 (some .boolean) 3 45 0 0 0 0 0 [(0, vR 3 i0), (1, vR 8 0)] [] m (oB z) m'
  unfold r_X3_readPlace at h
  refine xj_aload_n 1 dX3_readPlace_0 rfl ?_
  refine xj_iconst (z := 0) dX3_readPlace_1 (by decide) ?_
  refine xj_bipush (z := 60) dX3_readPlace_2 (by decide) ?_
  obtain ⟨z3, m2, e1, h⟩ := bd2_some h
  refine xc_Vi0 (st := []) (ok_X8_number 0 60 m e1) dX3_readPlace_4 cv_X3_127 rfl rfl (Nat.le_of_ble_eq_true rfl) (by decide) (by decide) (by decide) (by decide) ?_
  refine xj_istore_n (ls' := [(2, vI z3), (0, vR 3 i0), (1, vR 8 0)]) dX3_readPlace_7 rfl (by decide) rfl ?_
  refine xj_iload_n 0 dX3_readPlace_8 rfl ?_
  refine xj_iconst (z := (-1)) dX3_readPlace_9 (by decide) ?_
  refine xj_icmp_ne (tgt := 15) dX3_readPlace_10 (by decide) (fun c4 => ?_) (fun c4 => ?_)
  · rw [if_neg c4] at h
    refine xj_aload_n 1 dX3_readPlace_15 rfl ?_
    refine xg_getR (k' := 25) (i' := i0) dX3_readPlace_16 fl_X3_9 rfl ?_
    refine xj_aload_n 1 dX3_readPlace_19 rfl ?_
    refine xg_getI (x := (m2 3 i0 0)) dX3_readPlace_20 fl_X3_36 rfl rfl ?_
    refine xj_iload_n 0 dX3_readPlace_23 rfl ?_
    by_cases c5 : inb (m2 3 i0 0) 12 = true
    case neg => rw [if_neg c5] at h; cases h
    rw [if_pos c5] at h
    refine xg_iast (n := (m2 3 i0 0).toNatClampNeg) dX3_readPlace_24 rfl (by decide) (inb_in c5) rfl ?_
    refine xj_aload_n 1 dX3_readPlace_25 rfl ?_
    refine xj_dup dX3_readPlace_26 rfl ?_
    refine xg_getI (x := (m2 3 i0 0)) dX3_readPlace_27 fl_X3_36 rfl rfl ?_
    refine xj_iconst (z := 1) dX3_readPlace_30 (by decide) ?_
    refine xj_iadd dX3_readPlace_31 ?_
    refine xj_putI dX3_readPlace_32 fw_X3_36 rfl ?_
    refine xj_iconst (z := 1) dX3_readPlace_35 (by decide) ?_
    cases h
    exact xj_ireturn dX3_readPlace_36 rfl (by decide) (by decide)
  · rw [if_pos c4] at h
    refine xj_iconst (z := 0) dX3_readPlace_13 (by decide) ?_
    cases h
    exact xj_ireturn dX3_readPlace_14 rfl (by decide) (by decide)
noncomputable def r_X3_readDitch_j53 (m : Mem) : Option (Bool × Mem) :=
  bd2 (r_X8_wrong 2 (m 8 0 2) m) fun z12 m11 => (some (z12, m11))
set_option maxHeartbeats 4000000 in
set_option maxRecDepth 20000 in
theorem ok_X3_readDitch_j53 (m : Mem) {z : Bool} {m' : Mem} (h : r_X3_readDitch_j53 m = some (z, m')) : Xj RX3 cX3_readDitch 4 (some .boolean) 3 45 0 0 0 0 53 [(1, vR 8 0)] [] m (oB z) m' := by
  unfold r_X3_readDitch_j53 at h
  refine xj_aload_n 0 dX3_readDitch_53 rfl ?_
  refine xj_iconst (z := 2) dX3_readDitch_54 (by decide) ?_
  refine xj_aload_n 0 dX3_readDitch_55 rfl ?_
  refine xg_getI (x := (m 8 0 2)) dX3_readDitch_56 fl_X3_88 rfl rfl ?_
  obtain ⟨z12, m11, e10, h⟩ := bd2_some h
  refine xc_Vb0 (st := []) (ok_X8_wrong 2 (m 8 0 2) m e10) dX3_readDitch_59 cv_X3_91 rfl rfl (Nat.le_of_ble_eq_true rfl) (by decide) (by decide) (by decide) (by decide) ?_
  cases h
  exact xj_ireturn dX3_readDitch_62 (nar_b2i _) (by decide) (by decide)
noncomputable def r_X3_readDitch (i0 : Nat) (m : Mem) : Option (Bool × Mem) :=
  bd2 (r_X8_number 0 ((m 3 i0 0) - 1) m) fun z3 m2 => (if z3 = (-1) then (some (false, m2)) else (bd2 (r_X8_number 0 ((m2 3 i0 0) - 1) m2) fun z7 m6 => (if z7 = (-1) then (some (false, m6)) else (if z3 = z7 then (r_X3_readDitch_j53 m6) else (bd1 (r_X3_between i0 z3 z7 m6) fun z14 => (if z14 = (-1) then (if inb (m6 3 i0 1) 16 = true then (if inb ((z3 * 12) + z7) 144 = true then (if inb ((z7 * 12) + z3) 144 = true then (if inb z3 12 = true then (if inb z7 12 = true then (some (true, (wr (wr (wr (wr (wr (wr (wr m6 27 i0 ((m6 3 i0 1).toNatClampNeg) z3) 28 i0 ((m6 3 i0 1).toNatClampNeg) z7) 29 i0 (((z3 * 12) + z7).toNatClampNeg) (m6 3 i0 1)) 29 i0 (((z7 * 12) + z3).toNatClampNeg) (m6 3 i0 1)) 26 i0 z3.toNatClampNeg ((m6 26 i0 z3.toNatClampNeg) ||| (1 <<< (z7 &&& 31)))) 26 i0 z7.toNatClampNeg (((wr (wr (wr (wr (wr m6 27 i0 ((m6 3 i0 1).toNatClampNeg) z3) 28 i0 ((m6 3 i0 1).toNatClampNeg) z7) 29 i0 (((z3 * 12) + z7).toNatClampNeg) (m6 3 i0 1)) 29 i0 (((z7 * 12) + z3).toNatClampNeg) (m6 3 i0 1)) 26 i0 z3.toNatClampNeg ((m6 26 i0 z3.toNatClampNeg) ||| (1 <<< (z7 &&& 31)))) 26 i0 z7.toNatClampNeg) ||| (1 <<< (z3 &&& 31)))) 3 i0 1 ((m6 3 i0 1) + 1)))) else none) else none) else none) else none) else none) else (r_X3_readDitch_j53 m6)))))))
set_option maxHeartbeats 4000000 in
set_option maxRecDepth 20000 in
theorem ok_X3_readDitch (i0 : Nat) (m : Mem) {z : Bool} {m' : Mem} (h : r_X3_readDitch i0 m = some (z, m')) : Mt yX3_readDitch cX3_readDitch 4 (some .boolean) 3 45 0 0 [vR 3 i0, vR 8 0] m (oB z) m' := by
  refine Mt.of (by decide) (Nat.le_of_ble_eq_true rfl) (by decide +kernel) (hhF_ne (by decide)) ?_
  show Xj RX3 cX3_readDitch 4 (some .boolean) 3 45 0 0 0 0 0 [(0, vR 3 i0), (1, vR 8 0)] [] m (oB z) m'
  unfold r_X3_readDitch at h
  refine xj_aload_n 1 dX3_readDitch_0 rfl ?_
  refine xj_iconst (z := 0) dX3_readDitch_1 (by decide) ?_
  refine xj_aload_n 0 dX3_readDitch_2 rfl ?_
  refine xg_getI (x := (m 3 i0 0)) dX3_readDitch_3 fl_X3_36 rfl rfl ?_
  refine xj_iconst (z := 1) dX3_readDitch_6 (by decide) ?_
  refine xj_isub dX3_readDitch_7 ?_
  obtain ⟨z3, m2, e1, h⟩ := bd2_some h
  refine xc_Vi0 (st := []) (ok_X8_number 0 ((m 3 i0 0) - 1) m e1) dX3_readDitch_8 cv_X3_127 rfl rfl (Nat.le_of_ble_eq_true rfl) (by decide) (by decide) (by decide) (by decide) ?_
  refine xj_istore_n (ls' := [(2, vI z3), (0, vR 3 i0), (1, vR 8 0)]) dX3_readDitch_11 rfl (by decide) rfl ?_
  refine xj_iload_n 0 dX3_readDitch_12 rfl ?_
  refine xj_iconst (z := (-1)) dX3_readDitch_13 (by decide) ?_
  refine xj_icmp_ne (tgt := 19) dX3_readDitch_14 (by decide) (fun c4 => ?_) (fun c4 => ?_)
  · rw [if_neg c4] at h
    refine xj_aload_n 2 dX3_readDitch_19 rfl ?_
    refine xj_iconst (z := 0) dX3_readDitch_20 (by decide) ?_
    refine xj_aload_n 1 dX3_readDitch_21 rfl ?_
    refine xg_getI (x := (m2 3 i0 0)) dX3_readDitch_22 fl_X3_36 rfl rfl ?_
    refine xj_iconst (z := 1) dX3_readDitch_25 (by decide) ?_
    refine xj_isub dX3_readDitch_26 ?_
    obtain ⟨z7, m6, e5, h⟩ := bd2_some h
    refine xc_Vi0 (st := []) (ok_X8_number 0 ((m2 3 i0 0) - 1) m2 e5) dX3_readDitch_27 cv_X3_127 rfl rfl (Nat.le_of_ble_eq_true rfl) (by decide) (by decide) (by decide) (by decide) ?_
    refine xj_istore_n (ls' := [(3, vI z7), (2, vI z3), (0, vR 3 i0), (1, vR 8 0)]) dX3_readDitch_30 rfl (by decide) rfl ?_
    refine xj_iload_n 0 dX3_readDitch_31 rfl ?_
    refine xj_iconst (z := (-1)) dX3_readDitch_32 (by decide) ?_
    refine xj_icmp_ne (tgt := 38) dX3_readDitch_33 (by decide) (fun c8 => ?_) (fun c8 => ?_)
    · rw [if_neg c8] at h
      refine xj_iload_n 1 dX3_readDitch_38 rfl ?_
      refine xj_iload_n 0 dX3_readDitch_39 rfl ?_
      refine xj_icmp_eq (tgt := 53) dX3_readDitch_40 (by decide) (fun c9 => ?_) (fun c9 => ?_)
      · rw [if_pos c9] at h
        refine xj_pick (ls' := [(1, vR 8 0)]) [3] rfl ?_
        exact ok_X3_readDitch_j53 m6 h 
      · rw [if_neg c9] at h
        refine xj_aload_n 2 dX3_readDitch_43 rfl ?_
        refine xj_iload_n 1 dX3_readDitch_44 rfl ?_
        refine xj_iload_n 0 dX3_readDitch_45 rfl ?_
        obtain ⟨z14, e13, h⟩ := bd1_some h
        refine xc_Vi0 (st := []) (ok_X3_between i0 z3 z7 m6 e13) dX3_readDitch_46 cv_X3_131 rfl rfl (Nat.le_of_ble_eq_true rfl) (by decide) (by decide) (by decide) (by decide) ?_
        refine xj_iconst (z := (-1)) dX3_readDitch_49 (by decide) ?_
        refine xj_icmp_eq (tgt := 63) dX3_readDitch_50 (by decide) (fun c15 => ?_) (fun c15 => ?_)
        · rw [if_pos c15] at h
          refine xj_aload_n 2 dX3_readDitch_63 rfl ?_
          refine xg_getR (k' := 27) (i' := i0) dX3_readDitch_64 fl_X3_18 rfl ?_
          refine xj_aload_n 2 dX3_readDitch_67 rfl ?_
          refine xg_getI (x := (m6 3 i0 1)) dX3_readDitch_68 fl_X3_40 rfl rfl ?_
          refine xj_iload_n 1 dX3_readDitch_71 rfl ?_
          by_cases c16 : inb (m6 3 i0 1) 16 = true
          case neg => rw [if_neg c16] at h; cases h
          rw [if_pos c16] at h
          refine xg_iast (n := (m6 3 i0 1).toNatClampNeg) dX3_readDitch_72 rfl (by decide) (inb_in c16) rfl ?_
          refine xj_aload_n 2 dX3_readDitch_73 rfl ?_
          refine xg_getR (k' := 28) (i' := i0) dX3_readDitch_74 fl_X3_21 rfl ?_
          refine xj_aload_n 2 dX3_readDitch_77 rfl ?_
          refine xg_getI (x := (m6 3 i0 1)) dX3_readDitch_78 fl_X3_40 rfl rfl ?_
          refine xj_iload_n 0 dX3_readDitch_81 rfl ?_
          refine xg_iast (n := (m6 3 i0 1).toNatClampNeg) dX3_readDitch_82 rfl (by decide) (inb_in c16) rfl ?_
          refine xj_aload_n 2 dX3_readDitch_83 rfl ?_
          refine xg_getR (k' := 29) (i' := i0) dX3_readDitch_84 fl_X3_24 rfl ?_
          refine xj_iload_n 1 dX3_readDitch_87 rfl ?_
          refine xj_bipush (z := 12) dX3_readDitch_88 (by decide) ?_
          refine xj_imul dX3_readDitch_90 ?_
          refine xj_iload_n 0 dX3_readDitch_91 rfl ?_
          refine xj_iadd dX3_readDitch_92 ?_
          refine xj_aload_n 2 dX3_readDitch_93 rfl ?_
          refine xg_getI (x := (m6 3 i0 1)) dX3_readDitch_94 fl_X3_40 rfl rfl ?_
          by_cases c17 : inb ((z3 * 12) + z7) 144 = true
          case neg => rw [if_neg c17] at h; cases h
          rw [if_pos c17] at h
          refine xg_iast (n := ((z3 * 12) + z7).toNatClampNeg) dX3_readDitch_97 rfl (by decide) (inb_in c17) rfl ?_
          refine xj_aload_n 2 dX3_readDitch_98 rfl ?_
          refine xg_getR (k' := 29) (i' := i0) dX3_readDitch_99 fl_X3_24 rfl ?_
          refine xj_iload_n 0 dX3_readDitch_102 rfl ?_
          refine xj_bipush (z := 12) dX3_readDitch_103 (by decide) ?_
          refine xj_imul dX3_readDitch_105 ?_
          refine xj_iload_n 1 dX3_readDitch_106 rfl ?_
          refine xj_iadd dX3_readDitch_107 ?_
          refine xj_aload_n 2 dX3_readDitch_108 rfl ?_
          refine xg_getI (x := (m6 3 i0 1)) dX3_readDitch_109 fl_X3_40 rfl rfl ?_
          by_cases c18 : inb ((z7 * 12) + z3) 144 = true
          case neg => rw [if_neg c18] at h; cases h
          rw [if_pos c18] at h
          refine xg_iast (n := ((z7 * 12) + z3).toNatClampNeg) dX3_readDitch_112 rfl (by decide) (inb_in c18) rfl ?_
          refine xj_aload_n 2 dX3_readDitch_113 rfl ?_
          refine xg_getR (k' := 26) (i' := i0) dX3_readDitch_114 fl_X3_15 rfl ?_
          refine xj_iload_n 1 dX3_readDitch_117 rfl ?_
          refine xj_dup2 dX3_readDitch_118 rfl rfl ?_
          by_cases c19 : inb z3 12 = true
          case neg => rw [if_neg c19] at h; cases h
          rw [if_pos c19] at h
          refine xg_iald (z := (m6 26 i0 z3.toNatClampNeg)) (n := z3.toNatClampNeg) dX3_readDitch_119 rfl (by decide) (inb_in c19) rfl rfl ?_
          refine xj_iconst (z := 1) dX3_readDitch_120 (by decide) ?_
          refine xj_iload_n 0 dX3_readDitch_121 rfl ?_
          refine xj_ishl dX3_readDitch_122 ?_
          refine xj_ior dX3_readDitch_123 ?_
          refine xg_iast (n := z3.toNatClampNeg) dX3_readDitch_124 rfl (by decide) (inb_in c19) rfl ?_
          refine xj_aload_n 2 dX3_readDitch_125 rfl ?_
          refine xg_getR (k' := 26) (i' := i0) dX3_readDitch_126 fl_X3_15 rfl ?_
          refine xj_iload_n 0 dX3_readDitch_129 rfl ?_
          refine xj_dup2 dX3_readDitch_130 rfl rfl ?_
          by_cases c20 : inb z7 12 = true
          case neg => rw [if_neg c20] at h; cases h
          rw [if_pos c20] at h
          refine xg_iald (z := ((wr (wr (wr (wr (wr m6 27 i0 ((m6 3 i0 1).toNatClampNeg) z3) 28 i0 ((m6 3 i0 1).toNatClampNeg) z7) 29 i0 (((z3 * 12) + z7).toNatClampNeg) (m6 3 i0 1)) 29 i0 (((z7 * 12) + z3).toNatClampNeg) (m6 3 i0 1)) 26 i0 z3.toNatClampNeg ((m6 26 i0 z3.toNatClampNeg) ||| (1 <<< (z7 &&& 31)))) 26 i0 z7.toNatClampNeg)) (n := z7.toNatClampNeg) dX3_readDitch_131 rfl (by decide) (inb_in c20) rfl (by first | rfl | simp [wr]) ?_
          refine xj_iconst (z := 1) dX3_readDitch_132 (by decide) ?_
          refine xj_iload_n 1 dX3_readDitch_133 rfl ?_
          refine xj_ishl dX3_readDitch_134 ?_
          refine xj_ior dX3_readDitch_135 ?_
          refine xg_iast (n := z7.toNatClampNeg) dX3_readDitch_136 rfl (by decide) (inb_in c20) rfl ?_
          refine xj_aload_n 2 dX3_readDitch_137 rfl ?_
          refine xj_dup dX3_readDitch_138 rfl ?_
          refine xg_getI (x := (m6 3 i0 1)) dX3_readDitch_139 fl_X3_40 rfl rfl ?_
          refine xj_iconst (z := 1) dX3_readDitch_142 (by decide) ?_
          refine xj_iadd dX3_readDitch_143 ?_
          refine xj_putI dX3_readDitch_144 fw_X3_40 rfl ?_
          refine xj_iconst (z := 1) dX3_readDitch_147 (by decide) ?_
          cases h
          exact xj_ireturn dX3_readDitch_148 rfl (by decide) (by decide)
        · rw [if_neg c15] at h
          refine xj_pick (ls' := [(1, vR 8 0)]) [3] rfl ?_
          exact ok_X3_readDitch_j53 m6 h 
    · rw [if_pos c8] at h
      refine xj_iconst (z := 0) dX3_readDitch_36 (by decide) ?_
      cases h
      exact xj_ireturn dX3_readDitch_37 rfl (by decide) (by decide)
  · rw [if_pos c4] at h
    refine xj_iconst (z := 0) dX3_readDitch_17 (by decide) ?_
    cases h
    exact xj_ireturn dX3_readDitch_18 rfl (by decide) (by decide)
noncomputable def r_X3_readPerson (i0 : Nat) (m : Mem) : Option (Bool × Mem) :=
  bd2 (r_X8_number 1 9 m) fun z3 m2 => (if z3 = (-1) then (some (false, m2)) else (bd2 (r_X8_number 0 ((m2 3 i0 0) - 1) m2) fun z7 m6 => (if z7 = (-1) then (some (false, m6)) else (if inb (m6 3 i0 2) 6 = true then (some (true, (wr (wr (wr m6 30 i0 ((m6 3 i0 2).toNatClampNeg) z3) 31 i0 ((m6 3 i0 2).toNatClampNeg) z7) 3 i0 2 ((m6 3 i0 2) + 1)))) else none))))
set_option maxHeartbeats 4000000 in
set_option maxRecDepth 20000 in
theorem ok_X3_readPerson (i0 : Nat) (m : Mem) {z : Bool} {m' : Mem} (h : r_X3_readPerson i0 m = some (z, m')) : Mt yX3_readPerson cX3_readPerson 4 (some .boolean) 3 45 0 0 [vR 3 i0, vR 8 0] m (oB z) m' := by
  refine Mt.of (by decide) (Nat.le_of_ble_eq_true rfl) (by decide +kernel) (hhF_ne (by decide)) ?_
  show Xj RX3 cX3_readPerson 4 (some .boolean) 3 45 0 0 0 0 0 [(0, vR 3 i0), (1, vR 8 0)] [] m (oB z) m'
  unfold r_X3_readPerson at h
  refine xj_aload_n 1 dX3_readPerson_0 rfl ?_
  refine xj_iconst (z := 1) dX3_readPerson_1 (by decide) ?_
  refine xj_bipush (z := 9) dX3_readPerson_2 (by decide) ?_
  obtain ⟨z3, m2, e1, h⟩ := bd2_some h
  refine xc_Vi0 (st := []) (ok_X8_number 1 9 m e1) dX3_readPerson_4 cv_X3_127 rfl rfl (Nat.le_of_ble_eq_true rfl) (by decide) (by decide) (by decide) (by decide) ?_
  refine xj_istore_n (ls' := [(2, vI z3), (0, vR 3 i0), (1, vR 8 0)]) dX3_readPerson_7 rfl (by decide) rfl ?_
  refine xj_iload_n 0 dX3_readPerson_8 rfl ?_
  refine xj_iconst (z := (-1)) dX3_readPerson_9 (by decide) ?_
  refine xj_icmp_ne (tgt := 15) dX3_readPerson_10 (by decide) (fun c4 => ?_) (fun c4 => ?_)
  · rw [if_neg c4] at h
    refine xj_aload_n 2 dX3_readPerson_15 rfl ?_
    refine xj_iconst (z := 0) dX3_readPerson_16 (by decide) ?_
    refine xj_aload_n 1 dX3_readPerson_17 rfl ?_
    refine xg_getI (x := (m2 3 i0 0)) dX3_readPerson_18 fl_X3_36 rfl rfl ?_
    refine xj_iconst (z := 1) dX3_readPerson_21 (by decide) ?_
    refine xj_isub dX3_readPerson_22 ?_
    obtain ⟨z7, m6, e5, h⟩ := bd2_some h
    refine xc_Vi0 (st := []) (ok_X8_number 0 ((m2 3 i0 0) - 1) m2 e5) dX3_readPerson_23 cv_X3_127 rfl rfl (Nat.le_of_ble_eq_true rfl) (by decide) (by decide) (by decide) (by decide) ?_
    refine xj_istore_n (ls' := [(3, vI z7), (2, vI z3), (0, vR 3 i0), (1, vR 8 0)]) dX3_readPerson_26 rfl (by decide) rfl ?_
    refine xj_iload_n 0 dX3_readPerson_27 rfl ?_
    refine xj_iconst (z := (-1)) dX3_readPerson_28 (by decide) ?_
    refine xj_icmp_ne (tgt := 34) dX3_readPerson_29 (by decide) (fun c8 => ?_) (fun c8 => ?_)
    · rw [if_neg c8] at h
      refine xj_aload_n 2 dX3_readPerson_34 rfl ?_
      refine xg_getR (k' := 30) (i' := i0) dX3_readPerson_35 fl_X3_27 rfl ?_
      refine xj_aload_n 2 dX3_readPerson_38 rfl ?_
      refine xg_getI (x := (m6 3 i0 2)) dX3_readPerson_39 fl_X3_43 rfl rfl ?_
      refine xj_iload_n 1 dX3_readPerson_42 rfl ?_
      by_cases c9 : inb (m6 3 i0 2) 6 = true
      case neg => rw [if_neg c9] at h; cases h
      rw [if_pos c9] at h
      refine xg_iast (n := (m6 3 i0 2).toNatClampNeg) dX3_readPerson_43 rfl (by decide) (inb_in c9) rfl ?_
      refine xj_aload_n 2 dX3_readPerson_44 rfl ?_
      refine xg_getR (k' := 31) (i' := i0) dX3_readPerson_45 fl_X3_30 rfl ?_
      refine xj_aload_n 2 dX3_readPerson_48 rfl ?_
      refine xg_getI (x := (m6 3 i0 2)) dX3_readPerson_49 fl_X3_43 rfl rfl ?_
      refine xj_iload_n 0 dX3_readPerson_52 rfl ?_
      refine xg_iast (n := (m6 3 i0 2).toNatClampNeg) dX3_readPerson_53 rfl (by decide) (inb_in c9) rfl ?_
      refine xj_aload_n 2 dX3_readPerson_54 rfl ?_
      refine xj_dup dX3_readPerson_55 rfl ?_
      refine xg_getI (x := (m6 3 i0 2)) dX3_readPerson_56 fl_X3_43 rfl rfl ?_
      refine xj_iconst (z := 1) dX3_readPerson_59 (by decide) ?_
      refine xj_iadd dX3_readPerson_60 ?_
      refine xj_putI dX3_readPerson_61 fw_X3_43 rfl ?_
      refine xj_iconst (z := 1) dX3_readPerson_64 (by decide) ?_
      cases h
      exact xj_ireturn dX3_readPerson_65 rfl (by decide) (by decide)
    · rw [if_pos c8] at h
      refine xj_iconst (z := 0) dX3_readPerson_32 (by decide) ?_
      cases h
      exact xj_ireturn dX3_readPerson_33 rfl (by decide) (by decide)
  · rw [if_pos c4] at h
    refine xj_iconst (z := 0) dX3_readPerson_13 (by decide) ?_
    cases h
    exact xj_ireturn dX3_readPerson_14 rfl (by decide) (by decide)
noncomputable def r_X3_readSpring (i0 : Nat) (m : Mem) : Option (Bool × Mem) :=
  bd2 (r_X8_number 0 ((m 3 i0 0) - 1) m) fun z3 m2 => (if z3 = (-1) then (some (false, m2)) else (some (true, (wr m2 3 i0 3 z3))))
set_option maxHeartbeats 4000000 in
set_option maxRecDepth 20000 in
theorem ok_X3_readSpring (i0 : Nat) (m : Mem) {z : Bool} {m' : Mem} (h : r_X3_readSpring i0 m = some (z, m')) : Mt yX3_readSpring cX3_readSpring 3 (some .boolean) 3 45 0 0 [vR 3 i0, vR 8 0] m (oB z) m' := by
  refine Mt.of (by decide) (Nat.le_of_ble_eq_true rfl) (by decide +kernel) (hhF_ne (by decide)) ?_
  show Xj RX3 cX3_readSpring 3 (some .boolean) 3 45 0 0 0 0 0 [(0, vR 3 i0), (1, vR 8 0)] [] m (oB z) m'
  unfold r_X3_readSpring at h
  refine xj_aload_n 1 dX3_readSpring_0 rfl ?_
  refine xj_iconst (z := 0) dX3_readSpring_1 (by decide) ?_
  refine xj_aload_n 0 dX3_readSpring_2 rfl ?_
  refine xg_getI (x := (m 3 i0 0)) dX3_readSpring_3 fl_X3_36 rfl rfl ?_
  refine xj_iconst (z := 1) dX3_readSpring_6 (by decide) ?_
  refine xj_isub dX3_readSpring_7 ?_
  obtain ⟨z3, m2, e1, h⟩ := bd2_some h
  refine xc_Vi0 (st := []) (ok_X8_number 0 ((m 3 i0 0) - 1) m e1) dX3_readSpring_8 cv_X3_127 rfl rfl (Nat.le_of_ble_eq_true rfl) (by decide) (by decide) (by decide) (by decide) ?_
  refine xj_istore_n (ls' := [(2, vI z3), (0, vR 3 i0), (1, vR 8 0)]) dX3_readSpring_11 rfl (by decide) rfl ?_
  refine xj_iload_n 0 dX3_readSpring_12 rfl ?_
  refine xj_iconst (z := (-1)) dX3_readSpring_13 (by decide) ?_
  refine xj_icmp_ne (tgt := 19) dX3_readSpring_14 (by decide) (fun c4 => ?_) (fun c4 => ?_)
  · rw [if_neg c4] at h
    refine xj_aload_n 1 dX3_readSpring_19 rfl ?_
    refine xj_iload_n 0 dX3_readSpring_20 rfl ?_
    refine xj_putI dX3_readSpring_21 fw_X3_46 rfl ?_
    refine xj_iconst (z := 1) dX3_readSpring_24 (by decide) ?_
    cases h
    exact xj_ireturn dX3_readSpring_25 rfl (by decide) (by decide)
  · rw [if_pos c4] at h
    refine xj_iconst (z := 0) dX3_readSpring_17 (by decide) ?_
    cases h
    exact xj_ireturn dX3_readSpring_18 rfl (by decide) (by decide)
noncomputable def r_X3_readClause_j44 (m : Mem) : Option (Bool × Mem) :=
  bd2 (r_X8_wrong 3 (m 8 0 2) m) fun z14 m13 => (some (z14, m13))
set_option maxHeartbeats 4000000 in
set_option maxRecDepth 20000 in
theorem ok_X3_readClause_j44 (m : Mem) {z : Bool} {m' : Mem} (h : r_X3_readClause_j44 m = some (z, m')) : Xj RX3 cX3_readClause 4 (some .boolean) 7 128 0 0 0 0 44 [(1, vR 8 0)] [] m (oB z) m' := by
  unfold r_X3_readClause_j44 at h
  refine xj_aload_n 0 dX3_readClause_44 rfl ?_
  refine xj_iconst (z := 3) dX3_readClause_45 (by decide) ?_
  refine xj_aload_n 0 dX3_readClause_46 rfl ?_
  refine xg_getI (x := (m 8 0 2)) dX3_readClause_47 fl_X3_88 rfl rfl ?_
  obtain ⟨z14, m13, e12, h⟩ := bd2_some h
  refine xc_Vb0 (st := []) (ok_X8_wrong 3 (m 8 0 2) m e12) dX3_readClause_50 cv_X3_91 rfl rfl (Nat.le_of_ble_eq_true rfl) (by decide) (by decide) (by decide) (by decide) ?_
  cases h
  exact xj_ireturn dX3_readClause_53 (nar_b2i _) (by decide) (by decide)
noncomputable def r_X3_readClause (i0 : Nat) (x2 : Int32) (m : Mem) : Option (Bool × Mem) :=
  bd2 (r_X8_word m) fun z3 m2 => (if z3 = true then (bd1 (r_X3_kindOf i0 m2) fun z6 => (if z6 = (-1) then (bd2 (r_X8_wrong 1 (m2 8 0 2) m2) fun z10 m9 => (some (z10, m9))) else (if 60 ≤ x2 then (r_X3_readClause_j44 m2) else (if (r_X3_isFull i0 z6 m2) = true then (r_X3_readClause_j44 m2) else (if z6 = 0 then (bd2 (r_X3_readPlace i0 m2) fun z19 m18 => (some (z19, m18))) else if z6 = 1 then (bd2 (r_X3_readDitch i0 m2) fun z23 m22 => (some (z23, m22))) else if z6 = 2 then (bd2 (r_X3_readPerson i0 m2) fun z27 m26 => (some (z27, m26))) else if z6 = 3 then (bd2 (r_X3_readClaim i0 m2) fun z31 m30 => (some (z31, m30))) else (bd2 (r_X3_readSpring i0 m2) fun z34 m33 => (some (z34, m33)))))))) else (some (false, m2)))
set_option maxHeartbeats 4000000 in
set_option maxRecDepth 20000 in
theorem ok_X3_readClause (i0 : Nat) (x2 : Int32) (m : Mem) {z : Bool} {m' : Mem} (h : r_X3_readClause i0 x2 m = some (z, m')) : Mt yX3_readClause cX3_readClause 4 (some .boolean) 7 128 0 0 [vR 3 i0, vR 8 0, vI x2] m (oB z) m' := by
  refine Mt.of (by decide) (Nat.le_of_ble_eq_true rfl) (by decide +kernel) (hhF_ne (by decide)) ?_
  show Xj RX3 cX3_readClause 4 (some .boolean) 7 128 0 0 0 0 0 [(0, vR 3 i0), (1, vR 8 0), (2, vI x2)] [] m (oB z) m'
  unfold r_X3_readClause at h
  refine xj_aload_n 1 dX3_readClause_0 rfl ?_
  obtain ⟨z3, m2, e1, h⟩ := bd2_some h
  refine xc_Vb0 (st := []) (ok_X8_word m e1) dX3_readClause_1 cv_X3_80 rfl rfl (Nat.le_of_ble_eq_true rfl) (by decide) (by decide) (by decide) (by decide) ?_
  refine xj_if_ne (tgt := 9) dX3_readClause_4 (by decide) (fun c4 => ?_) (fun c4 => ?_)
  · rw [if_pos (b2i_t c4)] at h
    refine xj_aload_n 0 dX3_readClause_9 rfl ?_
    refine xj_aload_n 1 dX3_readClause_10 rfl ?_
    obtain ⟨z6, e5, h⟩ := bd1_some h
    refine xc_Vi0 (st := []) (ok_X3_kindOf i0 m2 e5) dX3_readClause_11 cv_X3_84 rfl rfl (Nat.le_of_ble_eq_true rfl) (by decide) (by decide) (by decide) (by decide) ?_
    refine xj_istore_n (ls' := [(3, vI z6), (0, vR 3 i0), (1, vR 8 0), (2, vI x2)]) dX3_readClause_14 rfl (by decide) rfl ?_
    refine xj_iload_n 0 dX3_readClause_15 rfl ?_
    refine xj_iconst (z := (-1)) dX3_readClause_16 (by decide) ?_
    refine xj_icmp_ne (tgt := 30) dX3_readClause_17 (by decide) (fun c7 => ?_) (fun c7 => ?_)
    · rw [if_neg c7] at h
      refine xj_iload_n 3 dX3_readClause_30 rfl ?_
      refine xj_bipush (z := 60) dX3_readClause_31 (by decide) ?_
      refine xj_icmp_ge (tgt := 44) dX3_readClause_33 (by decide) (fun c11 => ?_) (fun c11 => ?_)
      · rw [if_pos c11] at h
        refine xj_pick (ls' := [(1, vR 8 0)]) [2] rfl ?_
        exact ok_X3_readClause_j44 m2 h 
      · rw [if_neg c11] at h
        refine xj_aload_n 1 dX3_readClause_36 rfl ?_
        refine xj_iload_n 0 dX3_readClause_37 rfl ?_
        refine xc_Vb0 (st := []) (ok_X3_isFull i0 z6 m2 rfl) dX3_readClause_38 cv_X3_95 rfl rfl (Nat.le_of_ble_eq_true rfl) (by decide) (by decide) (by decide) (by decide) ?_
        refine xj_if_eq (tgt := 54) dX3_readClause_41 (by decide) (fun c15 => ?_) (fun c15 => ?_)
        · rw [if_neg (b2i_f c15)] at h
          refine xj_iload_n 0 dX3_readClause_54 rfl ?_
          by_cases c16 : z6 = 0
          · rw [if_pos c16] at h
            refine xj_tableIn (off := 29) (tgt := 84) dX3_readClause_55 (by rw [c16]; decide) (by rw [c16]; decide) (by rw [c16]; decide) (by decide) ?_
            refine xj_aload_n 1 dX3_readClause_84 rfl ?_
            refine xj_aload_n 2 dX3_readClause_85 rfl ?_
            obtain ⟨z19, m18, e17, h⟩ := bd2_some h
            refine xc_Vb0 (st := []) (ok_X3_readPlace i0 m2 e17) dX3_readClause_86 cv_X3_98 rfl rfl (Nat.le_of_ble_eq_true rfl) (by decide) (by decide) (by decide) (by decide) ?_
            cases h
            exact xj_ireturn dX3_readClause_89 (nar_b2i _) (by decide) (by decide)
          rw [if_neg c16] at h
          by_cases c20 : z6 = 1
          · rw [if_pos c20] at h
            refine xj_tableIn (off := 35) (tgt := 90) dX3_readClause_55 (by rw [c20]; decide) (by rw [c20]; decide) (by rw [c20]; decide) (by decide) ?_
            refine xj_aload_n 1 dX3_readClause_90 rfl ?_
            refine xj_aload_n 2 dX3_readClause_91 rfl ?_
            obtain ⟨z23, m22, e21, h⟩ := bd2_some h
            refine xc_Vb0 (st := []) (ok_X3_readDitch i0 m2 e21) dX3_readClause_92 cv_X3_102 rfl rfl (Nat.le_of_ble_eq_true rfl) (by decide) (by decide) (by decide) (by decide) ?_
            cases h
            exact xj_ireturn dX3_readClause_95 (nar_b2i _) (by decide) (by decide)
          rw [if_neg c20] at h
          by_cases c24 : z6 = 2
          · rw [if_pos c24] at h
            refine xj_tableIn (off := 41) (tgt := 96) dX3_readClause_55 (by rw [c24]; decide) (by rw [c24]; decide) (by rw [c24]; decide) (by decide) ?_
            refine xj_aload_n 1 dX3_readClause_96 rfl ?_
            refine xj_aload_n 2 dX3_readClause_97 rfl ?_
            obtain ⟨z27, m26, e25, h⟩ := bd2_some h
            refine xc_Vb0 (st := []) (ok_X3_readPerson i0 m2 e25) dX3_readClause_98 cv_X3_105 rfl rfl (Nat.le_of_ble_eq_true rfl) (by decide) (by decide) (by decide) (by decide) ?_
            cases h
            exact xj_ireturn dX3_readClause_101 (nar_b2i _) (by decide) (by decide)
          rw [if_neg c24] at h
          by_cases c28 : z6 = 3
          · rw [if_pos c28] at h
            refine xj_tableIn (off := 47) (tgt := 102) dX3_readClause_55 (by rw [c28]; decide) (by rw [c28]; decide) (by rw [c28]; decide) (by decide) ?_
            refine xj_aload_n 1 dX3_readClause_102 rfl ?_
            refine xj_aload_n 2 dX3_readClause_103 rfl ?_
            obtain ⟨z31, m30, e29, h⟩ := bd2_some h
            refine xc_Vb0 (st := []) (ok_X3_readClaim i0 m2 e29) dX3_readClause_104 cv_X3_108 rfl rfl (Nat.le_of_ble_eq_true rfl) (by decide) (by decide) (by decide) (by decide) ?_
            cases h
            exact xj_ireturn dX3_readClause_107 (nar_b2i _) (by decide) (by decide)
          rw [if_neg c28] at h
          refine xj_tableOut (tgt := 108) dX3_readClause_55 ?_ (by decide) ?_
          · have nc16 := lv_neT c16 (show (0 : Int32).toInt = 0 by decide)
            have nc20 := lv_neT c20 (show (1 : Int32).toInt = 1 by decide)
            have nc24 := lv_neT c24 (show (2 : Int32).toInt = 2 by decide)
            have nc28 := lv_neT c28 (show (3 : Int32).toInt = 3 by decide)
            omega
          refine xj_aload_n 1 dX3_readClause_108 rfl ?_
          refine xj_aload_n 2 dX3_readClause_109 rfl ?_
          obtain ⟨z34, m33, e32, h⟩ := bd2_some h
          refine xc_Vb0 (st := []) (ok_X3_readSpring i0 m2 e32) dX3_readClause_110 cv_X3_111 rfl rfl (Nat.le_of_ble_eq_true rfl) (by decide) (by decide) (by decide) (by decide) ?_
          cases h
          exact xj_ireturn dX3_readClause_113 (nar_b2i _) (by decide) (by decide)
        · rw [if_pos (b2i_t c15)] at h
          refine xj_pick (ls' := [(1, vR 8 0)]) [2] rfl ?_
          exact ok_X3_readClause_j44 m2 h 
    · rw [if_pos c7] at h
      refine xj_aload_n 2 dX3_readClause_20 rfl ?_
      refine xj_iconst (z := 1) dX3_readClause_21 (by decide) ?_
      refine xj_aload_n 2 dX3_readClause_22 rfl ?_
      refine xg_getI (x := (m2 8 0 2)) dX3_readClause_23 fl_X3_88 rfl rfl ?_
      obtain ⟨z10, m9, e8, h⟩ := bd2_some h
      refine xc_Vb0 (st := []) (ok_X8_wrong 1 (m2 8 0 2) m2 e8) dX3_readClause_26 cv_X3_91 rfl rfl (Nat.le_of_ble_eq_true rfl) (by decide) (by decide) (by decide) (by decide) ?_
      cases h
      exact xj_ireturn dX3_readClause_29 (nar_b2i _) (by decide) (by decide)
  · rw [if_neg (b2i_f c4)] at h
    refine xj_iconst (z := 0) dX3_readClause_7 (by decide) ?_
    cases h
    exact xj_ireturn dX3_readClause_8 rfl (by decide) (by decide)
noncomputable def r_X3_readFrom_b6 (i0 : Nat) (x2 : Int32) (m : Mem) : Option ((Int32 × Mem) ⊕ ((Mem) ⊕ (Bool × Mem))) :=
  if 60 < x2 then (some (Sum.inr (Sum.inl m))) else (bd2 (r_X8_peek m) fun z6 m5 => (if z6 = (-1) then (some (Sum.inr (Sum.inl m5))) else (bd2 (r_X3_readClause i0 x2 m5) fun z10 m9 => (if z10 = true then (bd2 (r_X8_sign 59 m9) fun z14 m13 => (if z14 = true then (some (Sum.inl (x2 + 1, m13))) else (some (Sum.inr (Sum.inr (false, m13)))))) else (some (Sum.inr (Sum.inr (false, m9))))))))
set_option maxHeartbeats 4000000 in
set_option maxRecDepth 20000 in
theorem ok_X3_readFrom_b6 (i0 : Nat) (x2 : Int32) (m : Mem) {r : (Int32 × Mem) ⊕ ((Mem) ⊕ (Bool × Mem))} (h : r_X3_readFrom_b6 i0 x2 m = some r) {o : Ou} {M' : Mem} (kb : ∀ (x2' : Int32) (m'' : Mem), r = Sum.inl (x2', m'') → Xj RX3 cX3_readFrom 3 (some .boolean) 8 151 0 0 0 0 6 [(0, vR 3 i0), (1, vR 8 0), (2, vI x2')] [] m'' o M') (ke : ∀ (m'' : Mem), r = Sum.inr (Sum.inl m'') → Xj RX3 cX3_readFrom 3 (some .boolean) 8 151 0 0 0 0 46 [] [] m'' o M') (kr : ∀ (z : Bool) (m' : Mem), r = Sum.inr (Sum.inr (z, m')) → o = (oB z) ∧ M' = m') : Xj RX3 cX3_readFrom 3 (some .boolean) 8 151 0 0 0 0 6 [(0, vR 3 i0), (1, vR 8 0), (2, vI x2)] [] m o M' := by
  unfold r_X3_readFrom_b6 at h
  refine xj_iload_n 2 dX3_readFrom_6 rfl ?_
  refine xj_bipush (z := 60) dX3_readFrom_7 (by decide) ?_
  refine xj_icmp_gt (tgt := 46) dX3_readFrom_9 (by decide) (fun c3 => ?_) (fun c3 => ?_)
  · rw [if_pos c3] at h
    cases h
    refine xj_pick (ls' := []) [] rfl ?_
    exact ke m rfl
  · rw [if_neg c3] at h
    refine xj_aload_n 1 dX3_readFrom_12 rfl ?_
    obtain ⟨z6, m5, e4, h⟩ := bd2_some h
    refine xc_Vi0 (st := []) (ok_X8_peek m e4) dX3_readFrom_13 cv_X3_66 rfl rfl (Nat.le_of_ble_eq_true rfl) (by decide) (by decide) (by decide) (by decide) ?_
    refine xj_iconst (z := (-1)) dX3_readFrom_16 (by decide) ?_
    refine xj_icmp_eq (tgt := 46) dX3_readFrom_17 (by decide) (fun c7 => ?_) (fun c7 => ?_)
    · rw [if_pos c7] at h
      cases h
      refine xj_pick (ls' := []) [] rfl ?_
      exact ke m5 rfl
    · rw [if_neg c7] at h
      refine xj_aload_n 0 dX3_readFrom_20 rfl ?_
      refine xj_aload_n 1 dX3_readFrom_21 rfl ?_
      refine xj_iload_n 2 dX3_readFrom_22 rfl ?_
      obtain ⟨z10, m9, e8, h⟩ := bd2_some h
      refine xc_Vb0 (st := []) (ok_X3_readClause i0 x2 m5 e8) dX3_readFrom_23 cv_X3_72 rfl rfl (Nat.le_of_ble_eq_true rfl) (by decide) (by decide) (by decide) (by decide) ?_
      refine xj_if_eq (tgt := 38) dX3_readFrom_26 (by decide) (fun c11 => ?_) (fun c11 => ?_)
      · rw [if_neg (b2i_f c11)] at h
        refine xj_iconst (z := 0) dX3_readFrom_38 (by decide) ?_
        cases h
        obtain ⟨rfl, rfl⟩ := kr _ _ rfl
        exact xj_ireturn dX3_readFrom_39 rfl (by decide) (by decide)
      · rw [if_pos (b2i_t c11)] at h
        refine xj_aload_n 1 dX3_readFrom_29 rfl ?_
        refine xj_bipush (z := 59) dX3_readFrom_30 (by decide) ?_
        obtain ⟨z14, m13, e12, h⟩ := bd2_some h
        refine xc_Vb0 (st := []) (ok_X8_sign 59 m9 e12) dX3_readFrom_32 cv_X3_76 rfl rfl (Nat.le_of_ble_eq_true rfl) (by decide) (by decide) (by decide) (by decide) ?_
        refine xj_if_ne (tgt := 40) dX3_readFrom_35 (by decide) (fun c15 => ?_) (fun c15 => ?_)
        · rw [if_pos (b2i_t c15)] at h
          refine xj_iinc (z := x2 + 1) (ls' := [(2, vI (x2 + 1)), (0, vR 3 i0), (1, vR 8 0)]) 2 dX3_readFrom_40 rfl rfl (by decide) rfl ?_
          refine xj_goto (tgt := 6) dX3_readFrom_43 (by decide) ?_
          cases h
          refine xj_pick (ls' := [(0, vR 3 i0), (1, vR 8 0), (2, vI (x2 + 1))]) [1, 2, 0] rfl ?_
          exact kb (x2 + 1) m13 rfl
        · rw [if_neg (b2i_f c15)] at h
          refine xj_iconst (z := 0) dX3_readFrom_38 (by decide) ?_
          cases h
          obtain ⟨rfl, rfl⟩ := kr _ _ rfl
          exact xj_ireturn dX3_readFrom_39 rfl (by decide) (by decide)
noncomputable def r_X3_readFrom_e46_h6 (m : Mem) : Option (Bool × Mem) :=
  some (true, m)
set_option maxHeartbeats 4000000 in
set_option maxRecDepth 20000 in
theorem ok_X3_readFrom_e46_h6 (m : Mem) {z : Bool} {m' : Mem} (h : r_X3_readFrom_e46_h6 m = some (z, m')) : Xj RX3 cX3_readFrom 3 (some .boolean) 8 151 0 0 0 0 46 [] [] m (oB z) m' := by
  unfold r_X3_readFrom_e46_h6 at h
  refine xj_iconst (z := 1) dX3_readFrom_46 (by decide) ?_
  cases h
  exact xj_ireturn dX3_readFrom_47 rfl (by decide) (by decide)
noncomputable def r_X3_readFrom_l6 (i0 : Nat) (x2 : Int32) (m : Mem) : Option (Bool × Mem) :=
  bdS (loopO (fun s => r_X3_readFrom_b6 i0 s.1 s.2) (x2, m)) (fun e => r_X3_readFrom_e46_h6 e) (fun q => some q)
set_option maxHeartbeats 4000000 in
set_option maxRecDepth 20000 in
theorem ok_X3_readFrom_l6 (i0 : Nat) (x2 : Int32) (m : Mem) {z : Bool} {m' : Mem} (h : r_X3_readFrom_l6 i0 x2 m = some (z, m')) : Xj RX3 cX3_readFrom 3 (some .boolean) 8 151 0 0 0 0 6 [(0, vR 3 i0), (1, vR 8 0), (2, vI x2)] [] m (oB z) m' := by
  unfold r_X3_readFrom_l6 at h
  rcases bdS_some h with ⟨e, e1, h⟩ | ⟨q, e1, h⟩
  · refine loopO_ok (P := fun s : (Int32 × Mem) => Xj RX3 cX3_readFrom 3 (some .boolean) 8 151 0 0 0 0 6 [(0, vR 3 i0), (1, vR 8 0), (2, vI s.1)] [] s.2 (oB z) m') (Q := Sum.elim (fun e : (Mem) => Xj RX3 cX3_readFrom 3 (some .boolean) 8 151 0 0 0 0 46 [] [] e (oB z) m') (fun q : (Bool × Mem) => (oB z) = (oB q.1) ∧ m' = q.2)) ?_ _ _ e1 ?_
    · intro s r9 h9 hi hx
      exact ok_X3_readFrom_b6 i0 s.1 s.2 h9 (by rintro _ _ rfl; exact hi _ rfl) (by rintro _ rfl; exact hx _ rfl) (by rintro _ _ rfl; exact hx _ rfl)
    · exact ok_X3_readFrom_e46_h6 e h 
  · refine loopO_ok (P := fun s : (Int32 × Mem) => Xj RX3 cX3_readFrom 3 (some .boolean) 8 151 0 0 0 0 6 [(0, vR 3 i0), (1, vR 8 0), (2, vI s.1)] [] s.2 (oB z) m') (Q := Sum.elim (fun e : (Mem) => Xj RX3 cX3_readFrom 3 (some .boolean) 8 151 0 0 0 0 46 [] [] e (oB z) m') (fun q : (Bool × Mem) => (oB z) = (oB q.1) ∧ m' = q.2)) ?_ _ _ e1 ?_
    · intro s r9 h9 hi hx
      exact ok_X3_readFrom_b6 i0 s.1 s.2 h9 (by rintro _ _ rfl; exact hi _ rfl) (by rintro _ rfl; exact hx _ rfl) (by rintro _ _ rfl; exact hx _ rfl)
    · cases h; exact ⟨rfl, rfl⟩
noncomputable def r_X3_readFrom (i0 : Nat) (m : Mem) : Option (Bool × Mem) :=
  bd1 (r_X3_clear i0 m) fun m2 => (r_X3_readFrom_l6 i0 0 m2)
set_option maxHeartbeats 4000000 in
set_option maxRecDepth 20000 in
theorem ok_X3_readFrom (i0 : Nat) (m : Mem) {z : Bool} {m' : Mem} (h : r_X3_readFrom i0 m = some (z, m')) : Mt yX3_readFrom cX3_readFrom 3 (some .boolean) 8 151 0 0 [vR 3 i0, vR 8 0] m (oB z) m' := by
  refine Mt.of (by decide) (Nat.le_of_ble_eq_true rfl) (by decide +kernel) (hhF_ne (by decide)) ?_
  show Xj RX3 cX3_readFrom 3 (some .boolean) 8 151 0 0 0 0 0 [(0, vR 3 i0), (1, vR 8 0)] [] m (oB z) m'
  unfold r_X3_readFrom at h
  refine xj_aload_n 0 dX3_readFrom_0 rfl ?_
  obtain ⟨m2, e1, h⟩ := bd1_some h
  refine xc_Vv0 (st := []) (ok_X3_clear i0 m e1) dX3_readFrom_1 cv_X3_63 rfl rfl (Nat.le_of_ble_eq_true rfl) (by decide) (by decide) (by decide) (by decide) ?_
  refine xj_iconst (z := 0) dX3_readFrom_4 (by decide) ?_
  refine xj_istore_n (ls' := [(2, vI 0), (0, vR 3 i0), (1, vR 8 0)]) dX3_readFrom_5 rfl (by decide) rfl ?_
  refine xj_pick (ls' := [(0, vR 3 i0), (1, vR 8 0), (2, vI 0)]) [1, 2, 0] rfl ?_
  exact ok_X3_readFrom_l6 i0 0 m2 h 
noncomputable def r_X11_fillWithNone_36_b2 (i0 : Nat) (x1 : Int32) (m : Mem) : Option ((Int32 × Mem) ⊕ (Mem)) :=
  if 12 ≤ x1 then (some (Sum.inr m)) else (if inb x1 12 = true then (some (Sum.inl (x1 + 1, (wr m 36 i0 x1.toNatClampNeg (-1))))) else none)
set_option maxHeartbeats 4000000 in
set_option maxRecDepth 20000 in
theorem ok_X11_fillWithNone_36_b2 (i0 : Nat) (x1 : Int32) (m : Mem) {r : (Int32 × Mem) ⊕ (Mem)} (h : r_X11_fillWithNone_36_b2 i0 x1 m = some r) {o : Ou} {M' : Mem} (kb : ∀ (x1' : Int32) (m'' : Mem), r = Sum.inl (x1', m'') → Xj RX11 cX11_fillWithNone 2 none 1 0 0 0 0 0 2 [(0, vR 36 i0), (1, vI x1')] [] m'' o M') (ke : ∀ (m'' : Mem), r = Sum.inr m'' → Xj RX11 cX11_fillWithNone 2 none 1 0 0 0 0 0 18 [] [] m'' o M') : Xj RX11 cX11_fillWithNone 2 none 1 0 0 0 0 0 2 [(0, vR 36 i0), (1, vI x1)] [] m o M' := by
  unfold r_X11_fillWithNone_36_b2 at h
  refine xj_iload_n 1 dX11_fillWithNone_2 rfl ?_
  refine xj_aload_n 0 dX11_fillWithNone_3 rfl ?_
  refine xj_alen (x := 12) dX11_fillWithNone_4 (by decide) (by decide) (by decide) (by decide) ?_
  refine xj_icmp_ge (tgt := 18) dX11_fillWithNone_5 (by decide) (fun c1 => ?_) (fun c1 => ?_)
  · rw [if_pos c1] at h
    cases h
    refine xj_pick (ls' := []) [] rfl ?_
    exact ke m rfl
  · rw [if_neg c1] at h
    refine xj_aload_n 0 dX11_fillWithNone_8 rfl ?_
    refine xj_iload_n 1 dX11_fillWithNone_9 rfl ?_
    refine xj_iconst (z := (-1)) dX11_fillWithNone_10 (by decide) ?_
    by_cases c2 : inb x1 12 = true
    case neg => rw [if_neg c2] at h; cases h
    rw [if_pos c2] at h
    refine xg_iast (n := x1.toNatClampNeg) dX11_fillWithNone_11 rfl (by decide) (inb_in c2) rfl ?_
    refine xj_iinc (z := x1 + 1) (ls' := [(1, vI (x1 + 1)), (0, vR 36 i0)]) 1 dX11_fillWithNone_12 rfl rfl (by decide) rfl ?_
    refine xj_goto (tgt := 2) dX11_fillWithNone_15 (by decide) ?_
    cases h
    refine xj_pick (ls' := [(0, vR 36 i0), (1, vI (x1 + 1))]) [1, 0] rfl ?_
    exact kb (x1 + 1) (wr m 36 i0 x1.toNatClampNeg (-1)) rfl
noncomputable def r_X11_fillWithNone_36_e18_h2 (m : Mem) : Option Mem :=
  some m
set_option maxHeartbeats 4000000 in
set_option maxRecDepth 20000 in
theorem ok_X11_fillWithNone_36_e18_h2 (m : Mem) {m' : Mem} (h : r_X11_fillWithNone_36_e18_h2 m = some m') : Xj RX11 cX11_fillWithNone 2 none 1 0 0 0 0 0 18 [] [] m oV m' := by
  unfold r_X11_fillWithNone_36_e18_h2 at h
  cases h
  exact xj_return dX11_fillWithNone_18 (by decide) (by decide)
noncomputable def r_X11_fillWithNone_36_l2 (i0 : Nat) (x1 : Int32) (m : Mem) : Option Mem :=
  bd1 (loopO (fun s => r_X11_fillWithNone_36_b2 i0 s.1 s.2) (x1, m)) (fun e => r_X11_fillWithNone_36_e18_h2 e)
set_option maxHeartbeats 4000000 in
set_option maxRecDepth 20000 in
theorem ok_X11_fillWithNone_36_l2 (i0 : Nat) (x1 : Int32) (m : Mem) {m' : Mem} (h : r_X11_fillWithNone_36_l2 i0 x1 m = some m') : Xj RX11 cX11_fillWithNone 2 none 1 0 0 0 0 0 2 [(0, vR 36 i0), (1, vI x1)] [] m oV m' := by
  unfold r_X11_fillWithNone_36_l2 at h
  obtain ⟨e, e1, h⟩ := bd1_some h
  refine loopO_ok (P := fun s : (Int32 × Mem) => Xj RX11 cX11_fillWithNone 2 none 1 0 0 0 0 0 2 [(0, vR 36 i0), (1, vI s.1)] [] s.2 oV m') (Q := fun e : (Mem) => Xj RX11 cX11_fillWithNone 2 none 1 0 0 0 0 0 18 [] [] e oV m') ?_ _ _ e1 ?_
  · intro s r9 h9 hi hx
    exact ok_X11_fillWithNone_36_b2 i0 s.1 s.2 h9 (by rintro _ _ rfl; exact hi _ rfl) (by rintro _ rfl; exact hx _ rfl)
  · exact ok_X11_fillWithNone_36_e18_h2 e h 
noncomputable def r_X11_fillWithNone_36 (i0 : Nat) (m : Mem) : Option Mem :=
  r_X11_fillWithNone_36_l2 i0 0 m
set_option maxHeartbeats 4000000 in
set_option maxRecDepth 20000 in
theorem ok_X11_fillWithNone_36 (i0 : Nat) (m : Mem) {m' : Mem} (h : r_X11_fillWithNone_36 i0 m = some m') : Mt yX11_fillWithNone cX11_fillWithNone 2 none 1 0 0 0 [vR 36 i0] m oV m' := by
  refine Mt.of (by decide) (Nat.le_of_ble_eq_true rfl) (by decide +kernel) (hhF_ne (by decide)) ?_
  show Xj RX11 cX11_fillWithNone 2 none 1 0 0 0 0 0 0 [(0, vR 36 i0)] [] m oV m'
  unfold r_X11_fillWithNone_36 at h
  refine xj_iconst (z := 0) dX11_fillWithNone_0 (by decide) ?_
  refine xj_istore_n (ls' := [(1, vI 0), (0, vR 36 i0)]) dX11_fillWithNone_1 rfl (by decide) rfl ?_
  refine xj_pick (ls' := [(0, vR 36 i0), (1, vI 0)]) [1, 0] rfl ?_
  exact ok_X11_fillWithNone_36_l2 i0 0 m h 
noncomputable def r_X1_clear (i0 : Nat) (m : Mem) : Option Mem :=
  bd1 (r_X11_fillWithNone_36 i0 (wr m 1 i0 0 0)) fun m2 => (some m2)
set_option maxHeartbeats 4000000 in
set_option maxRecDepth 20000 in
theorem ok_X1_clear (i0 : Nat) (m : Mem) {m' : Mem} (h : r_X1_clear i0 m = some m') : Mt yX1_clear cX1_clear 1 none 2 21 0 0 [vR 1 i0] m oV m' := by
  refine Mt.of (by decide) (Nat.le_of_ble_eq_true rfl) (by decide +kernel) (hhF_ne (by decide)) ?_
  show Xj RX1 cX1_clear 1 none 2 21 0 0 0 0 0 [(0, vR 1 i0)] [] m oV m'
  unfold r_X1_clear at h
  refine xj_aload_n 0 dX1_clear_0 rfl ?_
  refine xj_iconst (z := 0) dX1_clear_1 (by decide) ?_
  refine xj_putI dX1_clear_2 fw_X1_18 rfl ?_
  refine xj_aload_n 0 dX1_clear_5 rfl ?_
  refine xg_getR (k' := 36) (i' := i0) dX1_clear_6 fl_X1_9 rfl ?_
  obtain ⟨m2, e1, h⟩ := bd1_some h
  refine xc_Nv0 (st := []) (ok_X11_fillWithNone_36 i0 (wr m 1 i0 0 0) e1) dX1_clear_9 cn_X1_22 rfl rfl (Nat.le_of_ble_eq_true rfl) (by decide) (by decide) (by decide) (by decide) ?_
  cases h
  exact xj_return dX1_clear_12 (by decide) (by decide)
noncomputable def r_X1_copyFrom (i0 : Nat) (i1 : Nat) (m : Mem) : Option Mem :=
  some (cpM (wr m 1 i0 0 (m 1 i1 0)) 36 i1 0 36 i0 0 12)
set_option maxHeartbeats 4000000 in
set_option maxRecDepth 20000 in
theorem ok_X1_copyFrom (i0 : Nat) (i1 : Nat) (m : Mem) {m' : Mem} (h : r_X1_copyFrom i0 i1 m = some m') : Mt yX1_copyFrom cX1_copyFrom 2 none 1 88 0 0 [vR 1 i0, vR 1 i1] m oV m' := by
  refine Mt.of (by decide) (Nat.le_of_ble_eq_true rfl) (by decide +kernel) (hhF_ne (by decide)) ?_
  show Xj RX1 cX1_copyFrom 2 none 1 88 0 0 0 0 0 [(0, vR 1 i0), (1, vR 1 i1)] [] m oV m'
  unfold r_X1_copyFrom at h
  refine xj_aload_n 0 dX1_copyFrom_0 rfl ?_
  refine xj_aload_n 1 dX1_copyFrom_1 rfl ?_
  refine xg_getI (x := (m 1 i1 0)) dX1_copyFrom_2 fl_X1_18 rfl rfl ?_
  refine xj_putI dX1_copyFrom_5 fw_X1_18 rfl ?_
  refine xj_aload_n 1 dX1_copyFrom_8 rfl ?_
  refine xg_getR (k' := 36) (i' := i1) dX1_copyFrom_9 fl_X1_9 rfl ?_
  refine xj_iconst (z := 0) dX1_copyFrom_12 (by decide) ?_
  refine xj_aload_n 0 dX1_copyFrom_13 rfl ?_
  refine xg_getR (k' := 36) (i' := i0) dX1_copyFrom_14 fl_X1_9 rfl ?_
  refine xj_iconst (z := 0) dX1_copyFrom_17 (by decide) ?_
  refine xj_aload_n 0 dX1_copyFrom_18 rfl ?_
  refine xg_getR (k' := 36) (i' := i0) dX1_copyFrom_19 fl_X1_9 rfl ?_
  refine xj_alen (x := 12) dX1_copyFrom_22 (by decide) (by decide) (by decide) (by decide) ?_
  refine xg_copy (s' := 0) (d' := 0) (n' := 12) dX1_copyFrom_23 cp_X1_26 rfl rfl (by decide) (by decide) (by decide) (by decide) (by decide) (by decide) (by decide) (by decide) (by decide) (by decide) (by decide) (Nat.le_of_ble_eq_true rfl) ?_
  cases h
  exact xj_return dX1_copyFrom_26 (by decide) (by decide)
noncomputable def r_X1_readLine (i0 : Nat) (i2 : Nat) (m : Mem) : Option (Bool × Mem) :=
  bd2 (r_X8_number 0 ((m 3 i2 0) - 1) m) fun z3 m2 => (if z3 = (-1) then (some (false, m2)) else (if inb z3 12 = true then (if (m2 36 i0 z3.toNatClampNeg) = (-1) then (bd2 (r_X8_linkedNumber i2 z3 m2) fun z9 m8 => (if z9 = (-1) then (some (false, m8)) else (bd2 (r_X8_sign 59 (wr (wr m8 36 i0 z3.toNatClampNeg z9) 1 i0 0 ((m8 1 i0 0) + 1))) fun z13 m12 => (some (z13, m12))))) else (bd2 (r_X8_wrong 2 (m2 8 0 2) m2) fun z16 m15 => (some (z16, m15)))) else none))
set_option maxHeartbeats 4000000 in
set_option maxRecDepth 20000 in
theorem ok_X1_readLine (i0 : Nat) (i2 : Nat) (m : Mem) {z : Bool} {m' : Mem} (h : r_X1_readLine i0 i2 m = some (z, m')) : Mt yX1_readLine cX1_readLine 5 (some .boolean) 4 68 0 0 [vR 1 i0, vR 8 0, vR 3 i2] m (oB z) m' := by
  refine Mt.of (by decide) (Nat.le_of_ble_eq_true rfl) (by decide +kernel) (hhF_ne (by decide)) ?_
  show Xj RX1 cX1_readLine 5 (some .boolean) 4 68 0 0 0 0 0 [(0, vR 1 i0), (1, vR 8 0), (2, vR 3 i2)] [] m (oB z) m'
  unfold r_X1_readLine at h
  refine xj_aload_n 1 dX1_readLine_0 rfl ?_
  refine xj_iconst (z := 0) dX1_readLine_1 (by decide) ?_
  refine xj_aload_n 2 dX1_readLine_2 rfl ?_
  refine xg_getI (x := (m 3 i2 0)) dX1_readLine_3 fl_X1_42 rfl rfl ?_
  refine xj_iconst (z := 1) dX1_readLine_6 (by decide) ?_
  refine xj_isub dX1_readLine_7 ?_
  obtain ⟨z3, m2, e1, h⟩ := bd2_some h
  refine xc_Vi0 (st := []) (ok_X8_number 0 ((m 3 i2 0) - 1) m e1) dX1_readLine_8 cv_X1_47 rfl rfl (Nat.le_of_ble_eq_true rfl) (by decide) (by decide) (by decide) (by decide) ?_
  refine xj_istore_n (ls' := [(3, vI z3), (0, vR 1 i0), (1, vR 8 0), (2, vR 3 i2)]) dX1_readLine_11 rfl (by decide) rfl ?_
  refine xj_iload_n 0 dX1_readLine_12 rfl ?_
  refine xj_iconst (z := (-1)) dX1_readLine_13 (by decide) ?_
  refine xj_icmp_ne (tgt := 19) dX1_readLine_14 (by decide) (fun c4 => ?_) (fun c4 => ?_)
  · rw [if_neg c4] at h
    refine xj_aload_n 1 dX1_readLine_19 rfl ?_
    refine xg_getR (k' := 36) (i' := i0) dX1_readLine_20 fl_X1_9 rfl ?_
    refine xj_iload_n 0 dX1_readLine_23 rfl ?_
    by_cases c5 : inb z3 12 = true
    case neg => rw [if_neg c5] at h; cases h
    rw [if_pos c5] at h
    refine xg_iald (z := (m2 36 i0 z3.toNatClampNeg)) (n := z3.toNatClampNeg) dX1_readLine_24 rfl (by decide) (inb_in c5) rfl rfl ?_
    refine xj_iconst (z := (-1)) dX1_readLine_25 (by decide) ?_
    refine xj_icmp_eq (tgt := 39) dX1_readLine_26 (by decide) (fun c6 => ?_) (fun c6 => ?_)
    · rw [if_pos c6] at h
      refine xj_aload_n 2 dX1_readLine_39 rfl ?_
      refine xj_aload_n 3 dX1_readLine_40 rfl ?_
      refine xj_iload_n 0 dX1_readLine_41 rfl ?_
      obtain ⟨z9, m8, e7, h⟩ := bd2_some h
      refine xc_Vi0 (st := []) (ok_X8_linkedNumber i2 z3 m2 e7) dX1_readLine_42 cv_X1_58 rfl rfl (Nat.le_of_ble_eq_true rfl) (by decide) (by decide) (by decide) (by decide) ?_
      refine xj_istore (ls' := [(4, vI z9), (3, vI z3), (0, vR 1 i0), (1, vR 8 0), (2, vR 3 i2)]) dX1_readLine_45 (by decide) rfl ?_
      refine xj_iload 0 dX1_readLine_47 rfl ?_
      refine xj_iconst (z := (-1)) dX1_readLine_49 (by decide) ?_
      refine xj_icmp_ne (tgt := 55) dX1_readLine_50 (by decide) (fun c10 => ?_) (fun c10 => ?_)
      · rw [if_neg c10] at h
        refine xj_aload_n 2 dX1_readLine_55 rfl ?_
        refine xg_getR (k' := 36) (i' := i0) dX1_readLine_56 fl_X1_9 rfl ?_
        refine xj_iload_n 1 dX1_readLine_59 rfl ?_
        refine xj_iload 0 dX1_readLine_60 rfl ?_
        refine xg_iast (n := z3.toNatClampNeg) dX1_readLine_62 rfl (by decide) (inb_in c5) rfl ?_
        refine xj_aload_n 2 dX1_readLine_63 rfl ?_
        refine xj_dup dX1_readLine_64 rfl ?_
        refine xg_getI (x := (m8 1 i0 0)) dX1_readLine_65 fl_X1_18 rfl rfl ?_
        refine xj_iconst (z := 1) dX1_readLine_68 (by decide) ?_
        refine xj_iadd dX1_readLine_69 ?_
        refine xj_putI dX1_readLine_70 fw_X1_18 rfl ?_
        refine xj_aload_n 3 dX1_readLine_73 rfl ?_
        refine xj_bipush (z := 59) dX1_readLine_74 (by decide) ?_
        obtain ⟨z13, m12, e11, h⟩ := bd2_some h
        refine xc_Vb0 (st := []) (ok_X8_sign 59 (wr (wr m8 36 i0 z3.toNatClampNeg z9) 1 i0 0 ((m8 1 i0 0) + 1)) e11) dX1_readLine_76 cv_X1_62 rfl rfl (Nat.le_of_ble_eq_true rfl) (by decide) (by decide) (by decide) (by decide) ?_
        cases h
        exact xj_ireturn dX1_readLine_79 (nar_b2i _) (by decide) (by decide)
      · rw [if_pos c10] at h
        refine xj_iconst (z := 0) dX1_readLine_53 (by decide) ?_
        cases h
        exact xj_ireturn dX1_readLine_54 rfl (by decide) (by decide)
    · rw [if_neg c6] at h
      refine xj_aload_n 2 dX1_readLine_29 rfl ?_
      refine xj_iconst (z := 2) dX1_readLine_30 (by decide) ?_
      refine xj_aload_n 2 dX1_readLine_31 rfl ?_
      refine xg_getI (x := (m2 8 0 2)) dX1_readLine_32 fl_X1_51 rfl rfl ?_
      obtain ⟨z16, m15, e14, h⟩ := bd2_some h
      refine xc_Vb0 (st := []) (ok_X8_wrong 2 (m2 8 0 2) m2 e14) dX1_readLine_35 cv_X1_54 rfl rfl (Nat.le_of_ble_eq_true rfl) (by decide) (by decide) (by decide) (by decide) ?_
      cases h
      exact xj_ireturn dX1_readLine_38 (nar_b2i _) (by decide) (by decide)
  · rw [if_pos c4] at h
    refine xj_iconst (z := 0) dX1_readLine_17 (by decide) ?_
    cases h
    exact xj_ireturn dX1_readLine_18 rfl (by decide) (by decide)
noncomputable def r_X1_readFrom_b6 (i0 : Nat) (i2 : Nat) (x3 : Int32) (m : Mem) : Option ((Int32 × Mem) ⊕ ((Mem) ⊕ (Bool × Mem))) :=
  if 60 ≤ x3 then (some (Sum.inr (Sum.inl m))) else (bd2 (r_X8_peek m) fun z6 m5 => (if z6 = (-1) then (some (Sum.inr (Sum.inl m5))) else (bd2 (r_X1_readLine i0 i2 m5) fun z10 m9 => (if z10 = true then (some (Sum.inl (x3 + 1, m9))) else (some (Sum.inr (Sum.inr (false, m9))))))))
set_option maxHeartbeats 4000000 in
set_option maxRecDepth 20000 in
theorem ok_X1_readFrom_b6 (i0 : Nat) (i2 : Nat) (x3 : Int32) (m : Mem) {r : (Int32 × Mem) ⊕ ((Mem) ⊕ (Bool × Mem))} (h : r_X1_readFrom_b6 i0 i2 x3 m = some r) {o : Ou} {M' : Mem} (kb : ∀ (x3' : Int32) (m'' : Mem), r = Sum.inl (x3', m'') → Xj RX1 cX1_readFrom 4 (some .boolean) 5 92 0 0 0 0 6 [(0, vR 1 i0), (1, vR 8 0), (2, vR 3 i2), (3, vI x3')] [] m'' o M') (ke : ∀ (m'' : Mem), r = Sum.inr (Sum.inl m'') → Xj RX1 cX1_readFrom 4 (some .boolean) 5 92 0 0 0 0 37 [] [] m'' o M') (kr : ∀ (z : Bool) (m' : Mem), r = Sum.inr (Sum.inr (z, m')) → o = (oB z) ∧ M' = m') : Xj RX1 cX1_readFrom 4 (some .boolean) 5 92 0 0 0 0 6 [(0, vR 1 i0), (1, vR 8 0), (2, vR 3 i2), (3, vI x3)] [] m o M' := by
  unfold r_X1_readFrom_b6 at h
  refine xj_iload_n 3 dX1_readFrom_6 rfl ?_
  refine xj_bipush (z := 60) dX1_readFrom_7 (by decide) ?_
  refine xj_icmp_ge (tgt := 37) dX1_readFrom_9 (by decide) (fun c3 => ?_) (fun c3 => ?_)
  · rw [if_pos c3] at h
    cases h
    refine xj_pick (ls' := []) [] rfl ?_
    exact ke m rfl
  · rw [if_neg c3] at h
    refine xj_aload_n 1 dX1_readFrom_12 rfl ?_
    obtain ⟨z6, m5, e4, h⟩ := bd2_some h
    refine xc_Vi0 (st := []) (ok_X8_peek m e4) dX1_readFrom_13 cv_X1_32 rfl rfl (Nat.le_of_ble_eq_true rfl) (by decide) (by decide) (by decide) (by decide) ?_
    refine xj_iconst (z := (-1)) dX1_readFrom_16 (by decide) ?_
    refine xj_icmp_eq (tgt := 37) dX1_readFrom_17 (by decide) (fun c7 => ?_) (fun c7 => ?_)
    · rw [if_pos c7] at h
      cases h
      refine xj_pick (ls' := []) [] rfl ?_
      exact ke m5 rfl
    · rw [if_neg c7] at h
      refine xj_aload_n 0 dX1_readFrom_20 rfl ?_
      refine xj_aload_n 1 dX1_readFrom_21 rfl ?_
      refine xj_aload_n 2 dX1_readFrom_22 rfl ?_
      obtain ⟨z10, m9, e8, h⟩ := bd2_some h
      refine xc_Vb0 (st := []) (ok_X1_readLine i0 i2 m5 e8) dX1_readFrom_23 cv_X1_38 rfl rfl (Nat.le_of_ble_eq_true rfl) (by decide) (by decide) (by decide) (by decide) ?_
      refine xj_if_ne (tgt := 31) dX1_readFrom_26 (by decide) (fun c11 => ?_) (fun c11 => ?_)
      · rw [if_pos (b2i_t c11)] at h
        refine xj_iinc (z := x3 + 1) (ls' := [(3, vI (x3 + 1)), (0, vR 1 i0), (1, vR 8 0), (2, vR 3 i2)]) 3 dX1_readFrom_31 rfl rfl (by decide) rfl ?_
        refine xj_goto (tgt := 6) dX1_readFrom_34 (by decide) ?_
        cases h
        refine xj_pick (ls' := [(0, vR 1 i0), (1, vR 8 0), (2, vR 3 i2), (3, vI (x3 + 1))]) [1, 2, 3, 0] rfl ?_
        exact kb (x3 + 1) m9 rfl
      · rw [if_neg (b2i_f c11)] at h
        refine xj_iconst (z := 0) dX1_readFrom_29 (by decide) ?_
        cases h
        obtain ⟨rfl, rfl⟩ := kr _ _ rfl
        exact xj_ireturn dX1_readFrom_30 rfl (by decide) (by decide)
noncomputable def r_X1_readFrom_e37_h6 (m : Mem) : Option (Bool × Mem) :=
  some (true, m)
set_option maxHeartbeats 4000000 in
set_option maxRecDepth 20000 in
theorem ok_X1_readFrom_e37_h6 (m : Mem) {z : Bool} {m' : Mem} (h : r_X1_readFrom_e37_h6 m = some (z, m')) : Xj RX1 cX1_readFrom 4 (some .boolean) 5 92 0 0 0 0 37 [] [] m (oB z) m' := by
  unfold r_X1_readFrom_e37_h6 at h
  refine xj_iconst (z := 1) dX1_readFrom_37 (by decide) ?_
  cases h
  exact xj_ireturn dX1_readFrom_38 rfl (by decide) (by decide)
noncomputable def r_X1_readFrom_l6 (i0 : Nat) (i2 : Nat) (x3 : Int32) (m : Mem) : Option (Bool × Mem) :=
  bdS (loopO (fun s => r_X1_readFrom_b6 i0 i2 s.1 s.2) (x3, m)) (fun e => r_X1_readFrom_e37_h6 e) (fun q => some q)
set_option maxHeartbeats 4000000 in
set_option maxRecDepth 20000 in
theorem ok_X1_readFrom_l6 (i0 : Nat) (i2 : Nat) (x3 : Int32) (m : Mem) {z : Bool} {m' : Mem} (h : r_X1_readFrom_l6 i0 i2 x3 m = some (z, m')) : Xj RX1 cX1_readFrom 4 (some .boolean) 5 92 0 0 0 0 6 [(0, vR 1 i0), (1, vR 8 0), (2, vR 3 i2), (3, vI x3)] [] m (oB z) m' := by
  unfold r_X1_readFrom_l6 at h
  rcases bdS_some h with ⟨e, e1, h⟩ | ⟨q, e1, h⟩
  · refine loopO_ok (P := fun s : (Int32 × Mem) => Xj RX1 cX1_readFrom 4 (some .boolean) 5 92 0 0 0 0 6 [(0, vR 1 i0), (1, vR 8 0), (2, vR 3 i2), (3, vI s.1)] [] s.2 (oB z) m') (Q := Sum.elim (fun e : (Mem) => Xj RX1 cX1_readFrom 4 (some .boolean) 5 92 0 0 0 0 37 [] [] e (oB z) m') (fun q : (Bool × Mem) => (oB z) = (oB q.1) ∧ m' = q.2)) ?_ _ _ e1 ?_
    · intro s r9 h9 hi hx
      exact ok_X1_readFrom_b6 i0 i2 s.1 s.2 h9 (by rintro _ _ rfl; exact hi _ rfl) (by rintro _ rfl; exact hx _ rfl) (by rintro _ _ rfl; exact hx _ rfl)
    · exact ok_X1_readFrom_e37_h6 e h 
  · refine loopO_ok (P := fun s : (Int32 × Mem) => Xj RX1 cX1_readFrom 4 (some .boolean) 5 92 0 0 0 0 6 [(0, vR 1 i0), (1, vR 8 0), (2, vR 3 i2), (3, vI s.1)] [] s.2 (oB z) m') (Q := Sum.elim (fun e : (Mem) => Xj RX1 cX1_readFrom 4 (some .boolean) 5 92 0 0 0 0 37 [] [] e (oB z) m') (fun q : (Bool × Mem) => (oB z) = (oB q.1) ∧ m' = q.2)) ?_ _ _ e1 ?_
    · intro s r9 h9 hi hx
      exact ok_X1_readFrom_b6 i0 i2 s.1 s.2 h9 (by rintro _ _ rfl; exact hi _ rfl) (by rintro _ rfl; exact hx _ rfl) (by rintro _ _ rfl; exact hx _ rfl)
    · cases h; exact ⟨rfl, rfl⟩
noncomputable def r_X1_readFrom (i0 : Nat) (i2 : Nat) (m : Mem) : Option (Bool × Mem) :=
  bd1 (r_X1_clear i0 m) fun m2 => (r_X1_readFrom_l6 i0 i2 0 m2)
set_option maxHeartbeats 4000000 in
set_option maxRecDepth 20000 in
theorem ok_X1_readFrom (i0 : Nat) (i2 : Nat) (m : Mem) {z : Bool} {m' : Mem} (h : r_X1_readFrom i0 i2 m = some (z, m')) : Mt yX1_readFrom cX1_readFrom 4 (some .boolean) 5 92 0 0 [vR 1 i0, vR 8 0, vR 3 i2] m (oB z) m' := by
  refine Mt.of (by decide) (Nat.le_of_ble_eq_true rfl) (by decide +kernel) (hhF_ne (by decide)) ?_
  show Xj RX1 cX1_readFrom 4 (some .boolean) 5 92 0 0 0 0 0 [(0, vR 1 i0), (1, vR 8 0), (2, vR 3 i2)] [] m (oB z) m'
  unfold r_X1_readFrom at h
  refine xj_aload_n 0 dX1_readFrom_0 rfl ?_
  obtain ⟨m2, e1, h⟩ := bd1_some h
  refine xc_Vv0 (st := []) (ok_X1_clear i0 m e1) dX1_readFrom_1 cv_X1_15 rfl rfl (Nat.le_of_ble_eq_true rfl) (by decide) (by decide) (by decide) (by decide) ?_
  refine xj_iconst (z := 0) dX1_readFrom_4 (by decide) ?_
  refine xj_istore_n (ls' := [(3, vI 0), (0, vR 1 i0), (1, vR 8 0), (2, vR 3 i2)]) dX1_readFrom_5 rfl (by decide) rfl ?_
  refine xj_pick (ls' := [(0, vR 1 i0), (1, vR 8 0), (2, vR 3 i2), (3, vI 0)]) [1, 2, 3, 0] rfl ?_
  exact ok_X1_readFrom_l6 i0 i2 0 m2 h 
