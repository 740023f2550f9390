theorem dX12_byteAt_0 : decode cX12_byteAt 0 = .ok (.iload_n 1, 1) := by decide +kernel
theorem dX12_byteAt_1 : decode cX12_byteAt 1 = .ok (.aload_n 0, 1) := by decide +kernel
theorem dX12_byteAt_2 : decode cX12_byteAt 2 = .ok (.getfield 115, 3) := by decide +kernel
theorem dX12_byteAt_5 : decode cX12_byteAt 5 = .ok (.if_icmp .lt 7, 3) := by decide +kernel
theorem dX12_byteAt_8 : decode cX12_byteAt 8 = .ok (.iconst (-1), 1) := by decide +kernel
theorem dX12_byteAt_9 : decode cX12_byteAt 9 = .ok (.goto 9, 3) := by decide +kernel
theorem dX12_byteAt_12 : decode cX12_byteAt 12 = .ok (.aload_n 0, 1) := by decide +kernel
theorem dX12_byteAt_13 : decode cX12_byteAt 13 = .ok (.getfield 13, 3) := by decide +kernel
theorem dX12_byteAt_16 : decode cX12_byteAt 16 = .ok (.iload_n 1, 1) := by decide +kernel
theorem dX12_byteAt_17 : decode cX12_byteAt 17 = .ok (.iaload, 1) := by decide +kernel
theorem dX12_byteAt_18 : decode cX12_byteAt 18 = .ok (.ireturn, 1) := by decide +kernel
theorem dX12_blanks_0 : decode cX12_blanks 0 = .ok (.aload_n 0, 1) := by decide +kernel
theorem dX12_blanks_1 : decode cX12_blanks 1 = .ok (.aload_n 0, 1) := by decide +kernel
theorem dX12_blanks_2 : decode cX12_blanks 2 = .ok (.getfield 118, 3) := by decide +kernel
theorem dX12_blanks_5 : decode cX12_blanks 5 = .ok (.invokevirtual 121, 3) := by decide +kernel
theorem dX12_blanks_8 : decode cX12_blanks 8 = .ok (.bipush 32, 2) := by decide +kernel
theorem dX12_blanks_10 : decode cX12_blanks 10 = .ok (.if_icmp .ne 16, 3) := by decide +kernel
theorem dX12_blanks_13 : decode cX12_blanks 13 = .ok (.aload_n 0, 1) := by decide +kernel
theorem dX12_blanks_14 : decode cX12_blanks 14 = .ok (.dup, 1) := by decide +kernel
theorem dX12_blanks_15 : decode cX12_blanks 15 = .ok (.getfield 118, 3) := by decide +kernel
theorem dX12_blanks_18 : decode cX12_blanks 18 = .ok (.iconst 1, 1) := by decide +kernel
theorem dX12_blanks_19 : decode cX12_blanks 19 = .ok (.iadd, 1) := by decide +kernel
theorem dX12_blanks_20 : decode cX12_blanks 20 = .ok (.putfield 118, 3) := by decide +kernel
theorem dX12_blanks_23 : decode cX12_blanks 23 = .ok (.goto (-23), 3) := by decide +kernel
theorem dX12_blanks_26 : decode cX12_blanks 26 = .ok (.return_, 1) := by decide +kernel
theorem dX12_wrong_0 : decode cX12_wrong 0 = .ok (.aload_n 0, 1) := by decide +kernel
theorem dX12_wrong_1 : decode cX12_wrong 1 = .ok (.getfield 125, 3) := by decide +kernel
theorem dX12_wrong_4 : decode cX12_wrong 4 = .ok (.ifCond .ne 13, 3) := by decide +kernel
theorem dX12_wrong_7 : decode cX12_wrong 7 = .ok (.aload_n 0, 1) := by decide +kernel
theorem dX12_wrong_8 : decode cX12_wrong 8 = .ok (.iload_n 1, 1) := by decide +kernel
theorem dX12_wrong_9 : decode cX12_wrong 9 = .ok (.putfield 125, 3) := by decide +kernel
theorem dX12_wrong_12 : decode cX12_wrong 12 = .ok (.aload_n 0, 1) := by decide +kernel
theorem dX12_wrong_13 : decode cX12_wrong 13 = .ok (.iload_n 2, 1) := by decide +kernel
theorem dX12_wrong_14 : decode cX12_wrong 14 = .ok (.putfield 128, 3) := by decide +kernel
theorem dX12_wrong_17 : decode cX12_wrong 17 = .ok (.return_, 1) := by decide +kernel
theorem dX12_sign_0 : decode cX12_sign 0 = .ok (.aload_n 0, 1) := by decide +kernel
theorem dX12_sign_1 : decode cX12_sign 1 = .ok (.getfield 125, 3) := by decide +kernel
theorem dX12_sign_4 : decode cX12_sign 4 = .ok (.ifCond .eq 4, 3) := by decide +kernel
theorem dX12_sign_7 : decode cX12_sign 7 = .ok (.return_, 1) := by decide +kernel
theorem dX12_sign_8 : decode cX12_sign 8 = .ok (.aload_n 0, 1) := by decide +kernel
theorem dX12_sign_9 : decode cX12_sign 9 = .ok (.invokevirtual 131, 3) := by decide +kernel
theorem dX12_sign_12 : decode cX12_sign 12 = .ok (.aload_n 0, 1) := by decide +kernel
theorem dX12_sign_13 : decode cX12_sign 13 = .ok (.aload_n 0, 1) := by decide +kernel
theorem dX12_sign_14 : decode cX12_sign 14 = .ok (.getfield 118, 3) := by decide +kernel
theorem dX12_sign_17 : decode cX12_sign 17 = .ok (.invokevirtual 121, 3) := by decide +kernel
theorem dX12_sign_20 : decode cX12_sign 20 = .ok (.iload_n 1, 1) := by decide +kernel
theorem dX12_sign_21 : decode cX12_sign 21 = .ok (.if_icmp .ne 16, 3) := by decide +kernel
theorem dX12_sign_24 : decode cX12_sign 24 = .ok (.aload_n 0, 1) := by decide +kernel
theorem dX12_sign_25 : decode cX12_sign 25 = .ok (.dup, 1) := by decide +kernel
theorem dX12_sign_26 : decode cX12_sign 26 = .ok (.getfield 118, 3) := by decide +kernel
theorem dX12_sign_29 : decode cX12_sign 29 = .ok (.iconst 1, 1) := by decide +kernel
theorem dX12_sign_30 : decode cX12_sign 30 = .ok (.iadd, 1) := by decide +kernel
theorem dX12_sign_31 : decode cX12_sign 31 = .ok (.putfield 118, 3) := by decide +kernel
theorem dX12_sign_34 : decode cX12_sign 34 = .ok (.goto 12, 3) := by decide +kernel
theorem dX12_sign_37 : decode cX12_sign 37 = .ok (.aload_n 0, 1) := by decide +kernel
theorem dX12_sign_38 : decode cX12_sign 38 = .ok (.iconst 1, 1) := by decide +kernel
theorem dX12_sign_39 : decode cX12_sign 39 = .ok (.aload_n 0, 1) := by decide +kernel
theorem dX12_sign_40 : decode cX12_sign 40 = .ok (.getfield 118, 3) := by decide +kernel
theorem dX12_sign_43 : decode cX12_sign 43 = .ok (.invokevirtual 138, 3) := by decide +kernel
theorem dX12_sign_46 : decode cX12_sign 46 = .ok (.return_, 1) := by decide +kernel
theorem dX12_isDigit_0 : decode cX12_isDigit 0 = .ok (.iload_n 0, 1) := by decide +kernel
theorem dX12_isDigit_1 : decode cX12_isDigit 1 = .ok (.bipush 48, 2) := by decide +kernel
theorem dX12_isDigit_3 : decode cX12_isDigit 3 = .ok (.if_icmp .lt 13, 3) := by decide +kernel
theorem dX12_isDigit_6 : decode cX12_isDigit 6 = .ok (.iload_n 0, 1) := by decide +kernel
theorem dX12_isDigit_7 : decode cX12_isDigit 7 = .ok (.bipush 57, 2) := by decide +kernel
theorem dX12_isDigit_9 : decode cX12_isDigit 9 = .ok (.if_icmp .gt 7, 3) := by decide +kernel
theorem dX12_isDigit_12 : decode cX12_isDigit 12 = .ok (.iconst 1, 1) := by decide +kernel
theorem dX12_isDigit_13 : decode cX12_isDigit 13 = .ok (.goto 4, 3) := by decide +kernel
theorem dX12_isDigit_16 : decode cX12_isDigit 16 = .ok (.iconst 0, 1) := by decide +kernel
theorem dX12_isDigit_17 : decode cX12_isDigit 17 = .ok (.ireturn, 1) := by decide +kernel
theorem dX12_in_0 : decode cX12_in 0 = .ok (.iload_n 0, 1) := by decide +kernel
theorem dX12_in_1 : decode cX12_in 1 = .ok (.iload_n 1, 1) := by decide +kernel
theorem dX12_in_2 : decode cX12_in 2 = .ok (.if_icmp .lt 12, 3) := by decide +kernel
theorem dX12_in_5 : decode cX12_in 5 = .ok (.iload_n 0, 1) := by decide +kernel
theorem dX12_in_6 : decode cX12_in 6 = .ok (.iload_n 2, 1) := by decide +kernel
theorem dX12_in_7 : decode cX12_in 7 = .ok (.if_icmp .gt 7, 3) := by decide +kernel
theorem dX12_in_10 : decode cX12_in 10 = .ok (.iconst 1, 1) := by decide +kernel
theorem dX12_in_11 : decode cX12_in 11 = .ok (.goto 4, 3) := by decide +kernel
theorem dX12_in_14 : decode cX12_in 14 = .ok (.iconst 0, 1) := by decide +kernel
theorem dX12_in_15 : decode cX12_in 15 = .ok (.ireturn, 1) := by decide +kernel
theorem dX12_number_0 : decode cX12_number 0 = .ok (.aload_n 0, 1) := by decide +kernel
theorem dX12_number_1 : decode cX12_number 1 = .ok (.getfield 125, 3) := by decide +kernel
theorem dX12_number_4 : decode cX12_number 4 = .ok (.ifCond .eq 5, 3) := by decide +kernel
theorem dX12_number_7 : decode cX12_number 7 = .ok (.iconst 0, 1) := by decide +kernel
theorem dX12_number_8 : decode cX12_number 8 = .ok (.ireturn, 1) := by decide +kernel
theorem dX12_number_9 : decode cX12_number 9 = .ok (.aload_n 0, 1) := by decide +kernel
theorem dX12_number_10 : decode cX12_number 10 = .ok (.invokevirtual 131, 3) := by decide +kernel
theorem dX12_number_13 : decode cX12_number 13 = .ok (.aload_n 0, 1) := by decide +kernel
theorem dX12_number_14 : decode cX12_number 14 = .ok (.getfield 118, 3) := by decide +kernel
theorem dX12_number_17 : decode cX12_number 17 = .ok (.istore_n 3, 1) := by decide +kernel
theorem dX12_number_18 : decode cX12_number 18 = .ok (.iconst 0, 1) := by decide +kernel
theorem dX12_number_19 : decode cX12_number 19 = .ok (.istore 4, 2) := by decide +kernel
theorem dX12_number_21 : decode cX12_number 21 = .ok (.aload_n 0, 1) := by decide +kernel
theorem dX12_number_22 : decode cX12_number 22 = .ok (.aload_n 0, 1) := by decide +kernel
theorem dX12_number_23 : decode cX12_number 23 = .ok (.getfield 118, 3) := by decide +kernel
theorem dX12_number_26 : decode cX12_number 26 = .ok (.invokevirtual 121, 3) := by decide +kernel
theorem dX12_number_29 : decode cX12_number 29 = .ok (.invokestatic 134, 3) := by decide +kernel
theorem dX12_number_32 : decode cX12_number 32 = .ok (.ifCond .ne 12, 3) := by decide +kernel
theorem dX12_number_35 : decode cX12_number 35 = .ok (.aload_n 0, 1) := by decide +kernel
theorem dX12_number_36 : decode cX12_number 36 = .ok (.iconst 1, 1) := by decide +kernel
theorem dX12_number_37 : decode cX12_number 37 = .ok (.aload_n 0, 1) := by decide +kernel
theorem dX12_number_38 : decode cX12_number 38 = .ok (.getfield 118, 3) := by decide +kernel
theorem dX12_number_41 : decode cX12_number 41 = .ok (.invokevirtual 138, 3) := by decide +kernel
theorem dX12_number_44 : decode cX12_number 44 = .ok (.aload_n 0, 1) := by decide +kernel
theorem dX12_number_45 : decode cX12_number 45 = .ok (.aload_n 0, 1) := by decide +kernel
theorem dX12_number_46 : decode cX12_number 46 = .ok (.getfield 118, 3) := by decide +kernel
theorem dX12_number_49 : decode cX12_number 49 = .ok (.invokevirtual 121, 3) := by decide +kernel
theorem dX12_number_52 : decode cX12_number 52 = .ok (.invokestatic 134, 3) := by decide +kernel
theorem dX12_number_55 : decode cX12_number 55 = .ok (.ifCond .eq 51, 3) := by decide +kernel
theorem dX12_number_58 : decode cX12_number 58 = .ok (.bipush 10, 2) := by decide +kernel
theorem dX12_number_60 : decode cX12_number 60 = .ok (.iload 4, 2) := by decide +kernel
theorem dX12_number_62 : decode cX12_number 62 = .ok (.imul, 1) := by decide +kernel
theorem dX12_number_63 : decode cX12_number 63 = .ok (.aload_n 0, 1) := by decide +kernel
theorem dX12_number_64 : decode cX12_number 64 = .ok (.aload_n 0, 1) := by decide +kernel
theorem dX12_number_65 : decode cX12_number 65 = .ok (.getfield 118, 3) := by decide +kernel
theorem dX12_number_68 : decode cX12_number 68 = .ok (.invokevirtual 121, 3) := by decide +kernel
theorem dX12_number_71 : decode cX12_number 71 = .ok (.iadd, 1) := by decide +kernel
theorem dX12_number_72 : decode cX12_number 72 = .ok (.bipush 48, 2) := by decide +kernel
theorem dX12_number_74 : decode cX12_number 74 = .ok (.isub, 1) := by decide +kernel
theorem dX12_number_75 : decode cX12_number 75 = .ok (.istore 4, 2) := by decide +kernel
theorem dX12_number_77 : decode cX12_number 77 = .ok (.iload 4, 2) := by decide +kernel
theorem dX12_number_79 : decode cX12_number 79 = .ok (.ldc 142, 2) := by decide +kernel
theorem dX12_number_81 : decode cX12_number 81 = .ok (.if_icmp .le 8, 3) := by decide +kernel
theorem dX12_number_84 : decode cX12_number 84 = .ok (.ldc 142, 2) := by decide +kernel
theorem dX12_number_86 : decode cX12_number 86 = .ok (.goto 5, 3) := by decide +kernel
theorem dX12_number_89 : decode cX12_number 89 = .ok (.iload 4, 2) := by decide +kernel
theorem dX12_number_91 : decode cX12_number 91 = .ok (.istore 4, 2) := by decide +kernel
theorem dX12_number_93 : decode cX12_number 93 = .ok (.aload_n 0, 1) := by decide +kernel
theorem dX12_number_94 : decode cX12_number 94 = .ok (.dup, 1) := by decide +kernel
theorem dX12_number_95 : decode cX12_number 95 = .ok (.getfield 118, 3) := by decide +kernel
theorem dX12_number_98 : decode cX12_number 98 = .ok (.iconst 1, 1) := by decide +kernel
theorem dX12_number_99 : decode cX12_number 99 = .ok (.iadd, 1) := by decide +kernel
theorem dX12_number_100 : decode cX12_number 100 = .ok (.putfield 118, 3) := by decide +kernel
theorem dX12_number_103 : decode cX12_number 103 = .ok (.goto (-59), 3) := by decide +kernel
theorem dX12_number_106 : decode cX12_number 106 = .ok (.iload 4, 2) := by decide +kernel
theorem dX12_number_108 : decode cX12_number 108 = .ok (.iload_n 1, 1) := by decide +kernel
theorem dX12_number_109 : decode cX12_number 109 = .ok (.iload_n 2, 1) := by decide +kernel
theorem dX12_number_110 : decode cX12_number 110 = .ok (.invokestatic 143, 3) := by decide +kernel
theorem dX12_number_113 : decode cX12_number 113 = .ok (.ifCond .ne 9, 3) := by decide +kernel
theorem dX12_number_116 : decode cX12_number 116 = .ok (.aload_n 0, 1) := by decide +kernel
theorem dX12_number_117 : decode cX12_number 117 = .ok (.iconst 2, 1) := by decide +kernel
theorem dX12_number_118 : decode cX12_number 118 = .ok (.iload_n 3, 1) := by decide +kernel
theorem dX12_number_119 : decode cX12_number 119 = .ok (.invokevirtual 138, 3) := by decide +kernel
theorem dX12_number_122 : decode cX12_number 122 = .ok (.aload_n 0, 1) := by decide +kernel
theorem dX12_number_123 : decode cX12_number 123 = .ok (.getfield 125, 3) := by decide +kernel
theorem dX12_number_126 : decode cX12_number 126 = .ok (.ifCond .ne 8, 3) := by decide +kernel
theorem dX12_number_129 : decode cX12_number 129 = .ok (.iload 4, 2) := by decide +kernel
theorem dX12_number_131 : decode cX12_number 131 = .ok (.goto 4, 3) := by decide +kernel
theorem dX12_number_134 : decode cX12_number 134 = .ok (.iconst 0, 1) := by decide +kernel
theorem dX12_number_135 : decode cX12_number 135 = .ok (.ireturn, 1) := by decide +kernel
theorem dX12_isSmall_0 : decode cX12_isSmall 0 = .ok (.iload_n 0, 1) := by decide +kernel
theorem dX12_isSmall_1 : decode cX12_isSmall 1 = .ok (.bipush 97, 2) := by decide +kernel
theorem dX12_isSmall_3 : decode cX12_isSmall 3 = .ok (.if_icmp .lt 13, 3) := by decide +kernel
theorem dX12_isSmall_6 : decode cX12_isSmall 6 = .ok (.iload_n 0, 1) := by decide +kernel
theorem dX12_isSmall_7 : decode cX12_isSmall 7 = .ok (.bipush 122, 2) := by decide +kernel
theorem dX12_isSmall_9 : decode cX12_isSmall 9 = .ok (.if_icmp .gt 7, 3) := by decide +kernel
theorem dX12_isSmall_12 : decode cX12_isSmall 12 = .ok (.iconst 1, 1) := by decide +kernel
theorem dX12_isSmall_13 : decode cX12_isSmall 13 = .ok (.goto 4, 3) := by decide +kernel
theorem dX12_isSmall_16 : decode cX12_isSmall 16 = .ok (.iconst 0, 1) := by decide +kernel
theorem dX12_isSmall_17 : decode cX12_isSmall 17 = .ok (.ireturn, 1) := by decide +kernel
theorem dX12_wordHere_0 : decode cX12_wordHere 0 = .ok (.aload_n 0, 1) := by decide +kernel
theorem dX12_wordHere_1 : decode cX12_wordHere 1 = .ok (.invokevirtual 131, 3) := by decide +kernel
theorem dX12_wordHere_4 : decode cX12_wordHere 4 = .ok (.iconst 0, 1) := by decide +kernel
theorem dX12_wordHere_5 : decode cX12_wordHere 5 = .ok (.istore_n 1, 1) := by decide +kernel
theorem dX12_wordHere_6 : decode cX12_wordHere 6 = .ok (.iconst 0, 1) := by decide +kernel
theorem dX12_wordHere_7 : decode cX12_wordHere 7 = .ok (.istore_n 2, 1) := by decide +kernel
theorem dX12_wordHere_8 : decode cX12_wordHere 8 = .ok (.aload_n 0, 1) := by decide +kernel
theorem dX12_wordHere_9 : decode cX12_wordHere 9 = .ok (.aload_n 0, 1) := by decide +kernel
theorem dX12_wordHere_10 : decode cX12_wordHere 10 = .ok (.getfield 118, 3) := by decide +kernel
theorem dX12_wordHere_13 : decode cX12_wordHere 13 = .ok (.iload_n 2, 1) := by decide +kernel
theorem dX12_wordHere_14 : decode cX12_wordHere 14 = .ok (.iadd, 1) := by decide +kernel
theorem dX12_wordHere_15 : decode cX12_wordHere 15 = .ok (.invokevirtual 121, 3) := by decide +kernel
theorem dX12_wordHere_18 : decode cX12_wordHere 18 = .ok (.invokestatic 147, 3) := by decide +kernel
theorem dX12_wordHere_21 : decode cX12_wordHere 21 = .ok (.ifCond .eq 40, 3) := by decide +kernel
theorem dX12_wordHere_24 : decode cX12_wordHere 24 = .ok (.iload_n 2, 1) := by decide +kernel
theorem dX12_wordHere_25 : decode cX12_wordHere 25 = .ok (.bipush 6, 2) := by decide +kernel
theorem dX12_wordHere_27 : decode cX12_wordHere 27 = .ok (.if_icmp .ge 26, 3) := by decide +kernel
theorem dX12_wordHere_30 : decode cX12_wordHere 30 = .ok (.bipush 27, 2) := by decide +kernel
theorem dX12_wordHere_32 : decode cX12_wordHere 32 = .ok (.iload_n 1, 1) := by decide +kernel
theorem dX12_wordHere_33 : decode cX12_wordHere 33 = .ok (.imul, 1) := by decide +kernel
theorem dX12_wordHere_34 : decode cX12_wordHere 34 = .ok (.aload_n 0, 1) := by decide +kernel
theorem dX12_wordHere_35 : decode cX12_wordHere 35 = .ok (.aload_n 0, 1) := by decide +kernel
theorem dX12_wordHere_36 : decode cX12_wordHere 36 = .ok (.getfield 118, 3) := by decide +kernel
theorem dX12_wordHere_39 : decode cX12_wordHere 39 = .ok (.iload_n 2, 1) := by decide +kernel
theorem dX12_wordHere_40 : decode cX12_wordHere 40 = .ok (.iadd, 1) := by decide +kernel
theorem dX12_wordHere_41 : decode cX12_wordHere 41 = .ok (.invokevirtual 121, 3) := by decide +kernel
theorem dX12_wordHere_44 : decode cX12_wordHere 44 = .ok (.iadd, 1) := by decide +kernel
theorem dX12_wordHere_45 : decode cX12_wordHere 45 = .ok (.bipush 97, 2) := by decide +kernel
theorem dX12_wordHere_47 : decode cX12_wordHere 47 = .ok (.isub, 1) := by decide +kernel
theorem dX12_wordHere_48 : decode cX12_wordHere 48 = .ok (.iconst 1, 1) := by decide +kernel
theorem dX12_wordHere_49 : decode cX12_wordHere 49 = .ok (.iadd, 1) := by decide +kernel
theorem dX12_wordHere_50 : decode cX12_wordHere 50 = .ok (.goto 4, 3) := by decide +kernel
theorem dX12_wordHere_53 : decode cX12_wordHere 53 = .ok (.iload_n 1, 1) := by decide +kernel
theorem dX12_wordHere_54 : decode cX12_wordHere 54 = .ok (.istore_n 1, 1) := by decide +kernel
theorem dX12_wordHere_55 : decode cX12_wordHere 55 = .ok (.iinc 2 1, 3) := by decide +kernel
theorem dX12_wordHere_58 : decode cX12_wordHere 58 = .ok (.goto (-50), 3) := by decide +kernel
theorem dX12_wordHere_61 : decode cX12_wordHere 61 = .ok (.iload_n 2, 1) := by decide +kernel
theorem dX12_wordHere_62 : decode cX12_wordHere 62 = .ok (.bipush 6, 2) := by decide +kernel
theorem dX12_wordHere_64 : decode cX12_wordHere 64 = .ok (.if_icmp .le 7, 3) := by decide +kernel
theorem dX12_wordHere_67 : decode cX12_wordHere 67 = .ok (.iconst (-1), 1) := by decide +kernel
theorem dX12_wordHere_68 : decode cX12_wordHere 68 = .ok (.goto 4, 3) := by decide +kernel
theorem dX12_wordHere_71 : decode cX12_wordHere 71 = .ok (.iload_n 1, 1) := by decide +kernel
theorem dX12_wordHere_72 : decode cX12_wordHere 72 = .ok (.ireturn, 1) := by decide +kernel
theorem dX12_six_0 : decode cX12_six 0 = .ok (.bipush 27, 2) := by decide +kernel
theorem dX12_six_2 : decode cX12_six 2 = .ok (.bipush 27, 2) := by decide +kernel
theorem dX12_six_4 : decode cX12_six 4 = .ok (.iload_n 0, 1) := by decide +kernel
theorem dX12_six_5 : decode cX12_six 5 = .ok (.imul, 1) := by decide +kernel
theorem dX12_six_6 : decode cX12_six 6 = .ok (.iload_n 1, 1) := by decide +kernel
theorem dX12_six_7 : decode cX12_six 7 = .ok (.iadd, 1) := by decide +kernel
theorem dX12_six_8 : decode cX12_six 8 = .ok (.imul, 1) := by decide +kernel
theorem dX12_six_9 : decode cX12_six 9 = .ok (.iload_n 2, 1) := by decide +kernel
theorem dX12_six_10 : decode cX12_six 10 = .ok (.iadd, 1) := by decide +kernel
theorem dX12_six_11 : decode cX12_six 11 = .ok (.istore 6, 2) := by decide +kernel
theorem dX12_six_13 : decode cX12_six 13 = .ok (.iload_n 3, 1) := by decide +kernel
theorem dX12_six_14 : decode cX12_six 14 = .ok (.ifCond .ne 8, 3) := by decide +kernel
theorem dX12_six_17 : decode cX12_six 17 = .ok (.iload 6, 2) := by decide +kernel
theorem dX12_six_19 : decode cX12_six 19 = .ok (.goto 10, 3) := by decide +kernel
theorem dX12_six_22 : decode cX12_six 22 = .ok (.bipush 27, 2) := by decide +kernel
theorem dX12_six_24 : decode cX12_six 24 = .ok (.iload 6, 2) := by decide +kernel
theorem dX12_six_26 : decode cX12_six 26 = .ok (.imul, 1) := by decide +kernel
theorem dX12_six_27 : decode cX12_six 27 = .ok (.iload_n 3, 1) := by decide +kernel
theorem dX12_six_28 : decode cX12_six 28 = .ok (.iadd, 1) := by decide +kernel
theorem dX12_six_29 : decode cX12_six 29 = .ok (.istore 6, 2) := by decide +kernel
theorem dX12_six_31 : decode cX12_six 31 = .ok (.iload 4, 2) := by decide +kernel
theorem dX12_six_33 : decode cX12_six 33 = .ok (.ifCond .ne 8, 3) := by decide +kernel
theorem dX12_six_36 : decode cX12_six 36 = .ok (.iload 6, 2) := by decide +kernel
theorem dX12_six_38 : decode cX12_six 38 = .ok (.goto 11, 3) := by decide +kernel
theorem dX12_six_41 : decode cX12_six 41 = .ok (.bipush 27, 2) := by decide +kernel
theorem dX12_six_43 : decode cX12_six 43 = .ok (.iload 6, 2) := by decide +kernel
theorem dX12_six_45 : decode cX12_six 45 = .ok (.imul, 1) := by decide +kernel
theorem dX12_six_46 : decode cX12_six 46 = .ok (.iload 4, 2) := by decide +kernel
theorem dX12_six_48 : decode cX12_six 48 = .ok (.iadd, 1) := by decide +kernel
theorem dX12_six_49 : decode cX12_six 49 = .ok (.istore 6, 2) := by decide +kernel
theorem dX12_six_51 : decode cX12_six 51 = .ok (.iload 5, 2) := by decide +kernel
theorem dX12_six_53 : decode cX12_six 53 = .ok (.ifCond .ne 8, 3) := by decide +kernel
theorem dX12_six_56 : decode cX12_six 56 = .ok (.iload 6, 2) := by decide +kernel
theorem dX12_six_58 : decode cX12_six 58 = .ok (.goto 11, 3) := by decide +kernel
theorem dX12_six_61 : decode cX12_six 61 = .ok (.bipush 27, 2) := by decide +kernel
theorem dX12_six_63 : decode cX12_six 63 = .ok (.iload 6, 2) := by decide +kernel
theorem dX12_six_65 : decode cX12_six 65 = .ok (.imul, 1) := by decide +kernel
theorem dX12_six_66 : decode cX12_six 66 = .ok (.iload 5, 2) := by decide +kernel
theorem dX12_six_68 : decode cX12_six 68 = .ok (.iadd, 1) := by decide +kernel
theorem dX12_six_69 : decode cX12_six 69 = .ok (.ireturn, 1) := by decide +kernel
theorem dX12_isWord_0 : decode cX12_isWord 0 = .ok (.aload_n 0, 1) := by decide +kernel
theorem dX12_isWord_1 : decode cX12_isWord 1 = .ok (.getfield 125, 3) := by decide +kernel
theorem dX12_isWord_4 : decode cX12_isWord 4 = .ok (.ifCond .ne 26, 3) := by decide +kernel
theorem dX12_isWord_7 : decode cX12_isWord 7 = .ok (.aload_n 0, 1) := by decide +kernel
theorem dX12_isWord_8 : decode cX12_isWord 8 = .ok (.invokevirtual 150, 3) := by decide +kernel
theorem dX12_isWord_11 : decode cX12_isWord 11 = .ok (.iload_n 1, 1) := by decide +kernel
theorem dX12_isWord_12 : decode cX12_isWord 12 = .ok (.iload_n 2, 1) := by decide +kernel
theorem dX12_isWord_13 : decode cX12_isWord 13 = .ok (.iload_n 3, 1) := by decide +kernel
theorem dX12_isWord_14 : decode cX12_isWord 14 = .ok (.iload 4, 2) := by decide +kernel
theorem dX12_isWord_16 : decode cX12_isWord 16 = .ok (.iload 5, 2) := by decide +kernel
theorem dX12_isWord_18 : decode cX12_isWord 18 = .ok (.iload 6, 2) := by decide +kernel
theorem dX12_isWord_20 : decode cX12_isWord 20 = .ok (.invokestatic 154, 3) := by decide +kernel
theorem dX12_isWord_23 : decode cX12_isWord 23 = .ok (.if_icmp .ne 7, 3) := by decide +kernel
theorem dX12_isWord_26 : decode cX12_isWord 26 = .ok (.iconst 1, 1) := by decide +kernel
theorem dX12_isWord_27 : decode cX12_isWord 27 = .ok (.goto 4, 3) := by decide +kernel
theorem dX12_isWord_30 : decode cX12_isWord 30 = .ok (.iconst 0, 1) := by decide +kernel
theorem dX12_isWord_31 : decode cX12_isWord 31 = .ok (.ireturn, 1) := by decide +kernel
theorem dX12_kindHere_0 : decode cX12_kindHere 0 = .ok (.aload_n 0, 1) := by decide +kernel
theorem dX12_kindHere_1 : decode cX12_kindHere 1 = .ok (.bipush 16, 2) := by decide +kernel
theorem dX12_kindHere_3 : decode cX12_kindHere 3 = .ok (.bipush 12, 2) := by decide +kernel
theorem dX12_kindHere_5 : decode cX12_kindHere 5 = .ok (.iconst 1, 1) := by decide +kernel
theorem dX12_kindHere_6 : decode cX12_kindHere 6 = .ok (.iconst 3, 1) := by decide +kernel
theorem dX12_kindHere_7 : decode cX12_kindHere 7 = .ok (.iconst 5, 1) := by decide +kernel
theorem dX12_kindHere_8 : decode cX12_kindHere 8 = .ok (.iconst 0, 1) := by decide +kernel
theorem dX12_kindHere_9 : decode cX12_kindHere 9 = .ok (.invokevirtual 158, 3) := by decide +kernel
theorem dX12_kindHere_12 : decode cX12_kindHere 12 = .ok (.ifCond .eq 5, 3) := by decide +kernel
theorem dX12_kindHere_15 : decode cX12_kindHere 15 = .ok (.iconst 0, 1) := by decide +kernel
theorem dX12_kindHere_16 : decode cX12_kindHere 16 = .ok (.ireturn, 1) := by decide +kernel
theorem dX12_kindHere_17 : decode cX12_kindHere 17 = .ok (.aload_n 0, 1) := by decide +kernel
theorem dX12_kindHere_18 : decode cX12_kindHere 18 = .ok (.iconst 4, 1) := by decide +kernel
theorem dX12_kindHere_19 : decode cX12_kindHere 19 = .ok (.bipush 9, 2) := by decide +kernel
theorem dX12_kindHere_21 : decode cX12_kindHere 21 = .ok (.bipush 20, 2) := by decide +kernel
theorem dX12_kindHere_23 : decode cX12_kindHere 23 = .ok (.iconst 3, 1) := by decide +kernel
theorem dX12_kindHere_24 : decode cX12_kindHere 24 = .ok (.bipush 8, 2) := by decide +kernel
theorem dX12_kindHere_26 : decode cX12_kindHere 26 = .ok (.iconst 0, 1) := by decide +kernel
theorem dX12_kindHere_27 : decode cX12_kindHere 27 = .ok (.invokevirtual 158, 3) := by decide +kernel
theorem dX12_kindHere_30 : decode cX12_kindHere 30 = .ok (.ifCond .eq 5, 3) := by decide +kernel
theorem dX12_kindHere_33 : decode cX12_kindHere 33 = .ok (.iconst 1, 1) := by decide +kernel
theorem dX12_kindHere_34 : decode cX12_kindHere 34 = .ok (.ireturn, 1) := by decide +kernel
theorem dX12_kindHere_35 : decode cX12_kindHere 35 = .ok (.aload_n 0, 1) := by decide +kernel
theorem dX12_kindHere_36 : decode cX12_kindHere 36 = .ok (.bipush 16, 2) := by decide +kernel
theorem dX12_kindHere_38 : decode cX12_kindHere 38 = .ok (.iconst 5, 1) := by decide +kernel
theorem dX12_kindHere_39 : decode cX12_kindHere 39 = .ok (.bipush 18, 2) := by decide +kernel
theorem dX12_kindHere_41 : decode cX12_kindHere 41 = .ok (.bipush 19, 2) := by decide +kernel
theorem dX12_kindHere_43 : decode cX12_kindHere 43 = .ok (.bipush 15, 2) := by decide +kernel
theorem dX12_kindHere_45 : decode cX12_kindHere 45 = .ok (.bipush 14, 2) := by decide +kernel
theorem dX12_kindHere_47 : decode cX12_kindHere 47 = .ok (.invokevirtual 158, 3) := by decide +kernel
theorem dX12_kindHere_50 : decode cX12_kindHere 50 = .ok (.ifCond .eq 5, 3) := by decide +kernel
theorem dX12_kindHere_53 : decode cX12_kindHere 53 = .ok (.iconst 2, 1) := by decide +kernel
theorem dX12_kindHere_54 : decode cX12_kindHere 54 = .ok (.ireturn, 1) := by decide +kernel
theorem dX12_kindHere_55 : decode cX12_kindHere 55 = .ok (.aload_n 0, 1) := by decide +kernel
theorem dX12_kindHere_56 : decode cX12_kindHere 56 = .ok (.bipush 19, 2) := by decide +kernel
theorem dX12_kindHere_58 : decode cX12_kindHere 58 = .ok (.bipush 16, 2) := by decide +kernel
theorem dX12_kindHere_60 : decode cX12_kindHere 60 = .ok (.bipush 18, 2) := by decide +kernel
theorem dX12_kindHere_62 : decode cX12_kindHere 62 = .ok (.bipush 9, 2) := by decide +kernel
theorem dX12_kindHere_64 : decode cX12_kindHere 64 = .ok (.bipush 14, 2) := by decide +kernel
theorem dX12_kindHere_66 : decode cX12_kindHere 66 = .ok (.bipush 7, 2) := by decide +kernel
theorem dX12_kindHere_68 : decode cX12_kindHere 68 = .ok (.invokevirtual 158, 3) := by decide +kernel
theorem dX12_kindHere_71 : decode cX12_kindHere 71 = .ok (.ifCond .eq 5, 3) := by decide +kernel
theorem dX12_kindHere_74 : decode cX12_kindHere 74 = .ok (.iconst 3, 1) := by decide +kernel
theorem dX12_kindHere_75 : decode cX12_kindHere 75 = .ok (.ireturn, 1) := by decide +kernel
theorem dX12_kindHere_76 : decode cX12_kindHere 76 = .ok (.aload_n 0, 1) := by decide +kernel
theorem dX12_kindHere_77 : decode cX12_kindHere 77 = .ok (.iconst 3, 1) := by decide +kernel
theorem dX12_kindHere_78 : decode cX12_kindHere 78 = .ok (.bipush 12, 2) := by decide +kernel
theorem dX12_kindHere_80 : decode cX12_kindHere 80 = .ok (.iconst 1, 1) := by decide +kernel
theorem dX12_kindHere_81 : decode cX12_kindHere 81 = .ok (.bipush 9, 2) := by decide +kernel
theorem dX12_kindHere_83 : decode cX12_kindHere 83 = .ok (.bipush 13, 2) := by decide +kernel
theorem dX12_kindHere_85 : decode cX12_kindHere 85 = .ok (.iconst 0, 1) := by decide +kernel
theorem dX12_kindHere_86 : decode cX12_kindHere 86 = .ok (.invokevirtual 158, 3) := by decide +kernel
theorem dX12_kindHere_89 : decode cX12_kindHere 89 = .ok (.ifCond .eq 7, 3) := by decide +kernel
theorem dX12_kindHere_92 : decode cX12_kindHere 92 = .ok (.iconst 4, 1) := by decide +kernel
theorem dX12_kindHere_93 : decode cX12_kindHere 93 = .ok (.goto 4, 3) := by decide +kernel
theorem dX12_kindHere_96 : decode cX12_kindHere 96 = .ok (.iconst (-1), 1) := by decide +kernel
theorem dX12_kindHere_97 : decode cX12_kindHere 97 = .ok (.ireturn, 1) := by decide +kernel
theorem dX12_stepHere_0 : decode cX12_stepHere 0 = .ok (.aload_n 0, 1) := by decide +kernel
theorem dX12_stepHere_1 : decode cX12_stepHere 1 = .ok (.bipush 20, 2) := by decide +kernel
theorem dX12_stepHere_3 : decode cX12_stepHere 3 = .ok (.iconst 5, 1) := by decide +kernel
theorem dX12_stepHere_4 : decode cX12_stepHere 4 = .ok (.bipush 12, 2) := by decide +kernel
theorem dX12_stepHere_6 : decode cX12_stepHere 6 = .ok (.bipush 12, 2) := by decide +kernel
theorem dX12_stepHere_8 : decode cX12_stepHere 8 = .ok (.iconst 0, 1) := by decide +kernel
theorem dX12_stepHere_9 : decode cX12_stepHere 9 = .ok (.iconst 0, 1) := by decide +kernel
theorem dX12_stepHere_10 : decode cX12_stepHere 10 = .ok (.invokevirtual 158, 3) := by decide +kernel
theorem dX12_stepHere_13 : decode cX12_stepHere 13 = .ok (.ifCond .eq 5, 3) := by decide +kernel
theorem dX12_stepHere_16 : decode cX12_stepHere 16 = .ok (.iconst 0, 1) := by decide +kernel
theorem dX12_stepHere_17 : decode cX12_stepHere 17 = .ok (.ireturn, 1) := by decide +kernel
theorem dX12_stepHere_18 : decode cX12_stepHere 18 = .ok (.aload_n 0, 1) := by decide +kernel
theorem dX12_stepHere_19 : decode cX12_stepHere 19 = .ok (.bipush 6, 2) := by decide +kernel
theorem dX12_stepHere_21 : decode cX12_stepHere 21 = .ok (.bipush 15, 2) := by decide +kernel
theorem dX12_stepHere_23 : decode cX12_stepHere 23 = .ok (.bipush 18, 2) := by decide +kernel
theorem dX12_stepHere_25 : decode cX12_stepHere 25 = .ok (.bipush 7, 2) := by decide +kernel
theorem dX12_stepHere_27 : decode cX12_stepHere 27 = .ok (.iconst 5, 1) := by decide +kernel
theorem dX12_stepHere_28 : decode cX12_stepHere 28 = .ok (.bipush 20, 2) := by decide +kernel
theorem dX12_stepHere_30 : decode cX12_stepHere 30 = .ok (.invokevirtual 158, 3) := by decide +kernel
theorem dX12_stepHere_33 : decode cX12_stepHere 33 = .ok (.ifCond .eq 5, 3) := by decide +kernel
theorem dX12_stepHere_36 : decode cX12_stepHere 36 = .ok (.iconst 1, 1) := by decide +kernel
theorem dX12_stepHere_37 : decode cX12_stepHere 37 = .ok (.ireturn, 1) := by decide +kernel
theorem dX12_stepHere_38 : decode cX12_stepHere 38 = .ok (.aload_n 0, 1) := by decide +kernel
theorem dX12_stepHere_39 : decode cX12_stepHere 39 = .ok (.bipush 23, 2) := by decide +kernel
theorem dX12_stepHere_41 : decode cX12_stepHere 41 = .ok (.iconst 1, 1) := by decide +kernel
theorem dX12_stepHere_42 : decode cX12_stepHere 42 = .ok (.bipush 12, 2) := by decide +kernel
theorem dX12_stepHere_44 : decode cX12_stepHere 44 = .ok (.bipush 11, 2) := by decide +kernel
theorem dX12_stepHere_46 : decode cX12_stepHere 46 = .ok (.iconst 0, 1) := by decide +kernel
theorem dX12_stepHere_47 : decode cX12_stepHere 47 = .ok (.iconst 0, 1) := by decide +kernel
theorem dX12_stepHere_48 : decode cX12_stepHere 48 = .ok (.invokevirtual 158, 3) := by decide +kernel
theorem dX12_stepHere_51 : decode cX12_stepHere 51 = .ok (.ifCond .eq 5, 3) := by decide +kernel
theorem dX12_stepHere_54 : decode cX12_stepHere 54 = .ok (.iconst 2, 1) := by decide +kernel
theorem dX12_stepHere_55 : decode cX12_stepHere 55 = .ok (.ireturn, 1) := by decide +kernel
theorem dX12_stepHere_56 : decode cX12_stepHere 56 = .ok (.aload_n 0, 1) := by decide +kernel
theorem dX12_stepHere_57 : decode cX12_stepHere 57 = .ok (.iconst 4, 1) := by decide +kernel
theorem dX12_stepHere_58 : decode cX12_stepHere 58 = .ok (.bipush 9, 2) := by decide +kernel
theorem dX12_stepHere_60 : decode cX12_stepHere 60 = .ok (.bipush 7, 2) := by decide +kernel
theorem dX12_stepHere_62 : decode cX12_stepHere 62 = .ok (.iconst 0, 1) := by decide +kernel
theorem dX12_stepHere_63 : decode cX12_stepHere 63 = .ok (.iconst 0, 1) := by decide +kernel
theorem dX12_stepHere_64 : decode cX12_stepHere 64 = .ok (.iconst 0, 1) := by decide +kernel
theorem dX12_stepHere_65 : decode cX12_stepHere 65 = .ok (.invokevirtual 158, 3) := by decide +kernel
theorem dX12_stepHere_68 : decode cX12_stepHere 68 = .ok (.ifCond .eq 5, 3) := by decide +kernel
theorem dX12_stepHere_71 : decode cX12_stepHere 71 = .ok (.iconst 3, 1) := by decide +kernel
theorem dX12_stepHere_72 : decode cX12_stepHere 72 = .ok (.ireturn, 1) := by decide +kernel
theorem dX12_stepHere_73 : decode cX12_stepHere 73 = .ok (.aload_n 0, 1) := by decide +kernel
theorem dX12_stepHere_74 : decode cX12_stepHere 74 = .ok (.iconst 4, 1) := by decide +kernel
theorem dX12_stepHere_75 : decode cX12_stepHere 75 = .ok (.iconst 1, 1) := by decide +kernel
theorem dX12_stepHere_76 : decode cX12_stepHere 76 = .ok (.bipush 25, 2) := by decide +kernel
theorem dX12_stepHere_78 : decode cX12_stepHere 78 = .ok (.iconst 0, 1) := by decide +kernel
theorem dX12_stepHere_79 : decode cX12_stepHere 79 = .ok (.iconst 0, 1) := by decide +kernel
theorem dX12_stepHere_80 : decode cX12_stepHere 80 = .ok (.iconst 0, 1) := by decide +kernel
theorem dX12_stepHere_81 : decode cX12_stepHere 81 = .ok (.invokevirtual 158, 3) := by decide +kernel
theorem dX12_stepHere_84 : decode cX12_stepHere 84 = .ok (.ifCond .eq 5, 3) := by decide +kernel
theorem dX12_stepHere_87 : decode cX12_stepHere 87 = .ok (.iconst 4, 1) := by decide +kernel
theorem dX12_stepHere_88 : decode cX12_stepHere 88 = .ok (.ireturn, 1) := by decide +kernel
theorem dX12_stepHere_89 : decode cX12_stepHere 89 = .ok (.aload_n 0, 1) := by decide +kernel
theorem dX12_stepHere_90 : decode cX12_stepHere 90 = .ok (.iconst 1, 1) := by decide +kernel
theorem dX12_stepHere_91 : decode cX12_stepHere 91 = .ok (.bipush 7, 2) := by decide +kernel
theorem dX12_stepHere_93 : decode cX12_stepHere 93 = .ok (.iconst 1, 1) := by decide +kernel
theorem dX12_stepHere_94 : decode cX12_stepHere 94 = .ok (.bipush 9, 2) := by decide +kernel
theorem dX12_stepHere_96 : decode cX12_stepHere 96 = .ok (.bipush 14, 2) := by decide +kernel
theorem dX12_stepHere_98 : decode cX12_stepHere 98 = .ok (.iconst 0, 1) := by decide +kernel
theorem dX12_stepHere_99 : decode cX12_stepHere 99 = .ok (.invokevirtual 158, 3) := by decide +kernel
theorem dX12_stepHere_102 : decode cX12_stepHere 102 = .ok (.ifCond .eq 7, 3) := by decide +kernel
theorem dX12_stepHere_105 : decode cX12_stepHere 105 = .ok (.iconst 5, 1) := by decide +kernel
theorem dX12_stepHere_106 : decode cX12_stepHere 106 = .ok (.goto 4, 3) := by decide +kernel
theorem dX12_stepHere_109 : decode cX12_stepHere 109 = .ok (.iconst (-1), 1) := by decide +kernel
theorem dX12_stepHere_110 : decode cX12_stepHere 110 = .ok (.ireturn, 1) := by decide +kernel
theorem dX12_skipWord_0 : decode cX12_skipWord 0 = .ok (.aload_n 0, 1) := by decide +kernel
theorem dX12_skipWord_1 : decode cX12_skipWord 1 = .ok (.aload_n 0, 1) := by decide +kernel
theorem dX12_skipWord_2 : decode cX12_skipWord 2 = .ok (.getfield 118, 3) := by decide +kernel
theorem dX12_skipWord_5 : decode cX12_skipWord 5 = .ok (.invokevirtual 121, 3) := by decide +kernel
theorem dX12_skipWord_8 : decode cX12_skipWord 8 = .ok (.invokestatic 147, 3) := by decide +kernel
theorem dX12_skipWord_11 : decode cX12_skipWord 11 = .ok (.ifCond .eq 16, 3) := by decide +kernel
theorem dX12_skipWord_14 : decode cX12_skipWord 14 = .ok (.aload_n 0, 1) := by decide +kernel
theorem dX12_skipWord_15 : decode cX12_skipWord 15 = .ok (.dup, 1) := by decide +kernel
theorem dX12_skipWord_16 : decode cX12_skipWord 16 = .ok (.getfield 118, 3) := by decide +kernel
theorem dX12_skipWord_19 : decode cX12_skipWord 19 = .ok (.iconst 1, 1) := by decide +kernel
theorem dX12_skipWord_20 : decode cX12_skipWord 20 = .ok (.iadd, 1) := by decide +kernel
theorem dX12_skipWord_21 : decode cX12_skipWord 21 = .ok (.putfield 118, 3) := by decide +kernel
theorem dX12_skipWord_24 : decode cX12_skipWord 24 = .ok (.goto (-24), 3) := by decide +kernel
theorem dX12_skipWord_27 : decode cX12_skipWord 27 = .ok (.return_, 1) := by decide +kernel
theorem dX12_readPlace_0 : decode cX12_readPlace 0 = .ok (.aload_n 0, 1) := by decide +kernel
theorem dX12_readPlace_1 : decode cX12_readPlace 1 = .ok (.iconst 0, 1) := by decide +kernel
theorem dX12_readPlace_2 : decode cX12_readPlace 2 = .ok (.aload_n 0, 1) := by decide +kernel
theorem dX12_readPlace_3 : decode cX12_readPlace 3 = .ok (.getfield 20, 3) := by decide +kernel
theorem dX12_readPlace_6 : decode cX12_readPlace 6 = .ok (.iconst 0, 1) := by decide +kernel
theorem dX12_readPlace_7 : decode cX12_readPlace 7 = .ok (.iaload, 1) := by decide +kernel
theorem dX12_readPlace_8 : decode cX12_readPlace 8 = .ok (.iconst 1, 1) := by decide +kernel
theorem dX12_readPlace_9 : decode cX12_readPlace 9 = .ok (.isub, 1) := by decide +kernel
theorem dX12_readPlace_10 : decode cX12_readPlace 10 = .ok (.invokevirtual 171, 3) := by decide +kernel
theorem dX12_readPlace_13 : decode cX12_readPlace 13 = .ok (.ireturn, 1) := by decide +kernel
theorem dX12_readBetween_0 : decode cX12_readBetween 0 = .ok (.iconst 0, 1) := by decide +kernel
theorem dX12_readBetween_1 : decode cX12_readBetween 1 = .ok (.istore_n 3, 1) := by decide +kernel
theorem dX12_readBetween_2 : decode cX12_readBetween 2 = .ok (.iload_n 3, 1) := by decide +kernel
theorem dX12_readBetween_3 : decode cX12_readBetween 3 = .ok (.aload_n 0, 1) := by decide +kernel
theorem dX12_readBetween_4 : decode cX12_readBetween 4 = .ok (.getfield 20, 3) := by decide +kernel
theorem dX12_readBetween_7 : decode cX12_readBetween 7 = .ok (.iconst 1, 1) := by decide +kernel
theorem dX12_readBetween_8 : decode cX12_readBetween 8 = .ok (.iaload, 1) := by decide +kernel
theorem dX12_readBetween_9 : decode cX12_readBetween 9 = .ok (.if_icmp .ge 59, 3) := by decide +kernel
theorem dX12_readBetween_12 : decode cX12_readBetween 12 = .ok (.aload_n 0, 1) := by decide +kernel
theorem dX12_readBetween_13 : decode cX12_readBetween 13 = .ok (.getfield 34, 3) := by decide +kernel
theorem dX12_readBetween_16 : decode cX12_readBetween 16 = .ok (.iload_n 3, 1) := by decide +kernel
theorem dX12_readBetween_17 : decode cX12_readBetween 17 = .ok (.aaload, 1) := by decide +kernel
theorem dX12_readBetween_18 : decode cX12_readBetween 18 = .ok (.iconst 0, 1) := by decide +kernel
theorem dX12_readBetween_19 : decode cX12_readBetween 19 = .ok (.iaload, 1) := by decide +kernel
theorem dX12_readBetween_20 : decode cX12_readBetween 20 = .ok (.iload_n 1, 1) := by decide +kernel
theorem dX12_readBetween_21 : decode cX12_readBetween 21 = .ok (.if_icmp .ne 15, 3) := by decide +kernel
theorem dX12_readBetween_24 : decode cX12_readBetween 24 = .ok (.aload_n 0, 1) := by decide +kernel
theorem dX12_readBetween_25 : decode cX12_readBetween 25 = .ok (.getfield 34, 3) := by decide +kernel
theorem dX12_readBetween_28 : decode cX12_readBetween 28 = .ok (.iload_n 3, 1) := by decide +kernel
theorem dX12_readBetween_29 : decode cX12_readBetween 29 = .ok (.aaload, 1) := by decide +kernel
theorem dX12_readBetween_30 : decode cX12_readBetween 30 = .ok (.iconst 1, 1) := by decide +kernel
theorem dX12_readBetween_31 : decode cX12_readBetween 31 = .ok (.iaload, 1) := by decide +kernel
theorem dX12_readBetween_32 : decode cX12_readBetween 32 = .ok (.iload_n 2, 1) := by decide +kernel
theorem dX12_readBetween_33 : decode cX12_readBetween 33 = .ok (.if_icmp .eq 27, 3) := by decide +kernel
theorem dX12_readBetween_36 : decode cX12_readBetween 36 = .ok (.aload_n 0, 1) := by decide +kernel
theorem dX12_readBetween_37 : decode cX12_readBetween 37 = .ok (.getfield 34, 3) := by decide +kernel
theorem dX12_readBetween_40 : decode cX12_readBetween 40 = .ok (.iload_n 3, 1) := by decide +kernel
theorem dX12_readBetween_41 : decode cX12_readBetween 41 = .ok (.aaload, 1) := by decide +kernel
theorem dX12_readBetween_42 : decode cX12_readBetween 42 = .ok (.iconst 0, 1) := by decide +kernel
theorem dX12_readBetween_43 : decode cX12_readBetween 43 = .ok (.iaload, 1) := by decide +kernel
theorem dX12_readBetween_44 : decode cX12_readBetween 44 = .ok (.iload_n 2, 1) := by decide +kernel
theorem dX12_readBetween_45 : decode cX12_readBetween 45 = .ok (.if_icmp .ne 17, 3) := by decide +kernel
theorem dX12_readBetween_48 : decode cX12_readBetween 48 = .ok (.aload_n 0, 1) := by decide +kernel
theorem dX12_readBetween_49 : decode cX12_readBetween 49 = .ok (.getfield 34, 3) := by decide +kernel
theorem dX12_readBetween_52 : decode cX12_readBetween 52 = .ok (.iload_n 3, 1) := by decide +kernel
theorem dX12_readBetween_53 : decode cX12_readBetween 53 = .ok (.aaload, 1) := by decide +kernel
theorem dX12_readBetween_54 : decode cX12_readBetween 54 = .ok (.iconst 1, 1) := by decide +kernel
theorem dX12_readBetween_55 : decode cX12_readBetween 55 = .ok (.iaload, 1) := by decide +kernel
theorem dX12_readBetween_56 : decode cX12_readBetween 56 = .ok (.iload_n 1, 1) := by decide +kernel
theorem dX12_readBetween_57 : decode cX12_readBetween 57 = .ok (.if_icmp .ne 5, 3) := by decide +kernel
theorem dX12_readBetween_60 : decode cX12_readBetween 60 = .ok (.iload_n 3, 1) := by decide +kernel
theorem dX12_readBetween_61 : decode cX12_readBetween 61 = .ok (.ireturn, 1) := by decide +kernel
theorem dX12_readBetween_62 : decode cX12_readBetween 62 = .ok (.iinc 3 1, 3) := by decide +kernel
theorem dX12_readBetween_65 : decode cX12_readBetween 65 = .ok (.goto (-63), 3) := by decide +kernel
theorem dX12_readBetween_68 : decode cX12_readBetween 68 = .ok (.iconst (-1), 1) := by decide +kernel
theorem dX12_readBetween_69 : decode cX12_readBetween 69 = .ok (.ireturn, 1) := by decide +kernel
theorem dX12_mostOf_0 : decode cX12_mostOf 0 = .ok (.iload_n 0, 1) := by decide +kernel
theorem dX12_mostOf_1 : decode cX12_mostOf 1 = .ok (.ifCond .ne 8, 3) := by decide +kernel
theorem dX12_mostOf_4 : decode cX12_mostOf 4 = .ok (.bipush 12, 2) := by decide +kernel
theorem dX12_mostOf_6 : decode cX12_mostOf 6 = .ok (.goto 15, 3) := by decide +kernel
theorem dX12_mostOf_9 : decode cX12_mostOf 9 = .ok (.iload_n 0, 1) := by decide +kernel
theorem dX12_mostOf_10 : decode cX12_mostOf 10 = .ok (.iconst 1, 1) := by decide +kernel
theorem dX12_mostOf_11 : decode cX12_mostOf 11 = .ok (.if_icmp .ne 8, 3) := by decide +kernel
theorem dX12_mostOf_14 : decode cX12_mostOf 14 = .ok (.bipush 16, 2) := by decide +kernel
theorem dX12_mostOf_16 : decode cX12_mostOf 16 = .ok (.goto 5, 3) := by decide +kernel
theorem dX12_mostOf_19 : decode cX12_mostOf 19 = .ok (.bipush 6, 2) := by decide +kernel
theorem dX12_mostOf_21 : decode cX12_mostOf 21 = .ok (.ireturn, 1) := by decide +kernel
theorem dX12_clause_0 : decode cX12_clause 0 = .ok (.aload_n 0, 1) := by decide +kernel
theorem dX12_clause_1 : decode cX12_clause 1 = .ok (.invokevirtual 175, 3) := by decide +kernel
theorem dX12_clause_4 : decode cX12_clause 4 = .ok (.istore_n 1, 1) := by decide +kernel
theorem dX12_clause_5 : decode cX12_clause 5 = .ok (.iload_n 1, 1) := by decide +kernel
theorem dX12_clause_6 : decode cX12_clause 6 = .ok (.iconst (-1), 1) := by decide +kernel
theorem dX12_clause_7 : decode cX12_clause 7 = .ok (.if_icmp .ne 15, 3) := by decide +kernel
theorem dX12_clause_10 : decode cX12_clause 10 = .ok (.aload_n 0, 1) := by decide +kernel
theorem dX12_clause_11 : decode cX12_clause 11 = .ok (.iconst 1, 1) := by decide +kernel
theorem dX12_clause_12 : decode cX12_clause 12 = .ok (.aload_n 0, 1) := by decide +kernel
theorem dX12_clause_13 : decode cX12_clause 13 = .ok (.getfield 118, 3) := by decide +kernel
theorem dX12_clause_16 : decode cX12_clause 16 = .ok (.invokevirtual 138, 3) := by decide +kernel
theorem dX12_clause_19 : decode cX12_clause 19 = .ok (.goto 39, 3) := by decide +kernel
theorem dX12_clause_22 : decode cX12_clause 22 = .ok (.aload_n 0, 1) := by decide +kernel
theorem dX12_clause_23 : decode cX12_clause 23 = .ok (.getfield 165, 3) := by decide +kernel
theorem dX12_clause_26 : decode cX12_clause 26 = .ok (.bipush 60, 2) := by decide +kernel
theorem dX12_clause_28 : decode cX12_clause 28 = .ok (.if_icmp .eq 21, 3) := by decide +kernel
theorem dX12_clause_31 : decode cX12_clause 31 = .ok (.iload_n 1, 1) := by decide +kernel
theorem dX12_clause_32 : decode cX12_clause 32 = .ok (.iconst 3, 1) := by decide +kernel
theorem dX12_clause_33 : decode cX12_clause 33 = .ok (.if_icmp .ge 25, 3) := by decide +kernel
theorem dX12_clause_36 : decode cX12_clause 36 = .ok (.aload_n 0, 1) := by decide +kernel
theorem dX12_clause_37 : decode cX12_clause 37 = .ok (.getfield 20, 3) := by decide +kernel
theorem dX12_clause_40 : decode cX12_clause 40 = .ok (.iload_n 1, 1) := by decide +kernel
theorem dX12_clause_41 : decode cX12_clause 41 = .ok (.iaload, 1) := by decide +kernel
theorem dX12_clause_42 : decode cX12_clause 42 = .ok (.iload_n 1, 1) := by decide +kernel
theorem dX12_clause_43 : decode cX12_clause 43 = .ok (.invokestatic 178, 3) := by decide +kernel
theorem dX12_clause_46 : decode cX12_clause 46 = .ok (.if_icmp .ne 12, 3) := by decide +kernel
theorem dX12_clause_49 : decode cX12_clause 49 = .ok (.aload_n 0, 1) := by decide +kernel
theorem dX12_clause_50 : decode cX12_clause 50 = .ok (.iconst 3, 1) := by decide +kernel
theorem dX12_clause_51 : decode cX12_clause 51 = .ok (.aload_n 0, 1) := by decide +kernel
theorem dX12_clause_52 : decode cX12_clause 52 = .ok (.getfield 118, 3) := by decide +kernel
theorem dX12_clause_55 : decode cX12_clause 55 = .ok (.invokevirtual 138, 3) := by decide +kernel
theorem dX12_clause_58 : decode cX12_clause 58 = .ok (.aload_n 0, 1) := by decide +kernel
theorem dX12_clause_59 : decode cX12_clause 59 = .ok (.getfield 125, 3) := by decide +kernel
theorem dX12_clause_62 : decode cX12_clause 62 = .ok (.ifCond .eq 4, 3) := by decide +kernel
theorem dX12_clause_65 : decode cX12_clause 65 = .ok (.return_, 1) := by decide +kernel
theorem dX12_clause_66 : decode cX12_clause 66 = .ok (.aload_n 0, 1) := by decide +kernel
theorem dX12_clause_67 : decode cX12_clause 67 = .ok (.invokevirtual 162, 3) := by decide +kernel
theorem dX12_clause_70 : decode cX12_clause 70 = .ok (.aload_n 0, 1) := by decide +kernel
theorem dX12_clause_71 : decode cX12_clause 71 = .ok (.dup, 1) := by decide +kernel
theorem dX12_clause_72 : decode cX12_clause 72 = .ok (.getfield 165, 3) := by decide +kernel
theorem dX12_clause_75 : decode cX12_clause 75 = .ok (.iconst 1, 1) := by decide +kernel
theorem dX12_clause_76 : decode cX12_clause 76 = .ok (.iadd, 1) := by decide +kernel
theorem dX12_clause_77 : decode cX12_clause 77 = .ok (.putfield 165, 3) := by decide +kernel
theorem dX12_clause_80 : decode cX12_clause 80 = .ok (.iload_n 1, 1) := by decide +kernel
theorem dX12_clause_81 : decode cX12_clause 81 = .ok (.iconst 3, 1) := by decide +kernel
theorem dX12_clause_82 : decode cX12_clause 82 = .ok (.if_icmp .ge 12, 3) := by decide +kernel
theorem dX12_clause_85 : decode cX12_clause 85 = .ok (.aload_n 0, 1) := by decide +kernel
theorem dX12_clause_86 : decode cX12_clause 86 = .ok (.getfield 20, 3) := by decide +kernel
theorem dX12_clause_89 : decode cX12_clause 89 = .ok (.iload_n 1, 1) := by decide +kernel
theorem dX12_clause_90 : decode cX12_clause 90 = .ok (.iaload, 1) := by decide +kernel
theorem dX12_clause_91 : decode cX12_clause 91 = .ok (.goto 4, 3) := by decide +kernel
theorem dX12_clause_94 : decode cX12_clause 94 = .ok (.iconst 0, 1) := by decide +kernel
theorem dX12_clause_95 : decode cX12_clause 95 = .ok (.istore_n 2, 1) := by decide +kernel
theorem dX12_clause_96 : decode cX12_clause 96 = .ok (.iload_n 1, 1) := by decide +kernel
theorem dX12_clause_97 : decode cX12_clause 97 = .ok (.tableswitch 173 0 3 #[31, 47, 121, 151], 31) := by decide +kernel
theorem dX12_clause_128 : decode cX12_clause 128 = .ok (.aload_n 0, 1) := by decide +kernel
theorem dX12_clause_129 : decode cX12_clause 129 = .ok (.getfield 26, 3) := by decide +kernel
theorem dX12_clause_132 : decode cX12_clause 132 = .ok (.iload_n 2, 1) := by decide +kernel
theorem dX12_clause_133 : decode cX12_clause 133 = .ok (.aload_n 0, 1) := by decide +kernel
theorem dX12_clause_134 : decode cX12_clause 134 = .ok (.iconst 0, 1) := by decide +kernel
theorem dX12_clause_135 : decode cX12_clause 135 = .ok (.bipush 60, 2) := by decide +kernel
theorem dX12_clause_137 : decode cX12_clause 137 = .ok (.invokevirtual 171, 3) := by decide +kernel
theorem dX12_clause_140 : decode cX12_clause 140 = .ok (.iastore, 1) := by decide +kernel
theorem dX12_clause_141 : decode cX12_clause 141 = .ok (.goto 212, 3) := by decide +kernel
theorem dX12_clause_144 : decode cX12_clause 144 = .ok (.aload_n 0, 1) := by decide +kernel
theorem dX12_clause_145 : decode cX12_clause 145 = .ok (.invokevirtual 181, 3) := by decide +kernel
theorem dX12_clause_148 : decode cX12_clause 148 = .ok (.istore_n 3, 1) := by decide +kernel
theorem dX12_clause_149 : decode cX12_clause 149 = .ok (.aload_n 0, 1) := by decide +kernel
theorem dX12_clause_150 : decode cX12_clause 150 = .ok (.invokevirtual 131, 3) := by decide +kernel
theorem dX12_clause_153 : decode cX12_clause 153 = .ok (.aload_n 0, 1) := by decide +kernel
theorem dX12_clause_154 : decode cX12_clause 154 = .ok (.getfield 118, 3) := by decide +kernel
theorem dX12_clause_157 : decode cX12_clause 157 = .ok (.istore 4, 2) := by decide +kernel
theorem dX12_clause_159 : decode cX12_clause 159 = .ok (.aload_n 0, 1) := by decide +kernel
theorem dX12_clause_160 : decode cX12_clause 160 = .ok (.invokevirtual 181, 3) := by decide +kernel
theorem dX12_clause_163 : decode cX12_clause 163 = .ok (.istore 5, 2) := by decide +kernel
theorem dX12_clause_165 : decode cX12_clause 165 = .ok (.aload_n 0, 1) := by decide +kernel
theorem dX12_clause_166 : decode cX12_clause 166 = .ok (.getfield 125, 3) := by decide +kernel
theorem dX12_clause_169 : decode cX12_clause 169 = .ok (.ifCond .ne 27, 3) := by decide +kernel
theorem dX12_clause_172 : decode cX12_clause 172 = .ok (.iload_n 3, 1) := by decide +kernel
theorem dX12_clause_173 : decode cX12_clause 173 = .ok (.iload 5, 2) := by decide +kernel
theorem dX12_clause_175 : decode cX12_clause 175 = .ok (.if_icmp .eq 14, 3) := by decide +kernel
theorem dX12_clause_178 : decode cX12_clause 178 = .ok (.aload_n 0, 1) := by decide +kernel
theorem dX12_clause_179 : decode cX12_clause 179 = .ok (.iload_n 3, 1) := by decide +kernel
theorem dX12_clause_180 : decode cX12_clause 180 = .ok (.iload 5, 2) := by decide +kernel
theorem dX12_clause_182 : decode cX12_clause 182 = .ok (.invokevirtual 184, 3) := by decide +kernel
theorem dX12_clause_185 : decode cX12_clause 185 = .ok (.iconst (-1), 1) := by decide +kernel
theorem dX12_clause_186 : decode cX12_clause 186 = .ok (.if_icmp .eq 10, 3) := by decide +kernel
theorem dX12_clause_189 : decode cX12_clause 189 = .ok (.aload_n 0, 1) := by decide +kernel
theorem dX12_clause_190 : decode cX12_clause 190 = .ok (.iconst 2, 1) := by decide +kernel
theorem dX12_clause_191 : decode cX12_clause 191 = .ok (.iload 4, 2) := by decide +kernel
theorem dX12_clause_193 : decode cX12_clause 193 = .ok (.invokevirtual 138, 3) := by decide +kernel
theorem dX12_clause_196 : decode cX12_clause 196 = .ok (.aload_n 0, 1) := by decide +kernel
theorem dX12_clause_197 : decode cX12_clause 197 = .ok (.getfield 34, 3) := by decide +kernel
theorem dX12_clause_200 : decode cX12_clause 200 = .ok (.iload_n 2, 1) := by decide +kernel
theorem dX12_clause_201 : decode cX12_clause 201 = .ok (.aaload, 1) := by decide +kernel
theorem dX12_clause_202 : decode cX12_clause 202 = .ok (.iconst 0, 1) := by decide +kernel
theorem dX12_clause_203 : decode cX12_clause 203 = .ok (.iload_n 3, 1) := by decide +kernel
theorem dX12_clause_204 : decode cX12_clause 204 = .ok (.iastore, 1) := by decide +kernel
theorem dX12_clause_205 : decode cX12_clause 205 = .ok (.aload_n 0, 1) := by decide +kernel
theorem dX12_clause_206 : decode cX12_clause 206 = .ok (.getfield 34, 3) := by decide +kernel
theorem dX12_clause_209 : decode cX12_clause 209 = .ok (.iload_n 2, 1) := by decide +kernel
theorem dX12_clause_210 : decode cX12_clause 210 = .ok (.aaload, 1) := by decide +kernel
theorem dX12_clause_211 : decode cX12_clause 211 = .ok (.iconst 1, 1) := by decide +kernel
theorem dX12_clause_212 : decode cX12_clause 212 = .ok (.iload 5, 2) := by decide +kernel
theorem dX12_clause_214 : decode cX12_clause 214 = .ok (.iastore, 1) := by decide +kernel
theorem dX12_clause_215 : decode cX12_clause 215 = .ok (.goto 138, 3) := by decide +kernel
theorem dX12_clause_218 : decode cX12_clause 218 = .ok (.aload_n 0, 1) := by decide +kernel
theorem dX12_clause_219 : decode cX12_clause 219 = .ok (.getfield 40, 3) := by decide +kernel
theorem dX12_clause_222 : decode cX12_clause 222 = .ok (.iload_n 2, 1) := by decide +kernel
theorem dX12_clause_223 : decode cX12_clause 223 = .ok (.aaload, 1) := by decide +kernel
theorem dX12_clause_224 : decode cX12_clause 224 = .ok (.iconst 0, 1) := by decide +kernel
theorem dX12_clause_225 : decode cX12_clause 225 = .ok (.aload_n 0, 1) := by decide +kernel
theorem dX12_clause_226 : decode cX12_clause 226 = .ok (.iconst 1, 1) := by decide +kernel
theorem dX12_clause_227 : decode cX12_clause 227 = .ok (.bipush 9, 2) := by decide +kernel
theorem dX12_clause_229 : decode cX12_clause 229 = .ok (.invokevirtual 171, 3) := by decide +kernel
theorem dX12_clause_232 : decode cX12_clause 232 = .ok (.iastore, 1) := by decide +kernel
theorem dX12_clause_233 : decode cX12_clause 233 = .ok (.aload_n 0, 1) := by decide +kernel
theorem dX12_clause_234 : decode cX12_clause 234 = .ok (.getfield 40, 3) := by decide +kernel
theorem dX12_clause_237 : decode cX12_clause 237 = .ok (.iload_n 2, 1) := by decide +kernel
theorem dX12_clause_238 : decode cX12_clause 238 = .ok (.aaload, 1) := by decide +kernel
theorem dX12_clause_239 : decode cX12_clause 239 = .ok (.iconst 1, 1) := by decide +kernel
theorem dX12_clause_240 : decode cX12_clause 240 = .ok (.aload_n 0, 1) := by decide +kernel
theorem dX12_clause_241 : decode cX12_clause 241 = .ok (.invokevirtual 181, 3) := by decide +kernel
theorem dX12_clause_244 : decode cX12_clause 244 = .ok (.iastore, 1) := by decide +kernel
theorem dX12_clause_245 : decode cX12_clause 245 = .ok (.goto 108, 3) := by decide +kernel
theorem dX12_clause_248 : decode cX12_clause 248 = .ok (.aload_n 0, 1) := by decide +kernel
theorem dX12_clause_249 : decode cX12_clause 249 = .ok (.invokevirtual 181, 3) := by decide +kernel
theorem dX12_clause_252 : decode cX12_clause 252 = .ok (.istore_n 3, 1) := by decide +kernel
theorem dX12_clause_253 : decode cX12_clause 253 = .ok (.aload_n 0, 1) := by decide +kernel
theorem dX12_clause_254 : decode cX12_clause 254 = .ok (.getfield 125, 3) := by decide +kernel
theorem dX12_clause_257 : decode cX12_clause 257 = .ok (.ifCond .ne 96, 3) := by decide +kernel
theorem dX12_clause_260 : decode cX12_clause 260 = .ok (.aload_n 0, 1) := by decide +kernel
theorem dX12_clause_261 : decode cX12_clause 261 = .ok (.getfield 20, 3) := by decide +kernel
theorem dX12_clause_264 : decode cX12_clause 264 = .ok (.iconst 3, 1) := by decide +kernel
theorem dX12_clause_265 : decode cX12_clause 265 = .ok (.iload_n 3, 1) := by decide +kernel
theorem dX12_clause_266 : decode cX12_clause 266 = .ok (.iastore, 1) := by decide +kernel
theorem dX12_clause_267 : decode cX12_clause 267 = .ok (.goto 86, 3) := by decide +kernel
theorem dX12_clause_270 : decode cX12_clause 270 = .ok (.aload_n 0, 1) := by decide +kernel
theorem dX12_clause_271 : decode cX12_clause 271 = .ok (.iconst 0, 1) := by decide +kernel
theorem dX12_clause_272 : decode cX12_clause 272 = .ok (.aload_n 0, 1) := by decide +kernel
theorem dX12_clause_273 : decode cX12_clause 273 = .ok (.getfield 20, 3) := by decide +kernel
theorem dX12_clause_276 : decode cX12_clause 276 = .ok (.iconst 2, 1) := by decide +kernel
theorem dX12_clause_277 : decode cX12_clause 277 = .ok (.iaload, 1) := by decide +kernel
theorem dX12_clause_278 : decode cX12_clause 278 = .ok (.iconst 1, 1) := by decide +kernel
theorem dX12_clause_279 : decode cX12_clause 279 = .ok (.isub, 1) := by decide +kernel
theorem dX12_clause_280 : decode cX12_clause 280 = .ok (.invokevirtual 171, 3) := by decide +kernel
theorem dX12_clause_283 : decode cX12_clause 283 = .ok (.istore_n 3, 1) := by decide +kernel
theorem dX12_clause_284 : decode cX12_clause 284 = .ok (.aload_n 0, 1) := by decide +kernel
theorem dX12_clause_285 : decode cX12_clause 285 = .ok (.invokevirtual 181, 3) := by decide +kernel
theorem dX12_clause_288 : decode cX12_clause 288 = .ok (.istore 4, 2) := by decide +kernel
theorem dX12_clause_290 : decode cX12_clause 290 = .ok (.aload_n 0, 1) := by decide +kernel
theorem dX12_clause_291 : decode cX12_clause 291 = .ok (.invokevirtual 131, 3) := by decide +kernel
theorem dX12_clause_294 : decode cX12_clause 294 = .ok (.aload_n 0, 1) := by decide +kernel
theorem dX12_clause_295 : decode cX12_clause 295 = .ok (.getfield 118, 3) := by decide +kernel
theorem dX12_clause_298 : decode cX12_clause 298 = .ok (.istore 5, 2) := by decide +kernel
theorem dX12_clause_300 : decode cX12_clause 300 = .ok (.aload_n 0, 1) := by decide +kernel
theorem dX12_clause_301 : decode cX12_clause 301 = .ok (.invokevirtual 181, 3) := by decide +kernel
theorem dX12_clause_304 : decode cX12_clause 304 = .ok (.istore 6, 2) := by decide +kernel
theorem dX12_clause_306 : decode cX12_clause 306 = .ok (.aload_n 0, 1) := by decide +kernel
theorem dX12_clause_307 : decode cX12_clause 307 = .ok (.getfield 125, 3) := by decide +kernel
theorem dX12_clause_310 : decode cX12_clause 310 = .ok (.ifCond .ne 22, 3) := by decide +kernel
theorem dX12_clause_313 : decode cX12_clause 313 = .ok (.aload_n 0, 1) := by decide +kernel
theorem dX12_clause_314 : decode cX12_clause 314 = .ok (.iload 4, 2) := by decide +kernel
theorem dX12_clause_316 : decode cX12_clause 316 = .ok (.iload 6, 2) := by decide +kernel
theorem dX12_clause_318 : decode cX12_clause 318 = .ok (.invokevirtual 184, 3) := by decide +kernel
theorem dX12_clause_321 : decode cX12_clause 321 = .ok (.iconst (-1), 1) := by decide +kernel
theorem dX12_clause_322 : decode cX12_clause 322 = .ok (.if_icmp .ne 10, 3) := by decide +kernel
theorem dX12_clause_325 : decode cX12_clause 325 = .ok (.aload_n 0, 1) := by decide +kernel
theorem dX12_clause_326 : decode cX12_clause 326 = .ok (.iconst 2, 1) := by decide +kernel
theorem dX12_clause_327 : decode cX12_clause 327 = .ok (.iload 5, 2) := by decide +kernel
theorem dX12_clause_329 : decode cX12_clause 329 = .ok (.invokevirtual 138, 3) := by decide +kernel
theorem dX12_clause_332 : decode cX12_clause 332 = .ok (.aload_n 0, 1) := by decide +kernel
theorem dX12_clause_333 : decode cX12_clause 333 = .ok (.getfield 125, 3) := by decide +kernel
theorem dX12_clause_336 : decode cX12_clause 336 = .ok (.ifCond .ne 17, 3) := by decide +kernel
theorem dX12_clause_339 : decode cX12_clause 339 = .ok (.aload_n 0, 1) := by decide +kernel
theorem dX12_clause_340 : decode cX12_clause 340 = .ok (.getfield 46, 3) := by decide +kernel
theorem dX12_clause_343 : decode cX12_clause 343 = .ok (.iload_n 3, 1) := by decide +kernel
theorem dX12_clause_344 : decode cX12_clause 344 = .ok (.aaload, 1) := by decide +kernel
theorem dX12_clause_345 : decode cX12_clause 345 = .ok (.iload 4, 2) := by decide +kernel
theorem dX12_clause_347 : decode cX12_clause 347 = .ok (.iload 6, 2) := by decide +kernel
theorem dX12_clause_349 : decode cX12_clause 349 = .ok (.iastore, 1) := by decide +kernel
theorem dX12_clause_350 : decode cX12_clause 350 = .ok (.goto 3, 3) := by decide +kernel
theorem dX12_clause_353 : decode cX12_clause 353 = .ok (.aload_n 0, 1) := by decide +kernel
theorem dX12_clause_354 : decode cX12_clause 354 = .ok (.bipush 59, 2) := by decide +kernel
theorem dX12_clause_356 : decode cX12_clause 356 = .ok (.invokevirtual 187, 3) := by decide +kernel
theorem dX12_clause_359 : decode cX12_clause 359 = .ok (.iload_n 1, 1) := by decide +kernel
theorem dX12_clause_360 : decode cX12_clause 360 = .ok (.iconst 3, 1) := by decide +kernel
theorem dX12_clause_361 : decode cX12_clause 361 = .ok (.if_icmp .ge 24, 3) := by decide +kernel
theorem dX12_clause_364 : decode cX12_clause 364 = .ok (.aload_n 0, 1) := by decide +kernel
theorem dX12_clause_365 : decode cX12_clause 365 = .ok (.getfield 20, 3) := by decide +kernel
theorem dX12_clause_368 : decode cX12_clause 368 = .ok (.iload_n 1, 1) := by decide +kernel
theorem dX12_clause_369 : decode cX12_clause 369 = .ok (.dup2, 1) := by decide +kernel
theorem dX12_clause_370 : decode cX12_clause 370 = .ok (.iaload, 1) := by decide +kernel
theorem dX12_clause_371 : decode cX12_clause 371 = .ok (.aload_n 0, 1) := by decide +kernel
theorem dX12_clause_372 : decode cX12_clause 372 = .ok (.getfield 125, 3) := by decide +kernel
theorem dX12_clause_375 : decode cX12_clause 375 = .ok (.ifCond .ne 7, 3) := by decide +kernel
theorem dX12_clause_378 : decode cX12_clause 378 = .ok (.iconst 1, 1) := by decide +kernel
theorem dX12_clause_379 : decode cX12_clause 379 = .ok (.goto 4, 3) := by decide +kernel
theorem dX12_clause_382 : decode cX12_clause 382 = .ok (.iconst 0, 1) := by decide +kernel
theorem dX12_clause_383 : decode cX12_clause 383 = .ok (.iadd, 1) := by decide +kernel
theorem dX12_clause_384 : decode cX12_clause 384 = .ok (.iastore, 1) := by decide +kernel
theorem dX12_clause_385 : decode cX12_clause 385 = .ok (.return_, 1) := by decide +kernel
theorem dX12_takesSign_0 : decode cX12_takesSign 0 = .ok (.aload_n 0, 1) := by decide +kernel
theorem dX12_takesSign_1 : decode cX12_takesSign 1 = .ok (.getfield 125, 3) := by decide +kernel
theorem dX12_takesSign_4 : decode cX12_takesSign 4 = .ok (.ifCond .eq 5, 3) := by decide +kernel
theorem dX12_takesSign_7 : decode cX12_takesSign 7 = .ok (.iconst 0, 1) := by decide +kernel
theorem dX12_takesSign_8 : decode cX12_takesSign 8 = .ok (.ireturn, 1) := by decide +kernel
theorem dX12_takesSign_9 : decode cX12_takesSign 9 = .ok (.aload_n 0, 1) := by decide +kernel
theorem dX12_takesSign_10 : decode cX12_takesSign 10 = .ok (.invokevirtual 131, 3) := by decide +kernel
theorem dX12_takesSign_13 : decode cX12_takesSign 13 = .ok (.aload_n 0, 1) := by decide +kernel
theorem dX12_takesSign_14 : decode cX12_takesSign 14 = .ok (.aload_n 0, 1) := by decide +kernel
theorem dX12_takesSign_15 : decode cX12_takesSign 15 = .ok (.getfield 118, 3) := by decide +kernel
theorem dX12_takesSign_18 : decode cX12_takesSign 18 = .ok (.invokevirtual 121, 3) := by decide +kernel
theorem dX12_takesSign_21 : decode cX12_takesSign 21 = .ok (.iload_n 1, 1) := by decide +kernel
theorem dX12_takesSign_22 : decode cX12_takesSign 22 = .ok (.if_icmp .ne 7, 3) := by decide +kernel
theorem dX12_takesSign_25 : decode cX12_takesSign 25 = .ok (.iconst 1, 1) := by decide +kernel
theorem dX12_takesSign_26 : decode cX12_takesSign 26 = .ok (.goto 4, 3) := by decide +kernel
theorem dX12_takesSign_29 : decode cX12_takesSign 29 = .ok (.iconst 0, 1) := by decide +kernel
theorem dX12_takesSign_30 : decode cX12_takesSign 30 = .ok (.istore_n 2, 1) := by decide +kernel
theorem dX12_takesSign_31 : decode cX12_takesSign 31 = .ok (.iload_n 2, 1) := by decide +kernel
theorem dX12_takesSign_32 : decode cX12_takesSign 32 = .ok (.ifCond .eq 13, 3) := by decide +kernel
theorem dX12_takesSign_35 : decode cX12_takesSign 35 = .ok (.aload_n 0, 1) := by decide +kernel
theorem dX12_takesSign_36 : decode cX12_takesSign 36 = .ok (.dup, 1) := by decide +kernel
theorem dX12_takesSign_37 : decode cX12_takesSign 37 = .ok (.getfield 118, 3) := by decide +kernel
theorem dX12_takesSign_40 : decode cX12_takesSign 40 = .ok (.iconst 1, 1) := by decide +kernel
theorem dX12_takesSign_41 : decode cX12_takesSign 41 = .ok (.iadd, 1) := by decide +kernel
theorem dX12_takesSign_42 : decode cX12_takesSign 42 = .ok (.putfield 118, 3) := by decide +kernel
theorem dX12_takesSign_45 : decode cX12_takesSign 45 = .ok (.iload_n 2, 1) := by decide +kernel
theorem dX12_takesSign_46 : decode cX12_takesSign 46 = .ok (.ireturn, 1) := by decide +kernel
theorem dX12_notes_0 : decode cX12_notes 0 = .ok (.aload_n 0, 1) := by decide +kernel
theorem dX12_notes_1 : decode cX12_notes 1 = .ok (.getfield 125, 3) := by decide +kernel
theorem dX12_notes_4 : decode cX12_notes 4 = .ok (.ifCond .eq 4, 3) := by decide +kernel
theorem dX12_notes_7 : decode cX12_notes 7 = .ok (.return_, 1) := by decide +kernel
theorem dX12_notes_8 : decode cX12_notes 8 = .ok (.aload_n 0, 1) := by decide +kernel
theorem dX12_notes_9 : decode cX12_notes 9 = .ok (.getfield 55, 3) := by decide +kernel
theorem dX12_notes_12 : decode cX12_notes 12 = .ok (.aload_n 0, 1) := by decide +kernel
theorem dX12_notes_13 : decode cX12_notes 13 = .ok (.getfield 223, 3) := by decide +kernel
theorem dX12_notes_16 : decode cX12_notes 16 = .ok (.aaload, 1) := by decide +kernel
theorem dX12_notes_17 : decode cX12_notes 17 = .ok (.iconst 0, 1) := by decide +kernel
theorem dX12_notes_18 : decode cX12_notes 18 = .ok (.iload_n 1, 1) := by decide +kernel
theorem dX12_notes_19 : decode cX12_notes 19 = .ok (.iastore, 1) := by decide +kernel
theorem dX12_notes_20 : decode cX12_notes 20 = .ok (.aload_n 0, 1) := by decide +kernel
theorem dX12_notes_21 : decode cX12_notes 21 = .ok (.getfield 55, 3) := by decide +kernel
theorem dX12_notes_24 : decode cX12_notes 24 = .ok (.aload_n 0, 1) := by decide +kernel
theorem dX12_notes_25 : decode cX12_notes 25 = .ok (.getfield 223, 3) := by decide +kernel
theorem dX12_notes_28 : decode cX12_notes 28 = .ok (.aaload, 1) := by decide +kernel
theorem dX12_notes_29 : decode cX12_notes 29 = .ok (.iconst 1, 1) := by decide +kernel
theorem dX12_notes_30 : decode cX12_notes 30 = .ok (.iload_n 2, 1) := by decide +kernel
theorem dX12_notes_31 : decode cX12_notes 31 = .ok (.iastore, 1) := by decide +kernel
theorem dX12_notes_32 : decode cX12_notes 32 = .ok (.aload_n 0, 1) := by decide +kernel
theorem dX12_notes_33 : decode cX12_notes 33 = .ok (.dup, 1) := by decide +kernel
theorem dX12_notes_34 : decode cX12_notes 34 = .ok (.getfield 223, 3) := by decide +kernel
theorem dX12_notes_37 : decode cX12_notes 37 = .ok (.iconst 1, 1) := by decide +kernel
theorem dX12_notes_38 : decode cX12_notes 38 = .ok (.iadd, 1) := by decide +kernel
theorem dX12_notes_39 : decode cX12_notes 39 = .ok (.putfield 223, 3) := by decide +kernel
theorem dX12_notes_42 : decode cX12_notes 42 = .ok (.return_, 1) := by decide +kernel
theorem dX12_opensOne_0 : decode cX12_opensOne 0 = .ok (.aload_n 0, 1) := by decide +kernel
theorem dX12_opensOne_1 : decode cX12_opensOne 1 = .ok (.getfield 125, 3) := by decide +kernel
theorem dX12_opensOne_4 : decode cX12_opensOne 4 = .ok (.ifCond .ne 24, 3) := by decide +kernel
theorem dX12_opensOne_7 : decode cX12_opensOne 7 = .ok (.aload_n 0, 1) := by decide +kernel
theorem dX12_opensOne_8 : decode cX12_opensOne 8 = .ok (.getfield 168, 3) := by decide +kernel
theorem dX12_opensOne_11 : decode cX12_opensOne 11 = .ok (.bipush 6, 2) := by decide +kernel
theorem dX12_opensOne_13 : decode cX12_opensOne 13 = .ok (.if_icmp .ne 15, 3) := by decide +kernel
theorem dX12_opensOne_16 : decode cX12_opensOne 16 = .ok (.aload_n 0, 1) := by decide +kernel
theorem dX12_opensOne_17 : decode cX12_opensOne 17 = .ok (.iconst 3, 1) := by decide +kernel
theorem dX12_opensOne_18 : decode cX12_opensOne 18 = .ok (.aload_n 0, 1) := by decide +kernel
theorem dX12_opensOne_19 : decode cX12_opensOne 19 = .ok (.getfield 118, 3) := by decide +kernel
theorem dX12_opensOne_22 : decode cX12_opensOne 22 = .ok (.invokevirtual 138, 3) := by decide +kernel
theorem dX12_opensOne_25 : decode cX12_opensOne 25 = .ok (.goto 20, 3) := by decide +kernel
theorem dX12_opensOne_28 : decode cX12_opensOne 28 = .ok (.aload_n 0, 1) := by decide +kernel
theorem dX12_opensOne_29 : decode cX12_opensOne 29 = .ok (.getfield 125, 3) := by decide +kernel
theorem dX12_opensOne_32 : decode cX12_opensOne 32 = .ok (.ifCond .ne 13, 3) := by decide +kernel
theorem dX12_opensOne_35 : decode cX12_opensOne 35 = .ok (.aload_n 0, 1) := by decide +kernel
theorem dX12_opensOne_36 : decode cX12_opensOne 36 = .ok (.dup, 1) := by decide +kernel
theorem dX12_opensOne_37 : decode cX12_opensOne 37 = .ok (.getfield 168, 3) := by decide +kernel
theorem dX12_opensOne_40 : decode cX12_opensOne 40 = .ok (.iconst 1, 1) := by decide +kernel
theorem dX12_opensOne_41 : decode cX12_opensOne 41 = .ok (.iadd, 1) := by decide +kernel
theorem dX12_opensOne_42 : decode cX12_opensOne 42 = .ok (.putfield 168, 3) := by decide +kernel
theorem dX12_opensOne_45 : decode cX12_opensOne 45 = .ok (.aload_n 0, 1) := by decide +kernel
theorem dX12_opensOne_46 : decode cX12_opensOne 46 = .ok (.getfield 125, 3) := by decide +kernel
theorem dX12_opensOne_49 : decode cX12_opensOne 49 = .ok (.ifCond .ne 7, 3) := by decide +kernel
theorem dX12_opensOne_52 : decode cX12_opensOne 52 = .ok (.iconst 1, 1) := by decide +kernel
theorem dX12_opensOne_53 : decode cX12_opensOne 53 = .ok (.goto 4, 3) := by decide +kernel
theorem dX12_opensOne_56 : decode cX12_opensOne 56 = .ok (.iconst 0, 1) := by decide +kernel
theorem dX12_opensOne_57 : decode cX12_opensOne 57 = .ok (.ireturn, 1) := by decide +kernel
theorem dX12_takes_0 : decode cX12_takes 0 = .ok (.aload_n 0, 1) := by decide +kernel
theorem dX12_takes_1 : decode cX12_takes 1 = .ok (.iload_n 1, 1) := by decide +kernel
theorem dX12_takes_2 : decode cX12_takes 2 = .ok (.iload_n 2, 1) := by decide +kernel
theorem dX12_takes_3 : decode cX12_takes 3 = .ok (.iload_n 3, 1) := by decide +kernel
theorem dX12_takes_4 : decode cX12_takes 4 = .ok (.iload 4, 2) := by decide +kernel
theorem dX12_takes_6 : decode cX12_takes 6 = .ok (.iload 5, 2) := by decide +kernel
theorem dX12_takes_8 : decode cX12_takes 8 = .ok (.iload 6, 2) := by decide +kernel
theorem dX12_takes_10 : decode cX12_takes 10 = .ok (.invokevirtual 158, 3) := by decide +kernel
theorem dX12_takes_13 : decode cX12_takes 13 = .ok (.istore 7, 2) := by decide +kernel
theorem dX12_takes_15 : decode cX12_takes 15 = .ok (.iload 7, 2) := by decide +kernel
theorem dX12_takes_17 : decode cX12_takes 17 = .ok (.ifCond .eq 7, 3) := by decide +kernel
theorem dX12_takes_20 : decode cX12_takes 20 = .ok (.aload_n 0, 1) := by decide +kernel
theorem dX12_takes_21 : decode cX12_takes 21 = .ok (.invokevirtual 162, 3) := by decide +kernel
theorem dX12_takes_24 : decode cX12_takes 24 = .ok (.iload 7, 2) := by decide +kernel
theorem dX12_takes_26 : decode cX12_takes 26 = .ok (.ireturn, 1) := by decide +kernel
theorem dX12_isTo_0 : decode cX12_isTo 0 = .ok (.aload_n 0, 1) := by decide +kernel
theorem dX12_isTo_1 : decode cX12_isTo 1 = .ok (.getfield 125, 3) := by decide +kernel
theorem dX12_isTo_4 : decode cX12_isTo 4 = .ok (.ifCond .ne 17, 3) := by decide +kernel
theorem dX12_isTo_7 : decode cX12_isTo 7 = .ok (.aload_n 0, 1) := by decide +kernel
theorem dX12_isTo_8 : decode cX12_isTo 8 = .ok (.invokevirtual 150, 3) := by decide +kernel
theorem dX12_isTo_11 : decode cX12_isTo 11 = .ok (.sipush 555, 3) := by decide +kernel
theorem dX12_isTo_14 : decode cX12_isTo 14 = .ok (.if_icmp .ne 7, 3) := by decide +kernel
theorem dX12_isTo_17 : decode cX12_isTo 17 = .ok (.iconst 1, 1) := by decide +kernel
theorem dX12_isTo_18 : decode cX12_isTo 18 = .ok (.goto 4, 3) := by decide +kernel
theorem dX12_isTo_21 : decode cX12_isTo 21 = .ok (.iconst 0, 1) := by decide +kernel
theorem dX12_isTo_22 : decode cX12_isTo 22 = .ok (.istore_n 1, 1) := by decide +kernel
theorem dX12_isTo_23 : decode cX12_isTo 23 = .ok (.iload_n 1, 1) := by decide +kernel
theorem dX12_isTo_24 : decode cX12_isTo 24 = .ok (.ifCond .eq 7, 3) := by decide +kernel
theorem dX12_isTo_27 : decode cX12_isTo 27 = .ok (.aload_n 0, 1) := by decide +kernel
theorem dX12_isTo_28 : decode cX12_isTo 28 = .ok (.invokevirtual 162, 3) := by decide +kernel
theorem dX12_isTo_31 : decode cX12_isTo 31 = .ok (.iload_n 1, 1) := by decide +kernel
theorem dX12_isTo_32 : decode cX12_isTo 32 = .ok (.ireturn, 1) := by decide +kernel
theorem dX12_knownHere_0 : decode cX12_knownHere 0 = .ok (.aload_n 0, 1) := by decide +kernel
theorem dX12_knownHere_1 : decode cX12_knownHere 1 = .ok (.bipush 6, 2) := by decide +kernel
theorem dX12_knownHere_3 : decode cX12_knownHere 3 = .ok (.iconst 1, 1) := by decide +kernel
theorem dX12_knownHere_4 : decode cX12_knownHere 4 = .ok (.bipush 12, 2) := by decide +kernel
theorem dX12_knownHere_6 : decode cX12_knownHere 6 = .ok (.bipush 12, 2) := by decide +kernel
theorem dX12_knownHere_8 : decode cX12_knownHere 8 = .ok (.iconst 0, 1) := by decide +kernel
theorem dX12_knownHere_9 : decode cX12_knownHere 9 = .ok (.iconst 0, 1) := by decide +kernel
theorem dX12_knownHere_10 : decode cX12_knownHere 10 = .ok (.invokevirtual 238, 3) := by decide +kernel
theorem dX12_knownHere_13 : decode cX12_knownHere 13 = .ok (.ifCond .eq 5, 3) := by decide +kernel
theorem dX12_knownHere_16 : decode cX12_knownHere 16 = .ok (.iconst 0, 1) := by decide +kernel
theorem dX12_knownHere_17 : decode cX12_knownHere 17 = .ok (.ireturn, 1) := by decide +kernel
theorem dX12_knownHere_18 : decode cX12_knownHere 18 = .ok (.aload_n 0, 1) := by decide +kernel
theorem dX12_knownHere_19 : decode cX12_knownHere 19 = .ok (.iconst 2, 1) := by decide +kernel
theorem dX12_knownHere_20 : decode cX12_knownHere 20 = .ok (.iconst 5, 1) := by decide +kernel
theorem dX12_knownHere_21 : decode cX12_knownHere 21 = .ok (.bipush 12, 2) := by decide +kernel
theorem dX12_knownHere_23 : decode cX12_knownHere 23 = .ok (.bipush 9, 2) := by decide +kernel
theorem dX12_knownHere_25 : decode cX12_knownHere 25 = .ok (.iconst 5, 1) := by decide +kernel
theorem dX12_knownHere_26 : decode cX12_knownHere 26 = .ok (.bipush 6, 2) := by decide +kernel
theorem dX12_knownHere_28 : decode cX12_knownHere 28 = .ok (.invokevirtual 238, 3) := by decide +kernel
theorem dX12_knownHere_31 : decode cX12_knownHere 31 = .ok (.ifCond .eq 5, 3) := by decide +kernel
theorem dX12_knownHere_34 : decode cX12_knownHere 34 = .ok (.iconst 1, 1) := by decide +kernel
theorem dX12_knownHere_35 : decode cX12_knownHere 35 = .ok (.ireturn, 1) := by decide +kernel
theorem dX12_knownHere_36 : decode cX12_knownHere 36 = .ok (.aload_n 0, 1) := by decide +kernel
theorem dX12_knownHere_37 : decode cX12_knownHere 37 = .ok (.iconst 4, 1) := by decide +kernel
theorem dX12_knownHere_38 : decode cX12_knownHere 38 = .ok (.bipush 15, 2) := by decide +kernel
theorem dX12_knownHere_40 : decode cX12_knownHere 40 = .ok (.bipush 21, 2) := by decide +kernel
theorem dX12_knownHere_42 : decode cX12_knownHere 42 = .ok (.iconst 2, 1) := by decide +kernel
theorem dX12_knownHere_43 : decode cX12_knownHere 43 = .ok (.bipush 20, 2) := by decide +kernel
theorem dX12_knownHere_45 : decode cX12_knownHere 45 = .ok (.iconst 0, 1) := by decide +kernel
theorem dX12_knownHere_46 : decode cX12_knownHere 46 = .ok (.invokevirtual 238, 3) := by decide +kernel
theorem dX12_knownHere_49 : decode cX12_knownHere 49 = .ok (.ifCond .eq 5, 3) := by decide +kernel
theorem dX12_knownHere_52 : decode cX12_knownHere 52 = .ok (.iconst 2, 1) := by decide +kernel
theorem dX12_knownHere_53 : decode cX12_knownHere 53 = .ok (.ireturn, 1) := by decide +kernel
theorem dX12_knownHere_54 : decode cX12_knownHere 54 = .ok (.aload_n 0, 1) := by decide +kernel
theorem dX12_knownHere_55 : decode cX12_knownHere 55 = .ok (.bipush 14, 2) := by decide +kernel
theorem dX12_knownHere_57 : decode cX12_knownHere 57 = .ok (.iconst 5, 1) := by decide +kernel
theorem dX12_knownHere_58 : decode cX12_knownHere 58 = .ok (.iconst 1, 1) := by decide +kernel
theorem dX12_knownHere_59 : decode cX12_knownHere 59 = .ok (.bipush 18, 2) := by decide +kernel
theorem dX12_knownHere_61 : decode cX12_knownHere 61 = .ok (.iconst 0, 1) := by decide +kernel
theorem dX12_knownHere_62 : decode cX12_knownHere 62 = .ok (.iconst 0, 1) := by decide +kernel
theorem dX12_knownHere_63 : decode cX12_knownHere 63 = .ok (.invokevirtual 238, 3) := by decide +kernel
theorem dX12_knownHere_66 : decode cX12_knownHere 66 = .ok (.ifCond .eq 5, 3) := by decide +kernel
theorem dX12_knownHere_69 : decode cX12_knownHere 69 = .ok (.iconst 3, 1) := by decide +kernel
theorem dX12_knownHere_70 : decode cX12_knownHere 70 = .ok (.ireturn, 1) := by decide +kernel
theorem dX12_knownHere_71 : decode cX12_knownHere 71 = .ok (.aload_n 0, 1) := by decide +kernel
theorem dX12_knownHere_72 : decode cX12_knownHere 72 = .ok (.iconst 4, 1) := by decide +kernel
theorem dX12_knownHere_73 : decode cX12_knownHere 73 = .ok (.bipush 21, 2) := by decide +kernel
theorem dX12_knownHere_75 : decode cX12_knownHere 75 = .ok (.bipush 7, 2) := by decide +kernel
theorem dX12_knownHere_77 : decode cX12_knownHere 77 = .ok (.iconst 0, 1) := by decide +kernel
theorem dX12_knownHere_78 : decode cX12_knownHere 78 = .ok (.iconst 0, 1) := by decide +kernel
theorem dX12_knownHere_79 : decode cX12_knownHere 79 = .ok (.iconst 0, 1) := by decide +kernel
theorem dX12_knownHere_80 : decode cX12_knownHere 80 = .ok (.invokevirtual 238, 3) := by decide +kernel
theorem dX12_knownHere_83 : decode cX12_knownHere 83 = .ok (.ifCond .eq 5, 3) := by decide +kernel
theorem dX12_knownHere_86 : decode cX12_knownHere 86 = .ok (.iconst 4, 1) := by decide +kernel
theorem dX12_knownHere_87 : decode cX12_knownHere 87 = .ok (.ireturn, 1) := by decide +kernel
theorem dX12_knownHere_88 : decode cX12_knownHere 88 = .ok (.aload_n 0, 1) := by decide +kernel
theorem dX12_knownHere_89 : decode cX12_knownHere 89 = .ok (.bipush 18, 2) := by decide +kernel
theorem dX12_knownHere_91 : decode cX12_knownHere 91 = .ok (.iconst 1, 1) := by decide +kernel
theorem dX12_knownHere_92 : decode cX12_knownHere 92 = .ok (.bipush 14, 2) := by decide +kernel
theorem dX12_knownHere_94 : decode cX12_knownHere 94 = .ok (.iconst 0, 1) := by decide +kernel
theorem dX12_knownHere_95 : decode cX12_knownHere 95 = .ok (.iconst 0, 1) := by decide +kernel
theorem dX12_knownHere_96 : decode cX12_knownHere 96 = .ok (.iconst 0, 1) := by decide +kernel
theorem dX12_knownHere_97 : decode cX12_knownHere 97 = .ok (.invokevirtual 238, 3) := by decide +kernel
theorem dX12_knownHere_100 : decode cX12_knownHere 100 = .ok (.ifCond .eq 5, 3) := by decide +kernel
theorem dX12_knownHere_103 : decode cX12_knownHere 103 = .ok (.iconst 5, 1) := by decide +kernel
theorem dX12_knownHere_104 : decode cX12_knownHere 104 = .ok (.ireturn, 1) := by decide +kernel
theorem dX12_knownHere_105 : decode cX12_knownHere 105 = .ok (.aload_n 0, 1) := by decide +kernel
theorem dX12_knownHere_106 : decode cX12_knownHere 106 = .ok (.iconst 4, 1) := by decide +kernel
theorem dX12_knownHere_107 : decode cX12_knownHere 107 = .ok (.iconst 1, 1) := by decide +kernel
theorem dX12_knownHere_108 : decode cX12_knownHere 108 = .ok (.bipush 25, 2) := by decide +kernel
theorem dX12_knownHere_110 : decode cX12_knownHere 110 = .ok (.iconst 0, 1) := by decide +kernel
theorem dX12_knownHere_111 : decode cX12_knownHere 111 = .ok (.iconst 0, 1) := by decide +kernel
theorem dX12_knownHere_112 : decode cX12_knownHere 112 = .ok (.iconst 0, 1) := by decide +kernel
theorem dX12_knownHere_113 : decode cX12_knownHere 113 = .ok (.invokevirtual 238, 3) := by decide +kernel
theorem dX12_knownHere_116 : decode cX12_knownHere 116 = .ok (.ifCond .eq 6, 3) := by decide +kernel
theorem dX12_knownHere_119 : decode cX12_knownHere 119 = .ok (.bipush 6, 2) := by decide +kernel
theorem dX12_knownHere_121 : decode cX12_knownHere 121 = .ok (.ireturn, 1) := by decide +kernel
theorem dX12_knownHere_122 : decode cX12_knownHere 122 = .ok (.aload_n 0, 1) := by decide +kernel
theorem dX12_knownHere_123 : decode cX12_knownHere 123 = .ok (.bipush 6, 2) := by decide +kernel
theorem dX12_knownHere_125 : decode cX12_knownHere 125 = .ok (.bipush 18, 2) := by decide +kernel
theorem dX12_knownHere_127 : decode cX12_knownHere 127 = .ok (.bipush 15, 2) := by decide +kernel
theorem dX12_knownHere_129 : decode cX12_knownHere 129 = .ok (.bipush 13, 2) := by decide +kernel
theorem dX12_knownHere_131 : decode cX12_knownHere 131 = .ok (.iconst 0, 1) := by decide +kernel
theorem dX12_knownHere_132 : decode cX12_knownHere 132 = .ok (.iconst 0, 1) := by decide +kernel
theorem dX12_knownHere_133 : decode cX12_knownHere 133 = .ok (.invokevirtual 238, 3) := by decide +kernel
theorem dX12_knownHere_136 : decode cX12_knownHere 136 = .ok (.ifCond .eq 6, 3) := by decide +kernel
theorem dX12_knownHere_139 : decode cX12_knownHere 139 = .ok (.bipush 7, 2) := by decide +kernel
theorem dX12_knownHere_141 : decode cX12_knownHere 141 = .ok (.ireturn, 1) := by decide +kernel
theorem dX12_knownHere_142 : decode cX12_knownHere 142 = .ok (.aload_n 0, 1) := by decide +kernel
theorem dX12_knownHere_143 : decode cX12_knownHere 143 = .ok (.invokevirtual 241, 3) := by decide +kernel
theorem dX12_knownHere_146 : decode cX12_knownHere 146 = .ok (.ifCond .eq 8, 3) := by decide +kernel
theorem dX12_knownHere_149 : decode cX12_knownHere 149 = .ok (.bipush 8, 2) := by decide +kernel
theorem dX12_knownHere_151 : decode cX12_knownHere 151 = .ok (.goto 4, 3) := by decide +kernel
theorem dX12_knownHere_154 : decode cX12_knownHere 154 = .ok (.iconst (-1), 1) := by decide +kernel
theorem dX12_knownHere_155 : decode cX12_knownHere 155 = .ok (.ireturn, 1) := by decide +kernel
theorem dX12_sum_0 : decode cX12_sum 0 = .ok (.aload_n 0, 1) := by decide +kernel
theorem dX12_sum_1 : decode cX12_sum 1 = .ok (.invokevirtual 226, 3) := by decide +kernel
theorem dX12_sum_4 : decode cX12_sum 4 = .ok (.aload_n 0, 1) := by decide +kernel
theorem dX12_sum_5 : decode cX12_sum 5 = .ok (.getfield 125, 3) := by decide +kernel
theorem dX12_sum_8 : decode cX12_sum 8 = .ok (.ifCond .ne 50, 3) := by decide +kernel
theorem dX12_sum_11 : decode cX12_sum 11 = .ok (.aload_n 0, 1) := by decide +kernel
theorem dX12_sum_12 : decode cX12_sum 12 = .ok (.bipush 43, 2) := by decide +kernel
theorem dX12_sum_14 : decode cX12_sum 14 = .ok (.invokevirtual 229, 3) := by decide +kernel
theorem dX12_sum_17 : decode cX12_sum 17 = .ok (.ifCond .eq 7, 3) := by decide +kernel
theorem dX12_sum_20 : decode cX12_sum 20 = .ok (.iconst 2, 1) := by decide +kernel
theorem dX12_sum_21 : decode cX12_sum 21 = .ok (.goto 17, 3) := by decide +kernel
theorem dX12_sum_24 : decode cX12_sum 24 = .ok (.aload_n 0, 1) := by decide +kernel
theorem dX12_sum_25 : decode cX12_sum 25 = .ok (.bipush 45, 2) := by decide +kernel
theorem dX12_sum_27 : decode cX12_sum 27 = .ok (.invokevirtual 229, 3) := by decide +kernel
theorem dX12_sum_30 : decode cX12_sum 30 = .ok (.ifCond .eq 7, 3) := by decide +kernel
theorem dX12_sum_33 : decode cX12_sum 33 = .ok (.iconst 3, 1) := by decide +kernel
theorem dX12_sum_34 : decode cX12_sum 34 = .ok (.goto 4, 3) := by decide +kernel
theorem dX12_sum_37 : decode cX12_sum 37 = .ok (.iconst (-1), 1) := by decide +kernel
theorem dX12_sum_38 : decode cX12_sum 38 = .ok (.istore_n 1, 1) := by decide +kernel
theorem dX12_sum_39 : decode cX12_sum 39 = .ok (.iload_n 1, 1) := by decide +kernel
theorem dX12_sum_40 : decode cX12_sum 40 = .ok (.iconst (-1), 1) := by decide +kernel
theorem dX12_sum_41 : decode cX12_sum 41 = .ok (.if_icmp .ne 4, 3) := by decide +kernel
theorem dX12_sum_44 : decode cX12_sum 44 = .ok (.return_, 1) := by decide +kernel
theorem dX12_sum_45 : decode cX12_sum 45 = .ok (.aload_n 0, 1) := by decide +kernel
theorem dX12_sum_46 : decode cX12_sum 46 = .ok (.invokevirtual 226, 3) := by decide +kernel
theorem dX12_sum_49 : decode cX12_sum 49 = .ok (.aload_n 0, 1) := by decide +kernel
theorem dX12_sum_50 : decode cX12_sum 50 = .ok (.iload_n 1, 1) := by decide +kernel
theorem dX12_sum_51 : decode cX12_sum 51 = .ok (.iconst 0, 1) := by decide +kernel
theorem dX12_sum_52 : decode cX12_sum 52 = .ok (.invokevirtual 232, 3) := by decide +kernel
theorem dX12_sum_55 : decode cX12_sum 55 = .ok (.goto (-51), 3) := by decide +kernel
theorem dX12_sum_58 : decode cX12_sum 58 = .ok (.return_, 1) := by decide +kernel
theorem dX12_product_0 : decode cX12_product 0 = .ok (.aload_n 0, 1) := by decide +kernel
theorem dX12_product_1 : decode cX12_product 1 = .ok (.invokevirtual 235, 3) := by decide +kernel
theorem dX12_product_4 : decode cX12_product 4 = .ok (.aload_n 0, 1) := by decide +kernel
theorem dX12_product_5 : decode cX12_product 5 = .ok (.getfield 125, 3) := by decide +kernel
theorem dX12_product_8 : decode cX12_product 8 = .ok (.ifCond .ne 64, 3) := by decide +kernel
theorem dX12_product_11 : decode cX12_product 11 = .ok (.aload_n 0, 1) := by decide +kernel
theorem dX12_product_12 : decode cX12_product 12 = .ok (.bipush 42, 2) := by decide +kernel
theorem dX12_product_14 : decode cX12_product 14 = .ok (.invokevirtual 229, 3) := by decide +kernel
theorem dX12_product_17 : decode cX12_product 17 = .ok (.ifCond .eq 7, 3) := by decide +kernel
theorem dX12_product_20 : decode cX12_product 20 = .ok (.iconst 4, 1) := by decide +kernel
theorem dX12_product_21 : decode cX12_product 21 = .ok (.goto 31, 3) := by decide +kernel
theorem dX12_product_24 : decode cX12_product 24 = .ok (.aload_n 0, 1) := by decide +kernel
theorem dX12_product_25 : decode cX12_product 25 = .ok (.bipush 47, 2) := by decide +kernel
theorem dX12_product_27 : decode cX12_product 27 = .ok (.invokevirtual 229, 3) := by decide +kernel
theorem dX12_product_30 : decode cX12_product 30 = .ok (.ifCond .eq 7, 3) := by decide +kernel
theorem dX12_product_33 : decode cX12_product 33 = .ok (.iconst 5, 1) := by decide +kernel
theorem dX12_product_34 : decode cX12_product 34 = .ok (.goto 18, 3) := by decide +kernel
theorem dX12_product_37 : decode cX12_product 37 = .ok (.aload_n 0, 1) := by decide +kernel
theorem dX12_product_38 : decode cX12_product 38 = .ok (.bipush 37, 2) := by decide +kernel
theorem dX12_product_40 : decode cX12_product 40 = .ok (.invokevirtual 229, 3) := by decide +kernel
theorem dX12_product_43 : decode cX12_product 43 = .ok (.ifCond .eq 8, 3) := by decide +kernel
theorem dX12_product_46 : decode cX12_product 46 = .ok (.bipush 6, 2) := by decide +kernel
theorem dX12_product_48 : decode cX12_product 48 = .ok (.goto 4, 3) := by decide +kernel
theorem dX12_product_51 : decode cX12_product 51 = .ok (.iconst (-1), 1) := by decide +kernel
theorem dX12_product_52 : decode cX12_product 52 = .ok (.istore_n 1, 1) := by decide +kernel
theorem dX12_product_53 : decode cX12_product 53 = .ok (.iload_n 1, 1) := by decide +kernel
theorem dX12_product_54 : decode cX12_product 54 = .ok (.iconst (-1), 1) := by decide +kernel
theorem dX12_product_55 : decode cX12_product 55 = .ok (.if_icmp .ne 4, 3) := by decide +kernel
theorem dX12_product_58 : decode cX12_product 58 = .ok (.return_, 1) := by decide +kernel
theorem dX12_product_59 : decode cX12_product 59 = .ok (.aload_n 0, 1) := by decide +kernel
theorem dX12_product_60 : decode cX12_product 60 = .ok (.invokevirtual 235, 3) := by decide +kernel
theorem dX12_product_63 : decode cX12_product 63 = .ok (.aload_n 0, 1) := by decide +kernel
theorem dX12_product_64 : decode cX12_product 64 = .ok (.iload_n 1, 1) := by decide +kernel
theorem dX12_product_65 : decode cX12_product 65 = .ok (.iconst 0, 1) := by decide +kernel
theorem dX12_product_66 : decode cX12_product 66 = .ok (.invokevirtual 232, 3) := by decide +kernel
theorem dX12_product_69 : decode cX12_product 69 = .ok (.goto (-65), 3) := by decide +kernel
theorem dX12_product_72 : decode cX12_product 72 = .ok (.return_, 1) := by decide +kernel
theorem dX12_one_0 : decode cX12_one 0 = .ok (.aload_n 0, 1) := by decide +kernel
theorem dX12_one_1 : decode cX12_one 1 = .ok (.getfield 125, 3) := by decide +kernel
theorem dX12_one_4 : decode cX12_one 4 = .ok (.ifCond .eq 4, 3) := by decide +kernel
theorem dX12_one_7 : decode cX12_one 7 = .ok (.return_, 1) := by decide +kernel
theorem dX12_one_8 : decode cX12_one 8 = .ok (.aload_n 0, 1) := by decide +kernel
theorem dX12_one_9 : decode cX12_one 9 = .ok (.invokevirtual 131, 3) := by decide +kernel
theorem dX12_one_12 : decode cX12_one 12 = .ok (.aload_n 0, 1) := by decide +kernel
theorem dX12_one_13 : decode cX12_one 13 = .ok (.bipush 12, 2) := by decide +kernel
theorem dX12_one_15 : decode cX12_one 15 = .ok (.iconst 5, 1) := by decide +kernel
theorem dX12_one_16 : decode cX12_one 16 = .ok (.iconst 1, 1) := by decide +kernel
theorem dX12_one_17 : decode cX12_one 17 = .ok (.bipush 19, 2) := by decide +kernel
theorem dX12_one_19 : decode cX12_one 19 = .ok (.bipush 20, 2) := by decide +kernel
theorem dX12_one_21 : decode cX12_one 21 = .ok (.iconst 0, 1) := by decide +kernel
theorem dX12_one_22 : decode cX12_one 22 = .ok (.invokevirtual 158, 3) := by decide +kernel
theorem dX12_one_25 : decode cX12_one 25 = .ok (.ifCond .eq 8, 3) := by decide +kernel
theorem dX12_one_28 : decode cX12_one 28 = .ok (.bipush 7, 2) := by decide +kernel
theorem dX12_one_30 : decode cX12_one 30 = .ok (.goto 26, 3) := by decide +kernel
theorem dX12_one_33 : decode cX12_one 33 = .ok (.aload_n 0, 1) := by decide +kernel
theorem dX12_one_34 : decode cX12_one 34 = .ok (.bipush 13, 2) := by decide +kernel
theorem dX12_one_36 : decode cX12_one 36 = .ok (.bipush 15, 2) := by decide +kernel
theorem dX12_one_38 : decode cX12_one 38 = .ok (.bipush 19, 2) := by decide +kernel
theorem dX12_one_40 : decode cX12_one 40 = .ok (.bipush 20, 2) := by decide +kernel
theorem dX12_one_42 : decode cX12_one 42 = .ok (.iconst 0, 1) := by decide +kernel
theorem dX12_one_43 : decode cX12_one 43 = .ok (.iconst 0, 1) := by decide +kernel
theorem dX12_one_44 : decode cX12_one 44 = .ok (.invokevirtual 158, 3) := by decide +kernel
theorem dX12_one_47 : decode cX12_one 47 = .ok (.ifCond .eq 8, 3) := by decide +kernel
theorem dX12_one_50 : decode cX12_one 50 = .ok (.bipush 8, 2) := by decide +kernel
theorem dX12_one_52 : decode cX12_one 52 = .ok (.goto 4, 3) := by decide +kernel
theorem dX12_one_55 : decode cX12_one 55 = .ok (.iconst (-1), 1) := by decide +kernel
theorem dX12_one_56 : decode cX12_one 56 = .ok (.istore_n 1, 1) := by decide +kernel
theorem dX12_one_57 : decode cX12_one 57 = .ok (.iload_n 1, 1) := by decide +kernel
theorem dX12_one_58 : decode cX12_one 58 = .ok (.iconst (-1), 1) := by decide +kernel
theorem dX12_one_59 : decode cX12_one 59 = .ok (.if_icmp .eq 58, 3) := by decide +kernel
theorem dX12_one_62 : decode cX12_one 62 = .ok (.aload_n 0, 1) := by decide +kernel
theorem dX12_one_63 : decode cX12_one 63 = .ok (.invokevirtual 245, 3) := by decide +kernel
theorem dX12_one_66 : decode cX12_one 66 = .ok (.ifCond .ne 4, 3) := by decide +kernel
theorem dX12_one_69 : decode cX12_one 69 = .ok (.return_, 1) := by decide +kernel
theorem dX12_one_70 : decode cX12_one 70 = .ok (.aload_n 0, 1) := by decide +kernel
theorem dX12_one_71 : decode cX12_one 71 = .ok (.invokevirtual 162, 3) := by decide +kernel
theorem dX12_one_74 : decode cX12_one 74 = .ok (.aload_n 0, 1) := by decide +kernel
theorem dX12_one_75 : decode cX12_one 75 = .ok (.bipush 91, 2) := by decide +kernel
theorem dX12_one_77 : decode cX12_one 77 = .ok (.invokevirtual 187, 3) := by decide +kernel
theorem dX12_one_80 : decode cX12_one 80 = .ok (.aload_n 0, 1) := by decide +kernel
theorem dX12_one_81 : decode cX12_one 81 = .ok (.invokevirtual 248, 3) := by decide +kernel
theorem dX12_one_84 : decode cX12_one 84 = .ok (.aload_n 0, 1) := by decide +kernel
theorem dX12_one_85 : decode cX12_one 85 = .ok (.bipush 44, 2) := by decide +kernel
theorem dX12_one_87 : decode cX12_one 87 = .ok (.invokevirtual 187, 3) := by decide +kernel
theorem dX12_one_90 : decode cX12_one 90 = .ok (.aload_n 0, 1) := by decide +kernel
theorem dX12_one_91 : decode cX12_one 91 = .ok (.invokevirtual 248, 3) := by decide +kernel
theorem dX12_one_94 : decode cX12_one 94 = .ok (.aload_n 0, 1) := by decide +kernel
theorem dX12_one_95 : decode cX12_one 95 = .ok (.bipush 93, 2) := by decide +kernel
theorem dX12_one_97 : decode cX12_one 97 = .ok (.invokevirtual 187, 3) := by decide +kernel
theorem dX12_one_100 : decode cX12_one 100 = .ok (.aload_n 0, 1) := by decide +kernel
theorem dX12_one_101 : decode cX12_one 101 = .ok (.iload_n 1, 1) := by decide +kernel
theorem dX12_one_102 : decode cX12_one 102 = .ok (.iconst 0, 1) := by decide +kernel
theorem dX12_one_103 : decode cX12_one 103 = .ok (.invokevirtual 232, 3) := by decide +kernel
theorem dX12_one_106 : decode cX12_one 106 = .ok (.aload_n 0, 1) := by decide +kernel
theorem dX12_one_107 : decode cX12_one 107 = .ok (.dup, 1) := by decide +kernel
theorem dX12_one_108 : decode cX12_one 108 = .ok (.getfield 168, 3) := by decide +kernel
theorem dX12_one_111 : decode cX12_one 111 = .ok (.iconst 1, 1) := by decide +kernel
theorem dX12_one_112 : decode cX12_one 112 = .ok (.isub, 1) := by decide +kernel
theorem dX12_one_113 : decode cX12_one 113 = .ok (.putfield 168, 3) := by decide +kernel
theorem dX12_one_116 : decode cX12_one 116 = .ok (.return_, 1) := by decide +kernel
theorem dX12_one_117 : decode cX12_one 117 = .ok (.aload_n 0, 1) := by decide +kernel
theorem dX12_one_118 : decode cX12_one 118 = .ok (.aload_n 0, 1) := by decide +kernel
theorem dX12_one_119 : decode cX12_one 119 = .ok (.getfield 118, 3) := by decide +kernel
theorem dX12_one_122 : decode cX12_one 122 = .ok (.invokevirtual 121, 3) := by decide +kernel
theorem dX12_one_125 : decode cX12_one 125 = .ok (.bipush 40, 2) := by decide +kernel
theorem dX12_one_127 : decode cX12_one 127 = .ok (.if_icmp .ne 42, 3) := by decide +kernel
theorem dX12_one_130 : decode cX12_one 130 = .ok (.aload_n 0, 1) := by decide +kernel
theorem dX12_one_131 : decode cX12_one 131 = .ok (.invokevirtual 245, 3) := by decide +kernel
theorem dX12_one_134 : decode cX12_one 134 = .ok (.ifCond .ne 4, 3) := by decide +kernel
theorem dX12_one_137 : decode cX12_one 137 = .ok (.return_, 1) := by decide +kernel
theorem dX12_one_138 : decode cX12_one 138 = .ok (.aload_n 0, 1) := by decide +kernel
theorem dX12_one_139 : decode cX12_one 139 = .ok (.dup, 1) := by decide +kernel
theorem dX12_one_140 : decode cX12_one 140 = .ok (.getfield 118, 3) := by decide +kernel
theorem dX12_one_143 : decode cX12_one 143 = .ok (.iconst 1, 1) := by decide +kernel
theorem dX12_one_144 : decode cX12_one 144 = .ok (.iadd, 1) := by decide +kernel
theorem dX12_one_145 : decode cX12_one 145 = .ok (.putfield 118, 3) := by decide +kernel
theorem dX12_one_148 : decode cX12_one 148 = .ok (.aload_n 0, 1) := by decide +kernel
theorem dX12_one_149 : decode cX12_one 149 = .ok (.invokevirtual 248, 3) := by decide +kernel
theorem dX12_one_152 : decode cX12_one 152 = .ok (.aload_n 0, 1) := by decide +kernel
theorem dX12_one_153 : decode cX12_one 153 = .ok (.bipush 41, 2) := by decide +kernel
theorem dX12_one_155 : decode cX12_one 155 = .ok (.invokevirtual 187, 3) := by decide +kernel
theorem dX12_one_158 : decode cX12_one 158 = .ok (.aload_n 0, 1) := by decide +kernel
theorem dX12_one_159 : decode cX12_one 159 = .ok (.dup, 1) := by decide +kernel
theorem dX12_one_160 : decode cX12_one 160 = .ok (.getfield 168, 3) := by decide +kernel
theorem dX12_one_163 : decode cX12_one 163 = .ok (.iconst 1, 1) := by decide +kernel
theorem dX12_one_164 : decode cX12_one 164 = .ok (.isub, 1) := by decide +kernel
theorem dX12_one_165 : decode cX12_one 165 = .ok (.putfield 168, 3) := by decide +kernel
theorem dX12_one_168 : decode cX12_one 168 = .ok (.return_, 1) := by decide +kernel
theorem dX12_one_169 : decode cX12_one 169 = .ok (.aload_n 0, 1) := by decide +kernel
theorem dX12_one_170 : decode cX12_one 170 = .ok (.invokevirtual 251, 3) := by decide +kernel
theorem dX12_one_173 : decode cX12_one 173 = .ok (.istore_n 2, 1) := by decide +kernel
theorem dX12_one_174 : decode cX12_one 174 = .ok (.iload_n 2, 1) := by decide +kernel
theorem dX12_one_175 : decode cX12_one 175 = .ok (.iconst (-1), 1) := by decide +kernel
theorem dX12_one_176 : decode cX12_one 176 = .ok (.if_icmp .eq 12, 3) := by decide +kernel
theorem dX12_one_179 : decode cX12_one 179 = .ok (.aload_n 0, 1) := by decide +kernel
theorem dX12_one_180 : decode cX12_one 180 = .ok (.iconst 1, 1) := by decide +kernel
theorem dX12_one_181 : decode cX12_one 181 = .ok (.iload_n 2, 1) := by decide +kernel
theorem dX12_one_182 : decode cX12_one 182 = .ok (.invokevirtual 232, 3) := by decide +kernel
theorem dX12_one_185 : decode cX12_one 185 = .ok (.goto 16, 3) := by decide +kernel
theorem dX12_one_188 : decode cX12_one 188 = .ok (.aload_n 0, 1) := by decide +kernel
theorem dX12_one_189 : decode cX12_one 189 = .ok (.iconst 0, 1) := by decide +kernel
theorem dX12_one_190 : decode cX12_one 190 = .ok (.aload_n 0, 1) := by decide +kernel
theorem dX12_one_191 : decode cX12_one 191 = .ok (.iconst 0, 1) := by decide +kernel
theorem dX12_one_192 : decode cX12_one 192 = .ok (.sipush 999, 3) := by decide +kernel
theorem dX12_one_195 : decode cX12_one 195 = .ok (.invokevirtual 171, 3) := by decide +kernel
theorem dX12_one_198 : decode cX12_one 198 = .ok (.invokevirtual 232, 3) := by decide +kernel
theorem dX12_one_201 : decode cX12_one 201 = .ok (.return_, 1) := by decide +kernel
theorem dX12_placeHere_0 : decode cX12_placeHere 0 = .ok (.aload_n 0, 1) := by decide +kernel
theorem dX12_placeHere_1 : decode cX12_placeHere 1 = .ok (.iconst 0, 1) := by decide +kernel
theorem dX12_placeHere_2 : decode cX12_placeHere 2 = .ok (.aload_n 0, 1) := by decide +kernel
theorem dX12_placeHere_3 : decode cX12_placeHere 3 = .ok (.getfield 23, 3) := by decide +kernel
theorem dX12_placeHere_6 : decode cX12_placeHere 6 = .ok (.iconst 0, 1) := by decide +kernel
theorem dX12_placeHere_7 : decode cX12_placeHere 7 = .ok (.iaload, 1) := by decide +kernel
theorem dX12_placeHere_8 : decode cX12_placeHere 8 = .ok (.iconst 1, 1) := by decide +kernel
theorem dX12_placeHere_9 : decode cX12_placeHere 9 = .ok (.isub, 1) := by decide +kernel
theorem dX12_placeHere_10 : decode cX12_placeHere 10 = .ok (.invokevirtual 171, 3) := by decide +kernel
theorem dX12_placeHere_13 : decode cX12_placeHere 13 = .ok (.ireturn, 1) := by decide +kernel
theorem dX12_between_0 : decode cX12_between 0 = .ok (.iconst 0, 1) := by decide +kernel
theorem dX12_between_1 : decode cX12_between 1 = .ok (.istore_n 3, 1) := by decide +kernel
theorem dX12_between_2 : decode cX12_between 2 = .ok (.iload_n 3, 1) := by decide +kernel
theorem dX12_between_3 : decode cX12_between 3 = .ok (.aload_n 0, 1) := by decide +kernel
theorem dX12_between_4 : decode cX12_between 4 = .ok (.getfield 23, 3) := by decide +kernel
theorem dX12_between_7 : decode cX12_between 7 = .ok (.iconst 1, 1) := by decide +kernel
theorem dX12_between_8 : decode cX12_between 8 = .ok (.iaload, 1) := by decide +kernel
theorem dX12_between_9 : decode cX12_between 9 = .ok (.if_icmp .ge 59, 3) := by decide +kernel
theorem dX12_between_12 : decode cX12_between 12 = .ok (.aload_n 0, 1) := by decide +kernel
theorem dX12_between_13 : decode cX12_between 13 = .ok (.getfield 37, 3) := by decide +kernel
theorem dX12_between_16 : decode cX12_between 16 = .ok (.iload_n 3, 1) := by decide +kernel
theorem dX12_between_17 : decode cX12_between 17 = .ok (.aaload, 1) := by decide +kernel
theorem dX12_between_18 : decode cX12_between 18 = .ok (.iconst 0, 1) := by decide +kernel
theorem dX12_between_19 : decode cX12_between 19 = .ok (.iaload, 1) := by decide +kernel
theorem dX12_between_20 : decode cX12_between 20 = .ok (.iload_n 1, 1) := by decide +kernel
theorem dX12_between_21 : decode cX12_between 21 = .ok (.if_icmp .ne 15, 3) := by decide +kernel
theorem dX12_between_24 : decode cX12_between 24 = .ok (.aload_n 0, 1) := by decide +kernel
theorem dX12_between_25 : decode cX12_between 25 = .ok (.getfield 37, 3) := by decide +kernel
theorem dX12_between_28 : decode cX12_between 28 = .ok (.iload_n 3, 1) := by decide +kernel
theorem dX12_between_29 : decode cX12_between 29 = .ok (.aaload, 1) := by decide +kernel
theorem dX12_between_30 : decode cX12_between 30 = .ok (.iconst 1, 1) := by decide +kernel
theorem dX12_between_31 : decode cX12_between 31 = .ok (.iaload, 1) := by decide +kernel
theorem dX12_between_32 : decode cX12_between 32 = .ok (.iload_n 2, 1) := by decide +kernel
theorem dX12_between_33 : decode cX12_between 33 = .ok (.if_icmp .eq 27, 3) := by decide +kernel
theorem dX12_between_36 : decode cX12_between 36 = .ok (.aload_n 0, 1) := by decide +kernel
theorem dX12_between_37 : decode cX12_between 37 = .ok (.getfield 37, 3) := by decide +kernel
theorem dX12_between_40 : decode cX12_between 40 = .ok (.iload_n 3, 1) := by decide +kernel
theorem dX12_between_41 : decode cX12_between 41 = .ok (.aaload, 1) := by decide +kernel
theorem dX12_between_42 : decode cX12_between 42 = .ok (.iconst 0, 1) := by decide +kernel
theorem dX12_between_43 : decode cX12_between 43 = .ok (.iaload, 1) := by decide +kernel
theorem dX12_between_44 : decode cX12_between 44 = .ok (.iload_n 2, 1) := by decide +kernel
theorem dX12_between_45 : decode cX12_between 45 = .ok (.if_icmp .ne 17, 3) := by decide +kernel
theorem dX12_between_48 : decode cX12_between 48 = .ok (.aload_n 0, 1) := by decide +kernel
theorem dX12_between_49 : decode cX12_between 49 = .ok (.getfield 37, 3) := by decide +kernel
theorem dX12_between_52 : decode cX12_between 52 = .ok (.iload_n 3, 1) := by decide +kernel
theorem dX12_between_53 : decode cX12_between 53 = .ok (.aaload, 1) := by decide +kernel
theorem dX12_between_54 : decode cX12_between 54 = .ok (.iconst 1, 1) := by decide +kernel
theorem dX12_between_55 : decode cX12_between 55 = .ok (.iaload, 1) := by decide +kernel
theorem dX12_between_56 : decode cX12_between 56 = .ok (.iload_n 1, 1) := by decide +kernel
theorem dX12_between_57 : decode cX12_between 57 = .ok (.if_icmp .ne 5, 3) := by decide +kernel
theorem dX12_between_60 : decode cX12_between 60 = .ok (.iload_n 3, 1) := by decide +kernel
theorem dX12_between_61 : decode cX12_between 61 = .ok (.ireturn, 1) := by decide +kernel
theorem dX12_between_62 : decode cX12_between 62 = .ok (.iinc 3 1, 3) := by decide +kernel
theorem dX12_between_65 : decode cX12_between 65 = .ok (.goto (-63), 3) := by decide +kernel
theorem dX12_between_68 : decode cX12_between 68 = .ok (.iconst (-1), 1) := by decide +kernel
theorem dX12_between_69 : decode cX12_between 69 = .ok (.ireturn, 1) := by decide +kernel
theorem dX12_nextHere_0 : decode cX12_nextHere 0 = .ok (.aload_n 0, 1) := by decide +kernel
theorem dX12_nextHere_1 : decode cX12_nextHere 1 = .ok (.invokevirtual 131, 3) := by decide +kernel
theorem dX12_nextHere_4 : decode cX12_nextHere 4 = .ok (.aload_n 0, 1) := by decide +kernel
theorem dX12_nextHere_5 : decode cX12_nextHere 5 = .ok (.getfield 118, 3) := by decide +kernel
theorem dX12_nextHere_8 : decode cX12_nextHere 8 = .ok (.istore_n 2, 1) := by decide +kernel
theorem dX12_nextHere_9 : decode cX12_nextHere 9 = .ok (.aload_n 0, 1) := by decide +kernel
theorem dX12_nextHere_10 : decode cX12_nextHere 10 = .ok (.invokevirtual 264, 3) := by decide +kernel
theorem dX12_nextHere_13 : decode cX12_nextHere 13 = .ok (.istore_n 3, 1) := by decide +kernel
theorem dX12_nextHere_14 : decode cX12_nextHere 14 = .ok (.aload_n 0, 1) := by decide +kernel
theorem dX12_nextHere_15 : decode cX12_nextHere 15 = .ok (.getfield 125, 3) := by decide +kernel
theorem dX12_nextHere_18 : decode cX12_nextHere 18 = .ok (.ifCond .ne 19, 3) := by decide +kernel
theorem dX12_nextHere_21 : decode cX12_nextHere 21 = .ok (.aload_n 0, 1) := by decide +kernel
theorem dX12_nextHere_22 : decode cX12_nextHere 22 = .ok (.iload_n 1, 1) := by decide +kernel
theorem dX12_nextHere_23 : decode cX12_nextHere 23 = .ok (.iload_n 3, 1) := by decide +kernel
theorem dX12_nextHere_24 : decode cX12_nextHere 24 = .ok (.invokevirtual 267, 3) := by decide +kernel
theorem dX12_nextHere_27 : decode cX12_nextHere 27 = .ok (.iconst (-1), 1) := by decide +kernel
theorem dX12_nextHere_28 : decode cX12_nextHere 28 = .ok (.if_icmp .ne 9, 3) := by decide +kernel
theorem dX12_nextHere_31 : decode cX12_nextHere 31 = .ok (.aload_n 0, 1) := by decide +kernel
theorem dX12_nextHere_32 : decode cX12_nextHere 32 = .ok (.iconst 2, 1) := by decide +kernel
theorem dX12_nextHere_33 : decode cX12_nextHere 33 = .ok (.iload_n 2, 1) := by decide +kernel
theorem dX12_nextHere_34 : decode cX12_nextHere 34 = .ok (.invokevirtual 138, 3) := by decide +kernel
theorem dX12_nextHere_37 : decode cX12_nextHere 37 = .ok (.iload_n 3, 1) := by decide +kernel
theorem dX12_nextHere_38 : decode cX12_nextHere 38 = .ok (.ireturn, 1) := by decide +kernel
theorem dX12_readsStep_0 : decode cX12_readsStep 0 = .ok (.aload_n 0, 1) := by decide +kernel
theorem dX12_readsStep_1 : decode cX12_readsStep 1 = .ok (.invokevirtual 270, 3) := by decide +kernel
theorem dX12_readsStep_4 : decode cX12_readsStep 4 = .ok (.istore_n 1, 1) := by decide +kernel
theorem dX12_readsStep_5 : decode cX12_readsStep 5 = .ok (.iload_n 1, 1) := by decide +kernel
theorem dX12_readsStep_6 : decode cX12_readsStep 6 = .ok (.iconst (-1), 1) := by decide +kernel
theorem dX12_readsStep_7 : decode cX12_readsStep 7 = .ok (.if_icmp .ne 12, 3) := by decide +kernel
theorem dX12_readsStep_10 : decode cX12_readsStep 10 = .ok (.aload_n 0, 1) := by decide +kernel
theorem dX12_readsStep_11 : decode cX12_readsStep 11 = .ok (.iconst 1, 1) := by decide +kernel
theorem dX12_readsStep_12 : decode cX12_readsStep 12 = .ok (.aload_n 0, 1) := by decide +kernel
theorem dX12_readsStep_13 : decode cX12_readsStep 13 = .ok (.getfield 118, 3) := by decide +kernel
theorem dX12_readsStep_16 : decode cX12_readsStep 16 = .ok (.invokevirtual 138, 3) := by decide +kernel
theorem dX12_readsStep_19 : decode cX12_readsStep 19 = .ok (.iload_n 1, 1) := by decide +kernel
theorem dX12_readsStep_20 : decode cX12_readsStep 20 = .ok (.iconst 5, 1) := by decide +kernel
theorem dX12_readsStep_21 : decode cX12_readsStep 21 = .ok (.if_icmp .ne 11, 3) := by decide +kernel
theorem dX12_readsStep_24 : decode cX12_readsStep 24 = .ok (.aload_n 0, 1) := by decide +kernel
theorem dX12_readsStep_25 : decode cX12_readsStep 25 = .ok (.invokevirtual 245, 3) := by decide +kernel
theorem dX12_readsStep_28 : decode cX12_readsStep 28 = .ok (.ifCond .ne 4, 3) := by decide +kernel
theorem dX12_readsStep_31 : decode cX12_readsStep 31 = .ok (.return_, 1) := by decide +kernel
theorem dX12_readsStep_32 : decode cX12_readsStep 32 = .ok (.aload_n 0, 1) := by decide +kernel
theorem dX12_readsStep_33 : decode cX12_readsStep 33 = .ok (.getfield 125, 3) := by decide +kernel
theorem dX12_readsStep_36 : decode cX12_readsStep 36 = .ok (.ifCond .eq 4, 3) := by decide +kernel
theorem dX12_readsStep_39 : decode cX12_readsStep 39 = .ok (.return_, 1) := by decide +kernel
theorem dX12_readsStep_40 : decode cX12_readsStep 40 = .ok (.aload_n 0, 1) := by decide +kernel
theorem dX12_readsStep_41 : decode cX12_readsStep 41 = .ok (.invokevirtual 162, 3) := by decide +kernel
theorem dX12_readsStep_44 : decode cX12_readsStep 44 = .ok (.aload_n 0, 1) := by decide +kernel
theorem dX12_readsStep_45 : decode cX12_readsStep 45 = .ok (.getfield 70, 3) := by decide +kernel
theorem dX12_readsStep_48 : decode cX12_readsStep 48 = .ok (.aload_n 0, 1) := by decide +kernel
theorem dX12_readsStep_49 : decode cX12_readsStep 49 = .ok (.getfield 273, 3) := by decide +kernel
theorem dX12_readsStep_52 : decode cX12_readsStep 52 = .ok (.aaload, 1) := by decide +kernel
theorem dX12_readsStep_53 : decode cX12_readsStep 53 = .ok (.astore_n 2, 1) := by decide +kernel
theorem dX12_readsStep_54 : decode cX12_readsStep 54 = .ok (.aload_n 0, 1) := by decide +kernel
theorem dX12_readsStep_55 : decode cX12_readsStep 55 = .ok (.dup, 1) := by decide +kernel
theorem dX12_readsStep_56 : decode cX12_readsStep 56 = .ok (.getfield 273, 3) := by decide +kernel
theorem dX12_readsStep_59 : decode cX12_readsStep 59 = .ok (.iconst 1, 1) := by decide +kernel
theorem dX12_readsStep_60 : decode cX12_readsStep 60 = .ok (.iadd, 1) := by decide +kernel
theorem dX12_readsStep_61 : decode cX12_readsStep 61 = .ok (.putfield 273, 3) := by decide +kernel
theorem dX12_readsStep_64 : decode cX12_readsStep 64 = .ok (.aload_n 2, 1) := by decide +kernel
theorem dX12_readsStep_65 : decode cX12_readsStep 65 = .ok (.iconst 0, 1) := by decide +kernel
theorem dX12_readsStep_66 : decode cX12_readsStep 66 = .ok (.iload_n 1, 1) := by decide +kernel
theorem dX12_readsStep_67 : decode cX12_readsStep 67 = .ok (.iastore, 1) := by decide +kernel
theorem dX12_readsStep_68 : decode cX12_readsStep 68 = .ok (.iload_n 1, 1) := by decide +kernel
theorem dX12_readsStep_69 : decode cX12_readsStep 69 = .ok (.iconst 3, 1) := by decide +kernel
theorem dX12_readsStep_70 : decode cX12_readsStep 70 = .ok (.if_icmp .ge 19, 3) := by decide +kernel
theorem dX12_readsStep_73 : decode cX12_readsStep 73 = .ok (.aload_n 2, 1) := by decide +kernel
theorem dX12_readsStep_74 : decode cX12_readsStep 74 = .ok (.iconst 1, 1) := by decide +kernel
theorem dX12_readsStep_75 : decode cX12_readsStep 75 = .ok (.aload_n 0, 1) := by decide +kernel
theorem dX12_readsStep_76 : decode cX12_readsStep 76 = .ok (.iconst 0, 1) := by decide +kernel
theorem dX12_readsStep_77 : decode cX12_readsStep 77 = .ok (.aload_n 0, 1) := by decide +kernel
theorem dX12_readsStep_78 : decode cX12_readsStep 78 = .ok (.getfield 23, 3) := by decide +kernel
theorem dX12_readsStep_81 : decode cX12_readsStep 81 = .ok (.iconst 2, 1) := by decide +kernel
theorem dX12_readsStep_82 : decode cX12_readsStep 82 = .ok (.iaload, 1) := by decide +kernel
theorem dX12_readsStep_83 : decode cX12_readsStep 83 = .ok (.iconst 1, 1) := by decide +kernel
theorem dX12_readsStep_84 : decode cX12_readsStep 84 = .ok (.isub, 1) := by decide +kernel
theorem dX12_readsStep_85 : decode cX12_readsStep 85 = .ok (.invokevirtual 171, 3) := by decide +kernel
theorem dX12_readsStep_88 : decode cX12_readsStep 88 = .ok (.iastore, 1) := by decide +kernel
theorem dX12_readsStep_89 : decode cX12_readsStep 89 = .ok (.iload_n 1, 1) := by decide +kernel
theorem dX12_readsStep_90 : decode cX12_readsStep 90 = .ok (.iconst 4, 1) := by decide +kernel
theorem dX12_readsStep_91 : decode cX12_readsStep 91 = .ok (.if_icmp .ge 10, 3) := by decide +kernel
theorem dX12_readsStep_94 : decode cX12_readsStep 94 = .ok (.aload_n 2, 1) := by decide +kernel
theorem dX12_readsStep_95 : decode cX12_readsStep 95 = .ok (.iconst 2, 1) := by decide +kernel
theorem dX12_readsStep_96 : decode cX12_readsStep 96 = .ok (.aload_n 0, 1) := by decide +kernel
theorem dX12_readsStep_97 : decode cX12_readsStep 97 = .ok (.invokevirtual 264, 3) := by decide +kernel
theorem dX12_readsStep_100 : decode cX12_readsStep 100 = .ok (.iastore, 1) := by decide +kernel
theorem dX12_readsStep_101 : decode cX12_readsStep 101 = .ok (.iload_n 1, 1) := by decide +kernel
theorem dX12_readsStep_102 : decode cX12_readsStep 102 = .ok (.ifCond .eq 8, 3) := by decide +kernel
theorem dX12_readsStep_105 : decode cX12_readsStep 105 = .ok (.iload_n 1, 1) := by decide +kernel
theorem dX12_readsStep_106 : decode cX12_readsStep 106 = .ok (.iconst 3, 1) := by decide +kernel
theorem dX12_readsStep_107 : decode cX12_readsStep 107 = .ok (.if_icmp .ne 13, 3) := by decide +kernel
theorem dX12_readsStep_110 : decode cX12_readsStep 110 = .ok (.aload_n 2, 1) := by decide +kernel
theorem dX12_readsStep_111 : decode cX12_readsStep 111 = .ok (.iconst 3, 1) := by decide +kernel
theorem dX12_readsStep_112 : decode cX12_readsStep 112 = .ok (.aload_n 0, 1) := by decide +kernel
theorem dX12_readsStep_113 : decode cX12_readsStep 113 = .ok (.aload_n 2, 1) := by decide +kernel
theorem dX12_readsStep_114 : decode cX12_readsStep 114 = .ok (.iconst 2, 1) := by decide +kernel
theorem dX12_readsStep_115 : decode cX12_readsStep 115 = .ok (.iaload, 1) := by decide +kernel
theorem dX12_readsStep_116 : decode cX12_readsStep 116 = .ok (.invokevirtual 276, 3) := by decide +kernel
theorem dX12_readsStep_119 : decode cX12_readsStep 119 = .ok (.iastore, 1) := by decide +kernel
theorem dX12_readsStep_120 : decode cX12_readsStep 120 = .ok (.iload_n 1, 1) := by decide +kernel
theorem dX12_readsStep_121 : decode cX12_readsStep 121 = .ok (.iconst 5, 1) := by decide +kernel
theorem dX12_readsStep_122 : decode cX12_readsStep 122 = .ok (.if_icmp .ne 70, 3) := by decide +kernel
theorem dX12_readsStep_125 : decode cX12_readsStep 125 = .ok (.aload_n 2, 1) := by decide +kernel
theorem dX12_readsStep_126 : decode cX12_readsStep 126 = .ok (.iconst 1, 1) := by decide +kernel
theorem dX12_readsStep_127 : decode cX12_readsStep 127 = .ok (.aload_n 0, 1) := by decide +kernel
theorem dX12_readsStep_128 : decode cX12_readsStep 128 = .ok (.iconst 0, 1) := by decide +kernel
theorem dX12_readsStep_129 : decode cX12_readsStep 129 = .ok (.bipush 60, 2) := by decide +kernel
theorem dX12_readsStep_131 : decode cX12_readsStep 131 = .ok (.invokevirtual 171, 3) := by decide +kernel
theorem dX12_readsStep_134 : decode cX12_readsStep 134 = .ok (.iastore, 1) := by decide +kernel
theorem dX12_readsStep_135 : decode cX12_readsStep 135 = .ok (.aload_n 0, 1) := by decide +kernel
theorem dX12_readsStep_136 : decode cX12_readsStep 136 = .ok (.bipush 91, 2) := by decide +kernel
theorem dX12_readsStep_138 : decode cX12_readsStep 138 = .ok (.invokevirtual 187, 3) := by decide +kernel
theorem dX12_readsStep_141 : decode cX12_readsStep 141 = .ok (.aload_n 0, 1) := by decide +kernel
theorem dX12_readsStep_142 : decode cX12_readsStep 142 = .ok (.invokevirtual 131, 3) := by decide +kernel
theorem dX12_readsStep_145 : decode cX12_readsStep 145 = .ok (.aload_n 0, 1) := by decide +kernel
theorem dX12_readsStep_146 : decode cX12_readsStep 146 = .ok (.getfield 125, 3) := by decide +kernel
theorem dX12_readsStep_149 : decode cX12_readsStep 149 = .ok (.ifCond .ne 27, 3) := by decide +kernel
theorem dX12_readsStep_152 : decode cX12_readsStep 152 = .ok (.aload_n 0, 1) := by decide +kernel
theorem dX12_readsStep_153 : decode cX12_readsStep 153 = .ok (.aload_n 0, 1) := by decide +kernel
theorem dX12_readsStep_154 : decode cX12_readsStep 154 = .ok (.getfield 118, 3) := by decide +kernel
theorem dX12_readsStep_157 : decode cX12_readsStep 157 = .ok (.invokevirtual 121, 3) := by decide +kernel
theorem dX12_readsStep_160 : decode cX12_readsStep 160 = .ok (.bipush 93, 2) := by decide +kernel
theorem dX12_readsStep_162 : decode cX12_readsStep 162 = .ok (.if_icmp .eq 14, 3) := by decide +kernel
theorem dX12_readsStep_165 : decode cX12_readsStep 165 = .ok (.aload_n 0, 1) := by decide +kernel
theorem dX12_readsStep_166 : decode cX12_readsStep 166 = .ok (.invokevirtual 279, 3) := by decide +kernel
theorem dX12_readsStep_169 : decode cX12_readsStep 169 = .ok (.aload_n 0, 1) := by decide +kernel
theorem dX12_readsStep_170 : decode cX12_readsStep 170 = .ok (.invokevirtual 131, 3) := by decide +kernel
theorem dX12_readsStep_173 : decode cX12_readsStep 173 = .ok (.goto (-28), 3) := by decide +kernel
theorem dX12_readsStep_176 : decode cX12_readsStep 176 = .ok (.aload_n 0, 1) := by decide +kernel
theorem dX12_readsStep_177 : decode cX12_readsStep 177 = .ok (.bipush 93, 2) := by decide +kernel
theorem dX12_readsStep_179 : decode cX12_readsStep 179 = .ok (.invokevirtual 187, 3) := by decide +kernel
theorem dX12_readsStep_182 : decode cX12_readsStep 182 = .ok (.aload_n 0, 1) := by decide +kernel
theorem dX12_readsStep_183 : decode cX12_readsStep 183 = .ok (.dup, 1) := by decide +kernel
theorem dX12_readsStep_184 : decode cX12_readsStep 184 = .ok (.getfield 168, 3) := by decide +kernel
theorem dX12_readsStep_187 : decode cX12_readsStep 187 = .ok (.iconst 1, 1) := by decide +kernel
theorem dX12_readsStep_188 : decode cX12_readsStep 188 = .ok (.isub, 1) := by decide +kernel
theorem dX12_readsStep_189 : decode cX12_readsStep 189 = .ok (.putfield 168, 3) := by decide +kernel
theorem dX12_readsStep_192 : decode cX12_readsStep 192 = .ok (.aload_n 2, 1) := by decide +kernel
theorem dX12_readsStep_193 : decode cX12_readsStep 193 = .ok (.iconst 4, 1) := by decide +kernel
theorem dX12_readsStep_194 : decode cX12_readsStep 194 = .ok (.aload_n 0, 1) := by decide +kernel
theorem dX12_readsStep_195 : decode cX12_readsStep 195 = .ok (.getfield 273, 3) := by decide +kernel
theorem dX12_readsStep_198 : decode cX12_readsStep 198 = .ok (.iastore, 1) := by decide +kernel
theorem dX12_readsStep_199 : decode cX12_readsStep 199 = .ok (.aload_n 0, 1) := by decide +kernel
theorem dX12_readsStep_200 : decode cX12_readsStep 200 = .ok (.bipush 59, 2) := by decide +kernel
theorem dX12_readsStep_202 : decode cX12_readsStep 202 = .ok (.invokevirtual 187, 3) := by decide +kernel
theorem dX12_readsStep_205 : decode cX12_readsStep 205 = .ok (.return_, 1) := by decide +kernel
theorem dX12_starts_0 : decode cX12_starts 0 = .ok (.aload_n 0, 1) := by decide +kernel
theorem dX12_starts_1 : decode cX12_starts 1 = .ok (.iconst 0, 1) := by decide +kernel
theorem dX12_starts_2 : decode cX12_starts 2 = .ok (.putfield 112, 3) := by decide +kernel
theorem dX12_starts_5 : decode cX12_starts 5 = .ok (.aload_n 0, 1) := by decide +kernel
theorem dX12_starts_6 : decode cX12_starts 6 = .ok (.iload_n 1, 1) := by decide +kernel
theorem dX12_starts_7 : decode cX12_starts 7 = .ok (.putfield 115, 3) := by decide +kernel
theorem dX12_starts_10 : decode cX12_starts 10 = .ok (.aload_n 0, 1) := by decide +kernel
theorem dX12_starts_11 : decode cX12_starts 11 = .ok (.iconst 0, 1) := by decide +kernel
theorem dX12_starts_12 : decode cX12_starts 12 = .ok (.putfield 118, 3) := by decide +kernel
theorem dX12_starts_15 : decode cX12_starts 15 = .ok (.aload_n 0, 1) := by decide +kernel
theorem dX12_starts_16 : decode cX12_starts 16 = .ok (.iconst 0, 1) := by decide +kernel
theorem dX12_starts_17 : decode cX12_starts 17 = .ok (.putfield 125, 3) := by decide +kernel
theorem dX12_starts_20 : decode cX12_starts 20 = .ok (.aload_n 0, 1) := by decide +kernel
theorem dX12_starts_21 : decode cX12_starts 21 = .ok (.iconst (-1), 1) := by decide +kernel
theorem dX12_starts_22 : decode cX12_starts 22 = .ok (.putfield 128, 3) := by decide +kernel
theorem dX12_starts_25 : decode cX12_starts 25 = .ok (.aload_n 0, 1) := by decide +kernel
theorem dX12_starts_26 : decode cX12_starts 26 = .ok (.iconst 0, 1) := by decide +kernel
theorem dX12_starts_27 : decode cX12_starts 27 = .ok (.putfield 165, 3) := by decide +kernel
theorem dX12_starts_30 : decode cX12_starts 30 = .ok (.aload_n 0, 1) := by decide +kernel
theorem dX12_starts_31 : decode cX12_starts 31 = .ok (.iconst 0, 1) := by decide +kernel
theorem dX12_starts_32 : decode cX12_starts 32 = .ok (.putfield 168, 3) := by decide +kernel
theorem dX12_starts_35 : decode cX12_starts 35 = .ok (.aload_n 0, 1) := by decide +kernel
theorem dX12_starts_36 : decode cX12_starts 36 = .ok (.invokevirtual 131, 3) := by decide +kernel
theorem dX12_starts_39 : decode cX12_starts 39 = .ok (.return_, 1) := by decide +kernel
theorem dX12_ends_0 : decode cX12_ends 0 = .ok (.aload_n 0, 1) := by decide +kernel
theorem dX12_ends_1 : decode cX12_ends 1 = .ok (.aload_n 0, 1) := by decide +kernel
theorem dX12_ends_2 : decode cX12_ends 2 = .ok (.getfield 128, 3) := by decide +kernel
theorem dX12_ends_5 : decode cX12_ends 5 = .ok (.putfield 9, 3) := by decide +kernel
theorem dX12_ends_8 : decode cX12_ends 8 = .ok (.aload_n 0, 1) := by decide +kernel
theorem dX12_ends_9 : decode cX12_ends 9 = .ok (.getfield 125, 3) := by decide +kernel
theorem dX12_ends_12 : decode cX12_ends 12 = .ok (.bipush 10, 2) := by decide +kernel
theorem dX12_ends_14 : decode cX12_ends 14 = .ok (.isub, 1) := by decide +kernel
theorem dX12_ends_15 : decode cX12_ends 15 = .ok (.ireturn, 1) := by decide +kernel
noncomputable def r_X12_byteAt (x1 : Int32) (m : Mem) : Option Int32 :=
  if x1 < (m 12 0 2) then (if inb x1 600 = true then (some (m 49 0 x1.toNatClampNeg)) else none) else (some (-1))
set_option maxHeartbeats 4000000 in
set_option maxRecDepth 20000 in
theorem ok_X12_byteAt (x1 : Int32) (m : Mem) {z : Int32} (h : r_X12_byteAt x1 m = some z) : Mt yX12_byteAt cX12_byteAt 2 (some .int) 1 0 0 0 [vR 12 0, vI x1] m (oI z) m := by
  refine Mt.of (by decide) (Nat.le_of_ble_eq_true rfl) (by decide +kernel) (hhF_ne (by decide)) ?_
  show Xj RX12 cX12_byteAt 2 (some .int) 1 0 0 0 0 0 0 [(0, vR 12 0), (1, vI x1)] [] m (oI z) m
  unfold r_X12_byteAt at h
  refine xj_iload_n 1 dX12_byteAt_0 rfl ?_
  refine xj_aload_n 0 dX12_byteAt_1 rfl ?_
  refine xg_getI (x := (m 12 0 2)) dX12_byteAt_2 fl_X12_115 rfl rfl ?_
  refine xj_icmp_lt (tgt := 12) dX12_byteAt_5 (by decide) (fun c1 => ?_) (fun c1 => ?_)
  · rw [if_pos c1] at h
    refine xj_aload_n 0 dX12_byteAt_12 rfl ?_
    refine xg_getR (k' := 49) (i' := 0) dX12_byteAt_13 fl_X12_13 rfl ?_
    refine xj_iload_n 1 dX12_byteAt_16 rfl ?_
    by_cases c2 : inb x1 600 = true
    case neg => rw [if_neg c2] at h; cases h
    rw [if_pos c2] at h
    refine xg_iald (z := (m 49 0 x1.toNatClampNeg)) (n := x1.toNatClampNeg) dX12_byteAt_17 rfl (by decide) (inb_in c2) rfl rfl ?_
    cases h
    exact xj_ireturn dX12_byteAt_18 rfl (by decide) (by decide)
  · rw [if_neg c1] at h
    refine xj_iconst (z := (-1)) dX12_byteAt_8 (by decide) ?_
    refine xj_goto (tgt := 18) dX12_byteAt_9 (by decide) ?_
    cases h
    exact xj_ireturn dX12_byteAt_18 rfl (by decide) (by decide)
noncomputable def r_X12_blanks_b0 (m : Mem) : Option ((Mem) ⊕ (Mem)) :=
  bd1 (r_X12_byteAt (m 12 0 4) m) fun z2 => (if z2 = 32 then (some (Sum.inl (wr m 12 0 4 ((m 12 0 4) + 1)))) else (some (Sum.inr m)))
set_option maxHeartbeats 4000000 in
set_option maxRecDepth 20000 in
theorem ok_X12_blanks_b0 (m : Mem) {r : (Mem) ⊕ (Mem)} (h : r_X12_blanks_b0 m = some r) {o : Ou} {M' : Mem} (kb : ∀ (m'' : Mem), r = Sum.inl m'' → Xj RX12 cX12_blanks 1 none 2 21 0 0 0 0 0 [(0, vR 12 0)] [] m'' o M') (ke : ∀ (m'' : Mem), r = Sum.inr m'' → Xj RX12 cX12_blanks 1 none 2 21 0 0 0 0 26 [] [] m'' o M') : Xj RX12 cX12_blanks 1 none 2 21 0 0 0 0 0 [(0, vR 12 0)] [] m o M' := by
  unfold r_X12_blanks_b0 at h
  refine xj_aload_n 0 dX12_blanks_0 rfl ?_
  refine xj_aload_n 0 dX12_blanks_1 rfl ?_
  refine xg_getI (x := (m 12 0 4)) dX12_blanks_2 fl_X12_118 rfl rfl ?_
  obtain ⟨z2, e1, h⟩ := bd1_some h
  refine xc_Vi0 (st := []) (ok_X12_byteAt (m 12 0 4) m e1) dX12_blanks_5 cv_X12_121 rfl rfl (Nat.le_of_ble_eq_true rfl) (by decide) (by decide) (by decide) (by decide) ?_
  refine xj_bipush (z := 32) dX12_blanks_8 (by decide) ?_
  refine xj_icmp_ne (tgt := 26) dX12_blanks_10 (by decide) (fun c3 => ?_) (fun c3 => ?_)
  · rw [if_neg c3] at h
    cases h
    refine xj_pick (ls' := []) [] rfl ?_
    exact ke m rfl
  · rw [if_pos c3] at h
    refine xj_aload_n 0 dX12_blanks_13 rfl ?_
    refine xj_dup dX12_blanks_14 rfl ?_
    refine xg_getI (x := (m 12 0 4)) dX12_blanks_15 fl_X12_118 rfl rfl ?_
    refine xj_iconst (z := 1) dX12_blanks_18 (by decide) ?_
    refine xj_iadd dX12_blanks_19 ?_
    refine xj_putI dX12_blanks_20 fw_X12_118 rfl ?_
    refine xj_goto (tgt := 0) dX12_blanks_23 (by decide) ?_
    cases h
    exact kb (wr m 12 0 4 ((m 12 0 4) + 1)) rfl
noncomputable def r_X12_blanks_e26_h0 (m : Mem) : Option Mem :=
  some m
set_option maxHeartbeats 4000000 in
set_option maxRecDepth 20000 in
theorem ok_X12_blanks_e26_h0 (m : Mem) {m' : Mem} (h : r_X12_blanks_e26_h0 m = some m') : Xj RX12 cX12_blanks 1 none 2 21 0 0 0 0 26 [] [] m oV m' := by
  unfold r_X12_blanks_e26_h0 at h
  cases h
  exact xj_return dX12_blanks_26 (by decide) (by decide)
noncomputable def r_X12_blanks_l0 (m : Mem) : Option Mem :=
  bd1 (loopO (fun s => r_X12_blanks_b0 s) m) (fun e => r_X12_blanks_e26_h0 e)
set_option maxHeartbeats 4000000 in
set_option maxRecDepth 20000 in
theorem ok_X12_blanks_l0 (m : Mem) {m' : Mem} (h : r_X12_blanks_l0 m = some m') : Xj RX12 cX12_blanks 1 none 2 21 0 0 0 0 0 [(0, vR 12 0)] [] m oV m' := by
  unfold r_X12_blanks_l0 at h
  obtain ⟨e, e1, h⟩ := bd1_some h
  refine loopO_ok (P := fun s : (Mem) => Xj RX12 cX12_blanks 1 none 2 21 0 0 0 0 0 [(0, vR 12 0)] [] s oV m') (Q := fun e : (Mem) => Xj RX12 cX12_blanks 1 none 2 21 0 0 0 0 26 [] [] e oV m') ?_ _ _ e1 ?_
  · intro s r9 h9 hi hx
    exact ok_X12_blanks_b0 s h9 (by rintro _ rfl; exact hi _ rfl) (by rintro _ rfl; exact hx _ rfl)
  · exact ok_X12_blanks_e26_h0 e h 
noncomputable def r_X12_blanks (m : Mem) : Option Mem :=
  r_X12_blanks_l0 m
set_option maxHeartbeats 4000000 in
set_option maxRecDepth 20000 in
theorem ok_X12_blanks (m : Mem) {m' : Mem} (h : r_X12_blanks m = some m') : Mt yX12_blanks cX12_blanks 1 none 2 21 0 0 [vR 12 0] m oV m' := by
  refine Mt.of (by decide) (Nat.le_of_ble_eq_true rfl) (by decide +kernel) (hhF_ne (by decide)) ?_
  show Xj RX12 cX12_blanks 1 none 2 21 0 0 0 0 0 [(0, vR 12 0)] [] m oV m'
  unfold r_X12_blanks at h
  exact ok_X12_blanks_l0 m h 
noncomputable def r_X12_wrong (x1 : Int32) (x2 : Int32) (m : Mem) : Option Mem :=
  if (m 12 0 5) = 0 then (some (wr (wr m 12 0 5 x1) 12 0 6 x2)) else (some m)
set_option maxHeartbeats 4000000 in
set_option maxRecDepth 20000 in
theorem ok_X12_wrong (x1 : Int32) (x2 : Int32) (m : Mem) {m' : Mem} (h : r_X12_wrong x1 x2 m = some m') : Mt yX12_wrong cX12_wrong 3 none 1 0 0 0 [vR 12 0, vI x1, vI x2] m oV m' := by
  refine Mt.of (by decide) (Nat.le_of_ble_eq_true rfl) (by decide +kernel) (hhF_ne (by decide)) ?_
  show Xj RX12 cX12_wrong 3 none 1 0 0 0 0 0 0 [(0, vR 12 0), (1, vI x1), (2, vI x2)] [] m oV m'
  unfold r_X12_wrong at h
  refine xj_aload_n 0 dX12_wrong_0 rfl ?_
  refine xg_getI (x := (m 12 0 5)) dX12_wrong_1 fl_X12_125 rfl rfl ?_
  refine xj_if_ne (tgt := 17) dX12_wrong_4 (by decide) (fun c1 => ?_) (fun c1 => ?_)
  · rw [if_neg c1] at h
    cases h
    exact xj_return dX12_wrong_17 (by decide) (by decide)
  · rw [if_pos c1] at h
    refine xj_aload_n 0 dX12_wrong_7 rfl ?_
    refine xj_iload_n 1 dX12_wrong_8 rfl ?_
    refine xj_putI dX12_wrong_9 fw_X12_125 rfl ?_
    refine xj_aload_n 0 dX12_wrong_12 rfl ?_
    refine xj_iload_n 2 dX12_wrong_13 rfl ?_
    refine xj_putI dX12_wrong_14 fw_X12_128 rfl ?_
    cases h
    exact xj_return dX12_wrong_17 (by decide) (by decide)
noncomputable def r_X12_sign (x1 : Int32) (m : Mem) : Option Mem :=
  if (m 12 0 5) = 0 then (bd1 (r_X12_blanks m) fun m3 => (bd1 (r_X12_byteAt (m3 12 0 4) m3) fun z5 => (if z5 = x1 then (some (wr m3 12 0 4 ((m3 12 0 4) + 1))) else (bd1 (r_X12_wrong 1 (m3 12 0 4) m3) fun m8 => (some m8))))) else (some m)
set_option maxHeartbeats 4000000 in
set_option maxRecDepth 20000 in
theorem ok_X12_sign (x1 : Int32) (m : Mem) {m' : Mem} (h : r_X12_sign x1 m = some m') : Mt yX12_sign cX12_sign 2 none 3 41 0 0 [vR 12 0, vI x1] m oV m' := by
  refine Mt.of (by decide) (Nat.le_of_ble_eq_true rfl) (by decide +kernel) (hhF_ne (by decide)) ?_
  show Xj RX12 cX12_sign 2 none 3 41 0 0 0 0 0 [(0, vR 12 0), (1, vI x1)] [] m oV m'
  unfold r_X12_sign at h
  refine xj_aload_n 0 dX12_sign_0 rfl ?_
  refine xg_getI (x := (m 12 0 5)) dX12_sign_1 fl_X12_125 rfl rfl ?_
  refine xj_if_eq (tgt := 8) dX12_sign_4 (by decide) (fun c1 => ?_) (fun c1 => ?_)
  · rw [if_pos c1] at h
    refine xj_aload_n 0 dX12_sign_8 rfl ?_
    obtain ⟨m3, e2, h⟩ := bd1_some h
    refine xc_Vv0 (st := []) (ok_X12_blanks m e2) dX12_sign_9 cv_X12_131 rfl rfl (Nat.le_of_ble_eq_true rfl) (by decide) (by decide) (by decide) (by decide) ?_
    refine xj_aload_n 0 dX12_sign_12 rfl ?_
    refine xj_aload_n 0 dX12_sign_13 rfl ?_
    refine xg_getI (x := (m3 12 0 4)) dX12_sign_14 fl_X12_118 rfl rfl ?_
    obtain ⟨z5, e4, h⟩ := bd1_some h
    refine xc_Vi0 (st := []) (ok_X12_byteAt (m3 12 0 4) m3 e4) dX12_sign_17 cv_X12_121 rfl rfl (Nat.le_of_ble_eq_true rfl) (by decide) (by decide) (by decide) (by decide) ?_
    refine xj_iload_n 1 dX12_sign_20 rfl ?_
    refine xj_icmp_ne (tgt := 37) dX12_sign_21 (by decide) (fun c6 => ?_) (fun c6 => ?_)
    · rw [if_neg c6] at h
      refine xj_aload_n 0 dX12_sign_37 rfl ?_
      refine xj_iconst (z := 1) dX12_sign_38 (by decide) ?_
      refine xj_aload_n 0 dX12_sign_39 rfl ?_
      refine xg_getI (x := (m3 12 0 4)) dX12_sign_40 fl_X12_118 rfl rfl ?_
      obtain ⟨m8, e7, h⟩ := bd1_some h
      refine xc_Vv0 (st := []) (ok_X12_wrong 1 (m3 12 0 4) m3 e7) dX12_sign_43 cv_X12_138 rfl rfl (Nat.le_of_ble_eq_true rfl) (by decide) (by decide) (by decide) (by decide) ?_
      cases h
      exact xj_return dX12_sign_46 (by decide) (by decide)
    · rw [if_pos c6] at h
      refine xj_aload_n 0 dX12_sign_24 rfl ?_
      refine xj_dup dX12_sign_25 rfl ?_
      refine xg_getI (x := (m3 12 0 4)) dX12_sign_26 fl_X12_118 rfl rfl ?_
      refine xj_iconst (z := 1) dX12_sign_29 (by decide) ?_
      refine xj_iadd dX12_sign_30 ?_
      refine xj_putI dX12_sign_31 fw_X12_118 rfl ?_
      refine xj_goto (tgt := 46) dX12_sign_34 (by decide) ?_
      cases h
      exact xj_return dX12_sign_46 (by decide) (by decide)
  · rw [if_neg c1] at h
    cases h
    exact xj_return dX12_sign_7 (by decide) (by decide)
noncomputable def r_X12_isDigit (x0 : Int32) : Bool :=
  if x0 < 48 then (false) else (if 57 < x0 then (false) else (true))
set_option maxHeartbeats 4000000 in
set_option maxRecDepth 20000 in
theorem ok_X12_isDigit (x0 : Int32) (m : Mem) {z : Bool} (h : r_X12_isDigit x0 = z) : Mt yX12_isDigit cX12_isDigit 1 (some .boolean) 1 0 0 0 [vI x0] m (oB z) m := by
  refine Mt.of (by decide) (Nat.le_of_ble_eq_true rfl) (by decide +kernel) (hhF_ne (by decide)) ?_
  show Xj RX12 cX12_isDigit 1 (some .boolean) 1 0 0 0 0 0 0 [(0, vI x0)] [] m (oB z) m
  unfold r_X12_isDigit at h
  refine xj_iload_n 0 dX12_isDigit_0 rfl ?_
  refine xj_bipush (z := 48) dX12_isDigit_1 (by decide) ?_
  refine xj_icmp_lt (tgt := 16) dX12_isDigit_3 (by decide) (fun c1 => ?_) (fun c1 => ?_)
  · rw [if_pos c1] at h
    refine xj_iconst (z := 0) dX12_isDigit_16 (by decide) ?_
    subst h
    exact xj_ireturn dX12_isDigit_17 rfl (by decide) (by decide)
  · rw [if_neg c1] at h
    refine xj_iload_n 0 dX12_isDigit_6 rfl ?_
    refine xj_bipush (z := 57) dX12_isDigit_7 (by decide) ?_
    refine xj_icmp_gt (tgt := 16) dX12_isDigit_9 (by decide) (fun c2 => ?_) (fun c2 => ?_)
    · rw [if_pos c2] at h
      refine xj_iconst (z := 0) dX12_isDigit_16 (by decide) ?_
      subst h
      exact xj_ireturn dX12_isDigit_17 rfl (by decide) (by decide)
    · rw [if_neg c2] at h
      refine xj_iconst (z := 1) dX12_isDigit_12 (by decide) ?_
      refine xj_goto (tgt := 17) dX12_isDigit_13 (by decide) ?_
      subst h
      exact xj_ireturn dX12_isDigit_17 rfl (by decide) (by decide)
noncomputable def r_X12_in (x0 : Int32) (x1 : Int32) (x2 : Int32) : Bool :=
  if x0 < x1 then (false) else (if x2 < x0 then (false) else (true))
set_option maxHeartbeats 4000000 in
set_option maxRecDepth 20000 in
theorem ok_X12_in (x0 : Int32) (x1 : Int32) (x2 : Int32) (m : Mem) {z : Bool} (h : r_X12_in x0 x1 x2 = z) : Mt yX12_in cX12_in 3 (some .boolean) 1 0 0 0 [vI x0, vI x1, vI x2] m (oB z) m := by
  refine Mt.of (by decide) (Nat.le_of_ble_eq_true rfl) (by decide +kernel) (hhF_ne (by decide)) ?_
  show Xj RX12 cX12_in 3 (some .boolean) 1 0 0 0 0 0 0 [(0, vI x0), (1, vI x1), (2, vI x2)] [] m (oB z) m
  unfold r_X12_in at h
  refine xj_iload_n 0 dX12_in_0 rfl ?_
  refine xj_iload_n 1 dX12_in_1 rfl ?_
  refine xj_icmp_lt (tgt := 14) dX12_in_2 (by decide) (fun c1 => ?_) (fun c1 => ?_)
  · rw [if_pos c1] at h
    refine xj_iconst (z := 0) dX12_in_14 (by decide) ?_
    subst h
    exact xj_ireturn dX12_in_15 rfl (by decide) (by decide)
  · rw [if_neg c1] at h
    refine xj_iload_n 0 dX12_in_5 rfl ?_
    refine xj_iload_n 2 dX12_in_6 rfl ?_
    refine xj_icmp_gt (tgt := 14) dX12_in_7 (by decide) (fun c2 => ?_) (fun c2 => ?_)
    · rw [if_pos c2] at h
      refine xj_iconst (z := 0) dX12_in_14 (by decide) ?_
      subst h
      exact xj_ireturn dX12_in_15 rfl (by decide) (by decide)
    · rw [if_neg c2] at h
      refine xj_iconst (z := 1) dX12_in_10 (by decide) ?_
      refine xj_goto (tgt := 15) dX12_in_11 (by decide) ?_
      subst h
      exact xj_ireturn dX12_in_15 rfl (by decide) (by decide)
noncomputable def r_X12_number_j91_c44 (x1 : Int32) (x2 : Int32) (x3 : Int32) (s0 : Int32) (m : Mem) : Option ((Int32 × Mem) ⊕ (Int32 × Mem)) :=
  some (Sum.inl (s0, (wr m 12 0 4 ((m 12 0 4) + 1))))
set_option maxHeartbeats 4000000 in
set_option maxRecDepth 20000 in
theorem ok_X12_number_j91_c44 (x1 : Int32) (x2 : Int32) (x3 : Int32) (s0 : Int32) (m : Mem) {r : (Int32 × Mem) ⊕ (Int32 × Mem)} (h : r_X12_number_j91_c44 x1 x2 x3 s0 m = some r) {o : Ou} {M' : Mem} (kb : ∀ (x4' : Int32) (m'' : Mem), r = Sum.inl (x4', m'') → Xj RX12 cX12_number 5 (some .int) 3 41 0 0 0 0 44 [(0, vR 12 0), (1, vI x1), (2, vI x2), (3, vI x3), (4, vI x4')] [] m'' o M') (ke : ∀ (x4' : Int32) (m'' : Mem), r = Sum.inr (x4', m'') → Xj RX12 cX12_number 5 (some .int) 3 41 0 0 0 0 106 [(0, vR 12 0), (1, vI x1), (2, vI x2), (3, vI x3), (4, vI x4')] [] m'' o M') : Xj RX12 cX12_number 5 (some .int) 3 41 0 0 0 0 91 [(0, vR 12 0), (1, vI x1), (2, vI x2), (3, vI x3)] [vI s0] m o M' := by
  unfold r_X12_number_j91_c44 at h
  refine xj_istore (ls' := [(4, vI s0), (0, vR 12 0), (1, vI x1), (2, vI x2), (3, vI x3)]) dX12_number_91 (by decide) rfl ?_
  refine xj_aload_n 1 dX12_number_93 rfl ?_
  refine xj_dup dX12_number_94 rfl ?_
  refine xg_getI (x := (m 12 0 4)) dX12_number_95 fl_X12_118 rfl rfl ?_
  refine xj_iconst (z := 1) dX12_number_98 (by decide) ?_
  refine xj_iadd dX12_number_99 ?_
  refine xj_putI dX12_number_100 fw_X12_118 rfl ?_
  refine xj_goto (tgt := 44) dX12_number_103 (by decide) ?_
  cases h
  refine xj_pick (ls' := [(0, vR 12 0), (1, vI x1), (2, vI x2), (3, vI x3), (4, vI s0)]) [1, 2, 3, 4, 0] rfl ?_
  exact kb s0 (wr m 12 0 4 ((m 12 0 4) + 1)) rfl
noncomputable def r_X12_number_b44 (x1 : Int32) (x2 : Int32) (x3 : Int32) (x4 : Int32) (m : Mem) : Option ((Int32 × Mem) ⊕ (Int32 × Mem)) :=
  bd1 (r_X12_byteAt (m 12 0 4) m) fun z8 => (if (r_X12_isDigit z8) = true then (bd1 (r_X12_byteAt (m 12 0 4) m) fun z11 => (if (((10 * x4) + z11) - 48) ≤ 100000 then (r_X12_number_j91_c44 x1 x2 x3 (((10 * x4) + z11) - 48) m) else (r_X12_number_j91_c44 x1 x2 x3 100000 m))) else (some (Sum.inr (x4, m))))
set_option maxHeartbeats 4000000 in
set_option maxRecDepth 20000 in
theorem ok_X12_number_b44 (x1 : Int32) (x2 : Int32) (x3 : Int32) (x4 : Int32) (m : Mem) {r : (Int32 × Mem) ⊕ (Int32 × Mem)} (h : r_X12_number_b44 x1 x2 x3 x4 m = some r) {o : Ou} {M' : Mem} (kb : ∀ (x4' : Int32) (m'' : Mem), r = Sum.inl (x4', m'') → Xj RX12 cX12_number 5 (some .int) 3 41 0 0 0 0 44 [(0, vR 12 0), (1, vI x1), (2, vI x2), (3, vI x3), (4, vI x4')] [] m'' o M') (ke : ∀ (x4' : Int32) (m'' : Mem), r = Sum.inr (x4', m'') → Xj RX12 cX12_number 5 (some .int) 3 41 0 0 0 0 106 [(0, vR 12 0), (1, vI x1), (2, vI x2), (3, vI x3), (4, vI x4')] [] m'' o M') : Xj RX12 cX12_number 5 (some .int) 3 41 0 0 0 0 44 [(0, vR 12 0), (1, vI x1), (2, vI x2), (3, vI x3), (4, vI x4)] [] m o M' := by
  unfold r_X12_number_b44 at h
  refine xj_aload_n 0 dX12_number_44 rfl ?_
  refine xj_aload_n 0 dX12_number_45 rfl ?_
  refine xg_getI (x := (m 12 0 4)) dX12_number_46 fl_X12_118 rfl rfl ?_
  obtain ⟨z8, e7, h⟩ := bd1_some h
  refine xc_Vi0 (st := []) (ok_X12_byteAt (m 12 0 4) m e7) dX12_number_49 cv_X12_121 rfl rfl (Nat.le_of_ble_eq_true rfl) (by decide) (by decide) (by decide) (by decide) ?_
  refine xc_Sb0 (st := []) (ok_X12_isDigit z8 m rfl) dX12_number_52 cs_X12_134 rfl rfl (Nat.le_of_ble_eq_true rfl) (by decide) (by decide) (by decide) (by decide) ?_
  refine xj_if_eq (tgt := 106) dX12_number_55 (by decide) (fun c9 => ?_) (fun c9 => ?_)
  · rw [if_neg (b2i_f c9)] at h
    cases h
    exact ke x4 m rfl
  · rw [if_pos (b2i_t c9)] at h
    refine xj_bipush (z := 10) dX12_number_58 (by decide) ?_
    refine xj_iload 4 dX12_number_60 rfl ?_
    refine xj_imul dX12_number_62 ?_
    refine xj_aload_n 0 dX12_number_63 rfl ?_
    refine xj_aload_n 0 dX12_number_64 rfl ?_
    refine xg_getI (x := (m 12 0 4)) dX12_number_65 fl_X12_118 rfl rfl ?_
    obtain ⟨z11, e10, h⟩ := bd1_some h
    refine xc_Vi0 (st := [vI (10 * x4)]) (ok_X12_byteAt (m 12 0 4) m e10) dX12_number_68 cv_X12_121 rfl rfl (Nat.le_of_ble_eq_true rfl) (by decide) (by decide) (by decide) (by decide) ?_
    refine xj_iadd dX12_number_71 ?_
    refine xj_bipush (z := 48) dX12_number_72 (by decide) ?_
    refine xj_isub dX12_number_74 ?_
    refine xj_istore (ls' := [(4, vI (((10 * x4) + z11) - 48)), (0, vR 12 0), (1, vI x1), (2, vI x2), (3, vI x3)]) dX12_number_75 (by decide) rfl ?_
    refine xj_iload 0 dX12_number_77 rfl ?_
    refine xj_ldc (z := 100000) dX12_number_79 wt_1639 ?_
    refine xj_icmp_le (tgt := 89) dX12_number_81 (by decide) (fun c12 => ?_) (fun c12 => ?_)
    · rw [if_pos c12] at h
      refine xj_iload 0 dX12_number_89 rfl ?_
      refine xj_pick (ls' := [(0, vR 12 0), (1, vI x1), (2, vI x2), (3, vI x3)]) [1, 2, 3, 4] rfl ?_
      exact ok_X12_number_j91_c44 x1 x2 x3 (((10 * x4) + z11) - 48) m h kb ke
    · rw [if_neg c12] at h
      refine xj_ldc (z := 100000) dX12_number_84 wt_1639 ?_
      refine xj_goto (tgt := 91) dX12_number_86 (by decide) ?_
      refine xj_pick (ls' := [(0, vR 12 0), (1, vI x1), (2, vI x2), (3, vI x3)]) [1, 2, 3, 4] rfl ?_
      exact ok_X12_number_j91_c44 x1 x2 x3 100000 m h kb ke
noncomputable def r_X12_number_j122 (x4 : Int32) (m : Mem) : Option (Int32 × Mem) :=
  if (m 12 0 5) = 0 then (some (x4, m)) else (some (0, m))
set_option maxHeartbeats 4000000 in
set_option maxRecDepth 20000 in
theorem ok_X12_number_j122 (x4 : Int32) (m : Mem) {z : Int32} {m' : Mem} (h : r_X12_number_j122 x4 m = some (z, m')) : Xj RX12 cX12_number 5 (some .int) 3 41 0 0 0 0 122 [(0, vR 12 0), (4, vI x4)] [] m (oI z) m' := by
  unfold r_X12_number_j122 at h
  refine xj_aload_n 0 dX12_number_122 rfl ?_
  refine xg_getI (x := (m 12 0 5)) dX12_number_123 fl_X12_125 rfl rfl ?_
  refine xj_if_ne (tgt := 134) dX12_number_126 (by decide) (fun c14 => ?_) (fun c14 => ?_)
  · rw [if_neg c14] at h
    refine xj_iconst (z := 0) dX12_number_134 (by decide) ?_
    cases h
    exact xj_ireturn dX12_number_135 rfl (by decide) (by decide)
  · rw [if_pos c14] at h
    refine xj_iload 1 dX12_number_129 rfl ?_
    refine xj_goto (tgt := 135) dX12_number_131 (by decide) ?_
    cases h
    exact xj_ireturn dX12_number_135 rfl (by decide) (by decide)
noncomputable def r_X12_number_e106_h44 (x1 : Int32) (x2 : Int32) (x3 : Int32) (x4 : Int32) (m : Mem) : Option (Int32 × Mem) :=
  if (r_X12_in x4 x1 x2) = true then (r_X12_number_j122 x4 m) else (bd1 (r_X12_wrong 2 x3 m) fun m16 => (r_X12_number_j122 x4 m16))
set_option maxHeartbeats 4000000 in
set_option maxRecDepth 20000 in
theorem ok_X12_number_e106_h44 (x1 : Int32) (x2 : Int32) (x3 : Int32) (x4 : Int32) (m : Mem) {z : Int32} {m' : Mem} (h : r_X12_number_e106_h44 x1 x2 x3 x4 m = some (z, m')) : Xj RX12 cX12_number 5 (some .int) 3 41 0 0 0 0 106 [(0, vR 12 0), (1, vI x1), (2, vI x2), (3, vI x3), (4, vI x4)] [] m (oI z) m' := by
  unfold r_X12_number_e106_h44 at h
  refine xj_iload 4 dX12_number_106 rfl ?_
  refine xj_iload_n 1 dX12_number_108 rfl ?_
  refine xj_iload_n 2 dX12_number_109 rfl ?_
  refine xc_Sb0 (st := []) (ok_X12_in x4 x1 x2 m rfl) dX12_number_110 cs_X12_143 rfl rfl (Nat.le_of_ble_eq_true rfl) (by decide) (by decide) (by decide) (by decide) ?_
  refine xj_if_ne (tgt := 122) dX12_number_113 (by decide) (fun c13 => ?_) (fun c13 => ?_)
  · rw [if_pos (b2i_t c13)] at h
    refine xj_pick (ls' := [(0, vR 12 0), (4, vI x4)]) [0, 4] rfl ?_
    exact ok_X12_number_j122 x4 m h 
  · rw [if_neg (b2i_f c13)] at h
    refine xj_aload_n 0 dX12_number_116 rfl ?_
    refine xj_iconst (z := 2) dX12_number_117 (by decide) ?_
    refine xj_iload_n 3 dX12_number_118 rfl ?_
    obtain ⟨m16, e15, h⟩ := bd1_some h
    refine xc_Vv0 (st := []) (ok_X12_wrong 2 x3 m e15) dX12_number_119 cv_X12_138 rfl rfl (Nat.le_of_ble_eq_true rfl) (by decide) (by decide) (by decide) (by decide) ?_
    refine xj_pick (ls' := [(0, vR 12 0), (4, vI x4)]) [0, 4] rfl ?_
    exact ok_X12_number_j122 x4 m16 h 
noncomputable def r_X12_number_l44 (x1 : Int32) (x2 : Int32) (x3 : Int32) (x4 : Int32) (m : Mem) : Option (Int32 × Mem) :=
  bd1 (loopO (fun s => r_X12_number_b44 x1 x2 x3 s.1 s.2) (x4, m)) (fun e => r_X12_number_e106_h44 x1 x2 x3 e.1 e.2)
set_option maxHeartbeats 4000000 in
set_option maxRecDepth 20000 in
theorem ok_X12_number_l44 (x1 : Int32) (x2 : Int32) (x3 : Int32) (x4 : Int32) (m : Mem) {z : Int32} {m' : Mem} (h : r_X12_number_l44 x1 x2 x3 x4 m = some (z, m')) : Xj RX12 cX12_number 5 (some .int) 3 41 0 0 0 0 44 [(0, vR 12 0), (1, vI x1), (2, vI x2), (3, vI x3), (4, vI x4)] [] m (oI z) m' := by
  unfold r_X12_number_l44 at h
  obtain ⟨e, e1, h⟩ := bd1_some h
  refine loopO_ok (P := fun s : (Int32 × Mem) => Xj RX12 cX12_number 5 (some .int) 3 41 0 0 0 0 44 [(0, vR 12 0), (1, vI x1), (2, vI x2), (3, vI x3), (4, vI s.1)] [] s.2 (oI z) m') (Q := fun e : (Int32 × Mem) => Xj RX12 cX12_number 5 (some .int) 3 41 0 0 0 0 106 [(0, vR 12 0), (1, vI x1), (2, vI x2), (3, vI x3), (4, vI e.1)] [] e.2 (oI z) m') ?_ _ _ e1 ?_
  · intro s r9 h9 hi hx
    exact ok_X12_number_b44 x1 x2 x3 s.1 s.2 h9 (by rintro _ _ rfl; exact hi _ rfl) (by rintro _ _ rfl; exact hx _ rfl)
  · exact ok_X12_number_e106_h44 x1 x2 x3 e.1 e.2 h 
noncomputable def r_X12_number (x1 : Int32) (x2 : Int32) (m : Mem) : Option (Int32 × Mem) :=
  if (m 12 0 5) = 0 then (bd1 (r_X12_blanks m) fun m3 => (bd1 (r_X12_byteAt (m3 12 0 4) m3) fun z5 => (if (r_X12_isDigit z5) = true then (r_X12_number_l44 x1 x2 (m3 12 0 4) 0 m3) else (bd1 (r_X12_wrong 1 (m3 12 0 4) m3) fun m18 => (r_X12_number_l44 x1 x2 (m3 12 0 4) 0 m18))))) else (some (0, m))
set_option maxHeartbeats 4000000 in
set_option maxRecDepth 20000 in
theorem ok_X12_number (x1 : Int32) (x2 : Int32) (m : Mem) {z : Int32} {m' : Mem} (h : r_X12_number x1 x2 m = some (z, m')) : Mt yX12_number cX12_number 5 (some .int) 3 41 0 0 [vR 12 0, vI x1, vI x2] m (oI z) m' := by
  refine Mt.of (by decide) (Nat.le_of_ble_eq_true rfl) (by decide +kernel) (hhF_ne (by decide)) ?_
  show Xj RX12 cX12_number 5 (some .int) 3 41 0 0 0 0 0 [(0, vR 12 0), (1, vI x1), (2, vI x2)] [] m (oI z) m'
  unfold r_X12_number at h
  refine xj_aload_n 0 dX12_number_0 rfl ?_
  refine xg_getI (x := (m 12 0 5)) dX12_number_1 fl_X12_125 rfl rfl ?_
  refine xj_if_eq (tgt := 9) dX12_number_4 (by decide) (fun c1 => ?_) (fun c1 => ?_)
  · rw [if_pos c1] at h
    refine xj_aload_n 0 dX12_number_9 rfl ?_
    obtain ⟨m3, e2, h⟩ := bd1_some h
    refine xc_Vv0 (st := []) (ok_X12_blanks m e2) dX12_number_10 cv_X12_131 rfl rfl (Nat.le_of_ble_eq_true rfl) (by decide) (by decide) (by decide) (by decide) ?_
    refine xj_aload_n 0 dX12_number_13 rfl ?_
    refine xg_getI (x := (m3 12 0 4)) dX12_number_14 fl_X12_118 rfl rfl ?_
    refine xj_istore_n (ls' := [(3, vI (m3 12 0 4)), (0, vR 12 0), (1, vI x1), (2, vI x2)]) dX12_number_17 rfl (by decide) rfl ?_
    refine xj_iconst (z := 0) dX12_number_18 (by decide) ?_
    refine xj_istore (ls' := [(4, vI 0), (3, vI (m3 12 0 4)), (0, vR 12 0), (1, vI x1), (2, vI x2)]) dX12_number_19 (by decide) rfl ?_
    refine xj_aload_n 2 dX12_number_21 rfl ?_
    refine xj_aload_n 2 dX12_number_22 rfl ?_
    refine xg_getI (x := (m3 12 0 4)) dX12_number_23 fl_X12_118 rfl rfl ?_
    obtain ⟨z5, e4, h⟩ := bd1_some h
    refine xc_Vi0 (st := []) (ok_X12_byteAt (m3 12 0 4) m3 e4) dX12_number_26 cv_X12_121 rfl rfl (Nat.le_of_ble_eq_true rfl) (by decide) (by decide) (by decide) (by decide) ?_
    refine xc_Sb0 (st := []) (ok_X12_isDigit z5 m3 rfl) dX12_number_29 cs_X12_134 rfl rfl (Nat.le_of_ble_eq_true rfl) (by decide) (by decide) (by decide) (by decide) ?_
    refine xj_if_ne (tgt := 44) dX12_number_32 (by decide) (fun c6 => ?_) (fun c6 => ?_)
    · rw [if_pos (b2i_t c6)] at h
      refine xj_pick (ls' := [(0, vR 12 0), (1, vI x1), (2, vI x2), (3, vI (m3 12 0 4)), (4, vI 0)]) [2, 3, 4, 1, 0] rfl ?_
      exact ok_X12_number_l44 x1 x2 (m3 12 0 4) 0 m3 h 
    · rw [if_neg (b2i_f c6)] at h
      refine xj_aload_n 2 dX12_number_35 rfl ?_
      refine xj_iconst (z := 1) dX12_number_36 (by decide) ?_
      refine xj_aload_n 2 dX12_number_37 rfl ?_
      refine xg_getI (x := (m3 12 0 4)) dX12_number_38 fl_X12_118 rfl rfl ?_
      obtain ⟨m18, e17, h⟩ := bd1_some h
      refine xc_Vv0 (st := []) (ok_X12_wrong 1 (m3 12 0 4) m3 e17) dX12_number_41 cv_X12_138 rfl rfl (Nat.le_of_ble_eq_true rfl) (by decide) (by decide) (by decide) (by decide) ?_
      refine xj_pick (ls' := [(0, vR 12 0), (1, vI x1), (2, vI x2), (3, vI (m3 12 0 4)), (4, vI 0)]) [2, 3, 4, 1, 0] rfl ?_
      exact ok_X12_number_l44 x1 x2 (m3 12 0 4) 0 m18 h 
  · rw [if_neg c1] at h
    refine xj_iconst (z := 0) dX12_number_7 (by decide) ?_
    cases h
    exact xj_ireturn dX12_number_8 rfl (by decide) (by decide)
noncomputable def r_X12_isSmall (x0 : Int32) : Bool :=
  if x0 < 97 then (false) else (if 122 < x0 then (false) else (true))
set_option maxHeartbeats 4000000 in
set_option maxRecDepth 20000 in
theorem ok_X12_isSmall (x0 : Int32) (m : Mem) {z : Bool} (h : r_X12_isSmall x0 = z) : Mt yX12_isSmall cX12_isSmall 1 (some .boolean) 1 0 0 0 [vI x0] m (oB z) m := by
  refine Mt.of (by decide) (Nat.le_of_ble_eq_true rfl) (by decide +kernel) (hhF_ne (by decide)) ?_
  show Xj RX12 cX12_isSmall 1 (some .boolean) 1 0 0 0 0 0 0 [(0, vI x0)] [] m (oB z) m
  unfold r_X12_isSmall at h
  refine xj_iload_n 0 dX12_isSmall_0 rfl ?_
  refine xj_bipush (z := 97) dX12_isSmall_1 (by decide) ?_
  refine xj_icmp_lt (tgt := 16) dX12_isSmall_3 (by decide) (fun c1 => ?_) (fun c1 => ?_)
  · rw [if_pos c1] at h
    refine xj_iconst (z := 0) dX12_isSmall_16 (by decide) ?_
    subst h
    exact xj_ireturn dX12_isSmall_17 rfl (by decide) (by decide)
  · rw [if_neg c1] at h
    refine xj_iload_n 0 dX12_isSmall_6 rfl ?_
    refine xj_bipush (z := 122) dX12_isSmall_7 (by decide) ?_
    refine xj_icmp_gt (tgt := 16) dX12_isSmall_9 (by decide) (fun c2 => ?_) (fun c2 => ?_)
    · rw [if_pos c2] at h
      refine xj_iconst (z := 0) dX12_isSmall_16 (by decide) ?_
      subst h
      exact xj_ireturn dX12_isSmall_17 rfl (by decide) (by decide)
    · rw [if_neg c2] at h
      refine xj_iconst (z := 1) dX12_isSmall_12 (by decide) ?_
      refine xj_goto (tgt := 17) dX12_isSmall_13 (by decide) ?_
      subst h
      exact xj_ireturn dX12_isSmall_17 rfl (by decide) (by decide)
noncomputable def r_X12_wordHere_j54_c8 (x2 : Int32) (s0 : Int32) (m : Mem) : Option ((Int32 × Int32) ⊕ (Int32 × Int32)) :=
  some (Sum.inl (s0, x2 + 1))
set_option maxHeartbeats 4000000 in
set_option maxRecDepth 20000 in
theorem ok_X12_wordHere_j54_c8 (x2 : Int32) (s0 : Int32) (m : Mem) {r : (Int32 × Int32) ⊕ (Int32 × Int32)} (h : r_X12_wordHere_j54_c8 x2 s0 m = some r) {o : Ou} {M' : Mem} (kb : ∀ (x1' : Int32) (x2' : Int32), r = Sum.inl (x1', x2') → Xj RX12 cX12_wordHere 3 (some .int) 3 41 0 0 0 0 8 [(0, vR 12 0), (1, vI x1'), (2, vI x2')] [] m o M') (ke : ∀ (x1' : Int32) (x2' : Int32), r = Sum.inr (x1', x2') → Xj RX12 cX12_wordHere 3 (some .int) 3 41 0 0 0 0 61 [(1, vI x1'), (2, vI x2')] [] m o M') : Xj RX12 cX12_wordHere 3 (some .int) 3 41 0 0 0 0 54 [(0, vR 12 0), (2, vI x2)] [vI s0] m o M' := by
  unfold r_X12_wordHere_j54_c8 at h
  refine xj_istore_n (ls' := [(1, vI s0), (0, vR 12 0), (2, vI x2)]) dX12_wordHere_54 rfl (by decide) rfl ?_
  refine xj_iinc (z := x2 + 1) (ls' := [(2, vI (x2 + 1)), (1, vI s0), (0, vR 12 0)]) 2 dX12_wordHere_55 rfl rfl (by decide) rfl ?_
  refine xj_goto (tgt := 8) dX12_wordHere_58 (by decide) ?_
  cases h
  refine xj_pick (ls' := [(0, vR 12 0), (1, vI s0), (2, vI (x2 + 1))]) [2, 1, 0] rfl ?_
  exact kb s0 (x2 + 1) rfl
noncomputable def r_X12_wordHere_b8 (m : Mem) (x1 : Int32) (x2 : Int32) : Option ((Int32 × Int32) ⊕ (Int32 × Int32)) :=
  bd1 (r_X12_byteAt ((m 12 0 4) + x2) m) fun z4 => (if (r_X12_isSmall z4) = true then (if 6 ≤ x2 then (r_X12_wordHere_j54_c8 x2 x1 m) else (bd1 (r_X12_byteAt ((m 12 0 4) + x2) m) fun z8 => (r_X12_wordHere_j54_c8 x2 ((((27 * x1) + z8) - 97) + 1) m))) else (some (Sum.inr (x1, x2))))
set_option maxHeartbeats 4000000 in
set_option maxRecDepth 20000 in
theorem ok_X12_wordHere_b8 (m : Mem) (x1 : Int32) (x2 : Int32) {r : (Int32 × Int32) ⊕ (Int32 × Int32)} (h : r_X12_wordHere_b8 m x1 x2 = some r) {o : Ou} {M' : Mem} (kb : ∀ (x1' : Int32) (x2' : Int32), r = Sum.inl (x1', x2') → Xj RX12 cX12_wordHere 3 (some .int) 3 41 0 0 0 0 8 [(0, vR 12 0), (1, vI x1'), (2, vI x2')] [] m o M') (ke : ∀ (x1' : Int32) (x2' : Int32), r = Sum.inr (x1', x2') → Xj RX12 cX12_wordHere 3 (some .int) 3 41 0 0 0 0 61 [(1, vI x1'), (2, vI x2')] [] m o M') : Xj RX12 cX12_wordHere 3 (some .int) 3 41 0 0 0 0 8 [(0, vR 12 0), (1, vI x1), (2, vI x2)] [] m o M' := by
  unfold r_X12_wordHere_b8 at h
  refine xj_aload_n 0 dX12_wordHere_8 rfl ?_
  refine xj_aload_n 0 dX12_wordHere_9 rfl ?_
  refine xg_getI (x := (m 12 0 4)) dX12_wordHere_10 fl_X12_118 rfl rfl ?_
  refine xj_iload_n 2 dX12_wordHere_13 rfl ?_
  refine xj_iadd dX12_wordHere_14 ?_
  obtain ⟨z4, e3, h⟩ := bd1_some h
  refine xc_Vi0 (st := []) (ok_X12_byteAt ((m 12 0 4) + x2) m e3) dX12_wordHere_15 cv_X12_121 rfl rfl (Nat.le_of_ble_eq_true rfl) (by decide) (by decide) (by decide) (by decide) ?_
  refine xc_Sb0 (st := []) (ok_X12_isSmall z4 m rfl) dX12_wordHere_18 cs_X12_147 rfl rfl (Nat.le_of_ble_eq_true rfl) (by decide) (by decide) (by decide) (by decide) ?_
  refine xj_if_eq (tgt := 61) dX12_wordHere_21 (by decide) (fun c5 => ?_) (fun c5 => ?_)
  · rw [if_neg (b2i_f c5)] at h
    cases h
    refine xj_pick (ls' := [(1, vI x1), (2, vI x2)]) [1, 2] rfl ?_
    exact ke x1 x2 rfl
  · rw [if_pos (b2i_t c5)] at h
    refine xj_iload_n 2 dX12_wordHere_24 rfl ?_
    refine xj_bipush (z := 6) dX12_wordHere_25 (by decide) ?_
    refine xj_icmp_ge (tgt := 53) dX12_wordHere_27 (by decide) (fun c6 => ?_) (fun c6 => ?_)
    · rw [if_pos c6] at h
      refine xj_iload_n 1 dX12_wordHere_53 rfl ?_
      refine xj_pick (ls' := [(0, vR 12 0), (2, vI x2)]) [0, 2] rfl ?_
      exact ok_X12_wordHere_j54_c8 x2 x1 m h kb ke
    · rw [if_neg c6] at h
      refine xj_bipush (z := 27) dX12_wordHere_30 (by decide) ?_
      refine xj_iload_n 1 dX12_wordHere_32 rfl ?_
      refine xj_imul dX12_wordHere_33 ?_
      refine xj_aload_n 0 dX12_wordHere_34 rfl ?_
      refine xj_aload_n 0 dX12_wordHere_35 rfl ?_
      refine xg_getI (x := (m 12 0 4)) dX12_wordHere_36 fl_X12_118 rfl rfl ?_
      refine xj_iload_n 2 dX12_wordHere_39 rfl ?_
      refine xj_iadd dX12_wordHere_40 ?_
      obtain ⟨z8, e7, h⟩ := bd1_some h
      refine xc_Vi0 (st := [vI (27 * x1)]) (ok_X12_byteAt ((m 12 0 4) + x2) m e7) dX12_wordHere_41 cv_X12_121 rfl rfl (Nat.le_of_ble_eq_true rfl) (by decide) (by decide) (by decide) (by decide) ?_
      refine xj_iadd dX12_wordHere_44 ?_
      refine xj_bipush (z := 97) dX12_wordHere_45 (by decide) ?_
      refine xj_isub dX12_wordHere_47 ?_
      refine xj_iconst (z := 1) dX12_wordHere_48 (by decide) ?_
      refine xj_iadd dX12_wordHere_49 ?_
      refine xj_goto (tgt := 54) dX12_wordHere_50 (by decide) ?_
      refine xj_pick (ls' := [(0, vR 12 0), (2, vI x2)]) [0, 2] rfl ?_
      exact ok_X12_wordHere_j54_c8 x2 ((((27 * x1) + z8) - 97) + 1) m h kb ke
noncomputable def r_X12_wordHere_e61_h8 (x1 : Int32) (x2 : Int32) (m : Mem) : Option (Int32 × Mem) :=
  if x2 ≤ 6 then (some (x1, m)) else (some ((-1), m))
set_option maxHeartbeats 4000000 in
set_option maxRecDepth 20000 in
theorem ok_X12_wordHere_e61_h8 (x1 : Int32) (x2 : Int32) (m : Mem) {z : Int32} {m' : Mem} (h : r_X12_wordHere_e61_h8 x1 x2 m = some (z, m')) : Xj RX12 cX12_wordHere 3 (some .int) 3 41 0 0 0 0 61 [(1, vI x1), (2, vI x2)] [] m (oI z) m' := by
  unfold r_X12_wordHere_e61_h8 at h
  refine xj_iload_n 1 dX12_wordHere_61 rfl ?_
  refine xj_bipush (z := 6) dX12_wordHere_62 (by decide) ?_
  refine xj_icmp_le (tgt := 71) dX12_wordHere_64 (by decide) (fun c9 => ?_) (fun c9 => ?_)
  · rw [if_pos c9] at h
    refine xj_iload_n 0 dX12_wordHere_71 rfl ?_
    cases h
    exact xj_ireturn dX12_wordHere_72 rfl (by decide) (by decide)
  · rw [if_neg c9] at h
    refine xj_iconst (z := (-1)) dX12_wordHere_67 (by decide) ?_
    refine xj_goto (tgt := 72) dX12_wordHere_68 (by decide) ?_
    cases h
    exact xj_ireturn dX12_wordHere_72 rfl (by decide) (by decide)
noncomputable def r_X12_wordHere_l8 (x1 : Int32) (x2 : Int32) (m : Mem) : Option (Int32 × Mem) :=
  bd1 (loopO (fun s => r_X12_wordHere_b8 m s.1 s.2) (x1, x2)) (fun e => r_X12_wordHere_e61_h8 e.1 e.2 m)
set_option maxHeartbeats 4000000 in
set_option maxRecDepth 20000 in
theorem ok_X12_wordHere_l8 (x1 : Int32) (x2 : Int32) (m : Mem) {z : Int32} {m' : Mem} (h : r_X12_wordHere_l8 x1 x2 m = some (z, m')) : Xj RX12 cX12_wordHere 3 (some .int) 3 41 0 0 0 0 8 [(0, vR 12 0), (1, vI x1), (2, vI x2)] [] m (oI z) m' := by
  unfold r_X12_wordHere_l8 at h
  obtain ⟨e, e1, h⟩ := bd1_some h
  refine loopO_ok (P := fun s : (Int32 × Int32) => Xj RX12 cX12_wordHere 3 (some .int) 3 41 0 0 0 0 8 [(0, vR 12 0), (1, vI s.1), (2, vI s.2)] [] m (oI z) m') (Q := fun e : (Int32 × Int32) => Xj RX12 cX12_wordHere 3 (some .int) 3 41 0 0 0 0 61 [(1, vI e.1), (2, vI e.2)] [] m (oI z) m') ?_ _ _ e1 ?_
  · intro s r9 h9 hi hx
    exact ok_X12_wordHere_b8 m s.1 s.2 h9 (by rintro _ _ rfl; exact hi _ rfl) (by rintro _ _ rfl; exact hx _ rfl)
  · exact ok_X12_wordHere_e61_h8 e.1 e.2 m h 
noncomputable def r_X12_wordHere (m : Mem) : Option (Int32 × Mem) :=
  bd1 (r_X12_blanks m) fun m2 => (r_X12_wordHere_l8 0 0 m2)
set_option maxHeartbeats 4000000 in
set_option maxRecDepth 20000 in
theorem ok_X12_wordHere (m : Mem) {z : Int32} {m' : Mem} (h : r_X12_wordHere m = some (z, m')) : Mt yX12_wordHere cX12_wordHere 3 (some .int) 3 41 0 0 [vR 12 0] m (oI z) m' := by
  refine Mt.of (by decide) (Nat.le_of_ble_eq_true rfl) (by decide +kernel) (hhF_ne (by decide)) ?_
  show Xj RX12 cX12_wordHere 3 (some .int) 3 41 0 0 0 0 0 [(0, vR 12 0)] [] m (oI z) m'
  unfold r_X12_wordHere at h
  refine xj_aload_n 0 dX12_wordHere_0 rfl ?_
  obtain ⟨m2, e1, h⟩ := bd1_some h
  refine xc_Vv0 (st := []) (ok_X12_blanks m e1) dX12_wordHere_1 cv_X12_131 rfl rfl (Nat.le_of_ble_eq_true rfl) (by decide) (by decide) (by decide) (by decide) ?_
  refine xj_iconst (z := 0) dX12_wordHere_4 (by decide) ?_
  refine xj_istore_n (ls' := [(1, vI 0), (0, vR 12 0)]) dX12_wordHere_5 rfl (by decide) rfl ?_
  refine xj_iconst (z := 0) dX12_wordHere_6 (by decide) ?_
  refine xj_istore_n (ls' := [(2, vI 0), (1, vI 0), (0, vR 12 0)]) dX12_wordHere_7 rfl (by decide) rfl ?_
  refine xj_pick (ls' := [(0, vR 12 0), (1, vI 0), (2, vI 0)]) [2, 1, 0] rfl ?_
  exact ok_X12_wordHere_l8 0 0 m2 h 
noncomputable def r_X12_six_j49 (x5 : Int32) (s0 : Int32) : Int32 :=
  if x5 = 0 then (s0) else (((27 * s0) + x5))
set_option maxHeartbeats 4000000 in
set_option maxRecDepth 20000 in
theorem ok_X12_six_j49 (x5 : Int32) (s0 : Int32) (m : Mem) {z : Int32} (h : r_X12_six_j49 x5 s0 = z) : Xj RX12 cX12_six 7 (some .int) 1 0 0 0 0 0 49 [(5, vI x5)] [vI s0] m (oI z) m := by
  unfold r_X12_six_j49 at h
  refine xj_istore (ls' := [(6, vI s0), (5, vI x5)]) dX12_six_49 (by decide) rfl ?_
  refine xj_iload 1 dX12_six_51 rfl ?_
  refine xj_if_ne (tgt := 61) dX12_six_53 (by decide) (fun c3 => ?_) (fun c3 => ?_)
  · rw [if_neg c3] at h
    refine xj_bipush (z := 27) dX12_six_61 (by decide) ?_
    refine xj_iload 0 dX12_six_63 rfl ?_
    refine xj_imul dX12_six_65 ?_
    refine xj_iload 1 dX12_six_66 rfl ?_
    refine xj_iadd dX12_six_68 ?_
    subst h
    exact xj_ireturn dX12_six_69 rfl (by decide) (by decide)
  · rw [if_pos c3] at h
    refine xj_iload 0 dX12_six_56 rfl ?_
    refine xj_goto (tgt := 69) dX12_six_58 (by decide) ?_
    subst h
    exact xj_ireturn dX12_six_69 rfl (by decide) (by decide)
noncomputable def r_X12_six_j29 (x4 : Int32) (x5 : Int32) (s0 : Int32) : Int32 :=
  if x4 = 0 then (r_X12_six_j49 x5 s0) else (r_X12_six_j49 x5 ((27 * s0) + x4))
set_option maxHeartbeats 4000000 in
set_option maxRecDepth 20000 in
theorem ok_X12_six_j29 (x4 : Int32) (x5 : Int32) (s0 : Int32) (m : Mem) {z : Int32} (h : r_X12_six_j29 x4 x5 s0 = z) : Xj RX12 cX12_six 7 (some .int) 1 0 0 0 0 0 29 [(4, vI x4), (5, vI x5)] [vI s0] m (oI z) m := by
  unfold r_X12_six_j29 at h
  refine xj_istore (ls' := [(6, vI s0), (4, vI x4), (5, vI x5)]) dX12_six_29 (by decide) rfl ?_
  refine xj_iload 1 dX12_six_31 rfl ?_
  refine xj_if_ne (tgt := 41) dX12_six_33 (by decide) (fun c2 => ?_) (fun c2 => ?_)
  · rw [if_neg c2] at h
    refine xj_bipush (z := 27) dX12_six_41 (by decide) ?_
    refine xj_iload 0 dX12_six_43 rfl ?_
    refine xj_imul dX12_six_45 ?_
    refine xj_iload 1 dX12_six_46 rfl ?_
    refine xj_iadd dX12_six_48 ?_
    refine xj_pick (ls' := [(5, vI x5)]) [2] rfl ?_
    exact ok_X12_six_j49 x5 ((27 * s0) + x4) m h 
  · rw [if_pos c2] at h
    refine xj_iload 0 dX12_six_36 rfl ?_
    refine xj_goto (tgt := 49) dX12_six_38 (by decide) ?_
    refine xj_pick (ls' := [(5, vI x5)]) [2] rfl ?_
    exact ok_X12_six_j49 x5 s0 m h 
noncomputable def r_X12_six (x0 : Int32) (x1 : Int32) (x2 : Int32) (x3 : Int32) (x4 : Int32) (x5 : Int32) : Int32 :=
  if x3 = 0 then (r_X12_six_j29 x4 x5 ((27 * ((27 * x0) + x1)) + x2)) else (r_X12_six_j29 x4 x5 ((27 * ((27 * ((27 * x0) + x1)) + x2)) + x3))
set_option maxHeartbeats 4000000 in
set_option maxRecDepth 20000 in
theorem ok_X12_six (x0 : Int32) (x1 : Int32) (x2 : Int32) (x3 : Int32) (x4 : Int32) (x5 : Int32) (m : Mem) {z : Int32} (h : r_X12_six x0 x1 x2 x3 x4 x5 = z) : Mt yX12_six cX12_six 7 (some .int) 1 0 0 0 [vI x0, vI x1, vI x2, vI x3, vI x4, vI x5] m (oI z) m := by
  refine Mt.of (by decide) (Nat.le_of_ble_eq_true rfl) (by decide +kernel) (hhF_ne (by decide)) ?_
  show Xj RX12 cX12_six 7 (some .int) 1 0 0 0 0 0 0 [(0, vI x0), (1, vI x1), (2, vI x2), (3, vI x3), (4, vI x4), (5, vI x5)] [] m (oI z) m
  unfold r_X12_six at h
  refine xj_bipush (z := 27) dX12_six_0 (by decide) ?_
  refine xj_bipush (z := 27) dX12_six_2 (by decide) ?_
  refine xj_iload_n 0 dX12_six_4 rfl ?_
  refine xj_imul dX12_six_5 ?_
  refine xj_iload_n 1 dX12_six_6 rfl ?_
  refine xj_iadd dX12_six_7 ?_
  refine xj_imul dX12_six_8 ?_
  refine xj_iload_n 2 dX12_six_9 rfl ?_
  refine xj_iadd dX12_six_10 ?_
  refine xj_istore (ls' := [(6, vI ((27 * ((27 * x0) + x1)) + x2)), (0, vI x0), (1, vI x1), (2, vI x2), (3, vI x3), (4, vI x4), (5, vI x5)]) dX12_six_11 (by decide) rfl ?_
  refine xj_iload_n 4 dX12_six_13 rfl ?_
  refine xj_if_ne (tgt := 22) dX12_six_14 (by decide) (fun c1 => ?_) (fun c1 => ?_)
  · rw [if_neg c1] at h
    refine xj_bipush (z := 27) dX12_six_22 (by decide) ?_
    refine xj_iload 0 dX12_six_24 rfl ?_
    refine xj_imul dX12_six_26 ?_
    refine xj_iload_n 4 dX12_six_27 rfl ?_
    refine xj_iadd dX12_six_28 ?_
    refine xj_pick (ls' := [(4, vI x4), (5, vI x5)]) [5, 6] rfl ?_
    exact ok_X12_six_j29 x4 x5 ((27 * ((27 * ((27 * x0) + x1)) + x2)) + x3) m h 
  · rw [if_pos c1] at h
    refine xj_iload 0 dX12_six_17 rfl ?_
    refine xj_goto (tgt := 29) dX12_six_19 (by decide) ?_
    refine xj_pick (ls' := [(4, vI x4), (5, vI x5)]) [5, 6] rfl ?_
    exact ok_X12_six_j29 x4 x5 ((27 * ((27 * x0) + x1)) + x2) m h 
noncomputable def r_X12_isWord (x1 : Int32) (x2 : Int32) (x3 : Int32) (x4 : Int32) (x5 : Int32) (x6 : Int32) (m : Mem) : Option (Bool × Mem) :=
  if (m 12 0 5) = 0 then (bd2 (r_X12_wordHere m) fun z4 m3 => (if z4 = (r_X12_six x1 x2 x3 x4 x5 x6) then (some (true, m3)) else (some (false, m3)))) else (some (false, m))
set_option maxHeartbeats 4000000 in
set_option maxRecDepth 20000 in
theorem ok_X12_isWord (x1 : Int32) (x2 : Int32) (x3 : Int32) (x4 : Int32) (x5 : Int32) (x6 : Int32) (m : Mem) {z : Bool} {m' : Mem} (h : r_X12_isWord x1 x2 x3 x4 x5 x6 m = some (z, m')) : Mt yX12_isWord cX12_isWord 7 (some .boolean) 4 63 0 0 [vR 12 0, vI x1, vI x2, vI x3, vI x4, vI x5, vI x6] m (oB z) m' := by
  refine Mt.of (by decide) (Nat.le_of_ble_eq_true rfl) (by decide +kernel) (hhF_ne (by decide)) ?_
  show Xj RX12 cX12_isWord 7 (some .boolean) 4 63 0 0 0 0 0 [(0, vR 12 0), (1, vI x1), (2, vI x2), (3, vI x3), (4, vI x4), (5, vI x5), (6, vI x6)] [] m (oB z) m'
  unfold r_X12_isWord at h
  refine xj_aload_n 0 dX12_isWord_0 rfl ?_
  refine xg_getI (x := (m 12 0 5)) dX12_isWord_1 fl_X12_125 rfl rfl ?_
  refine xj_if_ne (tgt := 30) dX12_isWord_4 (by decide) (fun c1 => ?_) (fun c1 => ?_)
  · rw [if_neg c1] at h
    refine xj_iconst (z := 0) dX12_isWord_30 (by decide) ?_
    cases h
    exact xj_ireturn dX12_isWord_31 rfl (by decide) (by decide)
  · rw [if_pos c1] at h
    refine xj_aload_n 0 dX12_isWord_7 rfl ?_
    obtain ⟨z4, m3, e2, h⟩ := bd2_some h
    refine xc_Vi0 (st := []) (ok_X12_wordHere m e2) dX12_isWord_8 cv_X12_150 rfl rfl (Nat.le_of_ble_eq_true rfl) (by decide) (by decide) (by decide) (by decide) ?_
    refine xj_iload_n 1 dX12_isWord_11 rfl ?_
    refine xj_iload_n 2 dX12_isWord_12 rfl ?_
    refine xj_iload_n 3 dX12_isWord_13 rfl ?_
    refine xj_iload 4 dX12_isWord_14 rfl ?_
    refine xj_iload 5 dX12_isWord_16 rfl ?_
    refine xj_iload 6 dX12_isWord_18 rfl ?_
    refine xc_Si0 (st := [vI z4]) (ok_X12_six x1 x2 x3 x4 x5 x6 m3 rfl) dX12_isWord_20 cs_X12_154 rfl rfl (Nat.le_of_ble_eq_true rfl) (by decide) (by decide) (by decide) (by decide) ?_
    refine xj_icmp_ne (tgt := 30) dX12_isWord_23 (by decide) (fun c5 => ?_) (fun c5 => ?_)
    · rw [if_neg c5] at h
      refine xj_iconst (z := 0) dX12_isWord_30 (by decide) ?_
      cases h
      exact xj_ireturn dX12_isWord_31 rfl (by decide) (by decide)
    · rw [if_pos c5] at h
      refine xj_iconst (z := 1) dX12_isWord_26 (by decide) ?_
      refine xj_goto (tgt := 31) dX12_isWord_27 (by decide) ?_
      cases h
      exact xj_ireturn dX12_isWord_31 rfl (by decide) (by decide)
noncomputable def r_X12_kindHere (m : Mem) : Option (Int32 × Mem) :=
  bd2 (r_X12_isWord 16 12 1 3 5 0 m) fun z3 m2 => (if z3 = true then (some (0, m2)) else (bd2 (r_X12_isWord 4 9 20 3 8 0 m2) fun z7 m6 => (if z7 = true then (some (1, m6)) else (bd2 (r_X12_isWord 16 5 18 19 15 14 m6) fun z11 m10 => (if z11 = true then (some (2, m10)) else (bd2 (r_X12_isWord 19 16 18 9 14 7 m10) fun z15 m14 => (if z15 = true then (some (3, m14)) else (bd2 (r_X12_isWord 3 12 1 9 13 0 m14) fun z19 m18 => (if z19 = true then (some (4, m18)) else (some ((-1), m18)))))))))))
set_option maxHeartbeats 4000000 in
set_option maxRecDepth 20000 in
theorem ok_X12_kindHere (m : Mem) {z : Int32} {m' : Mem} (h : r_X12_kindHere m = some (z, m')) : Mt yX12_kindHere cX12_kindHere 1 (some .int) 5 89 0 0 [vR 12 0] m (oI z) m' := by
  refine Mt.of (by decide) (Nat.le_of_ble_eq_true rfl) (by decide +kernel) (hhF_ne (by decide)) ?_
  show Xj RX12 cX12_kindHere 1 (some .int) 5 89 0 0 0 0 0 [(0, vR 12 0)] [] m (oI z) m'
  unfold r_X12_kindHere at h
  refine xj_aload_n 0 dX12_kindHere_0 rfl ?_
  refine xj_bipush (z := 16) dX12_kindHere_1 (by decide) ?_
  refine xj_bipush (z := 12) dX12_kindHere_3 (by decide) ?_
  refine xj_iconst (z := 1) dX12_kindHere_5 (by decide) ?_
  refine xj_iconst (z := 3) dX12_kindHere_6 (by decide) ?_
  refine xj_iconst (z := 5) dX12_kindHere_7 (by decide) ?_
  refine xj_iconst (z := 0) dX12_kindHere_8 (by decide) ?_
  obtain ⟨z3, m2, e1, h⟩ := bd2_some h
  refine xc_Vb0 (st := []) (ok_X12_isWord 16 12 1 3 5 0 m e1) dX12_kindHere_9 cv_X12_158 rfl rfl (Nat.le_of_ble_eq_true rfl) (by decide) (by decide) (by decide) (by decide) ?_
  refine xj_if_eq (tgt := 17) dX12_kindHere_12 (by decide) (fun c4 => ?_) (fun c4 => ?_)
  · rw [if_neg (b2i_f c4)] at h
    refine xj_aload_n 0 dX12_kindHere_17 rfl ?_
    refine xj_iconst (z := 4) dX12_kindHere_18 (by decide) ?_
    refine xj_bipush (z := 9) dX12_kindHere_19 (by decide) ?_
    refine xj_bipush (z := 20) dX12_kindHere_21 (by decide) ?_
    refine xj_iconst (z := 3) dX12_kindHere_23 (by decide) ?_
    refine xj_bipush (z := 8) dX12_kindHere_24 (by decide) ?_
    refine xj_iconst (z := 0) dX12_kindHere_26 (by decide) ?_
    obtain ⟨z7, m6, e5, h⟩ := bd2_some h
    refine xc_Vb0 (st := []) (ok_X12_isWord 4 9 20 3 8 0 m2 e5) dX12_kindHere_27 cv_X12_158 rfl rfl (Nat.le_of_ble_eq_true rfl) (by decide) (by decide) (by decide) (by decide) ?_
    refine xj_if_eq (tgt := 35) dX12_kindHere_30 (by decide) (fun c8 => ?_) (fun c8 => ?_)
    · rw [if_neg (b2i_f c8)] at h
      refine xj_aload_n 0 dX12_kindHere_35 rfl ?_
      refine xj_bipush (z := 16) dX12_kindHere_36 (by decide) ?_
      refine xj_iconst (z := 5) dX12_kindHere_38 (by decide) ?_
      refine xj_bipush (z := 18) dX12_kindHere_39 (by decide) ?_
      refine xj_bipush (z := 19) dX12_kindHere_41 (by decide) ?_
      refine xj_bipush (z := 15) dX12_kindHere_43 (by decide) ?_
      refine xj_bipush (z := 14) dX12_kindHere_45 (by decide) ?_
      obtain ⟨z11, m10, e9, h⟩ := bd2_some h
      refine xc_Vb0 (st := []) (ok_X12_isWord 16 5 18 19 15 14 m6 e9) dX12_kindHere_47 cv_X12_158 rfl rfl (Nat.le_of_ble_eq_true rfl) (by decide) (by decide) (by decide) (by decide) ?_
      refine xj_if_eq (tgt := 55) dX12_kindHere_50 (by decide) (fun c12 => ?_) (fun c12 => ?_)
      · rw [if_neg (b2i_f c12)] at h
        refine xj_aload_n 0 dX12_kindHere_55 rfl ?_
        refine xj_bipush (z := 19) dX12_kindHere_56 (by decide) ?_
        refine xj_bipush (z := 16) dX12_kindHere_58 (by decide) ?_
        refine xj_bipush (z := 18) dX12_kindHere_60 (by decide) ?_
        refine xj_bipush (z := 9) dX12_kindHere_62 (by decide) ?_
        refine xj_bipush (z := 14) dX12_kindHere_64 (by decide) ?_
        refine xj_bipush (z := 7) dX12_kindHere_66 (by decide) ?_
        obtain ⟨z15, m14, e13, h⟩ := bd2_some h
        refine xc_Vb0 (st := []) (ok_X12_isWord 19 16 18 9 14 7 m10 e13) dX12_kindHere_68 cv_X12_158 rfl rfl (Nat.le_of_ble_eq_true rfl) (by decide) (by decide) (by decide) (by decide) ?_
        refine xj_if_eq (tgt := 76) dX12_kindHere_71 (by decide) (fun c16 => ?_) (fun c16 => ?_)
        · rw [if_neg (b2i_f c16)] at h
          refine xj_aload_n 0 dX12_kindHere_76 rfl ?_
          refine xj_iconst (z := 3) dX12_kindHere_77 (by decide) ?_
          refine xj_bipush (z := 12) dX12_kindHere_78 (by decide) ?_
          refine xj_iconst (z := 1) dX12_kindHere_80 (by decide) ?_
          refine xj_bipush (z := 9) dX12_kindHere_81 (by decide) ?_
          refine xj_bipush (z := 13) dX12_kindHere_83 (by decide) ?_
          refine xj_iconst (z := 0) dX12_kindHere_85 (by decide) ?_
          obtain ⟨z19, m18, e17, h⟩ := bd2_some h
          refine xc_Vb0 (st := []) (ok_X12_isWord 3 12 1 9 13 0 m14 e17) dX12_kindHere_86 cv_X12_158 rfl rfl (Nat.le_of_ble_eq_true rfl) (by decide) (by decide) (by decide) (by decide) ?_
          refine xj_if_eq (tgt := 96) dX12_kindHere_89 (by decide) (fun c20 => ?_) (fun c20 => ?_)
          · rw [if_neg (b2i_f c20)] at h
            refine xj_iconst (z := (-1)) dX12_kindHere_96 (by decide) ?_
            cases h
            exact xj_ireturn dX12_kindHere_97 rfl (by decide) (by decide)
          · rw [if_pos (b2i_t c20)] at h
            refine xj_iconst (z := 4) dX12_kindHere_92 (by decide) ?_
            refine xj_goto (tgt := 97) dX12_kindHere_93 (by decide) ?_
            cases h
            exact xj_ireturn dX12_kindHere_97 rfl (by decide) (by decide)
        · rw [if_pos (b2i_t c16)] at h
          refine xj_iconst (z := 3) dX12_kindHere_74 (by decide) ?_
          cases h
          exact xj_ireturn dX12_kindHere_75 rfl (by decide) (by decide)
      · rw [if_pos (b2i_t c12)] at h
        refine xj_iconst (z := 2) dX12_kindHere_53 (by decide) ?_
        cases h
        exact xj_ireturn dX12_kindHere_54 rfl (by decide) (by decide)
    · rw [if_pos (b2i_t c8)] at h
      refine xj_iconst (z := 1) dX12_kindHere_33 (by decide) ?_
      cases h
      exact xj_ireturn dX12_kindHere_34 rfl (by decide) (by decide)
  · rw [if_pos (b2i_t c4)] at h
    refine xj_iconst (z := 0) dX12_kindHere_15 (by decide) ?_
    cases h
    exact xj_ireturn dX12_kindHere_16 rfl (by decide) (by decide)
noncomputable def r_X12_stepHere (m : Mem) : Option (Int32 × Mem) :=
  bd2 (r_X12_isWord 20 5 12 12 0 0 m) fun z3 m2 => (if z3 = true then (some (0, m2)) else (bd2 (r_X12_isWord 6 15 18 7 5 20 m2) fun z7 m6 => (if z7 = true then (some (1, m6)) else (bd2 (r_X12_isWord 23 1 12 11 0 0 m6) fun z11 m10 => (if z11 = true then (some (2, m10)) else (bd2 (r_X12_isWord 4 9 7 0 0 0 m10) fun z15 m14 => (if z15 = true then (some (3, m14)) else (bd2 (r_X12_isWord 4 1 25 0 0 0 m14) fun z19 m18 => (if z19 = true then (some (4, m18)) else (bd2 (r_X12_isWord 1 7 1 9 14 0 m18) fun z23 m22 => (if z23 = true then (some (5, m22)) else (some ((-1), m22)))))))))))))
set_option maxHeartbeats 4000000 in
set_option maxRecDepth 20000 in
theorem ok_X12_stepHere (m : Mem) {z : Int32} {m' : Mem} (h : r_X12_stepHere m = some (z, m')) : Mt yX12_stepHere cX12_stepHere 1 (some .int) 5 89 0 0 [vR 12 0] m (oI z) m' := by
  refine Mt.of (by decide) (Nat.le_of_ble_eq_true rfl) (by decide +kernel) (hhF_ne (by decide)) ?_
  show Xj RX12 cX12_stepHere 1 (some .int) 5 89 0 0 0 0 0 [(0, vR 12 0)] [] m (oI z) m'
  unfold r_X12_stepHere at h
  refine xj_aload_n 0 dX12_stepHere_0 rfl ?_
  refine xj_bipush (z := 20) dX12_stepHere_1 (by decide) ?_
  refine xj_iconst (z := 5) dX12_stepHere_3 (by decide) ?_
  refine xj_bipush (z := 12) dX12_stepHere_4 (by decide) ?_
  refine xj_bipush (z := 12) dX12_stepHere_6 (by decide) ?_
  refine xj_iconst (z := 0) dX12_stepHere_8 (by decide) ?_
  refine xj_iconst (z := 0) dX12_stepHere_9 (by decide) ?_
  obtain ⟨z3, m2, e1, h⟩ := bd2_some h
  refine xc_Vb0 (st := []) (ok_X12_isWord 20 5 12 12 0 0 m e1) dX12_stepHere_10 cv_X12_158 rfl rfl (Nat.le_of_ble_eq_true rfl) (by decide) (by decide) (by decide) (by decide) ?_
  refine xj_if_eq (tgt := 18) dX12_stepHere_13 (by decide) (fun c4 => ?_) (fun c4 => ?_)
  · rw [if_neg (b2i_f c4)] at h
    refine xj_aload_n 0 dX12_stepHere_18 rfl ?_
    refine xj_bipush (z := 6) dX12_stepHere_19 (by decide) ?_
    refine xj_bipush (z := 15) dX12_stepHere_21 (by decide) ?_
    refine xj_bipush (z := 18) dX12_stepHere_23 (by decide) ?_
    refine xj_bipush (z := 7) dX12_stepHere_25 (by decide) ?_
    refine xj_iconst (z := 5) dX12_stepHere_27 (by decide) ?_
    refine xj_bipush (z := 20) dX12_stepHere_28 (by decide) ?_
    obtain ⟨z7, m6, e5, h⟩ := bd2_some h
    refine xc_Vb0 (st := []) (ok_X12_isWord 6 15 18 7 5 20 m2 e5) dX12_stepHere_30 cv_X12_158 rfl rfl (Nat.le_of_ble_eq_true rfl) (by decide) (by decide) (by decide) (by decide) ?_
    refine xj_if_eq (tgt := 38) dX12_stepHere_33 (by decide) (fun c8 => ?_) (fun c8 => ?_)
    · rw [if_neg (b2i_f c8)] at h
      refine xj_aload_n 0 dX12_stepHere_38 rfl ?_
      refine xj_bipush (z := 23) dX12_stepHere_39 (by decide) ?_
      refine xj_iconst (z := 1) dX12_stepHere_41 (by decide) ?_
      refine xj_bipush (z := 12) dX12_stepHere_42 (by decide) ?_
      refine xj_bipush (z := 11) dX12_stepHere_44 (by decide) ?_
      refine xj_iconst (z := 0) dX12_stepHere_46 (by decide) ?_
      refine xj_iconst (z := 0) dX12_stepHere_47 (by decide) ?_
      obtain ⟨z11, m10, e9, h⟩ := bd2_some h
      refine xc_Vb0 (st := []) (ok_X12_isWord 23 1 12 11 0 0 m6 e9) dX12_stepHere_48 cv_X12_158 rfl rfl (Nat.le_of_ble_eq_true rfl) (by decide) (by decide) (by decide) (by decide) ?_
      refine xj_if_eq (tgt := 56) dX12_stepHere_51 (by decide) (fun c12 => ?_) (fun c12 => ?_)
      · rw [if_neg (b2i_f c12)] at h
        refine xj_aload_n 0 dX12_stepHere_56 rfl ?_
        refine xj_iconst (z := 4) dX12_stepHere_57 (by decide) ?_
        refine xj_bipush (z := 9) dX12_stepHere_58 (by decide) ?_
        refine xj_bipush (z := 7) dX12_stepHere_60 (by decide) ?_
        refine xj_iconst (z := 0) dX12_stepHere_62 (by decide) ?_
        refine xj_iconst (z := 0) dX12_stepHere_63 (by decide) ?_
        refine xj_iconst (z := 0) dX12_stepHere_64 (by decide) ?_
        obtain ⟨z15, m14, e13, h⟩ := bd2_some h
        refine xc_Vb0 (st := []) (ok_X12_isWord 4 9 7 0 0 0 m10 e13) dX12_stepHere_65 cv_X12_158 rfl rfl (Nat.le_of_ble_eq_true rfl) (by decide) (by decide) (by decide) (by decide) ?_
        refine xj_if_eq (tgt := 73) dX12_stepHere_68 (by decide) (fun c16 => ?_) (fun c16 => ?_)
        · rw [if_neg (b2i_f c16)] at h
          refine xj_aload_n 0 dX12_stepHere_73 rfl ?_
          refine xj_iconst (z := 4) dX12_stepHere_74 (by decide) ?_
          refine xj_iconst (z := 1) dX12_stepHere_75 (by decide) ?_
          refine xj_bipush (z := 25) dX12_stepHere_76 (by decide) ?_
          refine xj_iconst (z := 0) dX12_stepHere_78 (by decide) ?_
          refine xj_iconst (z := 0) dX12_stepHere_79 (by decide) ?_
          refine xj_iconst (z := 0) dX12_stepHere_80 (by decide) ?_
          obtain ⟨z19, m18, e17, h⟩ := bd2_some h
          refine xc_Vb0 (st := []) (ok_X12_isWord 4 1 25 0 0 0 m14 e17) dX12_stepHere_81 cv_X12_158 rfl rfl (Nat.le_of_ble_eq_true rfl) (by decide) (by decide) (by decide) (by decide) ?_
          refine xj_if_eq (tgt := 89) dX12_stepHere_84 (by decide) (fun c20 => ?_) (fun c20 => ?_)
          · rw [if_neg (b2i_f c20)] at h
            refine xj_aload_n 0 dX12_stepHere_89 rfl ?_
            refine xj_iconst (z := 1) dX12_stepHere_90 (by decide) ?_
            refine xj_bipush (z := 7) dX12_stepHere_91 (by decide) ?_
            refine xj_iconst (z := 1) dX12_stepHere_93 (by decide) ?_
            refine xj_bipush (z := 9) dX12_stepHere_94 (by decide) ?_
            refine xj_bipush (z := 14) dX12_stepHere_96 (by decide) ?_
            refine xj_iconst (z := 0) dX12_stepHere_98 (by decide) ?_
            obtain ⟨z23, m22, e21, h⟩ := bd2_some h
            refine xc_Vb0 (st := []) (ok_X12_isWord 1 7 1 9 14 0 m18 e21) dX12_stepHere_99 cv_X12_158 rfl rfl (Nat.le_of_ble_eq_true rfl) (by decide) (by decide) (by decide) (by decide) ?_
            refine xj_if_eq (tgt := 109) dX12_stepHere_102 (by decide) (fun c24 => ?_) (fun c24 => ?_)
            · rw [if_neg (b2i_f c24)] at h
              refine xj_iconst (z := (-1)) dX12_stepHere_109 (by decide) ?_
              cases h
              exact xj_ireturn dX12_stepHere_110 rfl (by decide) (by decide)
            · rw [if_pos (b2i_t c24)] at h
              refine xj_iconst (z := 5) dX12_stepHere_105 (by decide) ?_
              refine xj_goto (tgt := 110) dX12_stepHere_106 (by decide) ?_
              cases h
              exact xj_ireturn dX12_stepHere_110 rfl (by decide) (by decide)
          · rw [if_pos (b2i_t c20)] at h
            refine xj_iconst (z := 4) dX12_stepHere_87 (by decide) ?_
            cases h
            exact xj_ireturn dX12_stepHere_88 rfl (by decide) (by decide)
        · rw [if_pos (b2i_t c16)] at h
          refine xj_iconst (z := 3) dX12_stepHere_71 (by decide) ?_
          cases h
          exact xj_ireturn dX12_stepHere_72 rfl (by decide) (by decide)
      · rw [if_pos (b2i_t c12)] at h
        refine xj_iconst (z := 2) dX12_stepHere_54 (by decide) ?_
        cases h
        exact xj_ireturn dX12_stepHere_55 rfl (by decide) (by decide)
    · rw [if_pos (b2i_t c8)] at h
      refine xj_iconst (z := 1) dX12_stepHere_36 (by decide) ?_
      cases h
      exact xj_ireturn dX12_stepHere_37 rfl (by decide) (by decide)
  · rw [if_pos (b2i_t c4)] at h
    refine xj_iconst (z := 0) dX12_stepHere_16 (by decide) ?_
    cases h
    exact xj_ireturn dX12_stepHere_17 rfl (by decide) (by decide)
noncomputable def r_X12_skipWord_b0 (m : Mem) : Option ((Mem) ⊕ (Mem)) :=
  bd1 (r_X12_byteAt (m 12 0 4) m) fun z2 => (if (r_X12_isSmall z2) = true then (some (Sum.inl (wr m 12 0 4 ((m 12 0 4) + 1)))) else (some (Sum.inr m)))
set_option maxHeartbeats 4000000 in
set_option maxRecDepth 20000 in
theorem ok_X12_skipWord_b0 (m : Mem) {r : (Mem) ⊕ (Mem)} (h : r_X12_skipWord_b0 m = some r) {o : Ou} {M' : Mem} (kb : ∀ (m'' : Mem), r = Sum.inl m'' → Xj RX12 cX12_skipWord 1 none 2 21 0 0 0 0 0 [(0, vR 12 0)] [] m'' o M') (ke : ∀ (m'' : Mem), r = Sum.inr m'' → Xj RX12 cX12_skipWord 1 none 2 21 0 0 0 0 27 [] [] m'' o M') : Xj RX12 cX12_skipWord 1 none 2 21 0 0 0 0 0 [(0, vR 12 0)] [] m o M' := by
  unfold r_X12_skipWord_b0 at h
  refine xj_aload_n 0 dX12_skipWord_0 rfl ?_
  refine xj_aload_n 0 dX12_skipWord_1 rfl ?_
  refine xg_getI (x := (m 12 0 4)) dX12_skipWord_2 fl_X12_118 rfl rfl ?_
  obtain ⟨z2, e1, h⟩ := bd1_some h
  refine xc_Vi0 (st := []) (ok_X12_byteAt (m 12 0 4) m e1) dX12_skipWord_5 cv_X12_121 rfl rfl (Nat.le_of_ble_eq_true rfl) (by decide) (by decide) (by decide) (by decide) ?_
  refine xc_Sb0 (st := []) (ok_X12_isSmall z2 m rfl) dX12_skipWord_8 cs_X12_147 rfl rfl (Nat.le_of_ble_eq_true rfl) (by decide) (by decide) (by decide) (by decide) ?_
  refine xj_if_eq (tgt := 27) dX12_skipWord_11 (by decide) (fun c3 => ?_) (fun c3 => ?_)
  · rw [if_neg (b2i_f c3)] at h
    cases h
    refine xj_pick (ls' := []) [] rfl ?_
    exact ke m rfl
  · rw [if_pos (b2i_t c3)] at h
    refine xj_aload_n 0 dX12_skipWord_14 rfl ?_
    refine xj_dup dX12_skipWord_15 rfl ?_
    refine xg_getI (x := (m 12 0 4)) dX12_skipWord_16 fl_X12_118 rfl rfl ?_
    refine xj_iconst (z := 1) dX12_skipWord_19 (by decide) ?_
    refine xj_iadd dX12_skipWord_20 ?_
    refine xj_putI dX12_skipWord_21 fw_X12_118 rfl ?_
    refine xj_goto (tgt := 0) dX12_skipWord_24 (by decide) ?_
    cases h
    exact kb (wr m 12 0 4 ((m 12 0 4) + 1)) rfl
noncomputable def r_X12_skipWord_e27_h0 (m : Mem) : Option Mem :=
  some m
set_option maxHeartbeats 4000000 in
set_option maxRecDepth 20000 in
theorem ok_X12_skipWord_e27_h0 (m : Mem) {m' : Mem} (h : r_X12_skipWord_e27_h0 m = some m') : Xj RX12 cX12_skipWord 1 none 2 21 0 0 0 0 27 [] [] m oV m' := by
  unfold r_X12_skipWord_e27_h0 at h
  cases h
  exact xj_return dX12_skipWord_27 (by decide) (by decide)
noncomputable def r_X12_skipWord_l0 (m : Mem) : Option Mem :=
  bd1 (loopO (fun s => r_X12_skipWord_b0 s) m) (fun e => r_X12_skipWord_e27_h0 e)
set_option maxHeartbeats 4000000 in
set_option maxRecDepth 20000 in
theorem ok_X12_skipWord_l0 (m : Mem) {m' : Mem} (h : r_X12_skipWord_l0 m = some m') : Xj RX12 cX12_skipWord 1 none 2 21 0 0 0 0 0 [(0, vR 12 0)] [] m oV m' := by
  unfold r_X12_skipWord_l0 at h
  obtain ⟨e, e1, h⟩ := bd1_some h
  refine loopO_ok (P := fun s : (Mem) => Xj RX12 cX12_skipWord 1 none 2 21 0 0 0 0 0 [(0, vR 12 0)] [] s oV m') (Q := fun e : (Mem) => Xj RX12 cX12_skipWord 1 none 2 21 0 0 0 0 27 [] [] e oV m') ?_ _ _ e1 ?_
  · intro s r9 h9 hi hx
    exact ok_X12_skipWord_b0 s h9 (by rintro _ rfl; exact hi _ rfl) (by rintro _ rfl; exact hx _ rfl)
  · exact ok_X12_skipWord_e27_h0 e h 
noncomputable def r_X12_skipWord (m : Mem) : Option Mem :=
  r_X12_skipWord_l0 m
set_option maxHeartbeats 4000000 in
set_option maxRecDepth 20000 in
theorem ok_X12_skipWord (m : Mem) {m' : Mem} (h : r_X12_skipWord m = some m') : Mt yX12_skipWord cX12_skipWord 1 none 2 21 0 0 [vR 12 0] m oV m' := by
  refine Mt.of (by decide) (Nat.le_of_ble_eq_true rfl) (by decide +kernel) (hhF_ne (by decide)) ?_
  show Xj RX12 cX12_skipWord 1 none 2 21 0 0 0 0 0 [(0, vR 12 0)] [] m oV m'
  unfold r_X12_skipWord at h
  exact ok_X12_skipWord_l0 m h 
noncomputable def r_X12_readPlace (m : Mem) : Option (Int32 × Mem) :=
  bd2 (r_X12_number 0 ((m 51 0 0) - 1) m) fun z3 m2 => (some (z3, m2))
set_option maxHeartbeats 4000000 in
set_option maxRecDepth 20000 in
theorem ok_X12_readPlace (m : Mem) {z : Int32} {m' : Mem} (h : r_X12_readPlace m = some (z, m')) : Mt yX12_readPlace cX12_readPlace 1 (some .int) 4 65 0 0 [vR 12 0] m (oI z) m' := by
  refine Mt.of (by decide) (Nat.le_of_ble_eq_true rfl) (by decide +kernel) (hhF_ne (by decide)) ?_
  show Xj RX12 cX12_readPlace 1 (some .int) 4 65 0 0 0 0 0 [(0, vR 12 0)] [] m (oI z) m'
  unfold r_X12_readPlace at h
  refine xj_aload_n 0 dX12_readPlace_0 rfl ?_
  refine xj_iconst (z := 0) dX12_readPlace_1 (by decide) ?_
  refine xj_aload_n 0 dX12_readPlace_2 rfl ?_
  refine xg_getR (k' := 51) (i' := 0) dX12_readPlace_3 fl_X12_20 rfl ?_
  refine xj_iconst (z := 0) dX12_readPlace_6 (by decide) ?_
  refine xg_iald (z := (m 51 0 0)) (n := 0) dX12_readPlace_7 rfl (by decide) (inb_in (by decide)) (by decide) rfl ?_
  refine xj_iconst (z := 1) dX12_readPlace_8 (by decide) ?_
  refine xj_isub dX12_readPlace_9 ?_
  obtain ⟨z3, m2, e1, h⟩ := bd2_some h
  refine xc_Vi0 (st := []) (ok_X12_number 0 ((m 51 0 0) - 1) m e1) dX12_readPlace_10 cv_X12_171 rfl rfl (Nat.le_of_ble_eq_true rfl) (by decide) (by decide) (by decide) (by decide) ?_
  cases h
  exact xj_ireturn dX12_readPlace_13 rfl (by decide) (by decide)
noncomputable def r_X12_readBetween_j62_c2 (x1 : Int32) (x2 : Int32) (x3 : Int32) (m : Mem) : Option ((Int32) ⊕ (Unit ⊕ Int32)) :=
  some (Sum.inl (x3 + 1))
set_option maxHeartbeats 4000000 in
set_option maxRecDepth 20000 in
theorem ok_X12_readBetween_j62_c2 (x1 : Int32) (x2 : Int32) (x3 : Int32) (m : Mem) {r : (Int32) ⊕ (Unit ⊕ Int32)} (h : r_X12_readBetween_j62_c2 x1 x2 x3 m = some r) {o : Ou} {M' : Mem} (kb : ∀ (x3' : Int32), r = Sum.inl x3' → Xj RX12 cX12_readBetween 4 (some .int) 1 0 0 0 0 0 2 [(0, vR 12 0), (1, vI x1), (2, vI x2), (3, vI x3')] [] m o M') (ke : r = Sum.inr (Sum.inl ()) → Xj RX12 cX12_readBetween 4 (some .int) 1 0 0 0 0 0 68 [] [] m o M') (kr : ∀ (z : Int32), r = Sum.inr (Sum.inr z) → o = (oI z) ∧ M' = m) : Xj RX12 cX12_readBetween 4 (some .int) 1 0 0 0 0 0 62 [(0, vR 12 0), (1, vI x1), (2, vI x2), (3, vI x3)] [] m o M' := by
  unfold r_X12_readBetween_j62_c2 at h
  refine xj_iinc (z := x3 + 1) (ls' := [(3, vI (x3 + 1)), (0, vR 12 0), (1, vI x1), (2, vI x2)]) 3 dX12_readBetween_62 rfl rfl (by decide) rfl ?_
  refine xj_goto (tgt := 2) dX12_readBetween_65 (by decide) ?_
  cases h
  refine xj_pick (ls' := [(0, vR 12 0), (1, vI x1), (2, vI x2), (3, vI (x3 + 1))]) [1, 2, 3, 0] rfl ?_
  exact kb (x3 + 1) rfl
noncomputable def r_X12_readBetween_j36_c2 (x1 : Int32) (x2 : Int32) (x3 : Int32) (m : Mem) : Option ((Int32) ⊕ (Unit ⊕ Int32)) :=
  if inb x3 16 = true then (if (m 61 x3.toNatClampNeg 0) = x2 then (if (m 61 x3.toNatClampNeg 1) = x1 then (some (Sum.inr (Sum.inr x3))) else (r_X12_readBetween_j62_c2 x1 x2 x3 m)) else (r_X12_readBetween_j62_c2 x1 x2 x3 m)) else none
set_option maxHeartbeats 4000000 in
set_option maxRecDepth 20000 in
theorem ok_X12_readBetween_j36_c2 (x1 : Int32) (x2 : Int32) (x3 : Int32) (m : Mem) {r : (Int32) ⊕ (Unit ⊕ Int32)} (h : r_X12_readBetween_j36_c2 x1 x2 x3 m = some r) {o : Ou} {M' : Mem} (kb : ∀ (x3' : Int32), r = Sum.inl x3' → Xj RX12 cX12_readBetween 4 (some .int) 1 0 0 0 0 0 2 [(0, vR 12 0), (1, vI x1), (2, vI x2), (3, vI x3')] [] m o M') (ke : r = Sum.inr (Sum.inl ()) → Xj RX12 cX12_readBetween 4 (some .int) 1 0 0 0 0 0 68 [] [] m o M') (kr : ∀ (z : Int32), r = Sum.inr (Sum.inr z) → o = (oI z) ∧ M' = m) : Xj RX12 cX12_readBetween 4 (some .int) 1 0 0 0 0 0 36 [(0, vR 12 0), (1, vI x1), (2, vI x2), (3, vI x3)] [] m o M' := by
  unfold r_X12_readBetween_j36_c2 at h
  refine xj_aload_n 0 dX12_readBetween_36 rfl ?_
  refine xg_getR (k' := 62) (i' := 0) dX12_readBetween_37 fl_X12_34 rfl ?_
  refine xj_iload_n 3 dX12_readBetween_40 rfl ?_
  by_cases c5 : inb x3 16 = true
  case neg => rw [if_neg c5] at h; cases h
  rw [if_pos c5] at h
  refine xg_aald (k' := 61) (i' := x3.toNatClampNeg) (n := x3.toNatClampNeg) dX12_readBetween_41 rfl (by decide) (inb_in c5) rfl rfl ?_
  refine xj_iconst (z := 0) dX12_readBetween_42 (by decide) ?_
  refine xg_iald (z := (m 61 x3.toNatClampNeg 0)) (n := 0) dX12_readBetween_43 rfl (by decide) (inb_in (by decide)) (by decide) rfl ?_
  refine xj_iload_n 2 dX12_readBetween_44 rfl ?_
  refine xj_icmp_ne (tgt := 62) dX12_readBetween_45 (by decide) (fun c6 => ?_) (fun c6 => ?_)
  · rw [if_neg c6] at h
    exact ok_X12_readBetween_j62_c2 x1 x2 x3 m h kb ke kr
  · rw [if_pos c6] at h
    refine xj_aload_n 0 dX12_readBetween_48 rfl ?_
    refine xg_getR (k' := 62) (i' := 0) dX12_readBetween_49 fl_X12_34 rfl ?_
    refine xj_iload_n 3 dX12_readBetween_52 rfl ?_
    refine xg_aald (k' := 61) (i' := x3.toNatClampNeg) (n := x3.toNatClampNeg) dX12_readBetween_53 rfl (by decide) (inb_in c5) rfl rfl ?_
    refine xj_iconst (z := 1) dX12_readBetween_54 (by decide) ?_
    refine xg_iald (z := (m 61 x3.toNatClampNeg 1)) (n := 1) dX12_readBetween_55 rfl (by decide) (inb_in (by decide)) (by decide) rfl ?_
    refine xj_iload_n 1 dX12_readBetween_56 rfl ?_
    refine xj_icmp_ne (tgt := 62) dX12_readBetween_57 (by decide) (fun c7 => ?_) (fun c7 => ?_)
    · rw [if_neg c7] at h
      exact ok_X12_readBetween_j62_c2 x1 x2 x3 m h kb ke kr
    · rw [if_pos c7] at h
      refine xj_iload_n 3 dX12_readBetween_60 rfl ?_
      cases h
      obtain ⟨rfl, rfl⟩ := kr _ rfl
      exact xj_ireturn dX12_readBetween_61 rfl (by decide) (by decide)
noncomputable def r_X12_readBetween_b2 (x1 : Int32) (x2 : Int32) (m : Mem) (x3 : Int32) : Option ((Int32) ⊕ (Unit ⊕ Int32)) :=
  if (m 51 0 1) ≤ x3 then (some (Sum.inr (Sum.inl ()))) else (if inb x3 16 = true then (if (m 61 x3.toNatClampNeg 0) = x1 then (if (m 61 x3.toNatClampNeg 1) = x2 then (some (Sum.inr (Sum.inr x3))) else (r_X12_readBetween_j36_c2 x1 x2 x3 m)) else (r_X12_readBetween_j36_c2 x1 x2 x3 m)) else none)
set_option maxHeartbeats 4000000 in
set_option maxRecDepth 20000 in
theorem ok_X12_readBetween_b2 (x1 : Int32) (x2 : Int32) (m : Mem) (x3 : Int32) {r : (Int32) ⊕ (Unit ⊕ Int32)} (h : r_X12_readBetween_b2 x1 x2 m x3 = some r) {o : Ou} {M' : Mem} (kb : ∀ (x3' : Int32), r = Sum.inl x3' → Xj RX12 cX12_readBetween 4 (some .int) 1 0 0 0 0 0 2 [(0, vR 12 0), (1, vI x1), (2, vI x2), (3, vI x3')] [] m o M') (ke : r = Sum.inr (Sum.inl ()) → Xj RX12 cX12_readBetween 4 (some .int) 1 0 0 0 0 0 68 [] [] m o M') (kr : ∀ (z : Int32), r = Sum.inr (Sum.inr z) → o = (oI z) ∧ M' = m) : Xj RX12 cX12_readBetween 4 (some .int) 1 0 0 0 0 0 2 [(0, vR 12 0), (1, vI x1), (2, vI x2), (3, vI x3)] [] m o M' := by
  unfold r_X12_readBetween_b2 at h
  refine xj_iload_n 3 dX12_readBetween_2 rfl ?_
  refine xj_aload_n 0 dX12_readBetween_3 rfl ?_
  refine xg_getR (k' := 51) (i' := 0) dX12_readBetween_4 fl_X12_20 rfl ?_
  refine xj_iconst (z := 1) dX12_readBetween_7 (by decide) ?_
  refine xg_iald (z := (m 51 0 1)) (n := 1) dX12_readBetween_8 rfl (by decide) (inb_in (by decide)) (by decide) rfl ?_
  refine xj_icmp_ge (tgt := 68) dX12_readBetween_9 (by decide) (fun c1 => ?_) (fun c1 => ?_)
  · rw [if_pos c1] at h
    cases h
    refine xj_pick (ls' := []) [] rfl ?_
    exact ke  rfl
  · rw [if_neg c1] at h
    refine xj_aload_n 0 dX12_readBetween_12 rfl ?_
    refine xg_getR (k' := 62) (i' := 0) dX12_readBetween_13 fl_X12_34 rfl ?_
    refine xj_iload_n 3 dX12_readBetween_16 rfl ?_
    by_cases c2 : inb x3 16 = true
    case neg => rw [if_neg c2] at h; cases h
    rw [if_pos c2] at h
    refine xg_aald (k' := 61) (i' := x3.toNatClampNeg) (n := x3.toNatClampNeg) dX12_readBetween_17 rfl (by decide) (inb_in c2) rfl rfl ?_
    refine xj_iconst (z := 0) dX12_readBetween_18 (by decide) ?_
    refine xg_iald (z := (m 61 x3.toNatClampNeg 0)) (n := 0) dX12_readBetween_19 rfl (by decide) (inb_in (by decide)) (by decide) rfl ?_
    refine xj_iload_n 1 dX12_readBetween_20 rfl ?_
    refine xj_icmp_ne (tgt := 36) dX12_readBetween_21 (by decide) (fun c3 => ?_) (fun c3 => ?_)
    · rw [if_neg c3] at h
      exact ok_X12_readBetween_j36_c2 x1 x2 x3 m h kb ke kr
    · rw [if_pos c3] at h
      refine xj_aload_n 0 dX12_readBetween_24 rfl ?_
      refine xg_getR (k' := 62) (i' := 0) dX12_readBetween_25 fl_X12_34 rfl ?_
      refine xj_iload_n 3 dX12_readBetween_28 rfl ?_
      refine xg_aald (k' := 61) (i' := x3.toNatClampNeg) (n := x3.toNatClampNeg) dX12_readBetween_29 rfl (by decide) (inb_in c2) rfl rfl ?_
      refine xj_iconst (z := 1) dX12_readBetween_30 (by decide) ?_
      refine xg_iald (z := (m 61 x3.toNatClampNeg 1)) (n := 1) dX12_readBetween_31 rfl (by decide) (inb_in (by decide)) (by decide) rfl ?_
      refine xj_iload_n 2 dX12_readBetween_32 rfl ?_
      refine xj_icmp_eq (tgt := 60) dX12_readBetween_33 (by decide) (fun c4 => ?_) (fun c4 => ?_)
      · rw [if_pos c4] at h
        refine xj_iload_n 3 dX12_readBetween_60 rfl ?_
        cases h
        obtain ⟨rfl, rfl⟩ := kr _ rfl
        exact xj_ireturn dX12_readBetween_61 rfl (by decide) (by decide)
      · rw [if_neg c4] at h
        exact ok_X12_readBetween_j36_c2 x1 x2 x3 m h kb ke kr
noncomputable def r_X12_readBetween_e68_h2 (m : Mem) : Option Int32 :=
  some (-1)
set_option maxHeartbeats 4000000 in
set_option maxRecDepth 20000 in
theorem ok_X12_readBetween_e68_h2 (m : Mem) {z : Int32} (h : r_X12_readBetween_e68_h2 m = some z) : Xj RX12 cX12_readBetween 4 (some .int) 1 0 0 0 0 0 68 [] [] m (oI z) m := by
  unfold r_X12_readBetween_e68_h2 at h
  refine xj_iconst (z := (-1)) dX12_readBetween_68 (by decide) ?_
  cases h
  exact xj_ireturn dX12_readBetween_69 rfl (by decide) (by decide)
noncomputable def r_X12_readBetween_l2 (x1 : Int32) (x2 : Int32) (x3 : Int32) (m : Mem) : Option Int32 :=
  bdS (loopO (fun s => r_X12_readBetween_b2 x1 x2 m s) x3) (fun e => r_X12_readBetween_e68_h2 m) (fun q => some q)
set_option maxHeartbeats 4000000 in
set_option maxRecDepth 20000 in
theorem ok_X12_readBetween_l2 (x1 : Int32) (x2 : Int32) (x3 : Int32) (m : Mem) {z : Int32} (h : r_X12_readBetween_l2 x1 x2 x3 m = some z) : Xj RX12 cX12_readBetween 4 (some .int) 1 0 0 0 0 0 2 [(0, vR 12 0), (1, vI x1), (2, vI x2), (3, vI x3)] [] m (oI z) m := by
  unfold r_X12_readBetween_l2 at h
  rcases bdS_some h with ⟨e, e1, h⟩ | ⟨q, e1, h⟩
  · refine loopO_ok (P := fun s : (Int32) => Xj RX12 cX12_readBetween 4 (some .int) 1 0 0 0 0 0 2 [(0, vR 12 0), (1, vI x1), (2, vI x2), (3, vI s)] [] m (oI z) m) (Q := Sum.elim (fun e : Unit => Xj RX12 cX12_readBetween 4 (some .int) 1 0 0 0 0 0 68 [] [] m (oI z) m) (fun q : Int32 => (oI z) = (oI q) ∧ m = m)) ?_ _ _ e1 ?_
    · intro s r9 h9 hi hx
      exact ok_X12_readBetween_b2 x1 x2 m s h9 (by rintro _ rfl; exact hi _ rfl) (by rintro rfl; exact hx _ rfl) (by rintro _ rfl; exact hx _ rfl)
    · exact ok_X12_readBetween_e68_h2 m h 
  · refine loopO_ok (P := fun s : (Int32) => Xj RX12 cX12_readBetween 4 (some .int) 1 0 0 0 0 0 2 [(0, vR 12 0), (1, vI x1), (2, vI x2), (3, vI s)] [] m (oI z) m) (Q := Sum.elim (fun e : Unit => Xj RX12 cX12_readBetween 4 (some .int) 1 0 0 0 0 0 68 [] [] m (oI z) m) (fun q : Int32 => (oI z) = (oI q) ∧ m = m)) ?_ _ _ e1 ?_
    · intro s r9 h9 hi hx
      exact ok_X12_readBetween_b2 x1 x2 m s h9 (by rintro _ rfl; exact hi _ rfl) (by rintro rfl; exact hx _ rfl) (by rintro _ rfl; exact hx _ rfl)
    · cases h; exact ⟨rfl, rfl⟩
noncomputable def r_X12_readBetween (x1 : Int32) (x2 : Int32) (m : Mem) : Option Int32 :=
  r_X12_readBetween_l2 x1 x2 0 m
set_option maxHeartbeats 4000000 in
set_option maxRecDepth 20000 in
theorem ok_X12_readBetween (x1 : Int32) (x2 : Int32) (m : Mem) {z : Int32} (h : r_X12_readBetween x1 x2 m = some z) : Mt yX12_readBetween cX12_readBetween 4 (some .int) 1 0 0 0 [vR 12 0, vI x1, vI x2] m (oI z) m := by
  refine Mt.of (by decide) (Nat.le_of_ble_eq_true rfl) (by decide +kernel) (hhF_ne (by decide)) ?_
  show Xj RX12 cX12_readBetween 4 (some .int) 1 0 0 0 0 0 0 [(0, vR 12 0), (1, vI x1), (2, vI x2)] [] m (oI z) m
  unfold r_X12_readBetween at h
  refine xj_iconst (z := 0) dX12_readBetween_0 (by decide) ?_
  refine xj_istore_n (ls' := [(3, vI 0), (0, vR 12 0), (1, vI x1), (2, vI x2)]) dX12_readBetween_1 rfl (by decide) rfl ?_
  refine xj_pick (ls' := [(0, vR 12 0), (1, vI x1), (2, vI x2), (3, vI 0)]) [1, 2, 3, 0] rfl ?_
  exact ok_X12_readBetween_l2 x1 x2 0 m h 
noncomputable def r_X12_mostOf (x0 : Int32) : Int32 :=
  if x0 = 0 then (12) else (if x0 = 1 then (16) else (6))
set_option maxHeartbeats 4000000 in
set_option maxRecDepth 20000 in
theorem ok_X12_mostOf (x0 : Int32) (m : Mem) {z : Int32} (h : r_X12_mostOf x0 = z) : Mt yX12_mostOf cX12_mostOf 1 (some .int) 1 0 0 0 [vI x0] m (oI z) m := by
  refine Mt.of (by decide) (Nat.le_of_ble_eq_true rfl) (by decide +kernel) (hhF_ne (by decide)) ?_
  show Xj RX12 cX12_mostOf 1 (some .int) 1 0 0 0 0 0 0 [(0, vI x0)] [] m (oI z) m
  unfold r_X12_mostOf at h
  refine xj_iload_n 0 dX12_mostOf_0 rfl ?_
  refine xj_if_ne (tgt := 9) dX12_mostOf_1 (by decide) (fun c1 => ?_) (fun c1 => ?_)
  · rw [if_neg c1] at h
    refine xj_iload_n 0 dX12_mostOf_9 rfl ?_
    refine xj_iconst (z := 1) dX12_mostOf_10 (by decide) ?_
    refine xj_icmp_ne (tgt := 19) dX12_mostOf_11 (by decide) (fun c2 => ?_) (fun c2 => ?_)
    · rw [if_neg c2] at h
      refine xj_bipush (z := 6) dX12_mostOf_19 (by decide) ?_
      subst h
      exact xj_ireturn dX12_mostOf_21 rfl (by decide) (by decide)
    · rw [if_pos c2] at h
      refine xj_bipush (z := 16) dX12_mostOf_14 (by decide) ?_
      refine xj_goto (tgt := 21) dX12_mostOf_16 (by decide) ?_
      subst h
      exact xj_ireturn dX12_mostOf_21 rfl (by decide) (by decide)
  · rw [if_pos c1] at h
    refine xj_bipush (z := 12) dX12_mostOf_4 (by decide) ?_
    refine xj_goto (tgt := 21) dX12_mostOf_6 (by decide) ?_
    subst h
    exact xj_ireturn dX12_mostOf_21 rfl (by decide) (by decide)
noncomputable def r_X12_clause_j353 (x1 : Int32) (m : Mem) : Option Mem :=
  bd1 (r_X12_sign 59 m) fun m17 => (if 3 ≤ x1 then (some m17) else (if inb x1 4 = true then (if (m17 12 0 5) = 0 then (some (wr m17 51 0 x1.toNatClampNeg ((m17 51 0 x1.toNatClampNeg) + 1))) else (some (wr m17 51 0 x1.toNatClampNeg ((m17 51 0 x1.toNatClampNeg) + 0)))) else none))
set_option maxHeartbeats 4000000 in
set_option maxRecDepth 20000 in
theorem ok_X12_clause_j353 (x1 : Int32) (m : Mem) {m' : Mem} (h : r_X12_clause_j353 x1 m = some m') : Xj RX12 cX12_clause 7 none 6 109 0 0 0 0 353 [(0, vR 12 0), (1, vI x1)] [] m oV m' := by
  unfold r_X12_clause_j353 at h
  refine xj_aload_n 0 dX12_clause_353 rfl ?_
  refine xj_bipush (z := 59) dX12_clause_354 (by decide) ?_
  obtain ⟨m17, e16, h⟩ := bd1_some h
  refine xc_Vv0 (st := []) (ok_X12_sign 59 m e16) dX12_clause_356 cv_X12_187 rfl rfl (Nat.le_of_ble_eq_true rfl) (by decide) (by decide) (by decide) (by decide) ?_
  refine xj_iload_n 1 dX12_clause_359 rfl ?_
  refine xj_iconst (z := 3) dX12_clause_360 (by decide) ?_
  refine xj_icmp_ge (tgt := 385) dX12_clause_361 (by decide) (fun c18 => ?_) (fun c18 => ?_)
  · rw [if_pos c18] at h
    cases h
    exact xj_return dX12_clause_385 (by decide) (by decide)
  · rw [if_neg c18] at h
    refine xj_aload_n 0 dX12_clause_364 rfl ?_
    refine xg_getR (k' := 51) (i' := 0) dX12_clause_365 fl_X12_20 rfl ?_
    refine xj_iload_n 1 dX12_clause_368 rfl ?_
    refine xj_dup2 dX12_clause_369 rfl rfl ?_
    by_cases c19 : inb x1 4 = true
    case neg => rw [if_neg c19] at h; cases h
    rw [if_pos c19] at h
    refine xg_iald (z := (m17 51 0 x1.toNatClampNeg)) (n := x1.toNatClampNeg) dX12_clause_370 rfl (by decide) (inb_in c19) rfl rfl ?_
    refine xj_aload_n 0 dX12_clause_371 rfl ?_
    refine xg_getI (x := (m17 12 0 5)) dX12_clause_372 fl_X12_125 rfl rfl ?_
    refine xj_if_ne (tgt := 382) dX12_clause_375 (by decide) (fun c20 => ?_) (fun c20 => ?_)
    · rw [if_neg c20] at h
      refine xj_iconst (z := 0) dX12_clause_382 (by decide) ?_
      refine xj_iadd dX12_clause_383 ?_
      refine xg_iast (n := x1.toNatClampNeg) dX12_clause_384 rfl (by decide) (inb_in c19) rfl ?_
      cases h
      exact xj_return dX12_clause_385 (by decide) (by decide)
    · rw [if_pos c20] at h
      refine xj_iconst (z := 1) dX12_clause_378 (by decide) ?_
      refine xj_goto (tgt := 383) dX12_clause_379 (by decide) ?_
      refine xj_iadd dX12_clause_383 ?_
      refine xg_iast (n := x1.toNatClampNeg) dX12_clause_384 rfl (by decide) (inb_in c19) rfl ?_
      cases h
      exact xj_return dX12_clause_385 (by decide) (by decide)
noncomputable def r_X12_clause_j196 (x1 : Int32) (x2 : Int32) (x3 : Int32) (x5 : Int32) (m : Mem) : Option Mem :=
  if inb x2 16 = true then (r_X12_clause_j353 x1 (wr (wr m 61 x2.toNatClampNeg 0 x3) 61 x2.toNatClampNeg 1 x5)) else none
set_option maxHeartbeats 4000000 in
set_option maxRecDepth 20000 in
theorem ok_X12_clause_j196 (x1 : Int32) (x2 : Int32) (x3 : Int32) (x5 : Int32) (m : Mem) {m' : Mem} (h : r_X12_clause_j196 x1 x2 x3 x5 m = some m') : Xj RX12 cX12_clause 7 none 6 109 0 0 0 0 196 [(0, vR 12 0), (1, vI x1), (2, vI x2), (3, vI x3), (5, vI x5)] [] m oV m' := by
  unfold r_X12_clause_j196 at h
  refine xj_aload_n 0 dX12_clause_196 rfl ?_
  refine xg_getR (k' := 62) (i' := 0) dX12_clause_197 fl_X12_34 rfl ?_
  refine xj_iload_n 2 dX12_clause_200 rfl ?_
  by_cases c34 : inb x2 16 = true
  case neg => rw [if_neg c34] at h; cases h
  rw [if_pos c34] at h
  refine xg_aald (k' := 61) (i' := x2.toNatClampNeg) (n := x2.toNatClampNeg) dX12_clause_201 rfl (by decide) (inb_in c34) rfl rfl ?_
  refine xj_iconst (z := 0) dX12_clause_202 (by decide) ?_
  refine xj_iload_n 3 dX12_clause_203 rfl ?_
  refine xg_iast (n := 0) dX12_clause_204 rfl (by decide) (inb_in (by decide)) (by decide) ?_
  refine xj_aload_n 0 dX12_clause_205 rfl ?_
  refine xg_getR (k' := 62) (i' := 0) dX12_clause_206 fl_X12_34 rfl ?_
  refine xj_iload_n 2 dX12_clause_209 rfl ?_
  refine xg_aald (k' := 61) (i' := x2.toNatClampNeg) (n := x2.toNatClampNeg) dX12_clause_210 rfl (by decide) (inb_in c34) rfl rfl ?_
  refine xj_iconst (z := 1) dX12_clause_211 (by decide) ?_
  refine xj_iload 4 dX12_clause_212 rfl ?_
  refine xg_iast (n := 1) dX12_clause_214 rfl (by decide) (inb_in (by decide)) (by decide) ?_
  refine xj_goto (tgt := 353) dX12_clause_215 (by decide) ?_
  refine xj_pick (ls' := [(0, vR 12 0), (1, vI x1)]) [0, 1] rfl ?_
  exact ok_X12_clause_j353 x1 (wr (wr m 61 x2.toNatClampNeg 0 x3) 61 x2.toNatClampNeg 1 x5) h 
noncomputable def r_X12_clause_j189 (x1 : Int32) (x2 : Int32) (x3 : Int32) (x4 : Int32) (x5 : Int32) (m : Mem) : Option Mem :=
  bd1 (r_X12_wrong 2 x4 m) fun m33 => (r_X12_clause_j196 x1 x2 x3 x5 m33)
set_option maxHeartbeats 4000000 in
set_option maxRecDepth 20000 in
theorem ok_X12_clause_j189 (x1 : Int32) (x2 : Int32) (x3 : Int32) (x4 : Int32) (x5 : Int32) (m : Mem) {m' : Mem} (h : r_X12_clause_j189 x1 x2 x3 x4 x5 m = some m') : Xj RX12 cX12_clause 7 none 6 109 0 0 0 0 189 [(0, vR 12 0), (1, vI x1), (2, vI x2), (3, vI x3), (4, vI x4), (5, vI x5)] [] m oV m' := by
  unfold r_X12_clause_j189 at h
  refine xj_aload_n 0 dX12_clause_189 rfl ?_
  refine xj_iconst (z := 2) dX12_clause_190 (by decide) ?_
  refine xj_iload 4 dX12_clause_191 rfl ?_
  obtain ⟨m33, e32, h⟩ := bd1_some h
  refine xc_Vv0 (st := []) (ok_X12_wrong 2 x4 m e32) dX12_clause_193 cv_X12_138 rfl rfl (Nat.le_of_ble_eq_true rfl) (by decide) (by decide) (by decide) (by decide) ?_
  refine xj_pick (ls' := [(0, vR 12 0), (1, vI x1), (2, vI x2), (3, vI x3), (5, vI x5)]) [0, 1, 2, 3, 5] rfl ?_
  exact ok_X12_clause_j196 x1 x2 x3 x5 m33 h 
noncomputable def r_X12_clause_j332 (x1 : Int32) (x3 : Int32) (x4 : Int32) (x6 : Int32) (m : Mem) : Option Mem :=
  if (m 12 0 5) = 0 then (if inb x3 6 = true then (if inb x4 12 = true then (r_X12_clause_j353 x1 (wr m 69 x3.toNatClampNeg x4.toNatClampNeg x6)) else none) else none) else (r_X12_clause_j353 x1 m)
set_option maxHeartbeats 4000000 in
set_option maxRecDepth 20000 in
theorem ok_X12_clause_j332 (x1 : Int32) (x3 : Int32) (x4 : Int32) (x6 : Int32) (m : Mem) {m' : Mem} (h : r_X12_clause_j332 x1 x3 x4 x6 m = some m') : Xj RX12 cX12_clause 7 none 6 109 0 0 0 0 332 [(0, vR 12 0), (1, vI x1), (3, vI x3), (4, vI x4), (6, vI x6)] [] m oV m' := by
  unfold r_X12_clause_j332 at h
  refine xj_aload_n 0 dX12_clause_332 rfl ?_
  refine xg_getI (x := (m 12 0 5)) dX12_clause_333 fl_X12_125 rfl rfl ?_
  refine xj_if_ne (tgt := 353) dX12_clause_336 (by decide) (fun c68 => ?_) (fun c68 => ?_)
  · rw [if_neg c68] at h
    refine xj_pick (ls' := [(0, vR 12 0), (1, vI x1)]) [0, 1] rfl ?_
    exact ok_X12_clause_j353 x1 m h 
  · rw [if_pos c68] at h
    refine xj_aload_n 0 dX12_clause_339 rfl ?_
    refine xg_getR (k' := 70) (i' := 0) dX12_clause_340 fl_X12_46 rfl ?_
    refine xj_iload_n 2 dX12_clause_343 rfl ?_
    by_cases c69 : inb x3 6 = true
    case neg => rw [if_neg c69] at h; cases h
    rw [if_pos c69] at h
    refine xg_aald (k' := 69) (i' := x3.toNatClampNeg) (n := x3.toNatClampNeg) dX12_clause_344 rfl (by decide) (inb_in c69) rfl rfl ?_
    refine xj_iload 3 dX12_clause_345 rfl ?_
    refine xj_iload 4 dX12_clause_347 rfl ?_
    by_cases c70 : inb x4 12 = true
    case neg => rw [if_neg c70] at h; cases h
    rw [if_pos c70] at h
    refine xg_iast (n := x4.toNatClampNeg) dX12_clause_349 rfl (by decide) (inb_in c70) rfl ?_
    refine xj_goto (tgt := 353) dX12_clause_350 (by decide) ?_
    refine xj_pick (ls' := [(0, vR 12 0), (1, vI x1)]) [0, 1] rfl ?_
    exact ok_X12_clause_j353 x1 (wr m 69 x3.toNatClampNeg x4.toNatClampNeg x6) h 
noncomputable def r_X12_clause_j95 (x1 : Int32) (s0 : Int32) (m : Mem) : Option Mem :=
  if x1 = 0 then (bd2 (r_X12_number 0 60 m) fun z14 m13 => (if inb s0 12 = true then (r_X12_clause_j353 x1 (wr m13 53 0 s0.toNatClampNeg z14)) else none)) else if x1 = 1 then (bd2 (r_X12_readPlace m) fun z24 m23 => (bd1 (r_X12_blanks m23) fun m26 => (bd2 (r_X12_readPlace m26) fun z29 m28 => (if (m28 12 0 5) = 0 then (if z24 = z29 then (r_X12_clause_j189 x1 s0 z24 (m26 12 0 4) z29 m28) else (bd1 (r_X12_readBetween z24 z29 m28) fun z36 => (if z36 = (-1) then (r_X12_clause_j196 x1 s0 z24 z29 m28) else (r_X12_clause_j189 x1 s0 z24 (m26 12 0 4) z29 m28)))) else (r_X12_clause_j196 x1 s0 z24 z29 m28))))) else if x1 = 2 then (if inb s0 6 = true then (bd2 (r_X12_number 1 9 m) fun z42 m41 => (bd2 (r_X12_readPlace (wr m41 65 s0.toNatClampNeg 0 z42)) fun z45 m44 => (r_X12_clause_j353 x1 (wr m44 65 s0.toNatClampNeg 1 z45)))) else none) else if x1 = 3 then (bd2 (r_X12_readPlace m) fun z49 m48 => (if (m48 12 0 5) = 0 then (r_X12_clause_j353 x1 (wr m48 51 0 3 z49)) else (r_X12_clause_j353 x1 m48))) else (bd2 (r_X12_number 0 ((m 51 0 2) - 1) m) fun z53 m52 => (bd2 (r_X12_readPlace m52) fun z56 m55 => (bd1 (r_X12_blanks m55) fun m58 => (bd2 (r_X12_readPlace m58) fun z61 m60 => (if (m60 12 0 5) = 0 then (bd1 (r_X12_readBetween z56 z61 m60) fun z64 => (if z64 = (-1) then (bd1 (r_X12_wrong 2 (m58 12 0 4) m60) fun m67 => (r_X12_clause_j332 x1 z53 z56 z61 m67)) else (r_X12_clause_j332 x1 z53 z56 z61 m60))) else (r_X12_clause_j332 x1 z53 z56 z61 m60))))))
set_option maxHeartbeats 4000000 in
set_option maxRecDepth 20000 in
theorem ok_X12_clause_j95 (x1 : Int32) (s0 : Int32) (m : Mem) {m' : Mem} (h : r_X12_clause_j95 x1 s0 m = some m') : Xj RX12 cX12_clause 7 none 6 109 0 0 0 0 95 [(0, vR 12 0), (1, vI x1)] [vI s0] m oV m' := by
  unfold r_X12_clause_j95 at h
  refine xj_istore_n (ls' := [(2, vI s0), (0, vR 12 0), (1, vI x1)]) dX12_clause_95 rfl (by decide) rfl ?_
  refine xj_iload_n 2 dX12_clause_96 rfl ?_
  by_cases c11 : x1 = 0
  · rw [if_pos c11] at h
    refine xj_tableIn (off := 31) (tgt := 128) dX12_clause_97 (by rw [c11]; decide) (by rw [c11]; decide) (by rw [c11]; decide) (by decide) ?_
    refine xj_aload_n 1 dX12_clause_128 rfl ?_
    refine xg_getR (k' := 53) (i' := 0) dX12_clause_129 fl_X12_26 rfl ?_
    refine xj_iload_n 0 dX12_clause_132 rfl ?_
    refine xj_aload_n 1 dX12_clause_133 rfl ?_
    refine xj_iconst (z := 0) dX12_clause_134 (by decide) ?_
    refine xj_bipush (z := 60) dX12_clause_135 (by decide) ?_
    obtain ⟨z14, m13, e12, h⟩ := bd2_some h
    refine xc_Vi0 (st := [vI s0, vR 53 0]) (ok_X12_number 0 60 m e12) dX12_clause_137 cv_X12_171 rfl rfl (Nat.le_of_ble_eq_true rfl) (by decide) (by decide) (by decide) (by decide) ?_
    by_cases c15 : inb s0 12 = true
    case neg => rw [if_neg c15] at h; cases h
    rw [if_pos c15] at h
    refine xg_iast (n := s0.toNatClampNeg) dX12_clause_140 rfl (by decide) (inb_in c15) rfl ?_
    refine xj_goto (tgt := 353) dX12_clause_141 (by decide) ?_
    refine xj_pick (ls' := [(0, vR 12 0), (1, vI x1)]) [1, 2] rfl ?_
    exact ok_X12_clause_j353 x1 (wr m13 53 0 s0.toNatClampNeg z14) h 
  rw [if_neg c11] at h
  by_cases c21 : x1 = 1
  · rw [if_pos c21] at h
    refine xj_tableIn (off := 47) (tgt := 144) dX12_clause_97 (by rw [c21]; decide) (by rw [c21]; decide) (by rw [c21]; decide) (by decide) ?_
    refine xj_aload_n 1 dX12_clause_144 rfl ?_
    obtain ⟨z24, m23, e22, h⟩ := bd2_some h
    refine xc_Vi0 (st := []) (ok_X12_readPlace m e22) dX12_clause_145 cv_X12_181 rfl rfl (Nat.le_of_ble_eq_true rfl) (by decide) (by decide) (by decide) (by decide) ?_
    refine xj_istore_n (ls' := [(3, vI z24), (2, vI s0), (0, vR 12 0), (1, vI x1)]) dX12_clause_148 rfl (by decide) rfl ?_
    refine xj_aload_n 2 dX12_clause_149 rfl ?_
    obtain ⟨m26, e25, h⟩ := bd1_some h
    refine xc_Vv0 (st := []) (ok_X12_blanks m23 e25) dX12_clause_150 cv_X12_131 rfl rfl (Nat.le_of_ble_eq_true rfl) (by decide) (by decide) (by decide) (by decide) ?_
    refine xj_aload_n 2 dX12_clause_153 rfl ?_
    refine xg_getI (x := (m26 12 0 4)) dX12_clause_154 fl_X12_118 rfl rfl ?_
    refine xj_istore (ls' := [(4, vI (m26 12 0 4)), (3, vI z24), (2, vI s0), (0, vR 12 0), (1, vI x1)]) dX12_clause_157 (by decide) rfl ?_
    refine xj_aload_n 3 dX12_clause_159 rfl ?_
    obtain ⟨z29, m28, e27, h⟩ := bd2_some h
    refine xc_Vi0 (st := []) (ok_X12_readPlace m26 e27) dX12_clause_160 cv_X12_181 rfl rfl (Nat.le_of_ble_eq_true rfl) (by decide) (by decide) (by decide) (by decide) ?_
    refine xj_istore (ls' := [(5, vI z29), (4, vI (m26 12 0 4)), (3, vI z24), (2, vI s0), (0, vR 12 0), (1, vI x1)]) dX12_clause_163 (by decide) rfl ?_
    refine xj_aload_n 4 dX12_clause_165 rfl ?_
    refine xg_getI (x := (m28 12 0 5)) dX12_clause_166 fl_X12_125 rfl rfl ?_
    refine xj_if_ne (tgt := 196) dX12_clause_169 (by decide) (fun c30 => ?_) (fun c30 => ?_)
    · rw [if_neg c30] at h
      refine xj_pick (ls' := [(0, vR 12 0), (1, vI x1), (2, vI s0), (3, vI z24), (5, vI z29)]) [4, 5, 3, 2, 0] rfl ?_
      exact ok_X12_clause_j196 x1 s0 z24 z29 m28 h 
    · rw [if_pos c30] at h
      refine xj_iload_n 2 dX12_clause_172 rfl ?_
      refine xj_iload 0 dX12_clause_173 rfl ?_
      refine xj_icmp_eq (tgt := 189) dX12_clause_175 (by decide) (fun c31 => ?_) (fun c31 => ?_)
      · rw [if_pos c31] at h
        refine xj_pick (ls' := [(0, vR 12 0), (1, vI x1), (2, vI s0), (3, vI z24), (4, vI (m26 12 0 4)), (5, vI z29)]) [4, 5, 3, 2, 1, 0] rfl ?_
        exact ok_X12_clause_j189 x1 s0 z24 (m26 12 0 4) z29 m28 h 
      · rw [if_neg c31] at h
        refine xj_aload_n 4 dX12_clause_178 rfl ?_
        refine xj_iload_n 2 dX12_clause_179 rfl ?_
        refine xj_iload 0 dX12_clause_180 rfl ?_
        obtain ⟨z36, e35, h⟩ := bd1_some h
        refine xc_Vi0 (st := []) (ok_X12_readBetween z24 z29 m28 e35) dX12_clause_182 cv_X12_184 rfl rfl (Nat.le_of_ble_eq_true rfl) (by decide) (by decide) (by decide) (by decide) ?_
        refine xj_iconst (z := (-1)) dX12_clause_185 (by decide) ?_
        refine xj_icmp_eq (tgt := 196) dX12_clause_186 (by decide) (fun c37 => ?_) (fun c37 => ?_)
        · rw [if_pos c37] at h
          refine xj_pick (ls' := [(0, vR 12 0), (1, vI x1), (2, vI s0), (3, vI z24), (5, vI z29)]) [4, 5, 3, 2, 0] rfl ?_
          exact ok_X12_clause_j196 x1 s0 z24 z29 m28 h 
        · rw [if_neg c37] at h
          refine xj_pick (ls' := [(0, vR 12 0), (1, vI x1), (2, vI s0), (3, vI z24), (4, vI (m26 12 0 4)), (5, vI z29)]) [4, 5, 3, 2, 1, 0] rfl ?_
          exact ok_X12_clause_j189 x1 s0 z24 (m26 12 0 4) z29 m28 h 
  rw [if_neg c21] at h
  by_cases c38 : x1 = 2
  · rw [if_pos c38] at h
    refine xj_tableIn (off := 121) (tgt := 218) dX12_clause_97 (by rw [c38]; decide) (by rw [c38]; decide) (by rw [c38]; decide) (by decide) ?_
    refine xj_aload_n 1 dX12_clause_218 rfl ?_
    refine xg_getR (k' := 66) (i' := 0) dX12_clause_219 fl_X12_40 rfl ?_
    refine xj_iload_n 0 dX12_clause_222 rfl ?_
    by_cases c39 : inb s0 6 = true
    case neg => rw [if_neg c39] at h; cases h
    rw [if_pos c39] at h
    refine xg_aald (k' := 65) (i' := s0.toNatClampNeg) (n := s0.toNatClampNeg) dX12_clause_223 rfl (by decide) (inb_in c39) rfl rfl ?_
    refine xj_iconst (z := 0) dX12_clause_224 (by decide) ?_
    refine xj_aload_n 1 dX12_clause_225 rfl ?_
    refine xj_iconst (z := 1) dX12_clause_226 (by decide) ?_
    refine xj_bipush (z := 9) dX12_clause_227 (by decide) ?_
    obtain ⟨z42, m41, e40, h⟩ := bd2_some h
    refine xc_Vi0 (st := [vI 0, vR 65 s0.toNatClampNeg]) (ok_X12_number 1 9 m e40) dX12_clause_229 cv_X12_171 rfl rfl (Nat.le_of_ble_eq_true rfl) (by decide) (by decide) (by decide) (by decide) ?_
    refine xg_iast (n := 0) dX12_clause_232 rfl (by decide) (inb_in (by decide)) (by decide) ?_
    refine xj_aload_n 1 dX12_clause_233 rfl ?_
    refine xg_getR (k' := 66) (i' := 0) dX12_clause_234 fl_X12_40 rfl ?_
    refine xj_iload_n 0 dX12_clause_237 rfl ?_
    refine xg_aald (k' := 65) (i' := s0.toNatClampNeg) (n := s0.toNatClampNeg) dX12_clause_238 rfl (by decide) (inb_in c39) rfl rfl ?_
    refine xj_iconst (z := 1) dX12_clause_239 (by decide) ?_
    refine xj_aload_n 1 dX12_clause_240 rfl ?_
    obtain ⟨z45, m44, e43, h⟩ := bd2_some h
    refine xc_Vi0 (st := [vI 1, vR 65 s0.toNatClampNeg]) (ok_X12_readPlace (wr m41 65 s0.toNatClampNeg 0 z42) e43) dX12_clause_241 cv_X12_181 rfl rfl (Nat.le_of_ble_eq_true rfl) (by decide) (by decide) (by decide) (by decide) ?_
    refine xg_iast (n := 1) dX12_clause_244 rfl (by decide) (inb_in (by decide)) (by decide) ?_
    refine xj_goto (tgt := 353) dX12_clause_245 (by decide) ?_
    refine xj_pick (ls' := [(0, vR 12 0), (1, vI x1)]) [1, 2] rfl ?_
    exact ok_X12_clause_j353 x1 (wr m44 65 s0.toNatClampNeg 1 z45) h 
  rw [if_neg c38] at h
  by_cases c46 : x1 = 3
  · rw [if_pos c46] at h
    refine xj_tableIn (off := 151) (tgt := 248) dX12_clause_97 (by rw [c46]; decide) (by rw [c46]; decide) (by rw [c46]; decide) (by decide) ?_
    refine xj_aload_n 1 dX12_clause_248 rfl ?_
    obtain ⟨z49, m48, e47, h⟩ := bd2_some h
    refine xc_Vi0 (st := []) (ok_X12_readPlace m e47) dX12_clause_249 cv_X12_181 rfl rfl (Nat.le_of_ble_eq_true rfl) (by decide) (by decide) (by decide) (by decide) ?_
    refine xj_istore_n (ls' := [(3, vI z49), (2, vI s0), (0, vR 12 0), (1, vI x1)]) dX12_clause_252 rfl (by decide) rfl ?_
    refine xj_aload_n 2 dX12_clause_253 rfl ?_
    refine xg_getI (x := (m48 12 0 5)) dX12_clause_254 fl_X12_125 rfl rfl ?_
    refine xj_if_ne (tgt := 353) dX12_clause_257 (by decide) (fun c50 => ?_) (fun c50 => ?_)
    · rw [if_neg c50] at h
      refine xj_pick (ls' := [(0, vR 12 0), (1, vI x1)]) [2, 3] rfl ?_
      exact ok_X12_clause_j353 x1 m48 h 
    · rw [if_pos c50] at h
      refine xj_aload_n 2 dX12_clause_260 rfl ?_
      refine xg_getR (k' := 51) (i' := 0) dX12_clause_261 fl_X12_20 rfl ?_
      refine xj_iconst (z := 3) dX12_clause_264 (by decide) ?_
      refine xj_iload_n 0 dX12_clause_265 rfl ?_
      refine xg_iast (n := 3) dX12_clause_266 rfl (by decide) (inb_in (by decide)) (by decide) ?_
      refine xj_goto (tgt := 353) dX12_clause_267 (by decide) ?_
      refine xj_pick (ls' := [(0, vR 12 0), (1, vI x1)]) [2, 3] rfl ?_
      exact ok_X12_clause_j353 x1 (wr m48 51 0 3 z49) h 
  rw [if_neg c46] at h
  refine xj_tableOut (tgt := 270) dX12_clause_97 ?_ (by decide) ?_
  · have nc11 := lv_neT c11 (show (0 : Int32).toInt = 0 by decide)
    have nc21 := lv_neT c21 (show (1 : Int32).toInt = 1 by decide)
    have nc38 := lv_neT c38 (show (2 : Int32).toInt = 2 by decide)
    have nc46 := lv_neT c46 (show (3 : Int32).toInt = 3 by decide)
    omega
  refine xj_aload_n 1 dX12_clause_270 rfl ?_
  refine xj_iconst (z := 0) dX12_clause_271 (by decide) ?_
  refine xj_aload_n 1 dX12_clause_272 rfl ?_
  refine xg_getR (k' := 51) (i' := 0) dX12_clause_273 fl_X12_20 rfl ?_
  refine xj_iconst (z := 2) dX12_clause_276 (by decide) ?_
  refine xg_iald (z := (m 51 0 2)) (n := 2) dX12_clause_277 rfl (by decide) (inb_in (by decide)) (by decide) rfl ?_
  refine xj_iconst (z := 1) dX12_clause_278 (by decide) ?_
  refine xj_isub dX12_clause_279 ?_
  obtain ⟨z53, m52, e51, h⟩ := bd2_some h
  refine xc_Vi0 (st := []) (ok_X12_number 0 ((m 51 0 2) - 1) m e51) dX12_clause_280 cv_X12_171 rfl rfl (Nat.le_of_ble_eq_true rfl) (by decide) (by decide) (by decide) (by decide) ?_
  refine xj_istore_n (ls' := [(3, vI z53), (2, vI s0), (0, vR 12 0), (1, vI x1)]) dX12_clause_283 rfl (by decide) rfl ?_
  refine xj_aload_n 2 dX12_clause_284 rfl ?_
  obtain ⟨z56, m55, e54, h⟩ := bd2_some h
  refine xc_Vi0 (st := []) (ok_X12_readPlace m52 e54) dX12_clause_285 cv_X12_181 rfl rfl (Nat.le_of_ble_eq_true rfl) (by decide) (by decide) (by decide) (by decide) ?_
  refine xj_istore (ls' := [(4, vI z56), (3, vI z53), (2, vI s0), (0, vR 12 0), (1, vI x1)]) dX12_clause_288 (by decide) rfl ?_
  refine xj_aload_n 3 dX12_clause_290 rfl ?_
  obtain ⟨m58, e57, h⟩ := bd1_some h
  refine xc_Vv0 (st := []) (ok_X12_blanks m55 e57) dX12_clause_291 cv_X12_131 rfl rfl (Nat.le_of_ble_eq_true rfl) (by decide) (by decide) (by decide) (by decide) ?_
  refine xj_aload_n 3 dX12_clause_294 rfl ?_
  refine xg_getI (x := (m58 12 0 4)) dX12_clause_295 fl_X12_118 rfl rfl ?_
  refine xj_istore (ls' := [(5, vI (m58 12 0 4)), (4, vI z56), (3, vI z53), (2, vI s0), (0, vR 12 0), (1, vI x1)]) dX12_clause_298 (by decide) rfl ?_
  refine xj_aload_n 4 dX12_clause_300 rfl ?_
  obtain ⟨z61, m60, e59, h⟩ := bd2_some h
  refine xc_Vi0 (st := []) (ok_X12_readPlace m58 e59) dX12_clause_301 cv_X12_181 rfl rfl (Nat.le_of_ble_eq_true rfl) (by decide) (by decide) (by decide) (by decide) ?_
  refine xj_istore (ls' := [(6, vI z61), (5, vI (m58 12 0 4)), (4, vI z56), (3, vI z53), (2, vI s0), (0, vR 12 0), (1, vI x1)]) dX12_clause_304 (by decide) rfl ?_
  refine xj_aload_n 5 dX12_clause_306 rfl ?_
  refine xg_getI (x := (m60 12 0 5)) dX12_clause_307 fl_X12_125 rfl rfl ?_
  refine xj_if_ne (tgt := 332) dX12_clause_310 (by decide) (fun c62 => ?_) (fun c62 => ?_)
  · rw [if_neg c62] at h
    refine xj_pick (ls' := [(0, vR 12 0), (1, vI x1), (3, vI z53), (4, vI z56), (6, vI z61)]) [5, 6, 3, 2, 0] rfl ?_
    exact ok_X12_clause_j332 x1 z53 z56 z61 m60 h 
  · rw [if_pos c62] at h
    refine xj_aload_n 5 dX12_clause_313 rfl ?_
    refine xj_iload 2 dX12_clause_314 rfl ?_
    refine xj_iload 0 dX12_clause_316 rfl ?_
    obtain ⟨z64, e63, h⟩ := bd1_some h
    refine xc_Vi0 (st := []) (ok_X12_readBetween z56 z61 m60 e63) dX12_clause_318 cv_X12_184 rfl rfl (Nat.le_of_ble_eq_true rfl) (by decide) (by decide) (by decide) (by decide) ?_
    refine xj_iconst (z := (-1)) dX12_clause_321 (by decide) ?_
    refine xj_icmp_ne (tgt := 332) dX12_clause_322 (by decide) (fun c65 => ?_) (fun c65 => ?_)
    · rw [if_neg c65] at h
      refine xj_pick (ls' := [(0, vR 12 0), (1, vI x1), (3, vI z53), (4, vI z56), (6, vI z61)]) [5, 6, 3, 2, 0] rfl ?_
      exact ok_X12_clause_j332 x1 z53 z56 z61 m60 h 
    · rw [if_pos c65] at h
      refine xj_aload_n 5 dX12_clause_325 rfl ?_
      refine xj_iconst (z := 2) dX12_clause_326 (by decide) ?_
      refine xj_iload 1 dX12_clause_327 rfl ?_
      obtain ⟨m67, e66, h⟩ := bd1_some h
      refine xc_Vv0 (st := []) (ok_X12_wrong 2 (m58 12 0 4) m60 e66) dX12_clause_329 cv_X12_138 rfl rfl (Nat.le_of_ble_eq_true rfl) (by decide) (by decide) (by decide) (by decide) ?_
      refine xj_pick (ls' := [(0, vR 12 0), (1, vI x1), (3, vI z53), (4, vI z56), (6, vI z61)]) [5, 6, 3, 2, 0] rfl ?_
      exact ok_X12_clause_j332 x1 z53 z56 z61 m67 h 
noncomputable def r_X12_clause_j58 (x1 : Int32) (m : Mem) : Option Mem :=
  if (m 12 0 5) = 0 then (bd1 (r_X12_skipWord m) fun m9 => (if 3 ≤ x1 then (r_X12_clause_j95 x1 0 (wr m9 12 0 7 ((m9 12 0 7) + 1))) else (if inb x1 4 = true then (r_X12_clause_j95 x1 (m9 51 0 x1.toNatClampNeg) (wr m9 12 0 7 ((m9 12 0 7) + 1))) else none))) else (some m)
set_option maxHeartbeats 4000000 in
set_option maxRecDepth 20000 in
theorem ok_X12_clause_j58 (x1 : Int32) (m : Mem) {m' : Mem} (h : r_X12_clause_j58 x1 m = some m') : Xj RX12 cX12_clause 7 none 6 109 0 0 0 0 58 [(0, vR 12 0), (1, vI x1)] [] m oV m' := by
  unfold r_X12_clause_j58 at h
  refine xj_aload_n 0 dX12_clause_58 rfl ?_
  refine xg_getI (x := (m 12 0 5)) dX12_clause_59 fl_X12_125 rfl rfl ?_
  refine xj_if_eq (tgt := 66) dX12_clause_62 (by decide) (fun c7 => ?_) (fun c7 => ?_)
  · rw [if_pos c7] at h
    refine xj_aload_n 0 dX12_clause_66 rfl ?_
    obtain ⟨m9, e8, h⟩ := bd1_some h
    refine xc_Vv0 (st := []) (ok_X12_skipWord m e8) dX12_clause_67 cv_X12_162 rfl rfl (Nat.le_of_ble_eq_true rfl) (by decide) (by decide) (by decide) (by decide) ?_
    refine xj_aload_n 0 dX12_clause_70 rfl ?_
    refine xj_dup dX12_clause_71 rfl ?_
    refine xg_getI (x := (m9 12 0 7)) dX12_clause_72 fl_X12_165 rfl rfl ?_
    refine xj_iconst (z := 1) dX12_clause_75 (by decide) ?_
    refine xj_iadd dX12_clause_76 ?_
    refine xj_putI dX12_clause_77 fw_X12_165 rfl ?_
    refine xj_iload_n 1 dX12_clause_80 rfl ?_
    refine xj_iconst (z := 3) dX12_clause_81 (by decide) ?_
    refine xj_icmp_ge (tgt := 94) dX12_clause_82 (by decide) (fun c10 => ?_) (fun c10 => ?_)
    · rw [if_pos c10] at h
      refine xj_iconst (z := 0) dX12_clause_94 (by decide) ?_
      exact ok_X12_clause_j95 x1 0 (wr m9 12 0 7 ((m9 12 0 7) + 1)) h 
    · rw [if_neg c10] at h
      refine xj_aload_n 0 dX12_clause_85 rfl ?_
      refine xg_getR (k' := 51) (i' := 0) dX12_clause_86 fl_X12_20 rfl ?_
      refine xj_iload_n 1 dX12_clause_89 rfl ?_
      by_cases c71 : inb x1 4 = true
      case neg => rw [if_neg c71] at h; cases h
      rw [if_pos c71] at h
      refine xg_iald (z := (m9 51 0 x1.toNatClampNeg)) (n := x1.toNatClampNeg) dX12_clause_90 rfl (by decide) (inb_in c71) rfl rfl ?_
      refine xj_goto (tgt := 95) dX12_clause_91 (by decide) ?_
      exact ok_X12_clause_j95 x1 (m9 51 0 x1.toNatClampNeg) (wr m9 12 0 7 ((m9 12 0 7) + 1)) h 
  · rw [if_neg c7] at h
    cases h
    exact xj_return dX12_clause_65 (by decide) (by decide)
noncomputable def r_X12_clause_j49 (x1 : Int32) (m : Mem) : Option Mem :=
  bd1 (r_X12_wrong 3 (m 12 0 4) m) fun m74 => (r_X12_clause_j58 x1 m74)
set_option maxHeartbeats 4000000 in
set_option maxRecDepth 20000 in
theorem ok_X12_clause_j49 (x1 : Int32) (m : Mem) {m' : Mem} (h : r_X12_clause_j49 x1 m = some m') : Xj RX12 cX12_clause 7 none 6 109 0 0 0 0 49 [(0, vR 12 0), (1, vI x1)] [] m oV m' := by
  unfold r_X12_clause_j49 at h
  refine xj_aload_n 0 dX12_clause_49 rfl ?_
  refine xj_iconst (z := 3) dX12_clause_50 (by decide) ?_
  refine xj_aload_n 0 dX12_clause_51 rfl ?_
  refine xg_getI (x := (m 12 0 4)) dX12_clause_52 fl_X12_118 rfl rfl ?_
  obtain ⟨m74, e73, h⟩ := bd1_some h
  refine xc_Vv0 (st := []) (ok_X12_wrong 3 (m 12 0 4) m e73) dX12_clause_55 cv_X12_138 rfl rfl (Nat.le_of_ble_eq_true rfl) (by decide) (by decide) (by decide) (by decide) ?_
  exact ok_X12_clause_j58 x1 m74 h 
noncomputable def r_X12_clause (m : Mem) : Option Mem :=
  bd2 (r_X12_kindHere m) fun z3 m2 => (if z3 = (-1) then (bd1 (r_X12_wrong 1 (m2 12 0 4) m2) fun m6 => (r_X12_clause_j58 z3 m6)) else (if (m2 12 0 7) = 60 then (r_X12_clause_j49 z3 m2) else (if 3 ≤ z3 then (r_X12_clause_j58 z3 m2) else (if inb z3 4 = true then (if (m2 51 0 z3.toNatClampNeg) = (r_X12_mostOf z3) then (r_X12_clause_j49 z3 m2) else (r_X12_clause_j58 z3 m2)) else none))))
set_option maxHeartbeats 4000000 in
set_option maxRecDepth 20000 in
theorem ok_X12_clause (m : Mem) {m' : Mem} (h : r_X12_clause m = some m') : Mt yX12_clause cX12_clause 7 none 6 109 0 0 [vR 12 0] m oV m' := by
  refine Mt.of (by decide) (Nat.le_of_ble_eq_true rfl) (by decide +kernel) (hhF_ne (by decide)) ?_
  show Xj RX12 cX12_clause 7 none 6 109 0 0 0 0 0 [(0, vR 12 0)] [] m oV m'
  unfold r_X12_clause at h
  refine xj_aload_n 0 dX12_clause_0 rfl ?_
  obtain ⟨z3, m2, e1, h⟩ := bd2_some h
  refine xc_Vi0 (st := []) (ok_X12_kindHere m e1) dX12_clause_1 cv_X12_175 rfl rfl (Nat.le_of_ble_eq_true rfl) (by decide) (by decide) (by decide) (by decide) ?_
  refine xj_istore_n (ls' := [(1, vI z3), (0, vR 12 0)]) dX12_clause_4 rfl (by decide) rfl ?_
  refine xj_iload_n 0 dX12_clause_5 rfl ?_
  refine xj_iconst (z := (-1)) dX12_clause_6 (by decide) ?_
  refine xj_icmp_ne (tgt := 22) dX12_clause_7 (by decide) (fun c4 => ?_) (fun c4 => ?_)
  · rw [if_neg c4] at h
    refine xj_aload_n 1 dX12_clause_22 rfl ?_
    refine xg_getI (x := (m2 12 0 7)) dX12_clause_23 fl_X12_165 rfl rfl ?_
    refine xj_bipush (z := 60) dX12_clause_26 (by decide) ?_
    refine xj_icmp_eq (tgt := 49) dX12_clause_28 (by decide) (fun c72 => ?_) (fun c72 => ?_)
    · rw [if_pos c72] at h
      refine xj_pick (ls' := [(0, vR 12 0), (1, vI z3)]) [1, 0] rfl ?_
      exact ok_X12_clause_j49 z3 m2 h 
    · rw [if_neg c72] at h
      refine xj_iload_n 0 dX12_clause_31 rfl ?_
      refine xj_iconst (z := 3) dX12_clause_32 (by decide) ?_
      refine xj_icmp_ge (tgt := 58) dX12_clause_33 (by decide) (fun c75 => ?_) (fun c75 => ?_)
      · rw [if_pos c75] at h
        refine xj_pick (ls' := [(0, vR 12 0), (1, vI z3)]) [1, 0] rfl ?_
        exact ok_X12_clause_j58 z3 m2 h 
      · rw [if_neg c75] at h
        refine xj_aload_n 1 dX12_clause_36 rfl ?_
        refine xg_getR (k' := 51) (i' := 0) dX12_clause_37 fl_X12_20 rfl ?_
        refine xj_iload_n 0 dX12_clause_40 rfl ?_
        by_cases c76 : inb z3 4 = true
        case neg => rw [if_neg c76] at h; cases h
        rw [if_pos c76] at h
        refine xg_iald (z := (m2 51 0 z3.toNatClampNeg)) (n := z3.toNatClampNeg) dX12_clause_41 rfl (by decide) (inb_in c76) rfl rfl ?_
        refine xj_iload_n 0 dX12_clause_42 rfl ?_
        refine xc_Si0 (st := [vI (m2 51 0 z3.toNatClampNeg)]) (ok_X12_mostOf z3 m2 rfl) dX12_clause_43 cs_X12_178 rfl rfl (Nat.le_of_ble_eq_true rfl) (by decide) (by decide) (by decide) (by decide) ?_
        refine xj_icmp_ne (tgt := 58) dX12_clause_46 (by decide) (fun c77 => ?_) (fun c77 => ?_)
        · rw [if_neg c77] at h
          refine xj_pick (ls' := [(0, vR 12 0), (1, vI z3)]) [1, 0] rfl ?_
          exact ok_X12_clause_j58 z3 m2 h 
        · rw [if_pos c77] at h
          refine xj_pick (ls' := [(0, vR 12 0), (1, vI z3)]) [1, 0] rfl ?_
          exact ok_X12_clause_j49 z3 m2 h 
  · rw [if_pos c4] at h
    refine xj_aload_n 1 dX12_clause_10 rfl ?_
    refine xj_iconst (z := 1) dX12_clause_11 (by decide) ?_
    refine xj_aload_n 1 dX12_clause_12 rfl ?_
    refine xg_getI (x := (m2 12 0 4)) dX12_clause_13 fl_X12_118 rfl rfl ?_
    obtain ⟨m6, e5, h⟩ := bd1_some h
    refine xc_Vv0 (st := []) (ok_X12_wrong 1 (m2 12 0 4) m2 e5) dX12_clause_16 cv_X12_138 rfl rfl (Nat.le_of_ble_eq_true rfl) (by decide) (by decide) (by decide) (by decide) ?_
    refine xj_goto (tgt := 58) dX12_clause_19 (by decide) ?_
    refine xj_pick (ls' := [(0, vR 12 0), (1, vI z3)]) [1, 0] rfl ?_
    exact ok_X12_clause_j58 z3 m6 h 
noncomputable def r_X12_takesSign_j30 (s0 : Int32) (m : Mem) : Option (Bool × Mem) :=
  if s0 = 0 then (if inb s0 2 = true then (some (decide (s0 = 1), m)) else none) else (if inb s0 2 = true then (some (decide (s0 = 1), (wr m 12 0 4 ((m 12 0 4) + 1)))) else none)
set_option maxHeartbeats 4000000 in
set_option maxRecDepth 20000 in
theorem ok_X12_takesSign_j30 (s0 : Int32) (m : Mem) {z : Bool} {m' : Mem} (h : r_X12_takesSign_j30 s0 m = some (z, m')) : Xj RX12 cX12_takesSign 3 (some .boolean) 3 41 0 0 0 0 30 [(0, vR 12 0)] [vI s0] m (oB z) m' := by
  unfold r_X12_takesSign_j30 at h
  refine xj_istore_n (ls' := [(2, vI s0), (0, vR 12 0)]) dX12_takesSign_30 rfl (by decide) rfl ?_
  refine xj_iload_n 0 dX12_takesSign_31 rfl ?_
  refine xj_if_eq (tgt := 45) dX12_takesSign_32 (by decide) (fun c7 => ?_) (fun c7 => ?_)
  · rw [if_pos c7] at h
    refine xj_iload_n 0 dX12_takesSign_45 rfl ?_
    by_cases c8 : inb s0 2 = true
    case neg => rw [if_neg c8] at h; cases h
    rw [if_pos c8] at h
    cases h
    exact xj_iretB dX12_takesSign_46 c8 (by decide) (by decide)
  · rw [if_neg c7] at h
    refine xj_aload_n 1 dX12_takesSign_35 rfl ?_
    refine xj_dup dX12_takesSign_36 rfl ?_
    refine xg_getI (x := (m 12 0 4)) dX12_takesSign_37 fl_X12_118 rfl rfl ?_
    refine xj_iconst (z := 1) dX12_takesSign_40 (by decide) ?_
    refine xj_iadd dX12_takesSign_41 ?_
    refine xj_putI dX12_takesSign_42 fw_X12_118 rfl ?_
    refine xj_iload_n 0 dX12_takesSign_45 rfl ?_
    by_cases c9 : inb s0 2 = true
    case neg => rw [if_neg c9] at h; cases h
    rw [if_pos c9] at h
    cases h
    exact xj_iretB dX12_takesSign_46 c9 (by decide) (by decide)
noncomputable def r_X12_takesSign (x1 : Int32) (m : Mem) : Option (Bool × Mem) :=
  if (m 12 0 5) = 0 then (bd1 (r_X12_blanks m) fun m3 => (bd1 (r_X12_byteAt (m3 12 0 4) m3) fun z5 => (if z5 = x1 then (r_X12_takesSign_j30 1 m3) else (r_X12_takesSign_j30 0 m3)))) else (some (false, m))
set_option maxHeartbeats 4000000 in
set_option maxRecDepth 20000 in
theorem ok_X12_takesSign (x1 : Int32) (m : Mem) {z : Bool} {m' : Mem} (h : r_X12_takesSign x1 m = some (z, m')) : Mt yX12_takesSign cX12_takesSign 3 (some .boolean) 3 41 0 0 [vR 12 0, vI x1] m (oB z) m' := by
  refine Mt.of (by decide) (Nat.le_of_ble_eq_true rfl) (by decide +kernel) (hhF_ne (by decide)) ?_
  show Xj RX12 cX12_takesSign 3 (some .boolean) 3 41 0 0 0 0 0 [(0, vR 12 0), (1, vI x1)] [] m (oB z) m'
  unfold r_X12_takesSign at h
  refine xj_aload_n 0 dX12_takesSign_0 rfl ?_
  refine xg_getI (x := (m 12 0 5)) dX12_takesSign_1 fl_X12_125 rfl rfl ?_
  refine xj_if_eq (tgt := 9) dX12_takesSign_4 (by decide) (fun c1 => ?_) (fun c1 => ?_)
  · rw [if_pos c1] at h
    refine xj_aload_n 0 dX12_takesSign_9 rfl ?_
    obtain ⟨m3, e2, h⟩ := bd1_some h
    refine xc_Vv0 (st := []) (ok_X12_blanks m e2) dX12_takesSign_10 cv_X12_131 rfl rfl (Nat.le_of_ble_eq_true rfl) (by decide) (by decide) (by decide) (by decide) ?_
    refine xj_aload_n 0 dX12_takesSign_13 rfl ?_
    refine xj_aload_n 0 dX12_takesSign_14 rfl ?_
    refine xg_getI (x := (m3 12 0 4)) dX12_takesSign_15 fl_X12_118 rfl rfl ?_
    obtain ⟨z5, e4, h⟩ := bd1_some h
    refine xc_Vi0 (st := []) (ok_X12_byteAt (m3 12 0 4) m3 e4) dX12_takesSign_18 cv_X12_121 rfl rfl (Nat.le_of_ble_eq_true rfl) (by decide) (by decide) (by decide) (by decide) ?_
    refine xj_iload_n 1 dX12_takesSign_21 rfl ?_
    refine xj_icmp_ne (tgt := 29) dX12_takesSign_22 (by decide) (fun c6 => ?_) (fun c6 => ?_)
    · rw [if_neg c6] at h
      refine xj_iconst (z := 0) dX12_takesSign_29 (by decide) ?_
      refine xj_pick (ls' := [(0, vR 12 0)]) [0] rfl ?_
      exact ok_X12_takesSign_j30 0 m3 h 
    · rw [if_pos c6] at h
      refine xj_iconst (z := 1) dX12_takesSign_25 (by decide) ?_
      refine xj_goto (tgt := 30) dX12_takesSign_26 (by decide) ?_
      refine xj_pick (ls' := [(0, vR 12 0)]) [0] rfl ?_
      exact ok_X12_takesSign_j30 1 m3 h 
  · rw [if_neg c1] at h
    refine xj_iconst (z := 0) dX12_takesSign_7 (by decide) ?_
    cases h
    exact xj_ireturn dX12_takesSign_8 rfl (by decide) (by decide)
noncomputable def r_X12_notes (x1 : Int32) (x2 : Int32) (m : Mem) : Option Mem :=
  if (m 12 0 5) = 0 then (if inb (m 12 0 22) 160 = true then (some (wr (wr (wr m 75 ((m 12 0 22).toNatClampNeg) 0 x1) 75 ((m 12 0 22).toNatClampNeg) 1 x2) 12 0 22 ((m 12 0 22) + 1))) else none) else (some m)
set_option maxHeartbeats 4000000 in
set_option maxRecDepth 20000 in
theorem ok_X12_notes (x1 : Int32) (x2 : Int32) (m : Mem) {m' : Mem} (h : r_X12_notes x1 x2 m = some m') : Mt yX12_notes cX12_notes 3 none 1 0 0 0 [vR 12 0, vI x1, vI x2] m oV m' := by
  refine Mt.of (by decide) (Nat.le_of_ble_eq_true rfl) (by decide +kernel) (hhF_ne (by decide)) ?_
  show Xj RX12 cX12_notes 3 none 1 0 0 0 0 0 0 [(0, vR 12 0), (1, vI x1), (2, vI x2)] [] m oV m'
  unfold r_X12_notes at h
  refine xj_aload_n 0 dX12_notes_0 rfl ?_
  refine xg_getI (x := (m 12 0 5)) dX12_notes_1 fl_X12_125 rfl rfl ?_
  refine xj_if_eq (tgt := 8) dX12_notes_4 (by decide) (fun c1 => ?_) (fun c1 => ?_)
  · rw [if_pos c1] at h
    refine xj_aload_n 0 dX12_notes_8 rfl ?_
    refine xg_getR (k' := 76) (i' := 0) dX12_notes_9 fl_X12_55 rfl ?_
    refine xj_aload_n 0 dX12_notes_12 rfl ?_
    refine xg_getI (x := (m 12 0 22)) dX12_notes_13 fl_X12_223 rfl rfl ?_
    by_cases c2 : inb (m 12 0 22) 160 = true
    case neg => rw [if_neg c2] at h; cases h
    rw [if_pos c2] at h
    refine xg_aald (k' := 75) (i' := ((m 12 0 22).toNatClampNeg)) (n := (m 12 0 22).toNatClampNeg) dX12_notes_16 rfl (by decide) (inb_in c2) rfl rfl ?_
    refine xj_iconst (z := 0) dX12_notes_17 (by decide) ?_
    refine xj_iload_n 1 dX12_notes_18 rfl ?_
    refine xg_iast (n := 0) dX12_notes_19 rfl (by decide) (inb_in (by decide)) (by decide) ?_
    refine xj_aload_n 0 dX12_notes_20 rfl ?_
    refine xg_getR (k' := 76) (i' := 0) dX12_notes_21 fl_X12_55 rfl ?_
    refine xj_aload_n 0 dX12_notes_24 rfl ?_
    refine xg_getI (x := (m 12 0 22)) dX12_notes_25 fl_X12_223 rfl rfl ?_
    refine xg_aald (k' := 75) (i' := ((m 12 0 22).toNatClampNeg)) (n := (m 12 0 22).toNatClampNeg) dX12_notes_28 rfl (by decide) (inb_in c2) rfl rfl ?_
    refine xj_iconst (z := 1) dX12_notes_29 (by decide) ?_
    refine xj_iload_n 2 dX12_notes_30 rfl ?_
    refine xg_iast (n := 1) dX12_notes_31 rfl (by decide) (inb_in (by decide)) (by decide) ?_
    refine xj_aload_n 0 dX12_notes_32 rfl ?_
    refine xj_dup dX12_notes_33 rfl ?_
    refine xg_getI (x := (m 12 0 22)) dX12_notes_34 fl_X12_223 rfl rfl ?_
    refine xj_iconst (z := 1) dX12_notes_37 (by decide) ?_
    refine xj_iadd dX12_notes_38 ?_
    refine xj_putI dX12_notes_39 fw_X12_223 rfl ?_
    cases h
    exact xj_return dX12_notes_42 (by decide) (by decide)
  · rw [if_neg c1] at h
    cases h
    exact xj_return dX12_notes_7 (by decide) (by decide)
noncomputable def r_X12_opensOne_j45 (m : Mem) : Option (Bool × Mem) :=
  if (m 12 0 5) = 0 then (some (true, m)) else (some (false, m))
set_option maxHeartbeats 4000000 in
set_option maxRecDepth 20000 in
theorem ok_X12_opensOne_j45 (m : Mem) {z : Bool} {m' : Mem} (h : r_X12_opensOne_j45 m = some (z, m')) : Xj RX12 cX12_opensOne 1 (some .boolean) 2 22 0 0 0 0 45 [(0, vR 12 0)] [] m (oB z) m' := by
  unfold r_X12_opensOne_j45 at h
  refine xj_aload_n 0 dX12_opensOne_45 rfl ?_
  refine xg_getI (x := (m 12 0 5)) dX12_opensOne_46 fl_X12_125 rfl rfl ?_
  refine xj_if_ne (tgt := 56) dX12_opensOne_49 (by decide) (fun c5 => ?_) (fun c5 => ?_)
  · rw [if_neg c5] at h
    refine xj_iconst (z := 0) dX12_opensOne_56 (by decide) ?_
    cases h
    exact xj_ireturn dX12_opensOne_57 rfl (by decide) (by decide)
  · rw [if_pos c5] at h
    refine xj_iconst (z := 1) dX12_opensOne_52 (by decide) ?_
    refine xj_goto (tgt := 57) dX12_opensOne_53 (by decide) ?_
    cases h
    exact xj_ireturn dX12_opensOne_57 rfl (by decide) (by decide)
noncomputable def r_X12_opensOne_j28 (m : Mem) : Option (Bool × Mem) :=
  if (m 12 0 5) = 0 then (r_X12_opensOne_j45 (wr m 12 0 8 ((m 12 0 8) + 1))) else (r_X12_opensOne_j45 m)
set_option maxHeartbeats 4000000 in
set_option maxRecDepth 20000 in
theorem ok_X12_opensOne_j28 (m : Mem) {z : Bool} {m' : Mem} (h : r_X12_opensOne_j28 m = some (z, m')) : Xj RX12 cX12_opensOne 1 (some .boolean) 2 22 0 0 0 0 28 [(0, vR 12 0)] [] m (oB z) m' := by
  unfold r_X12_opensOne_j28 at h
  refine xj_aload_n 0 dX12_opensOne_28 rfl ?_
  refine xg_getI (x := (m 12 0 5)) dX12_opensOne_29 fl_X12_125 rfl rfl ?_
  refine xj_if_ne (tgt := 45) dX12_opensOne_32 (by decide) (fun c6 => ?_) (fun c6 => ?_)
  · rw [if_neg c6] at h
    exact ok_X12_opensOne_j45 m h 
  · rw [if_pos c6] at h
    refine xj_aload_n 0 dX12_opensOne_35 rfl ?_
    refine xj_dup dX12_opensOne_36 rfl ?_
    refine xg_getI (x := (m 12 0 8)) dX12_opensOne_37 fl_X12_168 rfl rfl ?_
    refine xj_iconst (z := 1) dX12_opensOne_40 (by decide) ?_
    refine xj_iadd dX12_opensOne_41 ?_
    refine xj_putI dX12_opensOne_42 fw_X12_168 rfl ?_
    exact ok_X12_opensOne_j45 (wr m 12 0 8 ((m 12 0 8) + 1)) h 
noncomputable def r_X12_opensOne (m : Mem) : Option (Bool × Mem) :=
  if (m 12 0 5) = 0 then (if (m 12 0 8) = 6 then (bd1 (r_X12_wrong 3 (m 12 0 4) m) fun m4 => (r_X12_opensOne_j45 m4)) else (r_X12_opensOne_j28 m)) else (r_X12_opensOne_j28 m)
set_option maxHeartbeats 4000000 in
set_option maxRecDepth 20000 in
theorem ok_X12_opensOne (m : Mem) {z : Bool} {m' : Mem} (h : r_X12_opensOne m = some (z, m')) : Mt yX12_opensOne cX12_opensOne 1 (some .boolean) 2 22 0 0 [vR 12 0] m (oB z) m' := by
  refine Mt.of (by decide) (Nat.le_of_ble_eq_true rfl) (by decide +kernel) (hhF_ne (by decide)) ?_
  show Xj RX12 cX12_opensOne 1 (some .boolean) 2 22 0 0 0 0 0 [(0, vR 12 0)] [] m (oB z) m'
  unfold r_X12_opensOne at h
  refine xj_aload_n 0 dX12_opensOne_0 rfl ?_
  refine xg_getI (x := (m 12 0 5)) dX12_opensOne_1 fl_X12_125 rfl rfl ?_
  refine xj_if_ne (tgt := 28) dX12_opensOne_4 (by decide) (fun c1 => ?_) (fun c1 => ?_)
  · rw [if_neg c1] at h
    exact ok_X12_opensOne_j28 m h 
  · rw [if_pos c1] at h
    refine xj_aload_n 0 dX12_opensOne_7 rfl ?_
    refine xg_getI (x := (m 12 0 8)) dX12_opensOne_8 fl_X12_168 rfl rfl ?_
    refine xj_bipush (z := 6) dX12_opensOne_11 (by decide) ?_
    refine xj_icmp_ne (tgt := 28) dX12_opensOne_13 (by decide) (fun c2 => ?_) (fun c2 => ?_)
    · rw [if_neg c2] at h
      exact ok_X12_opensOne_j28 m h 
    · rw [if_pos c2] at h
      refine xj_aload_n 0 dX12_opensOne_16 rfl ?_
      refine xj_iconst (z := 3) dX12_opensOne_17 (by decide) ?_
      refine xj_aload_n 0 dX12_opensOne_18 rfl ?_
      refine xg_getI (x := (m 12 0 4)) dX12_opensOne_19 fl_X12_118 rfl rfl ?_
      obtain ⟨m4, e3, h⟩ := bd1_some h
      refine xc_Vv0 (st := []) (ok_X12_wrong 3 (m 12 0 4) m e3) dX12_opensOne_22 cv_X12_138 rfl rfl (Nat.le_of_ble_eq_true rfl) (by decide) (by decide) (by decide) (by decide) ?_
      refine xj_goto (tgt := 45) dX12_opensOne_25 (by decide) ?_
      exact ok_X12_opensOne_j45 m4 h 
noncomputable def r_X12_takes (x1 : Int32) (x2 : Int32) (x3 : Int32) (x4 : Int32) (x5 : Int32) (x6 : Int32) (m : Mem) : Option (Bool × Mem) :=
  bd2 (r_X12_isWord x1 x2 x3 x4 x5 x6 m) fun z3 m2 => (if z3 = true then (bd1 (r_X12_skipWord m2) fun m6 => (some (z3, m6))) else (some (z3, m2)))
set_option maxHeartbeats 4000000 in
set_option maxRecDepth 20000 in
theorem ok_X12_takes (x1 : Int32) (x2 : Int32) (x3 : Int32) (x4 : Int32) (x5 : Int32) (x6 : Int32) (m : Mem) {z : Bool} {m' : Mem} (h : r_X12_takes x1 x2 x3 x4 x5 x6 m = some (z, m')) : Mt yX12_takes cX12_takes 8 (some .boolean) 5 89 0 0 [vR 12 0, vI x1, vI x2, vI x3, vI x4, vI x5, vI x6] m (oB z) m' := by
  refine Mt.of (by decide) (Nat.le_of_ble_eq_true rfl) (by decide +kernel) (hhF_ne (by decide)) ?_
  show Xj RX12 cX12_takes 8 (some .boolean) 5 89 0 0 0 0 0 [(0, vR 12 0), (1, vI x1), (2, vI x2), (3, vI x3), (4, vI x4), (5, vI x5), (6, vI x6)] [] m (oB z) m'
  unfold r_X12_takes at h
  refine xj_aload_n 0 dX12_takes_0 rfl ?_
  refine xj_iload_n 1 dX12_takes_1 rfl ?_
  refine xj_iload_n 2 dX12_takes_2 rfl ?_
  refine xj_iload_n 3 dX12_takes_3 rfl ?_
  refine xj_iload 4 dX12_takes_4 rfl ?_
  refine xj_iload 5 dX12_takes_6 rfl ?_
  refine xj_iload 6 dX12_takes_8 rfl ?_
  obtain ⟨z3, m2, e1, h⟩ := bd2_some h
  refine xc_Vb0 (st := []) (ok_X12_isWord x1 x2 x3 x4 x5 x6 m e1) dX12_takes_10 cv_X12_158 rfl rfl (Nat.le_of_ble_eq_true rfl) (by decide) (by decide) (by decide) (by decide) ?_
  refine xj_istore (ls' := [(7, vI (b2i z3)), (0, vR 12 0), (1, vI x1), (2, vI x2), (3, vI x3), (4, vI x4), (5, vI x5), (6, vI x6)]) dX12_takes_13 (by decide) rfl ?_
  refine xj_iload 0 dX12_takes_15 rfl ?_
  refine xj_if_eq (tgt := 24) dX12_takes_17 (by decide) (fun c4 => ?_) (fun c4 => ?_)
  · rw [if_neg (b2i_f c4)] at h
    refine xj_iload 0 dX12_takes_24 rfl ?_
    cases h
    exact xj_ireturn dX12_takes_26 (nar_b2i _) (by decide) (by decide)
  · rw [if_pos (b2i_t c4)] at h
    refine xj_aload_n 1 dX12_takes_20 rfl ?_
    obtain ⟨m6, e5, h⟩ := bd1_some h
    refine xc_Vv0 (st := []) (ok_X12_skipWord m2 e5) dX12_takes_21 cv_X12_162 rfl rfl (Nat.le_of_ble_eq_true rfl) (by decide) (by decide) (by decide) (by decide) ?_
    refine xj_iload 0 dX12_takes_24 rfl ?_
    cases h
    exact xj_ireturn dX12_takes_26 (nar_b2i _) (by decide) (by decide)
noncomputable def r_X12_isTo_j22 (s0 : Int32) (m : Mem) : Option (Bool × Mem) :=
  if s0 = 0 then (if inb s0 2 = true then (some (decide (s0 = 1), m)) else none) else (bd1 (r_X12_skipWord m) fun m9 => (if inb s0 2 = true then (some (decide (s0 = 1), m9)) else none))
set_option maxHeartbeats 4000000 in
set_option maxRecDepth 20000 in
theorem ok_X12_isTo_j22 (s0 : Int32) (m : Mem) {z : Bool} {m' : Mem} (h : r_X12_isTo_j22 s0 m = some (z, m')) : Xj RX12 cX12_isTo 2 (some .boolean) 4 63 0 0 0 0 22 [(0, vR 12 0)] [vI s0] m (oB z) m' := by
  unfold r_X12_isTo_j22 at h
  refine xj_istore_n (ls' := [(1, vI s0), (0, vR 12 0)]) dX12_isTo_22 rfl (by decide) rfl ?_
  refine xj_iload_n 0 dX12_isTo_23 rfl ?_
  refine xj_if_eq (tgt := 31) dX12_isTo_24 (by decide) (fun c6 => ?_) (fun c6 => ?_)
  · rw [if_pos c6] at h
    refine xj_iload_n 0 dX12_isTo_31 rfl ?_
    by_cases c7 : inb s0 2 = true
    case neg => rw [if_neg c7] at h; cases h
    rw [if_pos c7] at h
    cases h
    exact xj_iretB dX12_isTo_32 c7 (by decide) (by decide)
  · rw [if_neg c6] at h
    refine xj_aload_n 1 dX12_isTo_27 rfl ?_
    obtain ⟨m9, e8, h⟩ := bd1_some h
    refine xc_Vv0 (st := []) (ok_X12_skipWord m e8) dX12_isTo_28 cv_X12_162 rfl rfl (Nat.le_of_ble_eq_true rfl) (by decide) (by decide) (by decide) (by decide) ?_
    refine xj_iload_n 0 dX12_isTo_31 rfl ?_
    by_cases c10 : inb s0 2 = true
    case neg => rw [if_neg c10] at h; cases h
    rw [if_pos c10] at h
    cases h
    exact xj_iretB dX12_isTo_32 c10 (by decide) (by decide)
noncomputable def r_X12_isTo_j21 (m : Mem) : Option (Bool × Mem) :=
  r_X12_isTo_j22 0 m
set_option maxHeartbeats 4000000 in
set_option maxRecDepth 20000 in
theorem ok_X12_isTo_j21 (m : Mem) {z : Bool} {m' : Mem} (h : r_X12_isTo_j21 m = some (z, m')) : Xj RX12 cX12_isTo 2 (some .boolean) 4 63 0 0 0 0 21 [(0, vR 12 0)] [] m (oB z) m' := by
  unfold r_X12_isTo_j21 at h
  refine xj_iconst (z := 0) dX12_isTo_21 (by decide) ?_
  exact ok_X12_isTo_j22 0 m h 
noncomputable def r_X12_isTo (m : Mem) : Option (Bool × Mem) :=
  if (m 12 0 5) = 0 then (bd2 (r_X12_wordHere m) fun z4 m3 => (if z4 = 555 then (r_X12_isTo_j22 1 m3) else (r_X12_isTo_j21 m3))) else (r_X12_isTo_j21 m)
set_option maxHeartbeats 4000000 in
set_option maxRecDepth 20000 in
theorem ok_X12_isTo (m : Mem) {z : Bool} {m' : Mem} (h : r_X12_isTo m = some (z, m')) : Mt yX12_isTo cX12_isTo 2 (some .boolean) 4 63 0 0 [vR 12 0] m (oB z) m' := by
  refine Mt.of (by decide) (Nat.le_of_ble_eq_true rfl) (by decide +kernel) (hhF_ne (by decide)) ?_
  show Xj RX12 cX12_isTo 2 (some .boolean) 4 63 0 0 0 0 0 [(0, vR 12 0)] [] m (oB z) m'
  unfold r_X12_isTo at h
  refine xj_aload_n 0 dX12_isTo_0 rfl ?_
  refine xg_getI (x := (m 12 0 5)) dX12_isTo_1 fl_X12_125 rfl rfl ?_
  refine xj_if_ne (tgt := 21) dX12_isTo_4 (by decide) (fun c1 => ?_) (fun c1 => ?_)
  · rw [if_neg c1] at h
    exact ok_X12_isTo_j21 m h 
  · rw [if_pos c1] at h
    refine xj_aload_n 0 dX12_isTo_7 rfl ?_
    obtain ⟨z4, m3, e2, h⟩ := bd2_some h
    refine xc_Vi0 (st := []) (ok_X12_wordHere m e2) dX12_isTo_8 cv_X12_150 rfl rfl (Nat.le_of_ble_eq_true rfl) (by decide) (by decide) (by decide) (by decide) ?_
    refine xj_sipush (z := 555) dX12_isTo_11 (by decide) ?_
    refine xj_icmp_ne (tgt := 21) dX12_isTo_14 (by decide) (fun c5 => ?_) (fun c5 => ?_)
    · rw [if_neg c5] at h
      exact ok_X12_isTo_j21 m3 h 
    · rw [if_pos c5] at h
      refine xj_iconst (z := 1) dX12_isTo_17 (by decide) ?_
      refine xj_goto (tgt := 22) dX12_isTo_18 (by decide) ?_
      exact ok_X12_isTo_j22 1 m3 h 
noncomputable def r_X12_knownHere (m : Mem) : Option (Int32 × Mem) :=
  bd2 (r_X12_takes 6 1 12 12 0 0 m) fun z3 m2 => (if z3 = true then (some (0, m2)) else (bd2 (r_X12_takes 2 5 12 9 5 6 m2) fun z7 m6 => (if z7 = true then (some (1, m6)) else (bd2 (r_X12_takes 4 15 21 2 20 0 m6) fun z11 m10 => (if z11 = true then (some (2, m10)) else (bd2 (r_X12_takes 14 5 1 18 0 0 m10) fun z15 m14 => (if z15 = true then (some (3, m14)) else (bd2 (r_X12_takes 4 21 7 0 0 0 m14) fun z19 m18 => (if z19 = true then (some (4, m18)) else (bd2 (r_X12_takes 18 1 14 0 0 0 m18) fun z23 m22 => (if z23 = true then (some (5, m22)) else (bd2 (r_X12_takes 4 1 25 0 0 0 m22) fun z27 m26 => (if z27 = true then (some (6, m26)) else (bd2 (r_X12_takes 6 18 15 13 0 0 m26) fun z31 m30 => (if z31 = true then (some (7, m30)) else (bd2 (r_X12_isTo m30) fun z35 m34 => (if z35 = true then (some (8, m34)) else (some ((-1), m34)))))))))))))))))))
set_option maxHeartbeats 4000000 in
set_option maxRecDepth 20000 in
theorem ok_X12_knownHere (m : Mem) {z : Int32} {m' : Mem} (h : r_X12_knownHere m = some (z, m')) : Mt yX12_knownHere cX12_knownHere 1 (some .int) 6 116 0 0 [vR 12 0] m (oI z) m' := by
  refine Mt.of (by decide) (Nat.le_of_ble_eq_true rfl) (by decide +kernel) (hhF_ne (by decide)) ?_
  show Xj RX12 cX12_knownHere 1 (some .int) 6 116 0 0 0 0 0 [(0, vR 12 0)] [] m (oI z) m'
  unfold r_X12_knownHere at h
  refine xj_aload_n 0 dX12_knownHere_0 rfl ?_
  refine xj_bipush (z := 6) dX12_knownHere_1 (by decide) ?_
  refine xj_iconst (z := 1) dX12_knownHere_3 (by decide) ?_
  refine xj_bipush (z := 12) dX12_knownHere_4 (by decide) ?_
  refine xj_bipush (z := 12) dX12_knownHere_6 (by decide) ?_
  refine xj_iconst (z := 0) dX12_knownHere_8 (by decide) ?_
  refine xj_iconst (z := 0) dX12_knownHere_9 (by decide) ?_
  obtain ⟨z3, m2, e1, h⟩ := bd2_some h
  refine xc_Vb0 (st := []) (ok_X12_takes 6 1 12 12 0 0 m e1) dX12_knownHere_10 cv_X12_238 rfl rfl (Nat.le_of_ble_eq_true rfl) (by decide) (by decide) (by decide) (by decide) ?_
  refine xj_if_eq (tgt := 18) dX12_knownHere_13 (by decide) (fun c4 => ?_) (fun c4 => ?_)
  · rw [if_neg (b2i_f c4)] at h
    refine xj_aload_n 0 dX12_knownHere_18 rfl ?_
    refine xj_iconst (z := 2) dX12_knownHere_19 (by decide) ?_
    refine xj_iconst (z := 5) dX12_knownHere_20 (by decide) ?_
    refine xj_bipush (z := 12) dX12_knownHere_21 (by decide) ?_
    refine xj_bipush (z := 9) dX12_knownHere_23 (by decide) ?_
    refine xj_iconst (z := 5) dX12_knownHere_25 (by decide) ?_
    refine xj_bipush (z := 6) dX12_knownHere_26 (by decide) ?_
    obtain ⟨z7, m6, e5, h⟩ := bd2_some h
    refine xc_Vb0 (st := []) (ok_X12_takes 2 5 12 9 5 6 m2 e5) dX12_knownHere_28 cv_X12_238 rfl rfl (Nat.le_of_ble_eq_true rfl) (by decide) (by decide) (by decide) (by decide) ?_
    refine xj_if_eq (tgt := 36) dX12_knownHere_31 (by decide) (fun c8 => ?_) (fun c8 => ?_)
    · rw [if_neg (b2i_f c8)] at h
      refine xj_aload_n 0 dX12_knownHere_36 rfl ?_
      refine xj_iconst (z := 4) dX12_knownHere_37 (by decide) ?_
      refine xj_bipush (z := 15) dX12_knownHere_38 (by decide) ?_
      refine xj_bipush (z := 21) dX12_knownHere_40 (by decide) ?_
      refine xj_iconst (z := 2) dX12_knownHere_42 (by decide) ?_
      refine xj_bipush (z := 20) dX12_knownHere_43 (by decide) ?_
      refine xj_iconst (z := 0) dX12_knownHere_45 (by decide) ?_
      obtain ⟨z11, m10, e9, h⟩ := bd2_some h
      refine xc_Vb0 (st := []) (ok_X12_takes 4 15 21 2 20 0 m6 e9) dX12_knownHere_46 cv_X12_238 rfl rfl (Nat.le_of_ble_eq_true rfl) (by decide) (by decide) (by decide) (by decide) ?_
      refine xj_if_eq (tgt := 54) dX12_knownHere_49 (by decide) (fun c12 => ?_) (fun c12 => ?_)
      · rw [if_neg (b2i_f c12)] at h
        refine xj_aload_n 0 dX12_knownHere_54 rfl ?_
        refine xj_bipush (z := 14) dX12_knownHere_55 (by decide) ?_
        refine xj_iconst (z := 5) dX12_knownHere_57 (by decide) ?_
        refine xj_iconst (z := 1) dX12_knownHere_58 (by decide) ?_
        refine xj_bipush (z := 18) dX12_knownHere_59 (by decide) ?_
        refine xj_iconst (z := 0) dX12_knownHere_61 (by decide) ?_
        refine xj_iconst (z := 0) dX12_knownHere_62 (by decide) ?_
        obtain ⟨z15, m14, e13, h⟩ := bd2_some h
        refine xc_Vb0 (st := []) (ok_X12_takes 14 5 1 18 0 0 m10 e13) dX12_knownHere_63 cv_X12_238 rfl rfl (Nat.le_of_ble_eq_true rfl) (by decide) (by decide) (by decide) (by decide) ?_
        refine xj_if_eq (tgt := 71) dX12_knownHere_66 (by decide) (fun c16 => ?_) (fun c16 => ?_)
        · rw [if_neg (b2i_f c16)] at h
          refine xj_aload_n 0 dX12_knownHere_71 rfl ?_
          refine xj_iconst (z := 4) dX12_knownHere_72 (by decide) ?_
          refine xj_bipush (z := 21) dX12_knownHere_73 (by decide) ?_
          refine xj_bipush (z := 7) dX12_knownHere_75 (by decide) ?_
          refine xj_iconst (z := 0) dX12_knownHere_77 (by decide) ?_
          refine xj_iconst (z := 0) dX12_knownHere_78 (by decide) ?_
          refine xj_iconst (z := 0) dX12_knownHere_79 (by decide) ?_
          obtain ⟨z19, m18, e17, h⟩ := bd2_some h
          refine xc_Vb0 (st := []) (ok_X12_takes 4 21 7 0 0 0 m14 e17) dX12_knownHere_80 cv_X12_238 rfl rfl (Nat.le_of_ble_eq_true rfl) (by decide) (by decide) (by decide) (by decide) ?_
          refine xj_if_eq (tgt := 88) dX12_knownHere_83 (by decide) (fun c20 => ?_) (fun c20 => ?_)
          · rw [if_neg (b2i_f c20)] at h
            refine xj_aload_n 0 dX12_knownHere_88 rfl ?_
            refine xj_bipush (z := 18) dX12_knownHere_89 (by decide) ?_
            refine xj_iconst (z := 1) dX12_knownHere_91 (by decide) ?_
            refine xj_bipush (z := 14) dX12_knownHere_92 (by decide) ?_
            refine xj_iconst (z := 0) dX12_knownHere_94 (by decide) ?_
            refine xj_iconst (z := 0) dX12_knownHere_95 (by decide) ?_
            refine xj_iconst (z := 0) dX12_knownHere_96 (by decide) ?_
            obtain ⟨z23, m22, e21, h⟩ := bd2_some h
            refine xc_Vb0 (st := []) (ok_X12_takes 18 1 14 0 0 0 m18 e21) dX12_knownHere_97 cv_X12_238 rfl rfl (Nat.le_of_ble_eq_true rfl) (by decide) (by decide) (by decide) (by decide) ?_
            refine xj_if_eq (tgt := 105) dX12_knownHere_100 (by decide) (fun c24 => ?_) (fun c24 => ?_)
            · rw [if_neg (b2i_f c24)] at h
              refine xj_aload_n 0 dX12_knownHere_105 rfl ?_
              refine xj_iconst (z := 4) dX12_knownHere_106 (by decide) ?_
              refine xj_iconst (z := 1) dX12_knownHere_107 (by decide) ?_
              refine xj_bipush (z := 25) dX12_knownHere_108 (by decide) ?_
              refine xj_iconst (z := 0) dX12_knownHere_110 (by decide) ?_
              refine xj_iconst (z := 0) dX12_knownHere_111 (by decide) ?_
              refine xj_iconst (z := 0) dX12_knownHere_112 (by decide) ?_
              obtain ⟨z27, m26, e25, h⟩ := bd2_some h
              refine xc_Vb0 (st := []) (ok_X12_takes 4 1 25 0 0 0 m22 e25) dX12_knownHere_113 cv_X12_238 rfl rfl (Nat.le_of_ble_eq_true rfl) (by decide) (by decide) (by decide) (by decide) ?_
              refine xj_if_eq (tgt := 122) dX12_knownHere_116 (by decide) (fun c28 => ?_) (fun c28 => ?_)
              · rw [if_neg (b2i_f c28)] at h
                refine xj_aload_n 0 dX12_knownHere_122 rfl ?_
                refine xj_bipush (z := 6) dX12_knownHere_123 (by decide) ?_
                refine xj_bipush (z := 18) dX12_knownHere_125 (by decide) ?_
                refine xj_bipush (z := 15) dX12_knownHere_127 (by decide) ?_
                refine xj_bipush (z := 13) dX12_knownHere_129 (by decide) ?_
                refine xj_iconst (z := 0) dX12_knownHere_131 (by decide) ?_
                refine xj_iconst (z := 0) dX12_knownHere_132 (by decide) ?_
                obtain ⟨z31, m30, e29, h⟩ := bd2_some h
                refine xc_Vb0 (st := []) (ok_X12_takes 6 18 15 13 0 0 m26 e29) dX12_knownHere_133 cv_X12_238 rfl rfl (Nat.le_of_ble_eq_true rfl) (by decide) (by decide) (by decide) (by decide) ?_
                refine xj_if_eq (tgt := 142) dX12_knownHere_136 (by decide) (fun c32 => ?_) (fun c32 => ?_)
                · rw [if_neg (b2i_f c32)] at h
                  refine xj_aload_n 0 dX12_knownHere_142 rfl ?_
                  obtain ⟨z35, m34, e33, h⟩ := bd2_some h
                  refine xc_Vb0 (st := []) (ok_X12_isTo m30 e33) dX12_knownHere_143 cv_X12_241 rfl rfl (Nat.le_of_ble_eq_true rfl) (by decide) (by decide) (by decide) (by decide) ?_
                  refine xj_if_eq (tgt := 154) dX12_knownHere_146 (by decide) (fun c36 => ?_) (fun c36 => ?_)
                  · rw [if_neg (b2i_f c36)] at h
                    refine xj_iconst (z := (-1)) dX12_knownHere_154 (by decide) ?_
                    cases h
                    exact xj_ireturn dX12_knownHere_155 rfl (by decide) (by decide)
                  · rw [if_pos (b2i_t c36)] at h
                    refine xj_bipush (z := 8) dX12_knownHere_149 (by decide) ?_
                    refine xj_goto (tgt := 155) dX12_knownHere_151 (by decide) ?_
                    cases h
                    exact xj_ireturn dX12_knownHere_155 rfl (by decide) (by decide)
                · rw [if_pos (b2i_t c32)] at h
                  refine xj_bipush (z := 7) dX12_knownHere_139 (by decide) ?_
                  cases h
                  exact xj_ireturn dX12_knownHere_141 rfl (by decide) (by decide)
              · rw [if_pos (b2i_t c28)] at h
                refine xj_bipush (z := 6) dX12_knownHere_119 (by decide) ?_
                cases h
                exact xj_ireturn dX12_knownHere_121 rfl (by decide) (by decide)
            · rw [if_pos (b2i_t c24)] at h
              refine xj_iconst (z := 5) dX12_knownHere_103 (by decide) ?_
              cases h
              exact xj_ireturn dX12_knownHere_104 rfl (by decide) (by decide)
          · rw [if_pos (b2i_t c20)] at h
            refine xj_iconst (z := 4) dX12_knownHere_86 (by decide) ?_
            cases h
            exact xj_ireturn dX12_knownHere_87 rfl (by decide) (by decide)
        · rw [if_pos (b2i_t c16)] at h
          refine xj_iconst (z := 3) dX12_knownHere_69 (by decide) ?_
          cases h
          exact xj_ireturn dX12_knownHere_70 rfl (by decide) (by decide)
      · rw [if_pos (b2i_t c12)] at h
        refine xj_iconst (z := 2) dX12_knownHere_52 (by decide) ?_
        cases h
        exact xj_ireturn dX12_knownHere_53 rfl (by decide) (by decide)
    · rw [if_pos (b2i_t c8)] at h
      refine xj_iconst (z := 1) dX12_knownHere_34 (by decide) ?_
      cases h
      exact xj_ireturn dX12_knownHere_35 rfl (by decide) (by decide)
  · rw [if_pos (b2i_t c4)] at h
    refine xj_iconst (z := 0) dX12_knownHere_16 (by decide) ?_
    cases h
    exact xj_ireturn dX12_knownHere_17 rfl (by decide) (by decide)
/-! the methods that call each other: sum -/
def MG_sum (f0 l0 sel i : Nat) (as : List Int32) (m : Mem) (m' : Mem) : Prop := match sel, as with
  | 0, [] => Mt yX12_sum cX12_sum 2 none f0 l0 0 0 [vR 12 0] m oV m'
  | 1, [] => Mt yX12_product cX12_product 2 none f0 l0 0 0 [vR 12 0] m oV m'
  | 2, [] => Mt yX12_one cX12_one 3 none f0 l0 0 0 [vR 12 0] m oV m'
  | _, _ => True
def RG_sum (f0 l0 : Nat) (rec : Nat → Nat → List Int32 → Mem → Option Mem) : Prop := ∀ (sel i : Nat) (as : List Int32) (m : Mem) (m' : Mem), rec sel i as m = some m' → MG_sum f0 l0 sel i as m m'
noncomputable def r_X12_sum_j38_c4 (rec : Nat → Nat → List Int32 → Mem → Option Mem) (s0 : Int32) (m : Mem) : Option ((Mem) ⊕ ((Mem) ⊕ Mem)) :=
  if s0 = (-1) then (some (Sum.inr (Sum.inr m))) else (bd1 (rec 1 0 [] m) fun m10 => (bd1 (r_X12_notes s0 0 m10) fun m12 => (some (Sum.inl m12))))
set_option maxHeartbeats 4000000 in
set_option maxRecDepth 20000 in
theorem ok_X12_sum_j38_c4 (rec : Nat → Nat → List Int32 → Mem → Option Mem) {f0 l0 f9 l9 : Nat} (hrec : RG_sum f0 l0 rec) (hf : f0 + 1 ≤ f9) (hf2 : 4 ≤ f9) (hl : l0 + 22 ≤ l9) (hl2 : 63 ≤ l9) (s0 : Int32) (m : Mem) {r : (Mem) ⊕ ((Mem) ⊕ Mem)} (h : r_X12_sum_j38_c4 rec s0 m = some r) {o : Ou} {M' : Mem} (kb : ∀ (m'' : Mem), r = Sum.inl m'' → Xj RX12 cX12_sum 2 none f9 l9 0 0 0 0 4 [(0, vR 12 0)] [] m'' o M') (ke : ∀ (m'' : Mem), r = Sum.inr (Sum.inl m'') → Xj RX12 cX12_sum 2 none f9 l9 0 0 0 0 58 [] [] m'' o M') (kr : ∀ (m' : Mem), r = Sum.inr (Sum.inr m') → o = oV ∧ M' = m') : Xj RX12 cX12_sum 2 none f9 l9 0 0 0 0 38 [(0, vR 12 0)] [vI s0] m o M' := by
  unfold r_X12_sum_j38_c4 at h
  refine xj_istore_n (ls' := [(1, vI s0), (0, vR 12 0)]) dX12_sum_38 rfl (by decide) rfl ?_
  refine xj_iload_n 0 dX12_sum_39 rfl ?_
  refine xj_iconst (z := (-1)) dX12_sum_40 (by decide) ?_
  refine xj_icmp_ne (tgt := 45) dX12_sum_41 (by decide) (fun c8 => ?_) (fun c8 => ?_)
  · rw [if_neg c8] at h
    refine xj_aload_n 1 dX12_sum_45 rfl ?_
    obtain ⟨m10, e9, h⟩ := bd1_some h
    refine xc_Vv0 (st := []) (hrec 1 0 [] m _ e9) dX12_sum_46 cv_X12_226 rfl rfl (Nat.le_of_ble_eq_true rfl) (by omega) (by omega) (by decide) (by decide) ?_
    refine xj_aload_n 1 dX12_sum_49 rfl ?_
    refine xj_iload_n 0 dX12_sum_50 rfl ?_
    refine xj_iconst (z := 0) dX12_sum_51 (by decide) ?_
    obtain ⟨m12, e11, h⟩ := bd1_some h
    refine xc_Vv0 (st := []) (ok_X12_notes s0 0 m10 e11) dX12_sum_52 cv_X12_232 rfl rfl (Nat.le_of_ble_eq_true rfl) (by omega) (by omega) (by decide) (by decide) ?_
    refine xj_goto (tgt := 4) dX12_sum_55 (by decide) ?_
    cases h
    refine xj_pick (ls' := [(0, vR 12 0)]) [1] rfl ?_
    exact kb m12 rfl
  · rw [if_pos c8] at h
    cases h
    obtain ⟨rfl, rfl⟩ := kr _ rfl
    exact xj_return dX12_sum_44 (by decide) (by decide)
noncomputable def r_X12_sum_b4 (rec : Nat → Nat → List Int32 → Mem → Option Mem) (m : Mem) : Option ((Mem) ⊕ ((Mem) ⊕ Mem)) :=
  if (m 12 0 5) = 0 then (bd2 (r_X12_takesSign 43 m) fun z6 m5 => (if z6 = true then (r_X12_sum_j38_c4 rec 2 m5) else (bd2 (r_X12_takesSign 45 m5) fun z15 m14 => (if z15 = true then (r_X12_sum_j38_c4 rec 3 m14) else (r_X12_sum_j38_c4 rec (-1) m14))))) else (some (Sum.inr (Sum.inl m)))
set_option maxHeartbeats 4000000 in
set_option maxRecDepth 20000 in
theorem ok_X12_sum_b4 (rec : Nat → Nat → List Int32 → Mem → Option Mem) {f0 l0 f9 l9 : Nat} (hrec : RG_sum f0 l0 rec) (hf : f0 + 1 ≤ f9) (hf2 : 4 ≤ f9) (hl : l0 + 22 ≤ l9) (hl2 : 63 ≤ l9) (m : Mem) {r : (Mem) ⊕ ((Mem) ⊕ Mem)} (h : r_X12_sum_b4 rec m = some r) {o : Ou} {M' : Mem} (kb : ∀ (m'' : Mem), r = Sum.inl m'' → Xj RX12 cX12_sum 2 none f9 l9 0 0 0 0 4 [(0, vR 12 0)] [] m'' o M') (ke : ∀ (m'' : Mem), r = Sum.inr (Sum.inl m'') → Xj RX12 cX12_sum 2 none f9 l9 0 0 0 0 58 [] [] m'' o M') (kr : ∀ (m' : Mem), r = Sum.inr (Sum.inr m') → o = oV ∧ M' = m') : Xj RX12 cX12_sum 2 none f9 l9 0 0 0 0 4 [(0, vR 12 0)] [] m o M' := by
  unfold r_X12_sum_b4 at h
  refine xj_aload_n 0 dX12_sum_4 rfl ?_
  refine xg_getI (x := (m 12 0 5)) dX12_sum_5 fl_X12_125 rfl rfl ?_
  refine xj_if_ne (tgt := 58) dX12_sum_8 (by decide) (fun c3 => ?_) (fun c3 => ?_)
  · rw [if_neg c3] at h
    cases h
    refine xj_pick (ls' := []) [] rfl ?_
    exact ke m rfl
  · rw [if_pos c3] at h
    refine xj_aload_n 0 dX12_sum_11 rfl ?_
    refine xj_bipush (z := 43) dX12_sum_12 (by decide) ?_
    obtain ⟨z6, m5, e4, h⟩ := bd2_some h
    refine xc_Vb0 (st := []) (ok_X12_takesSign 43 m e4) dX12_sum_14 cv_X12_229 rfl rfl (Nat.le_of_ble_eq_true rfl) (by omega) (by omega) (by decide) (by decide) ?_
    refine xj_if_eq (tgt := 24) dX12_sum_17 (by decide) (fun c7 => ?_) (fun c7 => ?_)
    · rw [if_neg (b2i_f c7)] at h
      refine xj_aload_n 0 dX12_sum_24 rfl ?_
      refine xj_bipush (z := 45) dX12_sum_25 (by decide) ?_
      obtain ⟨z15, m14, e13, h⟩ := bd2_some h
      refine xc_Vb0 (st := []) (ok_X12_takesSign 45 m5 e13) dX12_sum_27 cv_X12_229 rfl rfl (Nat.le_of_ble_eq_true rfl) (by omega) (by omega) (by decide) (by decide) ?_
      refine xj_if_eq (tgt := 37) dX12_sum_30 (by decide) (fun c16 => ?_) (fun c16 => ?_)
      · rw [if_neg (b2i_f c16)] at h
        refine xj_iconst (z := (-1)) dX12_sum_37 (by decide) ?_
        exact ok_X12_sum_j38_c4 rec hrec hf hf2 hl hl2 (-1) m14 h kb ke kr
      · rw [if_pos (b2i_t c16)] at h
        refine xj_iconst (z := 3) dX12_sum_33 (by decide) ?_
        refine xj_goto (tgt := 38) dX12_sum_34 (by decide) ?_
        exact ok_X12_sum_j38_c4 rec hrec hf hf2 hl hl2 3 m14 h kb ke kr
    · rw [if_pos (b2i_t c7)] at h
      refine xj_iconst (z := 2) dX12_sum_20 (by decide) ?_
      refine xj_goto (tgt := 38) dX12_sum_21 (by decide) ?_
      exact ok_X12_sum_j38_c4 rec hrec hf hf2 hl hl2 2 m5 h kb ke kr
noncomputable def r_X12_sum_e58_h4 (rec : Nat → Nat → List Int32 → Mem → Option Mem) (m : Mem) : Option Mem :=
  some m
set_option maxHeartbeats 4000000 in
set_option maxRecDepth 20000 in
theorem ok_X12_sum_e58_h4 (rec : Nat → Nat → List Int32 → Mem → Option Mem) {f0 l0 f9 l9 : Nat} (hrec : RG_sum f0 l0 rec) (hf : f0 + 1 ≤ f9) (hf2 : 4 ≤ f9) (hl : l0 + 22 ≤ l9) (hl2 : 63 ≤ l9) (m : Mem) {m' : Mem} (h : r_X12_sum_e58_h4 rec m = some m') : Xj RX12 cX12_sum 2 none f9 l9 0 0 0 0 58 [] [] m oV m' := by
  unfold r_X12_sum_e58_h4 at h
  cases h
  exact xj_return dX12_sum_58 (by decide) (by decide)
noncomputable def r_X12_sum_l4 (rec : Nat → Nat → List Int32 → Mem → Option Mem) (m : Mem) : Option Mem :=
  bdS (loopO (fun s => r_X12_sum_b4 rec s) m) (fun e => r_X12_sum_e58_h4 rec e) (fun q => some q)
set_option maxHeartbeats 4000000 in
set_option maxRecDepth 20000 in
theorem ok_X12_sum_l4 (rec : Nat → Nat → List Int32 → Mem → Option Mem) {f0 l0 f9 l9 : Nat} (hrec : RG_sum f0 l0 rec) (hf : f0 + 1 ≤ f9) (hf2 : 4 ≤ f9) (hl : l0 + 22 ≤ l9) (hl2 : 63 ≤ l9) (m : Mem) {m' : Mem} (h : r_X12_sum_l4 rec m = some m') : Xj RX12 cX12_sum 2 none f9 l9 0 0 0 0 4 [(0, vR 12 0)] [] m oV m' := by
  unfold r_X12_sum_l4 at h
  rcases bdS_some h with ⟨e, e1, h⟩ | ⟨q, e1, h⟩
  · refine loopO_ok (P := fun s : (Mem) => Xj RX12 cX12_sum 2 none f9 l9 0 0 0 0 4 [(0, vR 12 0)] [] s oV m') (Q := Sum.elim (fun e : (Mem) => Xj RX12 cX12_sum 2 none f9 l9 0 0 0 0 58 [] [] e oV m') (fun q : Mem => oV = oV ∧ m' = q)) ?_ _ _ e1 ?_
    · intro s r9 h9 hi hx
      exact ok_X12_sum_b4 rec hrec hf hf2 hl hl2 s h9 (by rintro _ rfl; exact hi _ rfl) (by rintro _ rfl; exact hx _ rfl) (by rintro _ rfl; exact hx _ rfl)
    · exact ok_X12_sum_e58_h4 rec hrec hf hf2 hl hl2 e h 
  · refine loopO_ok (P := fun s : (Mem) => Xj RX12 cX12_sum 2 none f9 l9 0 0 0 0 4 [(0, vR 12 0)] [] s oV m') (Q := Sum.elim (fun e : (Mem) => Xj RX12 cX12_sum 2 none f9 l9 0 0 0 0 58 [] [] e oV m') (fun q : Mem => oV = oV ∧ m' = q)) ?_ _ _ e1 ?_
    · intro s r9 h9 hi hx
      exact ok_X12_sum_b4 rec hrec hf hf2 hl hl2 s h9 (by rintro _ rfl; exact hi _ rfl) (by rintro _ rfl; exact hx _ rfl) (by rintro _ rfl; exact hx _ rfl)
    · cases h; exact ⟨rfl, rfl⟩
noncomputable def r_X12_sum (rec : Nat → Nat → List Int32 → Mem → Option Mem) (m : Mem) : Option Mem :=
  bd1 (rec 1 0 [] m) fun m2 => (r_X12_sum_l4 rec m2)
set_option maxHeartbeats 4000000 in
set_option maxRecDepth 20000 in
theorem ok_X12_sum (rec : Nat → Nat → List Int32 → Mem → Option Mem) {f0 l0 f9 l9 : Nat} (hrec : RG_sum f0 l0 rec) (hf : f0 + 1 ≤ f9) (hf2 : 4 ≤ f9) (hl : l0 + 22 ≤ l9) (hl2 : 63 ≤ l9) (m : Mem) {m' : Mem} (h : r_X12_sum rec m = some m') : Mt yX12_sum cX12_sum 2 none f9 l9 0 0 [vR 12 0] m oV m' := by
  refine Mt.of (by decide) (Nat.le_of_ble_eq_true rfl) (by decide +kernel) (hhF_ne (by decide)) ?_
  show Xj RX12 cX12_sum 2 none f9 l9 0 0 0 0 0 [(0, vR 12 0)] [] m oV m'
  unfold r_X12_sum at h
  refine xj_aload_n 0 dX12_sum_0 rfl ?_
  obtain ⟨m2, e1, h⟩ := bd1_some h
  refine xc_Vv0 (st := []) (hrec 1 0 [] m _ e1) dX12_sum_1 cv_X12_226 rfl rfl (Nat.le_of_ble_eq_true rfl) (by omega) (by omega) (by decide) (by decide) ?_
  exact ok_X12_sum_l4 rec hrec hf hf2 hl hl2 m2 h 
noncomputable def r_X12_product_j52_c4 (rec : Nat → Nat → List Int32 → Mem → Option Mem) (s0 : Int32) (m : Mem) : Option ((Mem) ⊕ ((Mem) ⊕ Mem)) :=
  if s0 = (-1) then (some (Sum.inr (Sum.inr m))) else (bd1 (rec 2 0 [] m) fun m10 => (bd1 (r_X12_notes s0 0 m10) fun m12 => (some (Sum.inl m12))))
set_option maxHeartbeats 4000000 in
set_option maxRecDepth 20000 in
theorem ok_X12_product_j52_c4 (rec : Nat → Nat → List Int32 → Mem → Option Mem) {f0 l0 f9 l9 : Nat} (hrec : RG_sum f0 l0 rec) (hf : f0 + 1 ≤ f9) (hf2 : 4 ≤ f9) (hl : l0 + 22 ≤ l9) (hl2 : 63 ≤ l9) (s0 : Int32) (m : Mem) {r : (Mem) ⊕ ((Mem) ⊕ Mem)} (h : r_X12_product_j52_c4 rec s0 m = some r) {o : Ou} {M' : Mem} (kb : ∀ (m'' : Mem), r = Sum.inl m'' → Xj RX12 cX12_product 2 none f9 l9 0 0 0 0 4 [(0, vR 12 0)] [] m'' o M') (ke : ∀ (m'' : Mem), r = Sum.inr (Sum.inl m'') → Xj RX12 cX12_product 2 none f9 l9 0 0 0 0 72 [] [] m'' o M') (kr : ∀ (m' : Mem), r = Sum.inr (Sum.inr m') → o = oV ∧ M' = m') : Xj RX12 cX12_product 2 none f9 l9 0 0 0 0 52 [(0, vR 12 0)] [vI s0] m o M' := by
  unfold r_X12_product_j52_c4 at h
  refine xj_istore_n (ls' := [(1, vI s0), (0, vR 12 0)]) dX12_product_52 rfl (by decide) rfl ?_
  refine xj_iload_n 0 dX12_product_53 rfl ?_
  refine xj_iconst (z := (-1)) dX12_product_54 (by decide) ?_
  refine xj_icmp_ne (tgt := 59) dX12_product_55 (by decide) (fun c8 => ?_) (fun c8 => ?_)
  · rw [if_neg c8] at h
    refine xj_aload_n 1 dX12_product_59 rfl ?_
    obtain ⟨m10, e9, h⟩ := bd1_some h
    refine xc_Vv0 (st := []) (hrec 2 0 [] m _ e9) dX12_product_60 cv_X12_235 rfl rfl (Nat.le_of_ble_eq_true rfl) (by omega) (by omega) (by decide) (by decide) ?_
    refine xj_aload_n 1 dX12_product_63 rfl ?_
    refine xj_iload_n 0 dX12_product_64 rfl ?_
    refine xj_iconst (z := 0) dX12_product_65 (by decide) ?_
    obtain ⟨m12, e11, h⟩ := bd1_some h
    refine xc_Vv0 (st := []) (ok_X12_notes s0 0 m10 e11) dX12_product_66 cv_X12_232 rfl rfl (Nat.le_of_ble_eq_true rfl) (by omega) (by omega) (by decide) (by decide) ?_
    refine xj_goto (tgt := 4) dX12_product_69 (by decide) ?_
    cases h
    refine xj_pick (ls' := [(0, vR 12 0)]) [1] rfl ?_
    exact kb m12 rfl
  · rw [if_pos c8] at h
    cases h
    obtain ⟨rfl, rfl⟩ := kr _ rfl
    exact xj_return dX12_product_58 (by decide) (by decide)
noncomputable def r_X12_product_b4 (rec : Nat → Nat → List Int32 → Mem → Option Mem) (m : Mem) : Option ((Mem) ⊕ ((Mem) ⊕ Mem)) :=
  if (m 12 0 5) = 0 then (bd2 (r_X12_takesSign 42 m) fun z6 m5 => (if z6 = true then (r_X12_product_j52_c4 rec 4 m5) else (bd2 (r_X12_takesSign 47 m5) fun z15 m14 => (if z15 = true then (r_X12_product_j52_c4 rec 5 m14) else (bd2 (r_X12_takesSign 37 m14) fun z19 m18 => (if z19 = true then (r_X12_product_j52_c4 rec 6 m18) else (r_X12_product_j52_c4 rec (-1) m18))))))) else (some (Sum.inr (Sum.inl m)))
set_option maxHeartbeats 4000000 in
set_option maxRecDepth 20000 in
theorem ok_X12_product_b4 (rec : Nat → Nat → List Int32 → Mem → Option Mem) {f0 l0 f9 l9 : Nat} (hrec : RG_sum f0 l0 rec) (hf : f0 + 1 ≤ f9) (hf2 : 4 ≤ f9) (hl : l0 + 22 ≤ l9) (hl2 : 63 ≤ l9) (m : Mem) {r : (Mem) ⊕ ((Mem) ⊕ Mem)} (h : r_X12_product_b4 rec m = some r) {o : Ou} {M' : Mem} (kb : ∀ (m'' : Mem), r = Sum.inl m'' → Xj RX12 cX12_product 2 none f9 l9 0 0 0 0 4 [(0, vR 12 0)] [] m'' o M') (ke : ∀ (m'' : Mem), r = Sum.inr (Sum.inl m'') → Xj RX12 cX12_product 2 none f9 l9 0 0 0 0 72 [] [] m'' o M') (kr : ∀ (m' : Mem), r = Sum.inr (Sum.inr m') → o = oV ∧ M' = m') : Xj RX12 cX12_product 2 none f9 l9 0 0 0 0 4 [(0, vR 12 0)] [] m o M' := by
  unfold r_X12_product_b4 at h
  refine xj_aload_n 0 dX12_product_4 rfl ?_
  refine xg_getI (x := (m 12 0 5)) dX12_product_5 fl_X12_125 rfl rfl ?_
  refine xj_if_ne (tgt := 72) dX12_product_8 (by decide) (fun c3 => ?_) (fun c3 => ?_)
  · rw [if_neg c3] at h
    cases h
    refine xj_pick (ls' := []) [] rfl ?_
    exact ke m rfl
  · rw [if_pos c3] at h
    refine xj_aload_n 0 dX12_product_11 rfl ?_
    refine xj_bipush (z := 42) dX12_product_12 (by decide) ?_
    obtain ⟨z6, m5, e4, h⟩ := bd2_some h
    refine xc_Vb0 (st := []) (ok_X12_takesSign 42 m e4) dX12_product_14 cv_X12_229 rfl rfl (Nat.le_of_ble_eq_true rfl) (by omega) (by omega) (by decide) (by decide) ?_
    refine xj_if_eq (tgt := 24) dX12_product_17 (by decide) (fun c7 => ?_) (fun c7 => ?_)
    · rw [if_neg (b2i_f c7)] at h
      refine xj_aload_n 0 dX12_product_24 rfl ?_
      refine xj_bipush (z := 47) dX12_product_25 (by decide) ?_
      obtain ⟨z15, m14, e13, h⟩ := bd2_some h
      refine xc_Vb0 (st := []) (ok_X12_takesSign 47 m5 e13) dX12_product_27 cv_X12_229 rfl rfl (Nat.le_of_ble_eq_true rfl) (by omega) (by omega) (by decide) (by decide) ?_
      refine xj_if_eq (tgt := 37) dX12_product_30 (by decide) (fun c16 => ?_) (fun c16 => ?_)
      · rw [if_neg (b2i_f c16)] at h
        refine xj_aload_n 0 dX12_product_37 rfl ?_
        refine xj_bipush (z := 37) dX12_product_38 (by decide) ?_
        obtain ⟨z19, m18, e17, h⟩ := bd2_some h
        refine xc_Vb0 (st := []) (ok_X12_takesSign 37 m14 e17) dX12_product_40 cv_X12_229 rfl rfl (Nat.le_of_ble_eq_true rfl) (by omega) (by omega) (by decide) (by decide) ?_
        refine xj_if_eq (tgt := 51) dX12_product_43 (by decide) (fun c20 => ?_) (fun c20 => ?_)
        · rw [if_neg (b2i_f c20)] at h
          refine xj_iconst (z := (-1)) dX12_product_51 (by decide) ?_
          exact ok_X12_product_j52_c4 rec hrec hf hf2 hl hl2 (-1) m18 h kb ke kr
        · rw [if_pos (b2i_t c20)] at h
          refine xj_bipush (z := 6) dX12_product_46 (by decide) ?_
          refine xj_goto (tgt := 52) dX12_product_48 (by decide) ?_
          exact ok_X12_product_j52_c4 rec hrec hf hf2 hl hl2 6 m18 h kb ke kr
      · rw [if_pos (b2i_t c16)] at h
        refine xj_iconst (z := 5) dX12_product_33 (by decide) ?_
        refine xj_goto (tgt := 52) dX12_product_34 (by decide) ?_
        exact ok_X12_product_j52_c4 rec hrec hf hf2 hl hl2 5 m14 h kb ke kr
    · rw [if_pos (b2i_t c7)] at h
      refine xj_iconst (z := 4) dX12_product_20 (by decide) ?_
      refine xj_goto (tgt := 52) dX12_product_21 (by decide) ?_
      exact ok_X12_product_j52_c4 rec hrec hf hf2 hl hl2 4 m5 h kb ke kr
noncomputable def r_X12_product_e72_h4 (rec : Nat → Nat → List Int32 → Mem → Option Mem) (m : Mem) : Option Mem :=
  some m
set_option maxHeartbeats 4000000 in
set_option maxRecDepth 20000 in
theorem ok_X12_product_e72_h4 (rec : Nat → Nat → List Int32 → Mem → Option Mem) {f0 l0 f9 l9 : Nat} (hrec : RG_sum f0 l0 rec) (hf : f0 + 1 ≤ f9) (hf2 : 4 ≤ f9) (hl : l0 + 22 ≤ l9) (hl2 : 63 ≤ l9) (m : Mem) {m' : Mem} (h : r_X12_product_e72_h4 rec m = some m') : Xj RX12 cX12_product 2 none f9 l9 0 0 0 0 72 [] [] m oV m' := by
  unfold r_X12_product_e72_h4 at h
  cases h
  exact xj_return dX12_product_72 (by decide) (by decide)
noncomputable def r_X12_product_l4 (rec : Nat → Nat → List Int32 → Mem → Option Mem) (m : Mem) : Option Mem :=
  bdS (loopO (fun s => r_X12_product_b4 rec s) m) (fun e => r_X12_product_e72_h4 rec e) (fun q => some q)
set_option maxHeartbeats 4000000 in
set_option maxRecDepth 20000 in
theorem ok_X12_product_l4 (rec : Nat → Nat → List Int32 → Mem → Option Mem) {f0 l0 f9 l9 : Nat} (hrec : RG_sum f0 l0 rec) (hf : f0 + 1 ≤ f9) (hf2 : 4 ≤ f9) (hl : l0 + 22 ≤ l9) (hl2 : 63 ≤ l9) (m : Mem) {m' : Mem} (h : r_X12_product_l4 rec m = some m') : Xj RX12 cX12_product 2 none f9 l9 0 0 0 0 4 [(0, vR 12 0)] [] m oV m' := by
  unfold r_X12_product_l4 at h
  rcases bdS_some h with ⟨e, e1, h⟩ | ⟨q, e1, h⟩
  · refine loopO_ok (P := fun s : (Mem) => Xj RX12 cX12_product 2 none f9 l9 0 0 0 0 4 [(0, vR 12 0)] [] s oV m') (Q := Sum.elim (fun e : (Mem) => Xj RX12 cX12_product 2 none f9 l9 0 0 0 0 72 [] [] e oV m') (fun q : Mem => oV = oV ∧ m' = q)) ?_ _ _ e1 ?_
    · intro s r9 h9 hi hx
      exact ok_X12_product_b4 rec hrec hf hf2 hl hl2 s h9 (by rintro _ rfl; exact hi _ rfl) (by rintro _ rfl; exact hx _ rfl) (by rintro _ rfl; exact hx _ rfl)
    · exact ok_X12_product_e72_h4 rec hrec hf hf2 hl hl2 e h 
  · refine loopO_ok (P := fun s : (Mem) => Xj RX12 cX12_product 2 none f9 l9 0 0 0 0 4 [(0, vR 12 0)] [] s oV m') (Q := Sum.elim (fun e : (Mem) => Xj RX12 cX12_product 2 none f9 l9 0 0 0 0 72 [] [] e oV m') (fun q : Mem => oV = oV ∧ m' = q)) ?_ _ _ e1 ?_
    · intro s r9 h9 hi hx
      exact ok_X12_product_b4 rec hrec hf hf2 hl hl2 s h9 (by rintro _ rfl; exact hi _ rfl) (by rintro _ rfl; exact hx _ rfl) (by rintro _ rfl; exact hx _ rfl)
    · cases h; exact ⟨rfl, rfl⟩
noncomputable def r_X12_product (rec : Nat → Nat → List Int32 → Mem → Option Mem) (m : Mem) : Option Mem :=
  bd1 (rec 2 0 [] m) fun m2 => (r_X12_product_l4 rec m2)
set_option maxHeartbeats 4000000 in
set_option maxRecDepth 20000 in
theorem ok_X12_product (rec : Nat → Nat → List Int32 → Mem → Option Mem) {f0 l0 f9 l9 : Nat} (hrec : RG_sum f0 l0 rec) (hf : f0 + 1 ≤ f9) (hf2 : 4 ≤ f9) (hl : l0 + 22 ≤ l9) (hl2 : 63 ≤ l9) (m : Mem) {m' : Mem} (h : r_X12_product rec m = some m') : Mt yX12_product cX12_product 2 none f9 l9 0 0 [vR 12 0] m oV m' := by
  refine Mt.of (by decide) (Nat.le_of_ble_eq_true rfl) (by decide +kernel) (hhF_ne (by decide)) ?_
  show Xj RX12 cX12_product 2 none f9 l9 0 0 0 0 0 [(0, vR 12 0)] [] m oV m'
  unfold r_X12_product at h
  refine xj_aload_n 0 dX12_product_0 rfl ?_
  obtain ⟨m2, e1, h⟩ := bd1_some h
  refine xc_Vv0 (st := []) (hrec 2 0 [] m _ e1) dX12_product_1 cv_X12_235 rfl rfl (Nat.le_of_ble_eq_true rfl) (by omega) (by omega) (by decide) (by decide) ?_
  exact ok_X12_product_l4 rec hrec hf hf2 hl hl2 m2 h 
noncomputable def r_X12_one_j56 (rec : Nat → Nat → List Int32 → Mem → Option Mem) (s0 : Int32) (m : Mem) : Option Mem :=
  if s0 = (-1) then (bd1 (r_X12_byteAt (m 12 0 4) m) fun z10 => (if z10 = 40 then (bd2 (r_X12_opensOne m) fun z14 m13 => (if z14 = true then (bd1 (rec 0 0 [] (wr m13 12 0 4 ((m13 12 0 4) + 1))) fun m17 => (bd1 (r_X12_sign 41 m17) fun m19 => (some (wr m19 12 0 8 ((m19 12 0 8) - 1))))) else (some m13))) else (bd2 (r_X12_knownHere m) fun z22 m21 => (if z22 = (-1) then (bd2 (r_X12_number 0 999 m21) fun z26 m25 => (bd1 (r_X12_notes 0 z26 m25) fun m28 => (some m28))) else (bd1 (r_X12_notes 1 z22 m21) fun m30 => (some m30)))))) else (bd2 (r_X12_opensOne m) fun z33 m32 => (if z33 = true then (bd1 (r_X12_skipWord m32) fun m36 => (bd1 (r_X12_sign 91 m36) fun m38 => (bd1 (rec 0 0 [] m38) fun m40 => (bd1 (r_X12_sign 44 m40) fun m42 => (bd1 (rec 0 0 [] m42) fun m44 => (bd1 (r_X12_sign 93 m44) fun m46 => (bd1 (r_X12_notes s0 0 m46) fun m48 => (some (wr m48 12 0 8 ((m48 12 0 8) - 1)))))))))) else (some m32)))
set_option maxHeartbeats 4000000 in
set_option maxRecDepth 20000 in
theorem ok_X12_one_j56 (rec : Nat → Nat → List Int32 → Mem → Option Mem) {f0 l0 f9 l9 : Nat} (hrec : RG_sum f0 l0 rec) (hf : f0 + 1 ≤ f9) (hf2 : 7 ≤ f9) (hl : l0 + 22 ≤ l9) (hl2 : 136 ≤ l9) (s0 : Int32) (m : Mem) {m' : Mem} (h : r_X12_one_j56 rec s0 m = some m') : Xj RX12 cX12_one 3 none f9 l9 0 0 0 0 56 [(0, vR 12 0)] [vI s0] m oV m' := by
  unfold r_X12_one_j56 at h
  refine xj_istore_n (ls' := [(1, vI s0), (0, vR 12 0)]) dX12_one_56 rfl (by decide) rfl ?_
  refine xj_iload_n 0 dX12_one_57 rfl ?_
  refine xj_iconst (z := (-1)) dX12_one_58 (by decide) ?_
  refine xj_icmp_eq (tgt := 117) dX12_one_59 (by decide) (fun c8 => ?_) (fun c8 => ?_)
  · rw [if_pos c8] at h
    refine xj_aload_n 1 dX12_one_117 rfl ?_
    refine xj_aload_n 1 dX12_one_118 rfl ?_
    refine xg_getI (x := (m 12 0 4)) dX12_one_119 fl_X12_118 rfl rfl ?_
    obtain ⟨z10, e9, h⟩ := bd1_some h
    refine xc_Vi0 (st := []) (ok_X12_byteAt (m 12 0 4) m e9) dX12_one_122 cv_X12_121 rfl rfl (Nat.le_of_ble_eq_true rfl) (by omega) (by omega) (by decide) (by decide) ?_
    refine xj_bipush (z := 40) dX12_one_125 (by decide) ?_
    refine xj_icmp_ne (tgt := 169) dX12_one_127 (by decide) (fun c11 => ?_) (fun c11 => ?_)
    · rw [if_neg c11] at h
      refine xj_aload_n 1 dX12_one_169 rfl ?_
      obtain ⟨z22, m21, e20, h⟩ := bd2_some h
      refine xc_Vi0 (st := []) (ok_X12_knownHere m e20) dX12_one_170 cv_X12_251 rfl rfl (Nat.le_of_ble_eq_true rfl) (by omega) (by omega) (by decide) (by decide) ?_
      refine xj_istore_n (ls' := [(2, vI z22), (1, vI s0), (0, vR 12 0)]) dX12_one_173 rfl (by decide) rfl ?_
      refine xj_iload_n 0 dX12_one_174 rfl ?_
      refine xj_iconst (z := (-1)) dX12_one_175 (by decide) ?_
      refine xj_icmp_eq (tgt := 188) dX12_one_176 (by decide) (fun c23 => ?_) (fun c23 => ?_)
      · rw [if_pos c23] at h
        refine xj_aload_n 2 dX12_one_188 rfl ?_
        refine xj_iconst (z := 0) dX12_one_189 (by decide) ?_
        refine xj_aload_n 2 dX12_one_190 rfl ?_
        refine xj_iconst (z := 0) dX12_one_191 (by decide) ?_
        refine xj_sipush (z := 999) dX12_one_192 (by decide) ?_
        obtain ⟨z26, m25, e24, h⟩ := bd2_some h
        refine xc_Vi0 (st := [vI 0, vR 12 0]) (ok_X12_number 0 999 m21 e24) dX12_one_195 cv_X12_171 rfl rfl (Nat.le_of_ble_eq_true rfl) (by omega) (by omega) (by decide) (by decide) ?_
        obtain ⟨m28, e27, h⟩ := bd1_some h
        refine xc_Vv0 (st := []) (ok_X12_notes 0 z26 m25 e27) dX12_one_198 cv_X12_232 rfl rfl (Nat.le_of_ble_eq_true rfl) (by omega) (by omega) (by decide) (by decide) ?_
        cases h
        exact xj_return dX12_one_201 (by decide) (by decide)
      · rw [if_neg c23] at h
        refine xj_aload_n 2 dX12_one_179 rfl ?_
        refine xj_iconst (z := 1) dX12_one_180 (by decide) ?_
        refine xj_iload_n 0 dX12_one_181 rfl ?_
        obtain ⟨m30, e29, h⟩ := bd1_some h
        refine xc_Vv0 (st := []) (ok_X12_notes 1 z22 m21 e29) dX12_one_182 cv_X12_232 rfl rfl (Nat.le_of_ble_eq_true rfl) (by omega) (by omega) (by decide) (by decide) ?_
        refine xj_goto (tgt := 201) dX12_one_185 (by decide) ?_
        cases h
        exact xj_return dX12_one_201 (by decide) (by decide)
    · rw [if_pos c11] at h
      refine xj_aload_n 1 dX12_one_130 rfl ?_
      obtain ⟨z14, m13, e12, h⟩ := bd2_some h
      refine xc_Vb0 (st := []) (ok_X12_opensOne m e12) dX12_one_131 cv_X12_245 rfl rfl (Nat.le_of_ble_eq_true rfl) (by omega) (by omega) (by decide) (by decide) ?_
      refine xj_if_ne (tgt := 138) dX12_one_134 (by decide) (fun c15 => ?_) (fun c15 => ?_)
      · rw [if_pos (b2i_t c15)] at h
        refine xj_aload_n 1 dX12_one_138 rfl ?_
        refine xj_dup dX12_one_139 rfl ?_
        refine xg_getI (x := (m13 12 0 4)) dX12_one_140 fl_X12_118 rfl rfl ?_
        refine xj_iconst (z := 1) dX12_one_143 (by decide) ?_
        refine xj_iadd dX12_one_144 ?_
        refine xj_putI dX12_one_145 fw_X12_118 rfl ?_
        refine xj_aload_n 1 dX12_one_148 rfl ?_
        obtain ⟨m17, e16, h⟩ := bd1_some h
        refine xc_Vv0 (st := []) (hrec 0 0 [] (wr m13 12 0 4 ((m13 12 0 4) + 1)) _ e16) dX12_one_149 cv_X12_248 rfl rfl (Nat.le_of_ble_eq_true rfl) (by omega) (by omega) (by decide) (by decide) ?_
        refine xj_aload_n 1 dX12_one_152 rfl ?_
        refine xj_bipush (z := 41) dX12_one_153 (by decide) ?_
        obtain ⟨m19, e18, h⟩ := bd1_some h
        refine xc_Vv0 (st := []) (ok_X12_sign 41 m17 e18) dX12_one_155 cv_X12_187 rfl rfl (Nat.le_of_ble_eq_true rfl) (by omega) (by omega) (by decide) (by decide) ?_
        refine xj_aload_n 1 dX12_one_158 rfl ?_
        refine xj_dup dX12_one_159 rfl ?_
        refine xg_getI (x := (m19 12 0 8)) dX12_one_160 fl_X12_168 rfl rfl ?_
        refine xj_iconst (z := 1) dX12_one_163 (by decide) ?_
        refine xj_isub dX12_one_164 ?_
        refine xj_putI dX12_one_165 fw_X12_168 rfl ?_
        cases h
        exact xj_return dX12_one_168 (by decide) (by decide)
      · rw [if_neg (b2i_f c15)] at h
        cases h
        exact xj_return dX12_one_137 (by decide) (by decide)
  · rw [if_neg c8] at h
    refine xj_aload_n 1 dX12_one_62 rfl ?_
    obtain ⟨z33, m32, e31, h⟩ := bd2_some h
    refine xc_Vb0 (st := []) (ok_X12_opensOne m e31) dX12_one_63 cv_X12_245 rfl rfl (Nat.le_of_ble_eq_true rfl) (by omega) (by omega) (by decide) (by decide) ?_
    refine xj_if_ne (tgt := 70) dX12_one_66 (by decide) (fun c34 => ?_) (fun c34 => ?_)
    · rw [if_pos (b2i_t c34)] at h
      refine xj_aload_n 1 dX12_one_70 rfl ?_
      obtain ⟨m36, e35, h⟩ := bd1_some h
      refine xc_Vv0 (st := []) (ok_X12_skipWord m32 e35) dX12_one_71 cv_X12_162 rfl rfl (Nat.le_of_ble_eq_true rfl) (by omega) (by omega) (by decide) (by decide) ?_
      refine xj_aload_n 1 dX12_one_74 rfl ?_
      refine xj_bipush (z := 91) dX12_one_75 (by decide) ?_
      obtain ⟨m38, e37, h⟩ := bd1_some h
      refine xc_Vv0 (st := []) (ok_X12_sign 91 m36 e37) dX12_one_77 cv_X12_187 rfl rfl (Nat.le_of_ble_eq_true rfl) (by omega) (by omega) (by decide) (by decide) ?_
      refine xj_aload_n 1 dX12_one_80 rfl ?_
      obtain ⟨m40, e39, h⟩ := bd1_some h
      refine xc_Vv0 (st := []) (hrec 0 0 [] m38 _ e39) dX12_one_81 cv_X12_248 rfl rfl (Nat.le_of_ble_eq_true rfl) (by omega) (by omega) (by decide) (by decide) ?_
      refine xj_aload_n 1 dX12_one_84 rfl ?_
      refine xj_bipush (z := 44) dX12_one_85 (by decide) ?_
      obtain ⟨m42, e41, h⟩ := bd1_some h
      refine xc_Vv0 (st := []) (ok_X12_sign 44 m40 e41) dX12_one_87 cv_X12_187 rfl rfl (Nat.le_of_ble_eq_true rfl) (by omega) (by omega) (by decide) (by decide) ?_
      refine xj_aload_n 1 dX12_one_90 rfl ?_
      obtain ⟨m44, e43, h⟩ := bd1_some h
      refine xc_Vv0 (st := []) (hrec 0 0 [] m42 _ e43) dX12_one_91 cv_X12_248 rfl rfl (Nat.le_of_ble_eq_true rfl) (by omega) (by omega) (by decide) (by decide) ?_
      refine xj_aload_n 1 dX12_one_94 rfl ?_
      refine xj_bipush (z := 93) dX12_one_95 (by decide) ?_
      obtain ⟨m46, e45, h⟩ := bd1_some h
      refine xc_Vv0 (st := []) (ok_X12_sign 93 m44 e45) dX12_one_97 cv_X12_187 rfl rfl (Nat.le_of_ble_eq_true rfl) (by omega) (by omega) (by decide) (by decide) ?_
      refine xj_aload_n 1 dX12_one_100 rfl ?_
      refine xj_iload_n 0 dX12_one_101 rfl ?_
      refine xj_iconst (z := 0) dX12_one_102 (by decide) ?_
      obtain ⟨m48, e47, h⟩ := bd1_some h
      refine xc_Vv0 (st := []) (ok_X12_notes s0 0 m46 e47) dX12_one_103 cv_X12_232 rfl rfl (Nat.le_of_ble_eq_true rfl) (by omega) (by omega) (by decide) (by decide) ?_
      refine xj_aload_n 1 dX12_one_106 rfl ?_
      refine xj_dup dX12_one_107 rfl ?_
      refine xg_getI (x := (m48 12 0 8)) dX12_one_108 fl_X12_168 rfl rfl ?_
      refine xj_iconst (z := 1) dX12_one_111 (by decide) ?_
      refine xj_isub dX12_one_112 ?_
      refine xj_putI dX12_one_113 fw_X12_168 rfl ?_
      cases h
      exact xj_return dX12_one_116 (by decide) (by decide)
    · rw [if_neg (b2i_f c34)] at h
      cases h
      exact xj_return dX12_one_69 (by decide) (by decide)
noncomputable def r_X12_one (rec : Nat → Nat → List Int32 → Mem → Option Mem) (m : Mem) : Option Mem :=
  if (m 12 0 5) = 0 then (bd1 (r_X12_blanks m) fun m3 => (bd2 (r_X12_isWord 12 5 1 19 20 0 m3) fun z6 m5 => (if z6 = true then (r_X12_one_j56 rec 7 m5) else (bd2 (r_X12_isWord 13 15 19 20 0 0 m5) fun z51 m50 => (if z51 = true then (r_X12_one_j56 rec 8 m50) else (r_X12_one_j56 rec (-1) m50)))))) else (some m)
set_option maxHeartbeats 4000000 in
set_option maxRecDepth 20000 in
theorem ok_X12_one (rec : Nat → Nat → List Int32 → Mem → Option Mem) {f0 l0 f9 l9 : Nat} (hrec : RG_sum f0 l0 rec) (hf : f0 + 1 ≤ f9) (hf2 : 7 ≤ f9) (hl : l0 + 22 ≤ l9) (hl2 : 136 ≤ l9) (m : Mem) {m' : Mem} (h : r_X12_one rec m = some m') : Mt yX12_one cX12_one 3 none f9 l9 0 0 [vR 12 0] m oV m' := by
  refine Mt.of (by decide) (Nat.le_of_ble_eq_true rfl) (by decide +kernel) (hhF_ne (by decide)) ?_
  show Xj RX12 cX12_one 3 none f9 l9 0 0 0 0 0 [(0, vR 12 0)] [] m oV m'
  unfold r_X12_one at h
  refine xj_aload_n 0 dX12_one_0 rfl ?_
  refine xg_getI (x := (m 12 0 5)) dX12_one_1 fl_X12_125 rfl rfl ?_
  refine xj_if_eq (tgt := 8) dX12_one_4 (by decide) (fun c1 => ?_) (fun c1 => ?_)
  · rw [if_pos c1] at h
    refine xj_aload_n 0 dX12_one_8 rfl ?_
    obtain ⟨m3, e2, h⟩ := bd1_some h
    refine xc_Vv0 (st := []) (ok_X12_blanks m e2) dX12_one_9 cv_X12_131 rfl rfl (Nat.le_of_ble_eq_true rfl) (by omega) (by omega) (by decide) (by decide) ?_
    refine xj_aload_n 0 dX12_one_12 rfl ?_
    refine xj_bipush (z := 12) dX12_one_13 (by decide) ?_
    refine xj_iconst (z := 5) dX12_one_15 (by decide) ?_
    refine xj_iconst (z := 1) dX12_one_16 (by decide) ?_
    refine xj_bipush (z := 19) dX12_one_17 (by decide) ?_
    refine xj_bipush (z := 20) dX12_one_19 (by decide) ?_
    refine xj_iconst (z := 0) dX12_one_21 (by decide) ?_
    obtain ⟨z6, m5, e4, h⟩ := bd2_some h
    refine xc_Vb0 (st := []) (ok_X12_isWord 12 5 1 19 20 0 m3 e4) dX12_one_22 cv_X12_158 rfl rfl (Nat.le_of_ble_eq_true rfl) (by omega) (by omega) (by decide) (by decide) ?_
    refine xj_if_eq (tgt := 33) dX12_one_25 (by decide) (fun c7 => ?_) (fun c7 => ?_)
    · rw [if_neg (b2i_f c7)] at h
      refine xj_aload_n 0 dX12_one_33 rfl ?_
      refine xj_bipush (z := 13) dX12_one_34 (by decide) ?_
      refine xj_bipush (z := 15) dX12_one_36 (by decide) ?_
      refine xj_bipush (z := 19) dX12_one_38 (by decide) ?_
      refine xj_bipush (z := 20) dX12_one_40 (by decide) ?_
      refine xj_iconst (z := 0) dX12_one_42 (by decide) ?_
      refine xj_iconst (z := 0) dX12_one_43 (by decide) ?_
      obtain ⟨z51, m50, e49, h⟩ := bd2_some h
      refine xc_Vb0 (st := []) (ok_X12_isWord 13 15 19 20 0 0 m5 e49) dX12_one_44 cv_X12_158 rfl rfl (Nat.le_of_ble_eq_true rfl) (by omega) (by omega) (by decide) (by decide) ?_
      refine xj_if_eq (tgt := 55) dX12_one_47 (by decide) (fun c52 => ?_) (fun c52 => ?_)
      · rw [if_neg (b2i_f c52)] at h
        refine xj_iconst (z := (-1)) dX12_one_55 (by decide) ?_
        exact ok_X12_one_j56 rec hrec hf hf2 hl hl2 (-1) m50 h 
      · rw [if_pos (b2i_t c52)] at h
        refine xj_bipush (z := 8) dX12_one_50 (by decide) ?_
        refine xj_goto (tgt := 56) dX12_one_52 (by decide) ?_
        exact ok_X12_one_j56 rec hrec hf hf2 hl hl2 8 m50 h 
    · rw [if_pos (b2i_t c7)] at h
      refine xj_bipush (z := 7) dX12_one_28 (by decide) ?_
      refine xj_goto (tgt := 56) dX12_one_30 (by decide) ?_
      exact ok_X12_one_j56 rec hrec hf hf2 hl hl2 7 m5 h 
  · rw [if_neg c1] at h
    cases h
    exact xj_return dX12_one_7 (by decide) (by decide)
noncomputable def rec_sum : Nat → Nat → Nat → List Int32 → Mem → Option Mem
  | 0 => fun _ _ _ _ => none
  | g + 1 => fun sel i as m => match sel, as with
    | 0, [] => r_X12_sum (rec_sum g)  m
    | 1, [] => r_X12_product (rec_sum g)  m
    | 2, [] => r_X12_one (rec_sum g)  m
    | _, _ => none
theorem ok_rec_sum : ∀ g : Nat, RG_sum (7 + g) (136 + g * 22) (rec_sum g)
  | 0 => fun _ _ _ _ _ h => nomatch h
  | g + 1 => fun sel i as m m' h => by
    have ih := ok_rec_sum g
    unfold rec_sum at h
    split at h
    · exact ok_X12_sum (rec_sum g) ih (by omega) (by omega) (by omega) (by omega)  m h
    · exact ok_X12_product (rec_sum g) ih (by omega) (by omega) (by omega) (by omega)  m h
    · exact ok_X12_one (rec_sum g) ih (by omega) (by omega) (by omega) (by omega)  m h
    · cases h
noncomputable def r_X12_sum_t (m : Mem) : Option Mem := rec_sum 24 0 0 [] m
theorem ok_X12_sum_t (m : Mem) {m' : Mem} (h : r_X12_sum_t m = some m') : Mt yX12_sum cX12_sum 2 none 31 664 0 0 [vR 12 0] m oV m' := ok_rec_sum 24 0 0 [] m _ h
noncomputable def r_X12_product_t (m : Mem) : Option Mem := rec_sum 24 1 0 [] m
theorem ok_X12_product_t (m : Mem) {m' : Mem} (h : r_X12_product_t m = some m') : Mt yX12_product cX12_product 2 none 31 664 0 0 [vR 12 0] m oV m' := ok_rec_sum 24 1 0 [] m _ h
noncomputable def r_X12_one_t (m : Mem) : Option Mem := rec_sum 24 2 0 [] m
theorem ok_X12_one_t (m : Mem) {m' : Mem} (h : r_X12_one_t m = some m') : Mt yX12_one cX12_one 3 none 31 664 0 0 [vR 12 0] m oV m' := ok_rec_sum 24 2 0 [] m _ h


noncomputable def r_X12_placeHere (m : Mem) : Option (Int32 × Mem) :=
  bd2 (r_X12_number 0 ((m 52 0 0) - 1) m) fun z3 m2 => (some (z3, m2))
set_option maxHeartbeats 4000000 in
set_option maxRecDepth 20000 in
theorem ok_X12_placeHere (m : Mem) {z : Int32} {m' : Mem} (h : r_X12_placeHere m = some (z, m')) : Mt yX12_placeHere cX12_placeHere 1 (some .int) 4 65 0 0 [vR 12 0] m (oI z) m' := by
  refine Mt.of (by decide) (Nat.le_of_ble_eq_true rfl) (by decide +kernel) (hhF_ne (by decide)) ?_
  show Xj RX12 cX12_placeHere 1 (some .int) 4 65 0 0 0 0 0 [(0, vR 12 0)] [] m (oI z) m'
  unfold r_X12_placeHere at h
  refine xj_aload_n 0 dX12_placeHere_0 rfl ?_
  refine xj_iconst (z := 0) dX12_placeHere_1 (by decide) ?_
  refine xj_aload_n 0 dX12_placeHere_2 rfl ?_
  refine xg_getR (k' := 52) (i' := 0) dX12_placeHere_3 fl_X12_23 rfl ?_
  refine xj_iconst (z := 0) dX12_placeHere_6 (by decide) ?_
  refine xg_iald (z := (m 52 0 0)) (n := 0) dX12_placeHere_7 rfl (by decide) (inb_in (by decide)) (by decide) rfl ?_
  refine xj_iconst (z := 1) dX12_placeHere_8 (by decide) ?_
  refine xj_isub dX12_placeHere_9 ?_
  obtain ⟨z3, m2, e1, h⟩ := bd2_some h
  refine xc_Vi0 (st := []) (ok_X12_number 0 ((m 52 0 0) - 1) m e1) dX12_placeHere_10 cv_X12_171 rfl rfl (Nat.le_of_ble_eq_true rfl) (by decide) (by decide) (by decide) (by decide) ?_
  cases h
  exact xj_ireturn dX12_placeHere_13 rfl (by decide) (by decide)
noncomputable def r_X12_between_j62_c2 (x1 : Int32) (x2 : Int32) (x3 : Int32) (m : Mem) : Option ((Int32) ⊕ (Unit ⊕ Int32)) :=
  some (Sum.inl (x3 + 1))
set_option maxHeartbeats 4000000 in
set_option maxRecDepth 20000 in
theorem ok_X12_between_j62_c2 (x1 : Int32) (x2 : Int32) (x3 : Int32) (m : Mem) {r : (Int32) ⊕ (Unit ⊕ Int32)} (h : r_X12_between_j62_c2 x1 x2 x3 m = some r) {o : Ou} {M' : Mem} (kb : ∀ (x3' : Int32), r = Sum.inl x3' → Xj RX12 cX12_between 4 (some .int) 1 0 0 0 0 0 2 [(0, vR 12 0), (1, vI x1), (2, vI x2), (3, vI x3')] [] m o M') (ke : r = Sum.inr (Sum.inl ()) → Xj RX12 cX12_between 4 (some .int) 1 0 0 0 0 0 68 [] [] m o M') (kr : ∀ (z : Int32), r = Sum.inr (Sum.inr z) → o = (oI z) ∧ M' = m) : Xj RX12 cX12_between 4 (some .int) 1 0 0 0 0 0 62 [(0, vR 12 0), (1, vI x1), (2, vI x2), (3, vI x3)] [] m o M' := by
  unfold r_X12_between_j62_c2 at h
  refine xj_iinc (z := x3 + 1) (ls' := [(3, vI (x3 + 1)), (0, vR 12 0), (1, vI x1), (2, vI x2)]) 3 dX12_between_62 rfl rfl (by decide) rfl ?_
  refine xj_goto (tgt := 2) dX12_between_65 (by decide) ?_
  cases h
  refine xj_pick (ls' := [(0, vR 12 0), (1, vI x1), (2, vI x2), (3, vI (x3 + 1))]) [1, 2, 3, 0] rfl ?_
  exact kb (x3 + 1) rfl
noncomputable def r_X12_between_j36_c2 (x1 : Int32) (x2 : Int32) (x3 : Int32) (m : Mem) : Option ((Int32) ⊕ (Unit ⊕ Int32)) :=
  if inb x3 16 = true then (if (m 63 x3.toNatClampNeg 0) = x2 then (if (m 63 x3.toNatClampNeg 1) = x1 then (some (Sum.inr (Sum.inr x3))) else (r_X12_between_j62_c2 x1 x2 x3 m)) else (r_X12_between_j62_c2 x1 x2 x3 m)) else none
set_option maxHeartbeats 4000000 in
set_option maxRecDepth 20000 in
theorem ok_X12_between_j36_c2 (x1 : Int32) (x2 : Int32) (x3 : Int32) (m : Mem) {r : (Int32) ⊕ (Unit ⊕ Int32)} (h : r_X12_between_j36_c2 x1 x2 x3 m = some r) {o : Ou} {M' : Mem} (kb : ∀ (x3' : Int32), r = Sum.inl x3' → Xj RX12 cX12_between 4 (some .int) 1 0 0 0 0 0 2 [(0, vR 12 0), (1, vI x1), (2, vI x2), (3, vI x3')] [] m o M') (ke : r = Sum.inr (Sum.inl ()) → Xj RX12 cX12_between 4 (some .int) 1 0 0 0 0 0 68 [] [] m o M') (kr : ∀ (z : Int32), r = Sum.inr (Sum.inr z) → o = (oI z) ∧ M' = m) : Xj RX12 cX12_between 4 (some .int) 1 0 0 0 0 0 36 [(0, vR 12 0), (1, vI x1), (2, vI x2), (3, vI x3)] [] m o M' := by
  unfold r_X12_between_j36_c2 at h
  refine xj_aload_n 0 dX12_between_36 rfl ?_
  refine xg_getR (k' := 64) (i' := 0) dX12_between_37 fl_X12_37 rfl ?_
  refine xj_iload_n 3 dX12_between_40 rfl ?_
  by_cases c5 : inb x3 16 = true
  case neg => rw [if_neg c5] at h; cases h
  rw [if_pos c5] at h
  refine xg_aald (k' := 63) (i' := x3.toNatClampNeg) (n := x3.toNatClampNeg) dX12_between_41 rfl (by decide) (inb_in c5) rfl rfl ?_
  refine xj_iconst (z := 0) dX12_between_42 (by decide) ?_
  refine xg_iald (z := (m 63 x3.toNatClampNeg 0)) (n := 0) dX12_between_43 rfl (by decide) (inb_in (by decide)) (by decide) rfl ?_
  refine xj_iload_n 2 dX12_between_44 rfl ?_
  refine xj_icmp_ne (tgt := 62) dX12_between_45 (by decide) (fun c6 => ?_) (fun c6 => ?_)
  · rw [if_neg c6] at h
    exact ok_X12_between_j62_c2 x1 x2 x3 m h kb ke kr
  · rw [if_pos c6] at h
    refine xj_aload_n 0 dX12_between_48 rfl ?_
    refine xg_getR (k' := 64) (i' := 0) dX12_between_49 fl_X12_37 rfl ?_
    refine xj_iload_n 3 dX12_between_52 rfl ?_
    refine xg_aald (k' := 63) (i' := x3.toNatClampNeg) (n := x3.toNatClampNeg) dX12_between_53 rfl (by decide) (inb_in c5) rfl rfl ?_
    refine xj_iconst (z := 1) dX12_between_54 (by decide) ?_
    refine xg_iald (z := (m 63 x3.toNatClampNeg 1)) (n := 1) dX12_between_55 rfl (by decide) (inb_in (by decide)) (by decide) rfl ?_
    refine xj_iload_n 1 dX12_between_56 rfl ?_
    refine xj_icmp_ne (tgt := 62) dX12_between_57 (by decide) (fun c7 => ?_) (fun c7 => ?_)
    · rw [if_neg c7] at h
      exact ok_X12_between_j62_c2 x1 x2 x3 m h kb ke kr
    · rw [if_pos c7] at h
      refine xj_iload_n 3 dX12_between_60 rfl ?_
      cases h
      obtain ⟨rfl, rfl⟩ := kr _ rfl
      exact xj_ireturn dX12_between_61 rfl (by decide) (by decide)
noncomputable def r_X12_between_b2 (x1 : Int32) (x2 : Int32) (m : Mem) (x3 : Int32) : Option ((Int32) ⊕ (Unit ⊕ Int32)) :=
  if (m 52 0 1) ≤ x3 then (some (Sum.inr (Sum.inl ()))) else (if inb x3 16 = true then (if (m 63 x3.toNatClampNeg 0) = x1 then (if (m 63 x3.toNatClampNeg 1) = x2 then (some (Sum.inr (Sum.inr x3))) else (r_X12_between_j36_c2 x1 x2 x3 m)) else (r_X12_between_j36_c2 x1 x2 x3 m)) else none)
set_option maxHeartbeats 4000000 in
set_option maxRecDepth 20000 in
theorem ok_X12_between_b2 (x1 : Int32) (x2 : Int32) (m : Mem) (x3 : Int32) {r : (Int32) ⊕ (Unit ⊕ Int32)} (h : r_X12_between_b2 x1 x2 m x3 = some r) {o : Ou} {M' : Mem} (kb : ∀ (x3' : Int32), r = Sum.inl x3' → Xj RX12 cX12_between 4 (some .int) 1 0 0 0 0 0 2 [(0, vR 12 0), (1, vI x1), (2, vI x2), (3, vI x3')] [] m o M') (ke : r = Sum.inr (Sum.inl ()) → Xj RX12 cX12_between 4 (some .int) 1 0 0 0 0 0 68 [] [] m o M') (kr : ∀ (z : Int32), r = Sum.inr (Sum.inr z) → o = (oI z) ∧ M' = m) : Xj RX12 cX12_between 4 (some .int) 1 0 0 0 0 0 2 [(0, vR 12 0), (1, vI x1), (2, vI x2), (3, vI x3)] [] m o M' := by
  unfold r_X12_between_b2 at h
  refine xj_iload_n 3 dX12_between_2 rfl ?_
  refine xj_aload_n 0 dX12_between_3 rfl ?_
  refine xg_getR (k' := 52) (i' := 0) dX12_between_4 fl_X12_23 rfl ?_
  refine xj_iconst (z := 1) dX12_between_7 (by decide) ?_
  refine xg_iald (z := (m 52 0 1)) (n := 1) dX12_between_8 rfl (by decide) (inb_in (by decide)) (by decide) rfl ?_
  refine xj_icmp_ge (tgt := 68) dX12_between_9 (by decide) (fun c1 => ?_) (fun c1 => ?_)
  · rw [if_pos c1] at h
    cases h
    refine xj_pick (ls' := []) [] rfl ?_
    exact ke  rfl
  · rw [if_neg c1] at h
    refine xj_aload_n 0 dX12_between_12 rfl ?_
    refine xg_getR (k' := 64) (i' := 0) dX12_between_13 fl_X12_37 rfl ?_
    refine xj_iload_n 3 dX12_between_16 rfl ?_
    by_cases c2 : inb x3 16 = true
    case neg => rw [if_neg c2] at h; cases h
    rw [if_pos c2] at h
    refine xg_aald (k' := 63) (i' := x3.toNatClampNeg) (n := x3.toNatClampNeg) dX12_between_17 rfl (by decide) (inb_in c2) rfl rfl ?_
    refine xj_iconst (z := 0) dX12_between_18 (by decide) ?_
    refine xg_iald (z := (m 63 x3.toNatClampNeg 0)) (n := 0) dX12_between_19 rfl (by decide) (inb_in (by decide)) (by decide) rfl ?_
    refine xj_iload_n 1 dX12_between_20 rfl ?_
    refine xj_icmp_ne (tgt := 36) dX12_between_21 (by decide) (fun c3 => ?_) (fun c3 => ?_)
    · rw [if_neg c3] at h
      exact ok_X12_between_j36_c2 x1 x2 x3 m h kb ke kr
    · rw [if_pos c3] at h
      refine xj_aload_n 0 dX12_between_24 rfl ?_
      refine xg_getR (k' := 64) (i' := 0) dX12_between_25 fl_X12_37 rfl ?_
      refine xj_iload_n 3 dX12_between_28 rfl ?_
      refine xg_aald (k' := 63) (i' := x3.toNatClampNeg) (n := x3.toNatClampNeg) dX12_between_29 rfl (by decide) (inb_in c2) rfl rfl ?_
      refine xj_iconst (z := 1) dX12_between_30 (by decide) ?_
      refine xg_iald (z := (m 63 x3.toNatClampNeg 1)) (n := 1) dX12_between_31 rfl (by decide) (inb_in (by decide)) (by decide) rfl ?_
      refine xj_iload_n 2 dX12_between_32 rfl ?_
      refine xj_icmp_eq (tgt := 60) dX12_between_33 (by decide) (fun c4 => ?_) (fun c4 => ?_)
      · rw [if_pos c4] at h
        refine xj_iload_n 3 dX12_between_60 rfl ?_
        cases h
        obtain ⟨rfl, rfl⟩ := kr _ rfl
        exact xj_ireturn dX12_between_61 rfl (by decide) (by decide)
      · rw [if_neg c4] at h
        exact ok_X12_between_j36_c2 x1 x2 x3 m h kb ke kr
noncomputable def r_X12_between_e68_h2 (m : Mem) : Option Int32 :=
  some (-1)
set_option maxHeartbeats 4000000 in
set_option maxRecDepth 20000 in
theorem ok_X12_between_e68_h2 (m : Mem) {z : Int32} (h : r_X12_between_e68_h2 m = some z) : Xj RX12 cX12_between 4 (some .int) 1 0 0 0 0 0 68 [] [] m (oI z) m := by
  unfold r_X12_between_e68_h2 at h
  refine xj_iconst (z := (-1)) dX12_between_68 (by decide) ?_
  cases h
  exact xj_ireturn dX12_between_69 rfl (by decide) (by decide)
noncomputable def r_X12_between_l2 (x1 : Int32) (x2 : Int32) (x3 : Int32) (m : Mem) : Option Int32 :=
  bdS (loopO (fun s => r_X12_between_b2 x1 x2 m s) x3) (fun e => r_X12_between_e68_h2 m) (fun q => some q)
set_option maxHeartbeats 4000000 in
set_option maxRecDepth 20000 in
theorem ok_X12_between_l2 (x1 : Int32) (x2 : Int32) (x3 : Int32) (m : Mem) {z : Int32} (h : r_X12_between_l2 x1 x2 x3 m = some z) : Xj RX12 cX12_between 4 (some .int) 1 0 0 0 0 0 2 [(0, vR 12 0), (1, vI x1), (2, vI x2), (3, vI x3)] [] m (oI z) m := by
  unfold r_X12_between_l2 at h
  rcases bdS_some h with ⟨e, e1, h⟩ | ⟨q, e1, h⟩
  · refine loopO_ok (P := fun s : (Int32) => Xj RX12 cX12_between 4 (some .int) 1 0 0 0 0 0 2 [(0, vR 12 0), (1, vI x1), (2, vI x2), (3, vI s)] [] m (oI z) m) (Q := Sum.elim (fun e : Unit => Xj RX12 cX12_between 4 (some .int) 1 0 0 0 0 0 68 [] [] m (oI z) m) (fun q : Int32 => (oI z) = (oI q) ∧ m = m)) ?_ _ _ e1 ?_
    · intro s r9 h9 hi hx
      exact ok_X12_between_b2 x1 x2 m s h9 (by rintro _ rfl; exact hi _ rfl) (by rintro rfl; exact hx _ rfl) (by rintro _ rfl; exact hx _ rfl)
    · exact ok_X12_between_e68_h2 m h 
  · refine loopO_ok (P := fun s : (Int32) => Xj RX12 cX12_between 4 (some .int) 1 0 0 0 0 0 2 [(0, vR 12 0), (1, vI x1), (2, vI x2), (3, vI s)] [] m (oI z) m) (Q := Sum.elim (fun e : Unit => Xj RX12 cX12_between 4 (some .int) 1 0 0 0 0 0 68 [] [] m (oI z) m) (fun q : Int32 => (oI z) = (oI q) ∧ m = m)) ?_ _ _ e1 ?_
    · intro s r9 h9 hi hx
      exact ok_X12_between_b2 x1 x2 m s h9 (by rintro _ rfl; exact hi _ rfl) (by rintro rfl; exact hx _ rfl) (by rintro _ rfl; exact hx _ rfl)
    · cases h; exact ⟨rfl, rfl⟩
noncomputable def r_X12_between (x1 : Int32) (x2 : Int32) (m : Mem) : Option Int32 :=
  r_X12_between_l2 x1 x2 0 m
set_option maxHeartbeats 4000000 in
set_option maxRecDepth 20000 in
theorem ok_X12_between (x1 : Int32) (x2 : Int32) (m : Mem) {z : Int32} (h : r_X12_between x1 x2 m = some z) : Mt yX12_between cX12_between 4 (some .int) 1 0 0 0 [vR 12 0, vI x1, vI x2] m (oI z) m := by
  refine Mt.of (by decide) (Nat.le_of_ble_eq_true rfl) (by decide +kernel) (hhF_ne (by decide)) ?_
  show Xj RX12 cX12_between 4 (some .int) 1 0 0 0 0 0 0 [(0, vR 12 0), (1, vI x1), (2, vI x2)] [] m (oI z) m
  unfold r_X12_between at h
  refine xj_iconst (z := 0) dX12_between_0 (by decide) ?_
  refine xj_istore_n (ls' := [(3, vI 0), (0, vR 12 0), (1, vI x1), (2, vI x2)]) dX12_between_1 rfl (by decide) rfl ?_
  refine xj_pick (ls' := [(0, vR 12 0), (1, vI x1), (2, vI x2), (3, vI 0)]) [1, 2, 3, 0] rfl ?_
  exact ok_X12_between_l2 x1 x2 0 m h 
noncomputable def r_X12_nextHere (x1 : Int32) (m : Mem) : Option (Int32 × Mem) :=
  bd1 (r_X12_blanks m) fun m2 => (bd2 (r_X12_placeHere m2) fun z5 m4 => (if (m4 12 0 5) = 0 then (bd1 (r_X12_between x1 z5 m4) fun z8 => (if z8 = (-1) then (bd1 (r_X12_wrong 2 (m2 12 0 4) m4) fun m11 => (some (z5, m11))) else (some (z5, m4)))) else (some (z5, m4))))
set_option maxHeartbeats 4000000 in
set_option maxRecDepth 20000 in
theorem ok_X12_nextHere (x1 : Int32) (m : Mem) {z : Int32} {m' : Mem} (h : r_X12_nextHere x1 m = some (z, m')) : Mt yX12_nextHere cX12_nextHere 4 (some .int) 5 85 0 0 [vR 12 0, vI x1] m (oI z) m' := by
  refine Mt.of (by decide) (Nat.le_of_ble_eq_true rfl) (by decide +kernel) (hhF_ne (by decide)) ?_
  show Xj RX12 cX12_nextHere 4 (some .int) 5 85 0 0 0 0 0 [(0, vR 12 0), (1, vI x1)] [] m (oI z) m'
  unfold r_X12_nextHere at h
  refine xj_aload_n 0 dX12_nextHere_0 rfl ?_
  obtain ⟨m2, e1, h⟩ := bd1_some h
  refine xc_Vv0 (st := []) (ok_X12_blanks m e1) dX12_nextHere_1 cv_X12_131 rfl rfl (Nat.le_of_ble_eq_true rfl) (by decide) (by decide) (by decide) (by decide) ?_
  refine xj_aload_n 0 dX12_nextHere_4 rfl ?_
  refine xg_getI (x := (m2 12 0 4)) dX12_nextHere_5 fl_X12_118 rfl rfl ?_
  refine xj_istore_n (ls' := [(2, vI (m2 12 0 4)), (0, vR 12 0), (1, vI x1)]) dX12_nextHere_8 rfl (by decide) rfl ?_
  refine xj_aload_n 1 dX12_nextHere_9 rfl ?_
  obtain ⟨z5, m4, e3, h⟩ := bd2_some h
  refine xc_Vi0 (st := []) (ok_X12_placeHere m2 e3) dX12_nextHere_10 cv_X12_264 rfl rfl (Nat.le_of_ble_eq_true rfl) (by decide) (by decide) (by decide) (by decide) ?_
  refine xj_istore_n (ls' := [(3, vI z5), (2, vI (m2 12 0 4)), (0, vR 12 0), (1, vI x1)]) dX12_nextHere_13 rfl (by decide) rfl ?_
  refine xj_aload_n 2 dX12_nextHere_14 rfl ?_
  refine xg_getI (x := (m4 12 0 5)) dX12_nextHere_15 fl_X12_125 rfl rfl ?_
  refine xj_if_ne (tgt := 37) dX12_nextHere_18 (by decide) (fun c6 => ?_) (fun c6 => ?_)
  · rw [if_neg c6] at h
    refine xj_iload_n 0 dX12_nextHere_37 rfl ?_
    cases h
    exact xj_ireturn dX12_nextHere_38 rfl (by decide) (by decide)
  · rw [if_pos c6] at h
    refine xj_aload_n 2 dX12_nextHere_21 rfl ?_
    refine xj_iload_n 3 dX12_nextHere_22 rfl ?_
    refine xj_iload_n 0 dX12_nextHere_23 rfl ?_
    obtain ⟨z8, e7, h⟩ := bd1_some h
    refine xc_Vi0 (st := []) (ok_X12_between x1 z5 m4 e7) dX12_nextHere_24 cv_X12_267 rfl rfl (Nat.le_of_ble_eq_true rfl) (by decide) (by decide) (by decide) (by decide) ?_
    refine xj_iconst (z := (-1)) dX12_nextHere_27 (by decide) ?_
    refine xj_icmp_ne (tgt := 37) dX12_nextHere_28 (by decide) (fun c9 => ?_) (fun c9 => ?_)
    · rw [if_neg c9] at h
      refine xj_iload_n 0 dX12_nextHere_37 rfl ?_
      cases h
      exact xj_ireturn dX12_nextHere_38 rfl (by decide) (by decide)
    · rw [if_pos c9] at h
      refine xj_aload_n 2 dX12_nextHere_31 rfl ?_
      refine xj_iconst (z := 2) dX12_nextHere_32 (by decide) ?_
      refine xj_iload_n 1 dX12_nextHere_33 rfl ?_
      obtain ⟨m11, e10, h⟩ := bd1_some h
      refine xc_Vv0 (st := []) (ok_X12_wrong 2 (m2 12 0 4) m4 e10) dX12_nextHere_34 cv_X12_138 rfl rfl (Nat.le_of_ble_eq_true rfl) (by decide) (by decide) (by decide) (by decide) ?_
      refine xj_iload_n 0 dX12_nextHere_37 rfl ?_
      cases h
      exact xj_ireturn dX12_nextHere_38 rfl (by decide) (by decide)
/-! the methods that call each other: rst -/
def MG_rst (f0 l0 sel i : Nat) (as : List Int32) (m : Mem) (m' : Mem) : Prop := match sel, as with
  | 0, [] => Mt yX12_readsStep cX12_readsStep 3 none f0 l0 0 0 [vR 12 0] m oV m'
  | _, _ => True
def RG_rst (f0 l0 : Nat) (rec : Nat → Nat → List Int32 → Mem → Option Mem) : Prop := ∀ (sel i : Nat) (as : List Int32) (m : Mem) (m' : Mem), rec sel i as m = some m' → MG_rst f0 l0 sel i as m m'
noncomputable def r_X12_readsStep_b145 (rec : Nat → Nat → List Int32 → Mem → Option Mem) (i2 : Nat) (m : Mem) : Option ((Mem) ⊕ (Mem)) :=
  if (m 12 0 5) = 0 then (bd1 (r_X12_byteAt (m 12 0 4) m) fun z32 => (if z32 = 93 then (some (Sum.inr m)) else (bd1 (rec 0 0 [] m) fun m35 => (bd1 (r_X12_blanks m35) fun m37 => (some (Sum.inl m37)))))) else (some (Sum.inr m))
set_option maxHeartbeats 4000000 in
set_option maxRecDepth 20000 in
theorem ok_X12_readsStep_b145 (rec : Nat → Nat → List Int32 → Mem → Option Mem) {f0 l0 f9 l9 : Nat} (hrec : RG_rst f0 l0 rec) (hf : f0 + 1 ≤ f9) (hf2 : 6 ≤ f9) (hl : l0 + 22 ≤ l9) (hl2 : 109 ≤ l9) (i2 : Nat) (m : Mem) {r : (Mem) ⊕ (Mem)} (h : r_X12_readsStep_b145 rec i2 m = some r) {o : Ou} {M' : Mem} (kb : ∀ (m'' : Mem), r = Sum.inl m'' → Xj RX12 cX12_readsStep 3 none f9 l9 0 0 0 0 145 [(0, vR 12 0), (2, vR 81 i2)] [] m'' o M') (ke : ∀ (m'' : Mem), r = Sum.inr m'' → Xj RX12 cX12_readsStep 3 none f9 l9 0 0 0 0 176 [(0, vR 12 0), (2, vR 81 i2)] [] m'' o M') : Xj RX12 cX12_readsStep 3 none f9 l9 0 0 0 0 145 [(0, vR 12 0), (2, vR 81 i2)] [] m o M' := by
  unfold r_X12_readsStep_b145 at h
  refine xj_aload_n 0 dX12_readsStep_145 rfl ?_
  refine xg_getI (x := (m 12 0 5)) dX12_readsStep_146 fl_X12_125 rfl rfl ?_
  refine xj_if_ne (tgt := 176) dX12_readsStep_149 (by decide) (fun c30 => ?_) (fun c30 => ?_)
  · rw [if_neg c30] at h
    cases h
    exact ke m rfl
  · rw [if_pos c30] at h
    refine xj_aload_n 0 dX12_readsStep_152 rfl ?_
    refine xj_aload_n 0 dX12_readsStep_153 rfl ?_
    refine xg_getI (x := (m 12 0 4)) dX12_readsStep_154 fl_X12_118 rfl rfl ?_
    obtain ⟨z32, e31, h⟩ := bd1_some h
    refine xc_Vi0 (st := []) (ok_X12_byteAt (m 12 0 4) m e31) dX12_readsStep_157 cv_X12_121 rfl rfl (Nat.le_of_ble_eq_true rfl) (by omega) (by omega) (by decide) (by decide) ?_
    refine xj_bipush (z := 93) dX12_readsStep_160 (by decide) ?_
    refine xj_icmp_eq (tgt := 176) dX12_readsStep_162 (by decide) (fun c33 => ?_) (fun c33 => ?_)
    · rw [if_pos c33] at h
      cases h
      exact ke m rfl
    · rw [if_neg c33] at h
      refine xj_aload_n 0 dX12_readsStep_165 rfl ?_
      obtain ⟨m35, e34, h⟩ := bd1_some h
      refine xc_Vv0 (st := []) (hrec 0 0 [] m _ e34) dX12_readsStep_166 cv_X12_279 rfl rfl (Nat.le_of_ble_eq_true rfl) (by omega) (by omega) (by decide) (by decide) ?_
      refine xj_aload_n 0 dX12_readsStep_169 rfl ?_
      obtain ⟨m37, e36, h⟩ := bd1_some h
      refine xc_Vv0 (st := []) (ok_X12_blanks m35 e36) dX12_readsStep_170 cv_X12_131 rfl rfl (Nat.le_of_ble_eq_true rfl) (by omega) (by omega) (by decide) (by decide) ?_
      refine xj_goto (tgt := 145) dX12_readsStep_173 (by decide) ?_
      cases h
      exact kb m37 rfl
noncomputable def r_X12_readsStep_j192 (rec : Nat → Nat → List Int32 → Mem → Option Mem) (i2 : Nat) (m : Mem) : Option Mem :=
  bd1 (r_X12_sign 59 (wr m 81 i2 4 (m 12 0 30))) fun m41 => (some m41)
set_option maxHeartbeats 4000000 in
set_option maxRecDepth 20000 in
theorem ok_X12_readsStep_j192 (rec : Nat → Nat → List Int32 → Mem → Option Mem) {f0 l0 f9 l9 : Nat} (hrec : RG_rst f0 l0 rec) (hf : f0 + 1 ≤ f9) (hf2 : 6 ≤ f9) (hl : l0 + 22 ≤ l9) (hl2 : 109 ≤ l9) (i2 : Nat) (m : Mem) {m' : Mem} (h : r_X12_readsStep_j192 rec i2 m = some m') : Xj RX12 cX12_readsStep 3 none f9 l9 0 0 0 0 192 [(0, vR 12 0), (2, vR 81 i2)] [] m oV m' := by
  unfold r_X12_readsStep_j192 at h
  refine xj_aload_n 1 dX12_readsStep_192 rfl ?_
  refine xj_iconst (z := 4) dX12_readsStep_193 (by decide) ?_
  refine xj_aload_n 0 dX12_readsStep_194 rfl ?_
  refine xg_getI (x := (m 12 0 30)) dX12_readsStep_195 fl_X12_273 rfl rfl ?_
  refine xg_iast (n := 4) dX12_readsStep_198 rfl (by decide) (inb_in (by decide)) (by decide) ?_
  refine xj_aload_n 0 dX12_readsStep_199 rfl ?_
  refine xj_bipush (z := 59) dX12_readsStep_200 (by decide) ?_
  obtain ⟨m41, e40, h⟩ := bd1_some h
  refine xc_Vv0 (st := []) (ok_X12_sign 59 (wr m 81 i2 4 (m 12 0 30)) e40) dX12_readsStep_202 cv_X12_187 rfl rfl (Nat.le_of_ble_eq_true rfl) (by omega) (by omega) (by decide) (by decide) ?_
  cases h
  exact xj_return dX12_readsStep_205 (by decide) (by decide)
noncomputable def r_X12_readsStep_j176 (rec : Nat → Nat → List Int32 → Mem → Option Mem) (i2 : Nat) (m : Mem) : Option Mem :=
  bd1 (r_X12_sign 93 m) fun m39 => (r_X12_readsStep_j192 rec i2 (wr m39 12 0 8 ((m39 12 0 8) - 1)))
set_option maxHeartbeats 4000000 in
set_option maxRecDepth 20000 in
theorem ok_X12_readsStep_j176 (rec : Nat → Nat → List Int32 → Mem → Option Mem) {f0 l0 f9 l9 : Nat} (hrec : RG_rst f0 l0 rec) (hf : f0 + 1 ≤ f9) (hf2 : 6 ≤ f9) (hl : l0 + 22 ≤ l9) (hl2 : 109 ≤ l9) (i2 : Nat) (m : Mem) {m' : Mem} (h : r_X12_readsStep_j176 rec i2 m = some m') : Xj RX12 cX12_readsStep 3 none f9 l9 0 0 0 0 176 [(0, vR 12 0), (2, vR 81 i2)] [] m oV m' := by
  unfold r_X12_readsStep_j176 at h
  refine xj_aload_n 0 dX12_readsStep_176 rfl ?_
  refine xj_bipush (z := 93) dX12_readsStep_177 (by decide) ?_
  obtain ⟨m39, e38, h⟩ := bd1_some h
  refine xc_Vv0 (st := []) (ok_X12_sign 93 m e38) dX12_readsStep_179 cv_X12_187 rfl rfl (Nat.le_of_ble_eq_true rfl) (by omega) (by omega) (by decide) (by decide) ?_
  refine xj_aload_n 0 dX12_readsStep_182 rfl ?_
  refine xj_dup dX12_readsStep_183 rfl ?_
  refine xg_getI (x := (m39 12 0 8)) dX12_readsStep_184 fl_X12_168 rfl rfl ?_
  refine xj_iconst (z := 1) dX12_readsStep_187 (by decide) ?_
  refine xj_isub dX12_readsStep_188 ?_
  refine xj_putI dX12_readsStep_189 fw_X12_168 rfl ?_
  exact ok_X12_readsStep_j192 rec hrec hf hf2 hl hl2 i2 (wr m39 12 0 8 ((m39 12 0 8) - 1)) h 
noncomputable def r_X12_readsStep_e176_h145 (rec : Nat → Nat → List Int32 → Mem → Option Mem) (i2 : Nat) (m : Mem) : Option Mem :=
  r_X12_readsStep_j176 rec i2 m
set_option maxHeartbeats 4000000 in
set_option maxRecDepth 20000 in
theorem ok_X12_readsStep_e176_h145 (rec : Nat → Nat → List Int32 → Mem → Option Mem) {f0 l0 f9 l9 : Nat} (hrec : RG_rst f0 l0 rec) (hf : f0 + 1 ≤ f9) (hf2 : 6 ≤ f9) (hl : l0 + 22 ≤ l9) (hl2 : 109 ≤ l9) (i2 : Nat) (m : Mem) {m' : Mem} (h : r_X12_readsStep_e176_h145 rec i2 m = some m') : Xj RX12 cX12_readsStep 3 none f9 l9 0 0 0 0 176 [(0, vR 12 0), (2, vR 81 i2)] [] m oV m' := by
  unfold r_X12_readsStep_e176_h145 at h
  exact ok_X12_readsStep_j176 rec hrec hf hf2 hl hl2 i2 m h 
noncomputable def r_X12_readsStep_l145 (rec : Nat → Nat → List Int32 → Mem → Option Mem) (i2 : Nat) (m : Mem) : Option Mem :=
  bd1 (loopO (fun s => r_X12_readsStep_b145 rec i2 s) m) (fun e => r_X12_readsStep_e176_h145 rec i2 e)
set_option maxHeartbeats 4000000 in
set_option maxRecDepth 20000 in
theorem ok_X12_readsStep_l145 (rec : Nat → Nat → List Int32 → Mem → Option Mem) {f0 l0 f9 l9 : Nat} (hrec : RG_rst f0 l0 rec) (hf : f0 + 1 ≤ f9) (hf2 : 6 ≤ f9) (hl : l0 + 22 ≤ l9) (hl2 : 109 ≤ l9) (i2 : Nat) (m : Mem) {m' : Mem} (h : r_X12_readsStep_l145 rec i2 m = some m') : Xj RX12 cX12_readsStep 3 none f9 l9 0 0 0 0 145 [(0, vR 12 0), (2, vR 81 i2)] [] m oV m' := by
  unfold r_X12_readsStep_l145 at h
  obtain ⟨e, e1, h⟩ := bd1_some h
  refine loopO_ok (P := fun s : (Mem) => Xj RX12 cX12_readsStep 3 none f9 l9 0 0 0 0 145 [(0, vR 12 0), (2, vR 81 i2)] [] s oV m') (Q := fun e : (Mem) => Xj RX12 cX12_readsStep 3 none f9 l9 0 0 0 0 176 [(0, vR 12 0), (2, vR 81 i2)] [] e oV m') ?_ _ _ e1 ?_
  · intro s r9 h9 hi hx
    exact ok_X12_readsStep_b145 rec hrec hf hf2 hl hl2 i2 s h9 (by rintro _ rfl; exact hi _ rfl) (by rintro _ rfl; exact hx _ rfl)
  · exact ok_X12_readsStep_e176_h145 rec hrec hf hf2 hl hl2 i2 e h 
noncomputable def r_X12_readsStep_j120 (rec : Nat → Nat → List Int32 → Mem → Option Mem) (x1 : Int32) (i2 : Nat) (m : Mem) : Option Mem :=
  if x1 = 5 then (bd2 (r_X12_number 0 60 m) fun z25 m24 => (bd1 (r_X12_sign 91 (wr m24 81 i2 1 z25)) fun m27 => (bd1 (r_X12_blanks m27) fun m29 => (r_X12_readsStep_l145 rec i2 m29)))) else (r_X12_readsStep_j192 rec i2 m)
set_option maxHeartbeats 4000000 in
set_option maxRecDepth 20000 in
theorem ok_X12_readsStep_j120 (rec : Nat → Nat → List Int32 → Mem → Option Mem) {f0 l0 f9 l9 : Nat} (hrec : RG_rst f0 l0 rec) (hf : f0 + 1 ≤ f9) (hf2 : 6 ≤ f9) (hl : l0 + 22 ≤ l9) (hl2 : 109 ≤ l9) (x1 : Int32) (i2 : Nat) (m : Mem) {m' : Mem} (h : r_X12_readsStep_j120 rec x1 i2 m = some m') : Xj RX12 cX12_readsStep 3 none f9 l9 0 0 0 0 120 [(0, vR 12 0), (1, vI x1), (2, vR 81 i2)] [] m oV m' := by
  unfold r_X12_readsStep_j120 at h
  refine xj_iload_n 1 dX12_readsStep_120 rfl ?_
  refine xj_iconst (z := 5) dX12_readsStep_121 (by decide) ?_
  refine xj_icmp_ne (tgt := 192) dX12_readsStep_122 (by decide) (fun c22 => ?_) (fun c22 => ?_)
  · rw [if_neg c22] at h
    refine xj_pick (ls' := [(0, vR 12 0), (2, vR 81 i2)]) [0, 2] rfl ?_
    exact ok_X12_readsStep_j192 rec hrec hf hf2 hl hl2 i2 m h 
  · rw [if_pos c22] at h
    refine xj_aload_n 2 dX12_readsStep_125 rfl ?_
    refine xj_iconst (z := 1) dX12_readsStep_126 (by decide) ?_
    refine xj_aload_n 0 dX12_readsStep_127 rfl ?_
    refine xj_iconst (z := 0) dX12_readsStep_128 (by decide) ?_
    refine xj_bipush (z := 60) dX12_readsStep_129 (by decide) ?_
    obtain ⟨z25, m24, e23, h⟩ := bd2_some h
    refine xc_Vi0 (st := [vI 1, vR 81 i2]) (ok_X12_number 0 60 m e23) dX12_readsStep_131 cv_X12_171 rfl rfl (Nat.le_of_ble_eq_true rfl) (by omega) (by omega) (by decide) (by decide) ?_
    refine xg_iast (n := 1) dX12_readsStep_134 rfl (by decide) (inb_in (by decide)) (by decide) ?_
    refine xj_aload_n 0 dX12_readsStep_135 rfl ?_
    refine xj_bipush (z := 91) dX12_readsStep_136 (by decide) ?_
    obtain ⟨m27, e26, h⟩ := bd1_some h
    refine xc_Vv0 (st := []) (ok_X12_sign 91 (wr m24 81 i2 1 z25) e26) dX12_readsStep_138 cv_X12_187 rfl rfl (Nat.le_of_ble_eq_true rfl) (by omega) (by omega) (by decide) (by decide) ?_
    refine xj_aload_n 0 dX12_readsStep_141 rfl ?_
    obtain ⟨m29, e28, h⟩ := bd1_some h
    refine xc_Vv0 (st := []) (ok_X12_blanks m27 e28) dX12_readsStep_142 cv_X12_131 rfl rfl (Nat.le_of_ble_eq_true rfl) (by omega) (by omega) (by decide) (by decide) ?_
    refine xj_pick (ls' := [(0, vR 12 0), (2, vR 81 i2)]) [0, 2] rfl ?_
    exact ok_X12_readsStep_l145 rec hrec hf hf2 hl hl2 i2 m29 h 
noncomputable def r_X12_readsStep_j110 (rec : Nat → Nat → List Int32 → Mem → Option Mem) (x1 : Int32) (i2 : Nat) (m : Mem) : Option Mem :=
  bd2 (r_X12_nextHere (m 81 i2 2) m) fun z21 m20 => (r_X12_readsStep_j120 rec x1 i2 (wr m20 81 i2 3 z21))
set_option maxHeartbeats 4000000 in
set_option maxRecDepth 20000 in
theorem ok_X12_readsStep_j110 (rec : Nat → Nat → List Int32 → Mem → Option Mem) {f0 l0 f9 l9 : Nat} (hrec : RG_rst f0 l0 rec) (hf : f0 + 1 ≤ f9) (hf2 : 6 ≤ f9) (hl : l0 + 22 ≤ l9) (hl2 : 109 ≤ l9) (x1 : Int32) (i2 : Nat) (m : Mem) {m' : Mem} (h : r_X12_readsStep_j110 rec x1 i2 m = some m') : Xj RX12 cX12_readsStep 3 none f9 l9 0 0 0 0 110 [(0, vR 12 0), (1, vI x1), (2, vR 81 i2)] [] m oV m' := by
  unfold r_X12_readsStep_j110 at h
  refine xj_aload_n 2 dX12_readsStep_110 rfl ?_
  refine xj_iconst (z := 3) dX12_readsStep_111 (by decide) ?_
  refine xj_aload_n 0 dX12_readsStep_112 rfl ?_
  refine xj_aload_n 2 dX12_readsStep_113 rfl ?_
  refine xj_iconst (z := 2) dX12_readsStep_114 (by decide) ?_
  refine xg_iald (z := (m 81 i2 2)) (n := 2) dX12_readsStep_115 rfl (by decide) (inb_in (by decide)) (by decide) rfl ?_
  obtain ⟨z21, m20, e19, h⟩ := bd2_some h
  refine xc_Vi0 (st := [vI 3, vR 81 i2]) (ok_X12_nextHere (m 81 i2 2) m e19) dX12_readsStep_116 cv_X12_276 rfl rfl (Nat.le_of_ble_eq_true rfl) (by omega) (by omega) (by decide) (by decide) ?_
  refine xg_iast (n := 3) dX12_readsStep_119 rfl (by decide) (inb_in (by decide)) (by decide) ?_
  exact ok_X12_readsStep_j120 rec hrec hf hf2 hl hl2 x1 i2 (wr m20 81 i2 3 z21) h 
noncomputable def r_X12_readsStep_j101 (rec : Nat → Nat → List Int32 → Mem → Option Mem) (x1 : Int32) (i2 : Nat) (m : Mem) : Option Mem :=
  if x1 = 0 then (r_X12_readsStep_j110 rec x1 i2 m) else (if x1 = 3 then (r_X12_readsStep_j110 rec x1 i2 m) else (r_X12_readsStep_j120 rec x1 i2 m))
set_option maxHeartbeats 4000000 in
set_option maxRecDepth 20000 in
theorem ok_X12_readsStep_j101 (rec : Nat → Nat → List Int32 → Mem → Option Mem) {f0 l0 f9 l9 : Nat} (hrec : RG_rst f0 l0 rec) (hf : f0 + 1 ≤ f9) (hf2 : 6 ≤ f9) (hl : l0 + 22 ≤ l9) (hl2 : 109 ≤ l9) (x1 : Int32) (i2 : Nat) (m : Mem) {m' : Mem} (h : r_X12_readsStep_j101 rec x1 i2 m = some m') : Xj RX12 cX12_readsStep 3 none f9 l9 0 0 0 0 101 [(0, vR 12 0), (1, vI x1), (2, vR 81 i2)] [] m oV m' := by
  unfold r_X12_readsStep_j101 at h
  refine xj_iload_n 1 dX12_readsStep_101 rfl ?_
  refine xj_if_eq (tgt := 110) dX12_readsStep_102 (by decide) (fun c18 => ?_) (fun c18 => ?_)
  · rw [if_pos c18] at h
    exact ok_X12_readsStep_j110 rec hrec hf hf2 hl hl2 x1 i2 m h 
  · rw [if_neg c18] at h
    refine xj_iload_n 1 dX12_readsStep_105 rfl ?_
    refine xj_iconst (z := 3) dX12_readsStep_106 (by decide) ?_
    refine xj_icmp_ne (tgt := 120) dX12_readsStep_107 (by decide) (fun c42 => ?_) (fun c42 => ?_)
    · rw [if_neg c42] at h
      exact ok_X12_readsStep_j120 rec hrec hf hf2 hl hl2 x1 i2 m h 
    · rw [if_pos c42] at h
      exact ok_X12_readsStep_j110 rec hrec hf hf2 hl hl2 x1 i2 m h 
noncomputable def r_X12_readsStep_j89 (rec : Nat → Nat → List Int32 → Mem → Option Mem) (x1 : Int32) (i2 : Nat) (m : Mem) : Option Mem :=
  if 4 ≤ x1 then (r_X12_readsStep_j101 rec x1 i2 m) else (bd2 (r_X12_placeHere m) fun z45 m44 => (r_X12_readsStep_j101 rec x1 i2 (wr m44 81 i2 2 z45)))
set_option maxHeartbeats 4000000 in
set_option maxRecDepth 20000 in
theorem ok_X12_readsStep_j89 (rec : Nat → Nat → List Int32 → Mem → Option Mem) {f0 l0 f9 l9 : Nat} (hrec : RG_rst f0 l0 rec) (hf : f0 + 1 ≤ f9) (hf2 : 6 ≤ f9) (hl : l0 + 22 ≤ l9) (hl2 : 109 ≤ l9) (x1 : Int32) (i2 : Nat) (m : Mem) {m' : Mem} (h : r_X12_readsStep_j89 rec x1 i2 m = some m') : Xj RX12 cX12_readsStep 3 none f9 l9 0 0 0 0 89 [(0, vR 12 0), (1, vI x1), (2, vR 81 i2)] [] m oV m' := by
  unfold r_X12_readsStep_j89 at h
  refine xj_iload_n 1 dX12_readsStep_89 rfl ?_
  refine xj_iconst (z := 4) dX12_readsStep_90 (by decide) ?_
  refine xj_icmp_ge (tgt := 101) dX12_readsStep_91 (by decide) (fun c17 => ?_) (fun c17 => ?_)
  · rw [if_pos c17] at h
    exact ok_X12_readsStep_j101 rec hrec hf hf2 hl hl2 x1 i2 m h 
  · rw [if_neg c17] at h
    refine xj_aload_n 2 dX12_readsStep_94 rfl ?_
    refine xj_iconst (z := 2) dX12_readsStep_95 (by decide) ?_
    refine xj_aload_n 0 dX12_readsStep_96 rfl ?_
    obtain ⟨z45, m44, e43, h⟩ := bd2_some h
    refine xc_Vi0 (st := [vI 2, vR 81 i2]) (ok_X12_placeHere m e43) dX12_readsStep_97 cv_X12_264 rfl rfl (Nat.le_of_ble_eq_true rfl) (by omega) (by omega) (by decide) (by decide) ?_
    refine xg_iast (n := 2) dX12_readsStep_100 rfl (by decide) (inb_in (by decide)) (by decide) ?_
    exact ok_X12_readsStep_j101 rec hrec hf hf2 hl hl2 x1 i2 (wr m44 81 i2 2 z45) h 
noncomputable def r_X12_readsStep_j32 (rec : Nat → Nat → List Int32 → Mem → Option Mem) (x1 : Int32) (m : Mem) : Option Mem :=
  if (m 12 0 5) = 0 then (bd1 (r_X12_skipWord m) fun m14 => (if inb (m14 12 0 30) 80 = true then (if 3 ≤ x1 then (r_X12_readsStep_j89 rec x1 ((m14 12 0 30).toNatClampNeg) (wr (wr m14 12 0 30 ((m14 12 0 30) + 1)) 81 ((m14 12 0 30).toNatClampNeg) 0 x1)) else (bd2 (r_X12_number 0 ((m14 52 0 2) - 1) (wr (wr m14 12 0 30 ((m14 12 0 30) + 1)) 81 ((m14 12 0 30).toNatClampNeg) 0 x1)) fun z48 m47 => (r_X12_readsStep_j89 rec x1 ((m14 12 0 30).toNatClampNeg) (wr m47 81 ((m14 12 0 30).toNatClampNeg) 1 z48)))) else none)) else (some m)
set_option maxHeartbeats 4000000 in
set_option maxRecDepth 20000 in
theorem ok_X12_readsStep_j32 (rec : Nat → Nat → List Int32 → Mem → Option Mem) {f0 l0 f9 l9 : Nat} (hrec : RG_rst f0 l0 rec) (hf : f0 + 1 ≤ f9) (hf2 : 6 ≤ f9) (hl : l0 + 22 ≤ l9) (hl2 : 109 ≤ l9) (x1 : Int32) (m : Mem) {m' : Mem} (h : r_X12_readsStep_j32 rec x1 m = some m') : Xj RX12 cX12_readsStep 3 none f9 l9 0 0 0 0 32 [(0, vR 12 0), (1, vI x1)] [] m oV m' := by
  unfold r_X12_readsStep_j32 at h
  refine xj_aload_n 0 dX12_readsStep_32 rfl ?_
  refine xg_getI (x := (m 12 0 5)) dX12_readsStep_33 fl_X12_125 rfl rfl ?_
  refine xj_if_eq (tgt := 40) dX12_readsStep_36 (by decide) (fun c12 => ?_) (fun c12 => ?_)
  · rw [if_pos c12] at h
    refine xj_aload_n 0 dX12_readsStep_40 rfl ?_
    obtain ⟨m14, e13, h⟩ := bd1_some h
    refine xc_Vv0 (st := []) (ok_X12_skipWord m e13) dX12_readsStep_41 cv_X12_162 rfl rfl (Nat.le_of_ble_eq_true rfl) (by omega) (by omega) (by decide) (by decide) ?_
    refine xj_aload_n 0 dX12_readsStep_44 rfl ?_
    refine xg_getR (k' := 82) (i' := 0) dX12_readsStep_45 fl_X12_70 rfl ?_
    refine xj_aload_n 0 dX12_readsStep_48 rfl ?_
    refine xg_getI (x := (m14 12 0 30)) dX12_readsStep_49 fl_X12_273 rfl rfl ?_
    by_cases c15 : inb (m14 12 0 30) 80 = true
    case neg => rw [if_neg c15] at h; cases h
    rw [if_pos c15] at h
    refine xg_aald (k' := 81) (i' := ((m14 12 0 30).toNatClampNeg)) (n := (m14 12 0 30).toNatClampNeg) dX12_readsStep_52 rfl (by decide) (inb_in c15) rfl rfl ?_
    refine xj_astore_n (ls' := [(2, vR 81 ((m14 12 0 30).toNatClampNeg)), (0, vR 12 0), (1, vI x1)]) dX12_readsStep_53 rfl (by decide) rfl ?_
    refine xj_aload_n 1 dX12_readsStep_54 rfl ?_
    refine xj_dup dX12_readsStep_55 rfl ?_
    refine xg_getI (x := (m14 12 0 30)) dX12_readsStep_56 fl_X12_273 rfl rfl ?_
    refine xj_iconst (z := 1) dX12_readsStep_59 (by decide) ?_
    refine xj_iadd dX12_readsStep_60 ?_
    refine xj_putI dX12_readsStep_61 fw_X12_273 rfl ?_
    refine xj_aload_n 0 dX12_readsStep_64 rfl ?_
    refine xj_iconst (z := 0) dX12_readsStep_65 (by decide) ?_
    refine xj_iload_n 2 dX12_readsStep_66 rfl ?_
    refine xg_iast (n := 0) dX12_readsStep_67 rfl (by decide) (inb_in (by decide)) (by decide) ?_
    refine xj_iload_n 2 dX12_readsStep_68 rfl ?_
    refine xj_iconst (z := 3) dX12_readsStep_69 (by decide) ?_
    refine xj_icmp_ge (tgt := 89) dX12_readsStep_70 (by decide) (fun c16 => ?_) (fun c16 => ?_)
    · rw [if_pos c16] at h
      refine xj_pick (ls' := [(0, vR 12 0), (1, vI x1), (2, vR 81 ((m14 12 0 30).toNatClampNeg))]) [1, 2, 0] rfl ?_
      exact ok_X12_readsStep_j89 rec hrec hf hf2 hl hl2 x1 ((m14 12 0 30).toNatClampNeg) (wr (wr m14 12 0 30 ((m14 12 0 30) + 1)) 81 ((m14 12 0 30).toNatClampNeg) 0 x1) h 
    · rw [if_neg c16] at h
      refine xj_aload_n 0 dX12_readsStep_73 rfl ?_
      refine xj_iconst (z := 1) dX12_readsStep_74 (by decide) ?_
      refine xj_aload_n 1 dX12_readsStep_75 rfl ?_
      refine xj_iconst (z := 0) dX12_readsStep_76 (by decide) ?_
      refine xj_aload_n 1 dX12_readsStep_77 rfl ?_
      refine xg_getR (k' := 52) (i' := 0) dX12_readsStep_78 fl_X12_23 rfl ?_
      refine xj_iconst (z := 2) dX12_readsStep_81 (by decide) ?_
      refine xg_iald (z := (m14 52 0 2)) (n := 2) dX12_readsStep_82 rfl (by decide) (inb_in (by decide)) (by decide) rfl ?_
      refine xj_iconst (z := 1) dX12_readsStep_83 (by decide) ?_
      refine xj_isub dX12_readsStep_84 ?_
      obtain ⟨z48, m47, e46, h⟩ := bd2_some h
      refine xc_Vi0 (st := [vI 1, vR 81 ((m14 12 0 30).toNatClampNeg)]) (ok_X12_number 0 ((m14 52 0 2) - 1) (wr (wr m14 12 0 30 ((m14 12 0 30) + 1)) 81 ((m14 12 0 30).toNatClampNeg) 0 x1) e46) dX12_readsStep_85 cv_X12_171 rfl rfl (Nat.le_of_ble_eq_true rfl) (by omega) (by omega) (by decide) (by decide) ?_
      refine xg_iast (n := 1) dX12_readsStep_88 rfl (by decide) (inb_in (by decide)) (by decide) ?_
      refine xj_pick (ls' := [(0, vR 12 0), (1, vI x1), (2, vR 81 ((m14 12 0 30).toNatClampNeg))]) [1, 2, 0] rfl ?_
      exact ok_X12_readsStep_j89 rec hrec hf hf2 hl hl2 x1 ((m14 12 0 30).toNatClampNeg) (wr m47 81 ((m14 12 0 30).toNatClampNeg) 1 z48) h 
  · rw [if_neg c12] at h
    cases h
    exact xj_return dX12_readsStep_39 (by decide) (by decide)
noncomputable def r_X12_readsStep_j19 (rec : Nat → Nat → List Int32 → Mem → Option Mem) (x1 : Int32) (m : Mem) : Option Mem :=
  if x1 = 5 then (bd2 (r_X12_opensOne m) fun z10 m9 => (if z10 = true then (r_X12_readsStep_j32 rec x1 m9) else (some m9))) else (r_X12_readsStep_j32 rec x1 m)
set_option maxHeartbeats 4000000 in
set_option maxRecDepth 20000 in
theorem ok_X12_readsStep_j19 (rec : Nat → Nat → List Int32 → Mem → Option Mem) {f0 l0 f9 l9 : Nat} (hrec : RG_rst f0 l0 rec) (hf : f0 + 1 ≤ f9) (hf2 : 6 ≤ f9) (hl : l0 + 22 ≤ l9) (hl2 : 109 ≤ l9) (x1 : Int32) (m : Mem) {m' : Mem} (h : r_X12_readsStep_j19 rec x1 m = some m') : Xj RX12 cX12_readsStep 3 none f9 l9 0 0 0 0 19 [(0, vR 12 0), (1, vI x1)] [] m oV m' := by
  unfold r_X12_readsStep_j19 at h
  refine xj_iload_n 1 dX12_readsStep_19 rfl ?_
  refine xj_iconst (z := 5) dX12_readsStep_20 (by decide) ?_
  refine xj_icmp_ne (tgt := 32) dX12_readsStep_21 (by decide) (fun c7 => ?_) (fun c7 => ?_)
  · rw [if_neg c7] at h
    exact ok_X12_readsStep_j32 rec hrec hf hf2 hl hl2 x1 m h 
  · rw [if_pos c7] at h
    refine xj_aload_n 0 dX12_readsStep_24 rfl ?_
    obtain ⟨z10, m9, e8, h⟩ := bd2_some h
    refine xc_Vb0 (st := []) (ok_X12_opensOne m e8) dX12_readsStep_25 cv_X12_245 rfl rfl (Nat.le_of_ble_eq_true rfl) (by omega) (by omega) (by decide) (by decide) ?_
    refine xj_if_ne (tgt := 32) dX12_readsStep_28 (by decide) (fun c11 => ?_) (fun c11 => ?_)
    · rw [if_pos (b2i_t c11)] at h
      exact ok_X12_readsStep_j32 rec hrec hf hf2 hl hl2 x1 m9 h 
    · rw [if_neg (b2i_f c11)] at h
      cases h
      exact xj_return dX12_readsStep_31 (by decide) (by decide)
noncomputable def r_X12_readsStep (rec : Nat → Nat → List Int32 → Mem → Option Mem) (m : Mem) : Option Mem :=
  bd2 (r_X12_stepHere m) fun z3 m2 => (if z3 = (-1) then (bd1 (r_X12_wrong 1 (m2 12 0 4) m2) fun m6 => (r_X12_readsStep_j19 rec z3 m6)) else (r_X12_readsStep_j19 rec z3 m2))
set_option maxHeartbeats 4000000 in
set_option maxRecDepth 20000 in
theorem ok_X12_readsStep (rec : Nat → Nat → List Int32 → Mem → Option Mem) {f0 l0 f9 l9 : Nat} (hrec : RG_rst f0 l0 rec) (hf : f0 + 1 ≤ f9) (hf2 : 6 ≤ f9) (hl : l0 + 22 ≤ l9) (hl2 : 109 ≤ l9) (m : Mem) {m' : Mem} (h : r_X12_readsStep rec m = some m') : Mt yX12_readsStep cX12_readsStep 3 none f9 l9 0 0 [vR 12 0] m oV m' := by
  refine Mt.of (by decide) (Nat.le_of_ble_eq_true rfl) (by decide +kernel) (hhF_ne (by decide)) ?_
  show Xj RX12 cX12_readsStep 3 none f9 l9 0 0 0 0 0 [(0, vR 12 0)] [] m oV m'
  unfold r_X12_readsStep at h
  refine xj_aload_n 0 dX12_readsStep_0 rfl ?_
  obtain ⟨z3, m2, e1, h⟩ := bd2_some h
  refine xc_Vi0 (st := []) (ok_X12_stepHere m e1) dX12_readsStep_1 cv_X12_270 rfl rfl (Nat.le_of_ble_eq_true rfl) (by omega) (by omega) (by decide) (by decide) ?_
  refine xj_istore_n (ls' := [(1, vI z3), (0, vR 12 0)]) dX12_readsStep_4 rfl (by decide) rfl ?_
  refine xj_iload_n 0 dX12_readsStep_5 rfl ?_
  refine xj_iconst (z := (-1)) dX12_readsStep_6 (by decide) ?_
  refine xj_icmp_ne (tgt := 19) dX12_readsStep_7 (by decide) (fun c4 => ?_) (fun c4 => ?_)
  · rw [if_neg c4] at h
    refine xj_pick (ls' := [(0, vR 12 0), (1, vI z3)]) [1, 0] rfl ?_
    exact ok_X12_readsStep_j19 rec hrec hf hf2 hl hl2 z3 m2 h 
  · rw [if_pos c4] at h
    refine xj_aload_n 1 dX12_readsStep_10 rfl ?_
    refine xj_iconst (z := 1) dX12_readsStep_11 (by decide) ?_
    refine xj_aload_n 1 dX12_readsStep_12 rfl ?_
    refine xg_getI (x := (m2 12 0 4)) dX12_readsStep_13 fl_X12_118 rfl rfl ?_
    obtain ⟨m6, e5, h⟩ := bd1_some h
    refine xc_Vv0 (st := []) (ok_X12_wrong 1 (m2 12 0 4) m2 e5) dX12_readsStep_16 cv_X12_138 rfl rfl (Nat.le_of_ble_eq_true rfl) (by omega) (by omega) (by decide) (by decide) ?_
    refine xj_pick (ls' := [(0, vR 12 0), (1, vI z3)]) [1, 0] rfl ?_
    exact ok_X12_readsStep_j19 rec hrec hf hf2 hl hl2 z3 m6 h 
noncomputable def rec_rst : Nat → Nat → Nat → List Int32 → Mem → Option Mem
  | 0 => fun _ _ _ _ => none
  | g + 1 => fun sel i as m => match sel, as with
    | 0, [] => r_X12_readsStep (rec_rst g)  m
    | _, _ => none
theorem ok_rec_rst : ∀ g : Nat, RG_rst (6 + g) (109 + g * 22) (rec_rst g)
  | 0 => fun _ _ _ _ _ h => nomatch h
  | g + 1 => fun sel i as m m' h => by
    have ih := ok_rec_rst g
    unfold rec_rst at h
    split at h
    · exact ok_X12_readsStep (rec_rst g) ih (by omega) (by omega) (by omega) (by omega)  m h
    · cases h
noncomputable def r_X12_readsStep_t (m : Mem) : Option Mem := rec_rst 9 0 0 [] m
theorem ok_X12_readsStep_t (m : Mem) {m' : Mem} (h : r_X12_readsStep_t m = some m') : Mt yX12_readsStep cX12_readsStep 3 none 15 307 0 0 [vR 12 0] m oV m' := ok_rec_rst 9 0 0 [] m _ h
noncomputable def r_X12_starts (x1 : Int32) (m : Mem) : Option Mem :=
  bd1 (r_X12_blanks (wr (wr (wr (wr (wr (wr (wr m 12 0 1 0) 12 0 2 x1) 12 0 4 0) 12 0 5 0) 12 0 6 (-1)) 12 0 7 0) 12 0 8 0)) fun m2 => (some m2)
set_option maxHeartbeats 4000000 in
set_option maxRecDepth 20000 in
theorem ok_X12_starts (x1 : Int32) (m : Mem) {m' : Mem} (h : r_X12_starts x1 m = some m') : Mt yX12_starts cX12_starts 2 none 3 41 0 0 [vR 12 0, vI x1] m oV m' := by
  refine Mt.of (by decide) (Nat.le_of_ble_eq_true rfl) (by decide +kernel) (hhF_ne (by decide)) ?_
  show Xj RX12 cX12_starts 2 none 3 41 0 0 0 0 0 [(0, vR 12 0), (1, vI x1)] [] m oV m'
  unfold r_X12_starts at h
  refine xj_aload_n 0 dX12_starts_0 rfl ?_
  refine xj_iconst (z := 0) dX12_starts_1 (by decide) ?_
  refine xj_putI dX12_starts_2 fw_X12_112 rfl ?_
  refine xj_aload_n 0 dX12_starts_5 rfl ?_
  refine xj_iload_n 1 dX12_starts_6 rfl ?_
  refine xj_putI dX12_starts_7 fw_X12_115 rfl ?_
  refine xj_aload_n 0 dX12_starts_10 rfl ?_
  refine xj_iconst (z := 0) dX12_starts_11 (by decide) ?_
  refine xj_putI dX12_starts_12 fw_X12_118 rfl ?_
  refine xj_aload_n 0 dX12_starts_15 rfl ?_
  refine xj_iconst (z := 0) dX12_starts_16 (by decide) ?_
  refine xj_putI dX12_starts_17 fw_X12_125 rfl ?_
  refine xj_aload_n 0 dX12_starts_20 rfl ?_
  refine xj_iconst (z := (-1)) dX12_starts_21 (by decide) ?_
  refine xj_putI dX12_starts_22 fw_X12_128 rfl ?_
  refine xj_aload_n 0 dX12_starts_25 rfl ?_
  refine xj_iconst (z := 0) dX12_starts_26 (by decide) ?_
  refine xj_putI dX12_starts_27 fw_X12_165 rfl ?_
  refine xj_aload_n 0 dX12_starts_30 rfl ?_
  refine xj_iconst (z := 0) dX12_starts_31 (by decide) ?_
  refine xj_putI dX12_starts_32 fw_X12_168 rfl ?_
  refine xj_aload_n 0 dX12_starts_35 rfl ?_
  obtain ⟨m2, e1, h⟩ := bd1_some h
  refine xc_Vv0 (st := []) (ok_X12_blanks (wr (wr (wr (wr (wr (wr (wr m 12 0 1 0) 12 0 2 x1) 12 0 4 0) 12 0 5 0) 12 0 6 (-1)) 12 0 7 0) 12 0 8 0) e1) dX12_starts_36 cv_X12_131 rfl rfl (Nat.le_of_ble_eq_true rfl) (by decide) (by decide) (by decide) (by decide) ?_
  cases h
  exact xj_return dX12_starts_39 (by decide) (by decide)
noncomputable def r_X12_ends (m : Mem) : Option (Int32 × Mem) :=
  some (((m 12 0 5) - 10), (wr m 12 0 3 (m 12 0 6)))
set_option maxHeartbeats 4000000 in
set_option maxRecDepth 20000 in
theorem ok_X12_ends (m : Mem) {z : Int32} {m' : Mem} (h : r_X12_ends m = some (z, m')) : Mt yX12_ends cX12_ends 1 (some .int) 1 0 0 0 [vR 12 0] m (oI z) m' := by
  refine Mt.of (by decide) (Nat.le_of_ble_eq_true rfl) (by decide +kernel) (hhF_ne (by decide)) ?_
  show Xj RX12 cX12_ends 1 (some .int) 1 0 0 0 0 0 0 [(0, vR 12 0)] [] m (oI z) m'
  unfold r_X12_ends at h
  refine xj_aload_n 0 dX12_ends_0 rfl ?_
  refine xj_aload_n 0 dX12_ends_1 rfl ?_
  refine xg_getI (x := (m 12 0 6)) dX12_ends_2 fl_X12_128 rfl rfl ?_
  refine xj_putI dX12_ends_5 fw_X12_9 rfl ?_
  refine xj_aload_n 0 dX12_ends_8 rfl ?_
  refine xg_getI (x := (m 12 0 5)) dX12_ends_9 fl_X12_125 rfl rfl ?_
  refine xj_bipush (z := 10) dX12_ends_12 (by decide) ?_
  refine xj_isub dX12_ends_14 ?_
  cases h
  exact xj_ireturn dX12_ends_15 rfl (by decide) (by decide)
