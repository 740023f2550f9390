theorem dX4_inputOf_0 : decode cX4_inputOf 0 = .ok (.aload_n 1, 1) := by decide +kernel
theorem dX4_inputOf_1 : decode cX4_inputOf 1 = .ok (.ldc 105, 2) := by decide +kernel
theorem dX4_inputOf_3 : decode cX4_inputOf 3 = .ok (.invokevirtual 84, 3) := by decide +kernel
theorem dX4_inputOf_6 : decode cX4_inputOf 6 = .ok (.ifCond .eq 5, 3) := by decide +kernel
theorem dX4_inputOf_9 : decode cX4_inputOf 9 = .ok (.iconst 0, 1) := by decide +kernel
theorem dX4_inputOf_10 : decode cX4_inputOf 10 = .ok (.ireturn, 1) := by decide +kernel
theorem dX4_inputOf_11 : decode cX4_inputOf 11 = .ok (.aload_n 1, 1) := by decide +kernel
theorem dX4_inputOf_12 : decode cX4_inputOf 12 = .ok (.ldc 107, 2) := by decide +kernel
theorem dX4_inputOf_14 : decode cX4_inputOf 14 = .ok (.invokevirtual 84, 3) := by decide +kernel
theorem dX4_inputOf_17 : decode cX4_inputOf 17 = .ok (.ifCond .eq 5, 3) := by decide +kernel
theorem dX4_inputOf_20 : decode cX4_inputOf 20 = .ok (.iconst 1, 1) := by decide +kernel
theorem dX4_inputOf_21 : decode cX4_inputOf 21 = .ok (.ireturn, 1) := by decide +kernel
theorem dX4_inputOf_22 : decode cX4_inputOf 22 = .ok (.aload_n 1, 1) := by decide +kernel
theorem dX4_inputOf_23 : decode cX4_inputOf 23 = .ok (.ldc 109, 2) := by decide +kernel
theorem dX4_inputOf_25 : decode cX4_inputOf 25 = .ok (.invokevirtual 84, 3) := by decide +kernel
theorem dX4_inputOf_28 : decode cX4_inputOf 28 = .ok (.ifCond .eq 5, 3) := by decide +kernel
theorem dX4_inputOf_31 : decode cX4_inputOf 31 = .ok (.iconst 2, 1) := by decide +kernel
theorem dX4_inputOf_32 : decode cX4_inputOf 32 = .ok (.ireturn, 1) := by decide +kernel
theorem dX4_inputOf_33 : decode cX4_inputOf 33 = .ok (.aload_n 1, 1) := by decide +kernel
theorem dX4_inputOf_34 : decode cX4_inputOf 34 = .ok (.ldc 111, 2) := by decide +kernel
theorem dX4_inputOf_36 : decode cX4_inputOf 36 = .ok (.invokevirtual 84, 3) := by decide +kernel
theorem dX4_inputOf_39 : decode cX4_inputOf 39 = .ok (.ifCond .eq 5, 3) := by decide +kernel
theorem dX4_inputOf_42 : decode cX4_inputOf 42 = .ok (.iconst 3, 1) := by decide +kernel
theorem dX4_inputOf_43 : decode cX4_inputOf 43 = .ok (.ireturn, 1) := by decide +kernel
theorem dX4_inputOf_44 : decode cX4_inputOf 44 = .ok (.aload_n 1, 1) := by decide +kernel
theorem dX4_inputOf_45 : decode cX4_inputOf 45 = .ok (.ldc 113, 2) := by decide +kernel
theorem dX4_inputOf_47 : decode cX4_inputOf 47 = .ok (.invokevirtual 84, 3) := by decide +kernel
theorem dX4_inputOf_50 : decode cX4_inputOf 50 = .ok (.ifCond .eq 5, 3) := by decide +kernel
theorem dX4_inputOf_53 : decode cX4_inputOf 53 = .ok (.iconst 4, 1) := by decide +kernel
theorem dX4_inputOf_54 : decode cX4_inputOf 54 = .ok (.ireturn, 1) := by decide +kernel
theorem dX4_inputOf_55 : decode cX4_inputOf 55 = .ok (.aload_n 1, 1) := by decide +kernel
theorem dX4_inputOf_56 : decode cX4_inputOf 56 = .ok (.ldc 115, 2) := by decide +kernel
theorem dX4_inputOf_58 : decode cX4_inputOf 58 = .ok (.invokevirtual 84, 3) := by decide +kernel
theorem dX4_inputOf_61 : decode cX4_inputOf 61 = .ok (.ifCond .eq 5, 3) := by decide +kernel
theorem dX4_inputOf_64 : decode cX4_inputOf 64 = .ok (.iconst 5, 1) := by decide +kernel
theorem dX4_inputOf_65 : decode cX4_inputOf 65 = .ok (.ireturn, 1) := by decide +kernel
theorem dX4_inputOf_66 : decode cX4_inputOf 66 = .ok (.aload_n 1, 1) := by decide +kernel
theorem dX4_inputOf_67 : decode cX4_inputOf 67 = .ok (.ldc 117, 2) := by decide +kernel
theorem dX4_inputOf_69 : decode cX4_inputOf 69 = .ok (.invokevirtual 84, 3) := by decide +kernel
theorem dX4_inputOf_72 : decode cX4_inputOf 72 = .ok (.ifCond .eq 6, 3) := by decide +kernel
theorem dX4_inputOf_75 : decode cX4_inputOf 75 = .ok (.bipush 6, 2) := by decide +kernel
theorem dX4_inputOf_77 : decode cX4_inputOf 77 = .ok (.ireturn, 1) := by decide +kernel
theorem dX4_inputOf_78 : decode cX4_inputOf 78 = .ok (.aload_n 1, 1) := by decide +kernel
theorem dX4_inputOf_79 : decode cX4_inputOf 79 = .ok (.ldc 119, 2) := by decide +kernel
theorem dX4_inputOf_81 : decode cX4_inputOf 81 = .ok (.invokevirtual 84, 3) := by decide +kernel
theorem dX4_inputOf_84 : decode cX4_inputOf 84 = .ok (.ifCond .eq 6, 3) := by decide +kernel
theorem dX4_inputOf_87 : decode cX4_inputOf 87 = .ok (.bipush 7, 2) := by decide +kernel
theorem dX4_inputOf_89 : decode cX4_inputOf 89 = .ok (.ireturn, 1) := by decide +kernel
theorem dX4_inputOf_90 : decode cX4_inputOf 90 = .ok (.aload_n 1, 1) := by decide +kernel
theorem dX4_inputOf_91 : decode cX4_inputOf 91 = .ok (.ldc 121, 2) := by decide +kernel
theorem dX4_inputOf_93 : decode cX4_inputOf 93 = .ok (.invokevirtual 84, 3) := by decide +kernel
theorem dX4_inputOf_96 : decode cX4_inputOf 96 = .ok (.ifCond .eq 8, 3) := by decide +kernel
theorem dX4_inputOf_99 : decode cX4_inputOf 99 = .ok (.bipush 8, 2) := by decide +kernel
theorem dX4_inputOf_101 : decode cX4_inputOf 101 = .ok (.goto 4, 3) := by decide +kernel
theorem dX4_inputOf_104 : decode cX4_inputOf 104 = .ok (.iconst (-1), 1) := by decide +kernel
theorem dX4_inputOf_105 : decode cX4_inputOf 105 = .ok (.ireturn, 1) := by decide +kernel
theorem dX4_readNumber_0 : decode cX4_readNumber 0 = .ok (.aload_n 1, 1) := by decide +kernel
theorem dX4_readNumber_1 : decode cX4_readNumber 1 = .ok (.iconst 0, 1) := by decide +kernel
theorem dX4_readNumber_2 : decode cX4_readNumber 2 = .ok (.sipush 999, 3) := by decide +kernel
theorem dX4_readNumber_5 : decode cX4_readNumber 5 = .ok (.invokevirtual 101, 3) := by decide +kernel
theorem dX4_readNumber_8 : decode cX4_readNumber 8 = .ok (.istore_n 2, 1) := by decide +kernel
theorem dX4_readNumber_9 : decode cX4_readNumber 9 = .ok (.iload_n 2, 1) := by decide +kernel
theorem dX4_readNumber_10 : decode cX4_readNumber 10 = .ok (.iconst (-1), 1) := by decide +kernel
theorem dX4_readNumber_11 : decode cX4_readNumber 11 = .ok (.if_icmp .ne 5, 3) := by decide +kernel
theorem dX4_readNumber_14 : decode cX4_readNumber 14 = .ok (.iconst 0, 1) := by decide +kernel
theorem dX4_readNumber_15 : decode cX4_readNumber 15 = .ok (.ireturn, 1) := by decide +kernel
theorem dX4_readNumber_16 : decode cX4_readNumber 16 = .ok (.aload_n 0, 1) := by decide +kernel
theorem dX4_readNumber_17 : decode cX4_readNumber 17 = .ok (.iload_n 2, 1) := by decide +kernel
theorem dX4_readNumber_18 : decode cX4_readNumber 18 = .ok (.invokevirtual 58, 3) := by decide +kernel
theorem dX4_readNumber_21 : decode cX4_readNumber 21 = .ok (.iconst 1, 1) := by decide +kernel
theorem dX4_readNumber_22 : decode cX4_readNumber 22 = .ok (.ireturn, 1) := by decide +kernel
theorem dX4_readSum_0 : decode cX4_readSum 0 = .ok (.aload_n 0, 1) := by decide +kernel
theorem dX4_readSum_1 : decode cX4_readSum 1 = .ok (.aload_n 1, 1) := by decide +kernel
theorem dX4_readSum_2 : decode cX4_readSum 2 = .ok (.iload_n 2, 1) := by decide +kernel
theorem dX4_readSum_3 : decode cX4_readSum 3 = .ok (.invokevirtual 47, 3) := by decide +kernel
theorem dX4_readSum_6 : decode cX4_readSum 6 = .ok (.ifCond .ne 5, 3) := by decide +kernel
theorem dX4_readSum_9 : decode cX4_readSum 9 = .ok (.iconst 0, 1) := by decide +kernel
theorem dX4_readSum_10 : decode cX4_readSum 10 = .ok (.ireturn, 1) := by decide +kernel
theorem dX4_readSum_11 : decode cX4_readSum 11 = .ok (.iconst 0, 1) := by decide +kernel
theorem dX4_readSum_12 : decode cX4_readSum 12 = .ok (.istore_n 3, 1) := by decide +kernel
theorem dX4_readSum_13 : decode cX4_readSum 13 = .ok (.iload_n 3, 1) := by decide +kernel
theorem dX4_readSum_14 : decode cX4_readSum 14 = .ok (.sipush 150, 3) := by decide +kernel
theorem dX4_readSum_17 : decode cX4_readSum 17 = .ok (.if_icmp .ge 71, 3) := by decide +kernel
theorem dX4_readSum_20 : decode cX4_readSum 20 = .ok (.aload_n 1, 1) := by decide +kernel
theorem dX4_readSum_21 : decode cX4_readSum 21 = .ok (.invokevirtual 50, 3) := by decide +kernel
theorem dX4_readSum_24 : decode cX4_readSum 24 = .ok (.istore 4, 2) := by decide +kernel
theorem dX4_readSum_26 : decode cX4_readSum 26 = .ok (.iload 4, 2) := by decide +kernel
theorem dX4_readSum_28 : decode cX4_readSum 28 = .ok (.bipush 43, 2) := by decide +kernel
theorem dX4_readSum_30 : decode cX4_readSum 30 = .ok (.if_icmp .eq 12, 3) := by decide +kernel
theorem dX4_readSum_33 : decode cX4_readSum 33 = .ok (.iload 4, 2) := by decide +kernel
theorem dX4_readSum_35 : decode cX4_readSum 35 = .ok (.bipush 45, 2) := by decide +kernel
theorem dX4_readSum_37 : decode cX4_readSum 37 = .ok (.if_icmp .eq 5, 3) := by decide +kernel
theorem dX4_readSum_40 : decode cX4_readSum 40 = .ok (.iconst 1, 1) := by decide +kernel
theorem dX4_readSum_41 : decode cX4_readSum 41 = .ok (.ireturn, 1) := by decide +kernel
theorem dX4_readSum_42 : decode cX4_readSum 42 = .ok (.aload_n 1, 1) := by decide +kernel
theorem dX4_readSum_43 : decode cX4_readSum 43 = .ok (.iload 4, 2) := by decide +kernel
theorem dX4_readSum_45 : decode cX4_readSum 45 = .ok (.invokevirtual 54, 3) := by decide +kernel
theorem dX4_readSum_48 : decode cX4_readSum 48 = .ok (.ifCond .eq 12, 3) := by decide +kernel
theorem dX4_readSum_51 : decode cX4_readSum 51 = .ok (.aload_n 0, 1) := by decide +kernel
theorem dX4_readSum_52 : decode cX4_readSum 52 = .ok (.aload_n 1, 1) := by decide +kernel
theorem dX4_readSum_53 : decode cX4_readSum 53 = .ok (.iload_n 2, 1) := by decide +kernel
theorem dX4_readSum_54 : decode cX4_readSum 54 = .ok (.invokevirtual 47, 3) := by decide +kernel
theorem dX4_readSum_57 : decode cX4_readSum 57 = .ok (.ifCond .ne 5, 3) := by decide +kernel
theorem dX4_readSum_60 : decode cX4_readSum 60 = .ok (.iconst 0, 1) := by decide +kernel
theorem dX4_readSum_61 : decode cX4_readSum 61 = .ok (.ireturn, 1) := by decide +kernel
theorem dX4_readSum_62 : decode cX4_readSum 62 = .ok (.aload_n 0, 1) := by decide +kernel
theorem dX4_readSum_63 : decode cX4_readSum 63 = .ok (.iload 4, 2) := by decide +kernel
theorem dX4_readSum_65 : decode cX4_readSum 65 = .ok (.bipush 43, 2) := by decide +kernel
theorem dX4_readSum_67 : decode cX4_readSum 67 = .ok (.if_icmp .ne 9, 3) := by decide +kernel
theorem dX4_readSum_70 : decode cX4_readSum 70 = .ok (.sipush 2000, 3) := by decide +kernel
theorem dX4_readSum_73 : decode cX4_readSum 73 = .ok (.goto 6, 3) := by decide +kernel
theorem dX4_readSum_76 : decode cX4_readSum 76 = .ok (.sipush 2001, 3) := by decide +kernel
theorem dX4_readSum_79 : decode cX4_readSum 79 = .ok (.invokevirtual 58, 3) := by decide +kernel
theorem dX4_readSum_82 : decode cX4_readSum 82 = .ok (.iinc 3 1, 3) := by decide +kernel
theorem dX4_readSum_85 : decode cX4_readSum 85 = .ok (.goto (-72), 3) := by decide +kernel
theorem dX4_readSum_88 : decode cX4_readSum 88 = .ok (.iconst 1, 1) := by decide +kernel
theorem dX4_readSum_89 : decode cX4_readSum 89 = .ok (.ireturn, 1) := by decide +kernel
theorem dX4_readProduct_0 : decode cX4_readProduct 0 = .ok (.aload_n 0, 1) := by decide +kernel
theorem dX4_readProduct_1 : decode cX4_readProduct 1 = .ok (.aload_n 1, 1) := by decide +kernel
theorem dX4_readProduct_2 : decode cX4_readProduct 2 = .ok (.iload_n 2, 1) := by decide +kernel
theorem dX4_readProduct_3 : decode cX4_readProduct 3 = .ok (.invokevirtual 62, 3) := by decide +kernel
theorem dX4_readProduct_6 : decode cX4_readProduct 6 = .ok (.ifCond .ne 5, 3) := by decide +kernel
theorem dX4_readProduct_9 : decode cX4_readProduct 9 = .ok (.iconst 0, 1) := by decide +kernel
theorem dX4_readProduct_10 : decode cX4_readProduct 10 = .ok (.ireturn, 1) := by decide +kernel
theorem dX4_readProduct_11 : decode cX4_readProduct 11 = .ok (.iconst 0, 1) := by decide +kernel
theorem dX4_readProduct_12 : decode cX4_readProduct 12 = .ok (.istore_n 3, 1) := by decide +kernel
theorem dX4_readProduct_13 : decode cX4_readProduct 13 = .ok (.iload_n 3, 1) := by decide +kernel
theorem dX4_readProduct_14 : decode cX4_readProduct 14 = .ok (.sipush 150, 3) := by decide +kernel
theorem dX4_readProduct_17 : decode cX4_readProduct 17 = .ok (.if_icmp .ge 91, 3) := by decide +kernel
theorem dX4_readProduct_20 : decode cX4_readProduct 20 = .ok (.aload_n 1, 1) := by decide +kernel
theorem dX4_readProduct_21 : decode cX4_readProduct 21 = .ok (.invokevirtual 50, 3) := by decide +kernel
theorem dX4_readProduct_24 : decode cX4_readProduct 24 = .ok (.istore 4, 2) := by decide +kernel
theorem dX4_readProduct_26 : decode cX4_readProduct 26 = .ok (.iload 4, 2) := by decide +kernel
theorem dX4_readProduct_28 : decode cX4_readProduct 28 = .ok (.bipush 42, 2) := by decide +kernel
theorem dX4_readProduct_30 : decode cX4_readProduct 30 = .ok (.if_icmp .eq 19, 3) := by decide +kernel
theorem dX4_readProduct_33 : decode cX4_readProduct 33 = .ok (.iload 4, 2) := by decide +kernel
theorem dX4_readProduct_35 : decode cX4_readProduct 35 = .ok (.bipush 47, 2) := by decide +kernel
theorem dX4_readProduct_37 : decode cX4_readProduct 37 = .ok (.if_icmp .eq 12, 3) := by decide +kernel
theorem dX4_readProduct_40 : decode cX4_readProduct 40 = .ok (.iload 4, 2) := by decide +kernel
theorem dX4_readProduct_42 : decode cX4_readProduct 42 = .ok (.bipush 37, 2) := by decide +kernel
theorem dX4_readProduct_44 : decode cX4_readProduct 44 = .ok (.if_icmp .eq 5, 3) := by decide +kernel
theorem dX4_readProduct_47 : decode cX4_readProduct 47 = .ok (.iconst 1, 1) := by decide +kernel
theorem dX4_readProduct_48 : decode cX4_readProduct 48 = .ok (.ireturn, 1) := by decide +kernel
theorem dX4_readProduct_49 : decode cX4_readProduct 49 = .ok (.aload_n 1, 1) := by decide +kernel
theorem dX4_readProduct_50 : decode cX4_readProduct 50 = .ok (.iload 4, 2) := by decide +kernel
theorem dX4_readProduct_52 : decode cX4_readProduct 52 = .ok (.invokevirtual 54, 3) := by decide +kernel
theorem dX4_readProduct_55 : decode cX4_readProduct 55 = .ok (.ifCond .eq 12, 3) := by decide +kernel
theorem dX4_readProduct_58 : decode cX4_readProduct 58 = .ok (.aload_n 0, 1) := by decide +kernel
theorem dX4_readProduct_59 : decode cX4_readProduct 59 = .ok (.aload_n 1, 1) := by decide +kernel
theorem dX4_readProduct_60 : decode cX4_readProduct 60 = .ok (.iload_n 2, 1) := by decide +kernel
theorem dX4_readProduct_61 : decode cX4_readProduct 61 = .ok (.invokevirtual 62, 3) := by decide +kernel
theorem dX4_readProduct_64 : decode cX4_readProduct 64 = .ok (.ifCond .ne 5, 3) := by decide +kernel
theorem dX4_readProduct_67 : decode cX4_readProduct 67 = .ok (.iconst 0, 1) := by decide +kernel
theorem dX4_readProduct_68 : decode cX4_readProduct 68 = .ok (.ireturn, 1) := by decide +kernel
theorem dX4_readProduct_69 : decode cX4_readProduct 69 = .ok (.aload_n 0, 1) := by decide +kernel
theorem dX4_readProduct_70 : decode cX4_readProduct 70 = .ok (.iload 4, 2) := by decide +kernel
theorem dX4_readProduct_72 : decode cX4_readProduct 72 = .ok (.bipush 42, 2) := by decide +kernel
theorem dX4_readProduct_74 : decode cX4_readProduct 74 = .ok (.if_icmp .ne 9, 3) := by decide +kernel
theorem dX4_readProduct_77 : decode cX4_readProduct 77 = .ok (.sipush 2002, 3) := by decide +kernel
theorem dX4_readProduct_80 : decode cX4_readProduct 80 = .ok (.goto 19, 3) := by decide +kernel
theorem dX4_readProduct_83 : decode cX4_readProduct 83 = .ok (.iload 4, 2) := by decide +kernel
theorem dX4_readProduct_85 : decode cX4_readProduct 85 = .ok (.bipush 47, 2) := by decide +kernel
theorem dX4_readProduct_87 : decode cX4_readProduct 87 = .ok (.if_icmp .ne 9, 3) := by decide +kernel
theorem dX4_readProduct_90 : decode cX4_readProduct 90 = .ok (.sipush 2003, 3) := by decide +kernel
theorem dX4_readProduct_93 : decode cX4_readProduct 93 = .ok (.goto 6, 3) := by decide +kernel
theorem dX4_readProduct_96 : decode cX4_readProduct 96 = .ok (.sipush 2004, 3) := by decide +kernel
theorem dX4_readProduct_99 : decode cX4_readProduct 99 = .ok (.invokevirtual 58, 3) := by decide +kernel
theorem dX4_readProduct_102 : decode cX4_readProduct 102 = .ok (.iinc 3 1, 3) := by decide +kernel
theorem dX4_readProduct_105 : decode cX4_readProduct 105 = .ok (.goto (-92), 3) := by decide +kernel
theorem dX4_readProduct_108 : decode cX4_readProduct 108 = .ok (.iconst 1, 1) := by decide +kernel
theorem dX4_readProduct_109 : decode cX4_readProduct 109 = .ok (.ireturn, 1) := by decide +kernel
theorem dX4_readUnit_0 : decode cX4_readUnit 0 = .ok (.aload_n 1, 1) := by decide +kernel
theorem dX4_readUnit_1 : decode cX4_readUnit 1 = .ok (.invokevirtual 50, 3) := by decide +kernel
theorem dX4_readUnit_4 : decode cX4_readUnit 4 = .ok (.istore_n 3, 1) := by decide +kernel
theorem dX4_readUnit_5 : decode cX4_readUnit 5 = .ok (.aload_n 1, 1) := by decide +kernel
theorem dX4_readUnit_6 : decode cX4_readUnit 6 = .ok (.iload_n 3, 1) := by decide +kernel
theorem dX4_readUnit_7 : decode cX4_readUnit 7 = .ok (.invokevirtual 65, 3) := by decide +kernel
theorem dX4_readUnit_10 : decode cX4_readUnit 10 = .ok (.ifCond .eq 9, 3) := by decide +kernel
theorem dX4_readUnit_13 : decode cX4_readUnit 13 = .ok (.aload_n 0, 1) := by decide +kernel
theorem dX4_readUnit_14 : decode cX4_readUnit 14 = .ok (.aload_n 1, 1) := by decide +kernel
theorem dX4_readUnit_15 : decode cX4_readUnit 15 = .ok (.invokevirtual 68, 3) := by decide +kernel
theorem dX4_readUnit_18 : decode cX4_readUnit 18 = .ok (.ireturn, 1) := by decide +kernel
theorem dX4_readUnit_19 : decode cX4_readUnit 19 = .ok (.iload_n 3, 1) := by decide +kernel
theorem dX4_readUnit_20 : decode cX4_readUnit 20 = .ok (.bipush 40, 2) := by decide +kernel
theorem dX4_readUnit_22 : decode cX4_readUnit 22 = .ok (.if_icmp .ne 10, 3) := by decide +kernel
theorem dX4_readUnit_25 : decode cX4_readUnit 25 = .ok (.aload_n 0, 1) := by decide +kernel
theorem dX4_readUnit_26 : decode cX4_readUnit 26 = .ok (.aload_n 1, 1) := by decide +kernel
theorem dX4_readUnit_27 : decode cX4_readUnit 27 = .ok (.iload_n 2, 1) := by decide +kernel
theorem dX4_readUnit_28 : decode cX4_readUnit 28 = .ok (.invokevirtual 72, 3) := by decide +kernel
theorem dX4_readUnit_31 : decode cX4_readUnit 31 = .ok (.ireturn, 1) := by decide +kernel
theorem dX4_readUnit_32 : decode cX4_readUnit 32 = .ok (.aload_n 1, 1) := by decide +kernel
theorem dX4_readUnit_33 : decode cX4_readUnit 33 = .ok (.invokevirtual 75, 3) := by decide +kernel
theorem dX4_readUnit_36 : decode cX4_readUnit 36 = .ok (.ifCond .ne 5, 3) := by decide +kernel
theorem dX4_readUnit_39 : decode cX4_readUnit 39 = .ok (.iconst 0, 1) := by decide +kernel
theorem dX4_readUnit_40 : decode cX4_readUnit 40 = .ok (.ireturn, 1) := by decide +kernel
theorem dX4_readUnit_41 : decode cX4_readUnit 41 = .ok (.aload_n 0, 1) := by decide +kernel
theorem dX4_readUnit_42 : decode cX4_readUnit 42 = .ok (.aload_n 1, 1) := by decide +kernel
theorem dX4_readUnit_43 : decode cX4_readUnit 43 = .ok (.invokevirtual 78, 3) := by decide +kernel
theorem dX4_readUnit_46 : decode cX4_readUnit 46 = .ok (.istore 4, 2) := by decide +kernel
theorem dX4_readUnit_48 : decode cX4_readUnit 48 = .ok (.iload 4, 2) := by decide +kernel
theorem dX4_readUnit_50 : decode cX4_readUnit 50 = .ok (.iconst (-1), 1) := by decide +kernel
theorem dX4_readUnit_51 : decode cX4_readUnit 51 = .ok (.if_icmp .eq 15, 3) := by decide +kernel
theorem dX4_readUnit_54 : decode cX4_readUnit 54 = .ok (.aload_n 0, 1) := by decide +kernel
theorem dX4_readUnit_55 : decode cX4_readUnit 55 = .ok (.sipush 1000, 3) := by decide +kernel
theorem dX4_readUnit_58 : decode cX4_readUnit 58 = .ok (.iload 4, 2) := by decide +kernel
theorem dX4_readUnit_60 : decode cX4_readUnit 60 = .ok (.iadd, 1) := by decide +kernel
theorem dX4_readUnit_61 : decode cX4_readUnit 61 = .ok (.invokevirtual 58, 3) := by decide +kernel
theorem dX4_readUnit_64 : decode cX4_readUnit 64 = .ok (.iconst 1, 1) := by decide +kernel
theorem dX4_readUnit_65 : decode cX4_readUnit 65 = .ok (.ireturn, 1) := by decide +kernel
theorem dX4_readUnit_66 : decode cX4_readUnit 66 = .ok (.aload_n 1, 1) := by decide +kernel
theorem dX4_readUnit_67 : decode cX4_readUnit 67 = .ok (.ldc 82, 2) := by decide +kernel
theorem dX4_readUnit_69 : decode cX4_readUnit 69 = .ok (.invokevirtual 84, 3) := by decide +kernel
theorem dX4_readUnit_72 : decode cX4_readUnit 72 = .ok (.ifCond .eq 13, 3) := by decide +kernel
theorem dX4_readUnit_75 : decode cX4_readUnit 75 = .ok (.aload_n 0, 1) := by decide +kernel
theorem dX4_readUnit_76 : decode cX4_readUnit 76 = .ok (.aload_n 1, 1) := by decide +kernel
theorem dX4_readUnit_77 : decode cX4_readUnit 77 = .ok (.iload_n 2, 1) := by decide +kernel
theorem dX4_readUnit_78 : decode cX4_readUnit 78 = .ok (.sipush 2005, 3) := by decide +kernel
theorem dX4_readUnit_81 : decode cX4_readUnit 81 = .ok (.invokevirtual 88, 3) := by decide +kernel
theorem dX4_readUnit_84 : decode cX4_readUnit 84 = .ok (.ireturn, 1) := by decide +kernel
theorem dX4_readUnit_85 : decode cX4_readUnit 85 = .ok (.aload_n 1, 1) := by decide +kernel
theorem dX4_readUnit_86 : decode cX4_readUnit 86 = .ok (.ldc 92, 2) := by decide +kernel
theorem dX4_readUnit_88 : decode cX4_readUnit 88 = .ok (.invokevirtual 84, 3) := by decide +kernel
theorem dX4_readUnit_91 : decode cX4_readUnit 91 = .ok (.ifCond .eq 15, 3) := by decide +kernel
theorem dX4_readUnit_94 : decode cX4_readUnit 94 = .ok (.aload_n 0, 1) := by decide +kernel
theorem dX4_readUnit_95 : decode cX4_readUnit 95 = .ok (.aload_n 1, 1) := by decide +kernel
theorem dX4_readUnit_96 : decode cX4_readUnit 96 = .ok (.iload_n 2, 1) := by decide +kernel
theorem dX4_readUnit_97 : decode cX4_readUnit 97 = .ok (.sipush 2006, 3) := by decide +kernel
theorem dX4_readUnit_100 : decode cX4_readUnit 100 = .ok (.invokevirtual 88, 3) := by decide +kernel
theorem dX4_readUnit_103 : decode cX4_readUnit 103 = .ok (.goto 12, 3) := by decide +kernel
theorem dX4_readUnit_106 : decode cX4_readUnit 106 = .ok (.aload_n 1, 1) := by decide +kernel
theorem dX4_readUnit_107 : decode cX4_readUnit 107 = .ok (.iconst 1, 1) := by decide +kernel
theorem dX4_readUnit_108 : decode cX4_readUnit 108 = .ok (.aload_n 1, 1) := by decide +kernel
theorem dX4_readUnit_109 : decode cX4_readUnit 109 = .ok (.getfield 94, 3) := by decide +kernel
theorem dX4_readUnit_112 : decode cX4_readUnit 112 = .ok (.invokevirtual 97, 3) := by decide +kernel
theorem dX4_readUnit_115 : decode cX4_readUnit 115 = .ok (.ireturn, 1) := by decide +kernel
theorem dX4_readBrackets_0 : decode cX4_readBrackets 0 = .ok (.aload_n 1, 1) := by decide +kernel
theorem dX4_readBrackets_1 : decode cX4_readBrackets 1 = .ok (.bipush 40, 2) := by decide +kernel
theorem dX4_readBrackets_3 : decode cX4_readBrackets 3 = .ok (.invokevirtual 54, 3) := by decide +kernel
theorem dX4_readBrackets_6 : decode cX4_readBrackets 6 = .ok (.ifCond .ne 5, 3) := by decide +kernel
theorem dX4_readBrackets_9 : decode cX4_readBrackets 9 = .ok (.iconst 0, 1) := by decide +kernel
theorem dX4_readBrackets_10 : decode cX4_readBrackets 10 = .ok (.ireturn, 1) := by decide +kernel
theorem dX4_readBrackets_11 : decode cX4_readBrackets 11 = .ok (.iload_n 2, 1) := by decide +kernel
theorem dX4_readBrackets_12 : decode cX4_readBrackets 12 = .ok (.bipush 6, 2) := by decide +kernel
theorem dX4_readBrackets_14 : decode cX4_readBrackets 14 = .ok (.if_icmp .lt 13, 3) := by decide +kernel
theorem dX4_readBrackets_17 : decode cX4_readBrackets 17 = .ok (.aload_n 1, 1) := by decide +kernel
theorem dX4_readBrackets_18 : decode cX4_readBrackets 18 = .ok (.iconst 3, 1) := by decide +kernel
theorem dX4_readBrackets_19 : decode cX4_readBrackets 19 = .ok (.aload_n 1, 1) := by decide +kernel
theorem dX4_readBrackets_20 : decode cX4_readBrackets 20 = .ok (.getfield 94, 3) := by decide +kernel
theorem dX4_readBrackets_23 : decode cX4_readBrackets 23 = .ok (.invokevirtual 97, 3) := by decide +kernel
theorem dX4_readBrackets_26 : decode cX4_readBrackets 26 = .ok (.ireturn, 1) := by decide +kernel
theorem dX4_readBrackets_27 : decode cX4_readBrackets 27 = .ok (.aload_n 0, 1) := by decide +kernel
theorem dX4_readBrackets_28 : decode cX4_readBrackets 28 = .ok (.aload_n 1, 1) := by decide +kernel
theorem dX4_readBrackets_29 : decode cX4_readBrackets 29 = .ok (.iload_n 2, 1) := by decide +kernel
theorem dX4_readBrackets_30 : decode cX4_readBrackets 30 = .ok (.iconst 1, 1) := by decide +kernel
theorem dX4_readBrackets_31 : decode cX4_readBrackets 31 = .ok (.iadd, 1) := by decide +kernel
theorem dX4_readBrackets_32 : decode cX4_readBrackets 32 = .ok (.invokevirtual 37, 3) := by decide +kernel
theorem dX4_readBrackets_35 : decode cX4_readBrackets 35 = .ok (.ifCond .eq 16, 3) := by decide +kernel
theorem dX4_readBrackets_38 : decode cX4_readBrackets 38 = .ok (.aload_n 1, 1) := by decide +kernel
theorem dX4_readBrackets_39 : decode cX4_readBrackets 39 = .ok (.bipush 41, 2) := by decide +kernel
theorem dX4_readBrackets_41 : decode cX4_readBrackets 41 = .ok (.invokevirtual 54, 3) := by decide +kernel
theorem dX4_readBrackets_44 : decode cX4_readBrackets 44 = .ok (.ifCond .eq 7, 3) := by decide +kernel
theorem dX4_readBrackets_47 : decode cX4_readBrackets 47 = .ok (.iconst 1, 1) := by decide +kernel
theorem dX4_readBrackets_48 : decode cX4_readBrackets 48 = .ok (.goto 4, 3) := by decide +kernel
theorem dX4_readBrackets_51 : decode cX4_readBrackets 51 = .ok (.iconst 0, 1) := by decide +kernel
theorem dX4_readBrackets_52 : decode cX4_readBrackets 52 = .ok (.ireturn, 1) := by decide +kernel
theorem dX4_readPair_0 : decode cX4_readPair 0 = .ok (.iload_n 2, 1) := by decide +kernel
theorem dX4_readPair_1 : decode cX4_readPair 1 = .ok (.bipush 6, 2) := by decide +kernel
theorem dX4_readPair_3 : decode cX4_readPair 3 = .ok (.if_icmp .lt 13, 3) := by decide +kernel
theorem dX4_readPair_6 : decode cX4_readPair 6 = .ok (.aload_n 1, 1) := by decide +kernel
theorem dX4_readPair_7 : decode cX4_readPair 7 = .ok (.iconst 3, 1) := by decide +kernel
theorem dX4_readPair_8 : decode cX4_readPair 8 = .ok (.aload_n 1, 1) := by decide +kernel
theorem dX4_readPair_9 : decode cX4_readPair 9 = .ok (.getfield 94, 3) := by decide +kernel
theorem dX4_readPair_12 : decode cX4_readPair 12 = .ok (.invokevirtual 97, 3) := by decide +kernel
theorem dX4_readPair_15 : decode cX4_readPair 15 = .ok (.ireturn, 1) := by decide +kernel
theorem dX4_readPair_16 : decode cX4_readPair 16 = .ok (.aload_n 1, 1) := by decide +kernel
theorem dX4_readPair_17 : decode cX4_readPair 17 = .ok (.bipush 91, 2) := by decide +kernel
theorem dX4_readPair_19 : decode cX4_readPair 19 = .ok (.invokevirtual 54, 3) := by decide +kernel
theorem dX4_readPair_22 : decode cX4_readPair 22 = .ok (.ifCond .eq 14, 3) := by decide +kernel
theorem dX4_readPair_25 : decode cX4_readPair 25 = .ok (.aload_n 0, 1) := by decide +kernel
theorem dX4_readPair_26 : decode cX4_readPair 26 = .ok (.aload_n 1, 1) := by decide +kernel
theorem dX4_readPair_27 : decode cX4_readPair 27 = .ok (.iload_n 2, 1) := by decide +kernel
theorem dX4_readPair_28 : decode cX4_readPair 28 = .ok (.iconst 1, 1) := by decide +kernel
theorem dX4_readPair_29 : decode cX4_readPair 29 = .ok (.iadd, 1) := by decide +kernel
theorem dX4_readPair_30 : decode cX4_readPair 30 = .ok (.invokevirtual 37, 3) := by decide +kernel
theorem dX4_readPair_33 : decode cX4_readPair 33 = .ok (.ifCond .ne 5, 3) := by decide +kernel
theorem dX4_readPair_36 : decode cX4_readPair 36 = .ok (.iconst 0, 1) := by decide +kernel
theorem dX4_readPair_37 : decode cX4_readPair 37 = .ok (.ireturn, 1) := by decide +kernel
theorem dX4_readPair_38 : decode cX4_readPair 38 = .ok (.aload_n 1, 1) := by decide +kernel
theorem dX4_readPair_39 : decode cX4_readPair 39 = .ok (.bipush 44, 2) := by decide +kernel
theorem dX4_readPair_41 : decode cX4_readPair 41 = .ok (.invokevirtual 54, 3) := by decide +kernel
theorem dX4_readPair_44 : decode cX4_readPair 44 = .ok (.ifCond .eq 14, 3) := by decide +kernel
theorem dX4_readPair_47 : decode cX4_readPair 47 = .ok (.aload_n 0, 1) := by decide +kernel
theorem dX4_readPair_48 : decode cX4_readPair 48 = .ok (.aload_n 1, 1) := by decide +kernel
theorem dX4_readPair_49 : decode cX4_readPair 49 = .ok (.iload_n 2, 1) := by decide +kernel
theorem dX4_readPair_50 : decode cX4_readPair 50 = .ok (.iconst 1, 1) := by decide +kernel
theorem dX4_readPair_51 : decode cX4_readPair 51 = .ok (.iadd, 1) := by decide +kernel
theorem dX4_readPair_52 : decode cX4_readPair 52 = .ok (.invokevirtual 37, 3) := by decide +kernel
theorem dX4_readPair_55 : decode cX4_readPair 55 = .ok (.ifCond .ne 5, 3) := by decide +kernel
theorem dX4_readPair_58 : decode cX4_readPair 58 = .ok (.iconst 0, 1) := by decide +kernel
theorem dX4_readPair_59 : decode cX4_readPair 59 = .ok (.ireturn, 1) := by decide +kernel
theorem dX4_readPair_60 : decode cX4_readPair 60 = .ok (.aload_n 0, 1) := by decide +kernel
theorem dX4_readPair_61 : decode cX4_readPair 61 = .ok (.iload_n 3, 1) := by decide +kernel
theorem dX4_readPair_62 : decode cX4_readPair 62 = .ok (.invokevirtual 58, 3) := by decide +kernel
theorem dX4_readPair_65 : decode cX4_readPair 65 = .ok (.aload_n 1, 1) := by decide +kernel
theorem dX4_readPair_66 : decode cX4_readPair 66 = .ok (.bipush 93, 2) := by decide +kernel
theorem dX4_readPair_68 : decode cX4_readPair 68 = .ok (.invokevirtual 54, 3) := by decide +kernel
theorem dX4_readPair_71 : decode cX4_readPair 71 = .ok (.ireturn, 1) := by decide +kernel
theorem dX4_readFrom_0 : decode cX4_readFrom 0 = .ok (.aload_n 0, 1) := by decide +kernel
theorem dX4_readFrom_1 : decode cX4_readFrom 1 = .ok (.iconst 0, 1) := by decide +kernel
theorem dX4_readFrom_2 : decode cX4_readFrom 2 = .ok (.putfield 27, 3) := by decide +kernel
theorem dX4_readFrom_5 : decode cX4_readFrom 5 = .ok (.aload_n 0, 1) := by decide +kernel
theorem dX4_readFrom_6 : decode cX4_readFrom 6 = .ok (.aload_n 1, 1) := by decide +kernel
theorem dX4_readFrom_7 : decode cX4_readFrom 7 = .ok (.iconst 0, 1) := by decide +kernel
theorem dX4_readFrom_8 : decode cX4_readFrom 8 = .ok (.invokevirtual 37, 3) := by decide +kernel
theorem dX4_readFrom_11 : decode cX4_readFrom 11 = .ok (.ifCond .eq 14, 3) := by decide +kernel
theorem dX4_readFrom_14 : decode cX4_readFrom 14 = .ok (.aload_n 1, 1) := by decide +kernel
theorem dX4_readFrom_15 : decode cX4_readFrom 15 = .ok (.invokevirtual 41, 3) := by decide +kernel
theorem dX4_readFrom_18 : decode cX4_readFrom 18 = .ok (.ifCond .eq 7, 3) := by decide +kernel
theorem dX4_readFrom_21 : decode cX4_readFrom 21 = .ok (.iconst 1, 1) := by decide +kernel
theorem dX4_readFrom_22 : decode cX4_readFrom 22 = .ok (.goto 4, 3) := by decide +kernel
theorem dX4_readFrom_25 : decode cX4_readFrom 25 = .ok (.iconst 0, 1) := by decide +kernel
theorem dX4_readFrom_26 : decode cX4_readFrom 26 = .ok (.ireturn, 1) := by decide +kernel
noncomputable def r_X4_inputOf (i0 : Nat) (m : Mem) : Option Int32 :=
  bd1 (r_X8_wordIs 6 m) fun z2 => (if z2 = true then (some 0) else (bd1 (r_X8_wordIs 7 m) fun z5 => (if z5 = true then (some 1) else (bd1 (r_X8_wordIs 8 m) fun z8 => (if z8 = true then (some 2) else (bd1 (r_X8_wordIs 9 m) fun z11 => (if z11 = true then (some 3) else (bd1 (r_X8_wordIs 10 m) fun z14 => (if z14 = true then (some 4) else (bd1 (r_X8_wordIs 11 m) fun z17 => (if z17 = true then (some 5) else (bd1 (r_X8_wordIs 12 m) fun z20 => (if z20 = true then (some 6) else (bd1 (r_X8_wordIs 13 m) fun z23 => (if z23 = true then (some 7) else (bd1 (r_X8_wordIs 14 m) fun z26 => (if z26 = true then (some 8) else (some (-1)))))))))))))))))))
set_option maxHeartbeats 4000000 in
set_option maxRecDepth 20000 in
theorem ok_X4_inputOf (i0 : Nat) (m : Mem) {z : Int32} (h : r_X4_inputOf i0 m = some z) : Mt yX4_inputOf cX4_inputOf 2 (some .int) 6 107 0 0 [vR 4 i0, vR 8 0] m (oI z) m := by
  refine Mt.of (by decide) (Nat.le_of_ble_eq_true rfl) (by decide +kernel) (hhF_ne (by decide)) ?_
  show Xj RX4 cX4_inputOf 2 (some .int) 6 107 0 0 0 0 0 [(0, vR 4 i0), (1, vR 8 0)] [] m (oI z) m
  unfold r_X4_inputOf at h
  refine xj_aload_n 1 dX4_inputOf_0 rfl ?_
  refine xj_ldcS (n := 6) dX4_inputOf_1 rfl ?_
  obtain ⟨z2, e1, h⟩ := bd1_some h
  refine xc_Vb0 (st := []) (ok_X8_wordIs 6 m e1) dX4_inputOf_3 cv_X4_84 rfl rfl (Nat.le_of_ble_eq_true rfl) (by decide) (by decide) (by decide) (by decide) ?_
  refine xj_if_eq (tgt := 11) dX4_inputOf_6 (by decide) (fun c3 => ?_) (fun c3 => ?_)
  · rw [if_neg (b2i_f c3)] at h
    refine xj_aload_n 1 dX4_inputOf_11 rfl ?_
    refine xj_ldcS (n := 7) dX4_inputOf_12 rfl ?_
    obtain ⟨z5, e4, h⟩ := bd1_some h
    refine xc_Vb0 (st := []) (ok_X8_wordIs 7 m e4) dX4_inputOf_14 cv_X4_84 rfl rfl (Nat.le_of_ble_eq_true rfl) (by decide) (by decide) (by decide) (by decide) ?_
    refine xj_if_eq (tgt := 22) dX4_inputOf_17 (by decide) (fun c6 => ?_) (fun c6 => ?_)
    · rw [if_neg (b2i_f c6)] at h
      refine xj_aload_n 1 dX4_inputOf_22 rfl ?_
      refine xj_ldcS (n := 8) dX4_inputOf_23 rfl ?_
      obtain ⟨z8, e7, h⟩ := bd1_some h
      refine xc_Vb0 (st := []) (ok_X8_wordIs 8 m e7) dX4_inputOf_25 cv_X4_84 rfl rfl (Nat.le_of_ble_eq_true rfl) (by decide) (by decide) (by decide) (by decide) ?_
      refine xj_if_eq (tgt := 33) dX4_inputOf_28 (by decide) (fun c9 => ?_) (fun c9 => ?_)
      · rw [if_neg (b2i_f c9)] at h
        refine xj_aload_n 1 dX4_inputOf_33 rfl ?_
        refine xj_ldcS (n := 9) dX4_inputOf_34 rfl ?_
        obtain ⟨z11, e10, h⟩ := bd1_some h
        refine xc_Vb0 (st := []) (ok_X8_wordIs 9 m e10) dX4_inputOf_36 cv_X4_84 rfl rfl (Nat.le_of_ble_eq_true rfl) (by decide) (by decide) (by decide) (by decide) ?_
        refine xj_if_eq (tgt := 44) dX4_inputOf_39 (by decide) (fun c12 => ?_) (fun c12 => ?_)
        · rw [if_neg (b2i_f c12)] at h
          refine xj_aload_n 1 dX4_inputOf_44 rfl ?_
          refine xj_ldcS (n := 10) dX4_inputOf_45 rfl ?_
          obtain ⟨z14, e13, h⟩ := bd1_some h
          refine xc_Vb0 (st := []) (ok_X8_wordIs 10 m e13) dX4_inputOf_47 cv_X4_84 rfl rfl (Nat.le_of_ble_eq_true rfl) (by decide) (by decide) (by decide) (by decide) ?_
          refine xj_if_eq (tgt := 55) dX4_inputOf_50 (by decide) (fun c15 => ?_) (fun c15 => ?_)
          · rw [if_neg (b2i_f c15)] at h
            refine xj_aload_n 1 dX4_inputOf_55 rfl ?_
            refine xj_ldcS (n := 11) dX4_inputOf_56 rfl ?_
            obtain ⟨z17, e16, h⟩ := bd1_some h
            refine xc_Vb0 (st := []) (ok_X8_wordIs 11 m e16) dX4_inputOf_58 cv_X4_84 rfl rfl (Nat.le_of_ble_eq_true rfl) (by decide) (by decide) (by decide) (by decide) ?_
            refine xj_if_eq (tgt := 66) dX4_inputOf_61 (by decide) (fun c18 => ?_) (fun c18 => ?_)
            · rw [if_neg (b2i_f c18)] at h
              refine xj_aload_n 1 dX4_inputOf_66 rfl ?_
              refine xj_ldcS (n := 12) dX4_inputOf_67 rfl ?_
              obtain ⟨z20, e19, h⟩ := bd1_some h
              refine xc_Vb0 (st := []) (ok_X8_wordIs 12 m e19) dX4_inputOf_69 cv_X4_84 rfl rfl (Nat.le_of_ble_eq_true rfl) (by decide) (by decide) (by decide) (by decide) ?_
              refine xj_if_eq (tgt := 78) dX4_inputOf_72 (by decide) (fun c21 => ?_) (fun c21 => ?_)
              · rw [if_neg (b2i_f c21)] at h
                refine xj_aload_n 1 dX4_inputOf_78 rfl ?_
                refine xj_ldcS (n := 13) dX4_inputOf_79 rfl ?_
                obtain ⟨z23, e22, h⟩ := bd1_some h
                refine xc_Vb0 (st := []) (ok_X8_wordIs 13 m e22) dX4_inputOf_81 cv_X4_84 rfl rfl (Nat.le_of_ble_eq_true rfl) (by decide) (by decide) (by decide) (by decide) ?_
                refine xj_if_eq (tgt := 90) dX4_inputOf_84 (by decide) (fun c24 => ?_) (fun c24 => ?_)
                · rw [if_neg (b2i_f c24)] at h
                  refine xj_aload_n 1 dX4_inputOf_90 rfl ?_
                  refine xj_ldcS (n := 14) dX4_inputOf_91 rfl ?_
                  obtain ⟨z26, e25, h⟩ := bd1_some h
                  refine xc_Vb0 (st := []) (ok_X8_wordIs 14 m e25) dX4_inputOf_93 cv_X4_84 rfl rfl (Nat.le_of_ble_eq_true rfl) (by decide) (by decide) (by decide) (by decide) ?_
                  refine xj_if_eq (tgt := 104) dX4_inputOf_96 (by decide) (fun c27 => ?_) (fun c27 => ?_)
                  · rw [if_neg (b2i_f c27)] at h
                    refine xj_iconst (z := (-1)) dX4_inputOf_104 (by decide) ?_
                    cases h
                    exact xj_ireturn dX4_inputOf_105 rfl (by decide) (by decide)
                  · rw [if_pos (b2i_t c27)] at h
                    refine xj_bipush (z := 8) dX4_inputOf_99 (by decide) ?_
                    refine xj_goto (tgt := 105) dX4_inputOf_101 (by decide) ?_
                    cases h
                    exact xj_ireturn dX4_inputOf_105 rfl (by decide) (by decide)
                · rw [if_pos (b2i_t c24)] at h
                  refine xj_bipush (z := 7) dX4_inputOf_87 (by decide) ?_
                  cases h
                  exact xj_ireturn dX4_inputOf_89 rfl (by decide) (by decide)
              · rw [if_pos (b2i_t c21)] at h
                refine xj_bipush (z := 6) dX4_inputOf_75 (by decide) ?_
                cases h
                exact xj_ireturn dX4_inputOf_77 rfl (by decide) (by decide)
            · rw [if_pos (b2i_t c18)] at h
              refine xj_iconst (z := 5) dX4_inputOf_64 (by decide) ?_
              cases h
              exact xj_ireturn dX4_inputOf_65 rfl (by decide) (by decide)
          · rw [if_pos (b2i_t c15)] at h
            refine xj_iconst (z := 4) dX4_inputOf_53 (by decide) ?_
            cases h
            exact xj_ireturn dX4_inputOf_54 rfl (by decide) (by decide)
        · rw [if_pos (b2i_t c12)] at h
          refine xj_iconst (z := 3) dX4_inputOf_42 (by decide) ?_
          cases h
          exact xj_ireturn dX4_inputOf_43 rfl (by decide) (by decide)
      · rw [if_pos (b2i_t c9)] at h
        refine xj_iconst (z := 2) dX4_inputOf_31 (by decide) ?_
        cases h
        exact xj_ireturn dX4_inputOf_32 rfl (by decide) (by decide)
    · rw [if_pos (b2i_t c6)] at h
      refine xj_iconst (z := 1) dX4_inputOf_20 (by decide) ?_
      cases h
      exact xj_ireturn dX4_inputOf_21 rfl (by decide) (by decide)
  · rw [if_pos (b2i_t c3)] at h
    refine xj_iconst (z := 0) dX4_inputOf_9 (by decide) ?_
    cases h
    exact xj_ireturn dX4_inputOf_10 rfl (by decide) (by decide)
noncomputable def r_X4_readNumber (i0 : Nat) (m : Mem) : Option (Bool × Mem) :=
  bd2 (r_X8_number 0 999 m) fun z3 m2 => (if z3 = (-1) then (some (false, m2)) else (bd1 (r_X4_put i0 z3 m2) fun m6 => (some (true, m6))))
set_option maxHeartbeats 4000000 in
set_option maxRecDepth 20000 in
theorem ok_X4_readNumber (i0 : Nat) (m : Mem) {z : Bool} {m' : Mem} (h : r_X4_readNumber i0 m = some (z, m')) : Mt yX4_readNumber cX4_readNumber 3 (some .boolean) 3 45 0 0 [vR 4 i0, vR 8 0] m (oB z) m' := by
  refine Mt.of (by decide) (Nat.le_of_ble_eq_true rfl) (by decide +kernel) (hhF_ne (by decide)) ?_
  show Xj RX4 cX4_readNumber 3 (some .boolean) 3 45 0 0 0 0 0 [(0, vR 4 i0), (1, vR 8 0)] [] m (oB z) m'
  unfold r_X4_readNumber at h
  refine xj_aload_n 1 dX4_readNumber_0 rfl ?_
  refine xj_iconst (z := 0) dX4_readNumber_1 (by decide) ?_
  refine xj_sipush (z := 999) dX4_readNumber_2 (by decide) ?_
  obtain ⟨z3, m2, e1, h⟩ := bd2_some h
  refine xc_Vi0 (st := []) (ok_X8_number 0 999 m e1) dX4_readNumber_5 cv_X4_101 rfl rfl (Nat.le_of_ble_eq_true rfl) (by decide) (by decide) (by decide) (by decide) ?_
  refine xj_istore_n (ls' := [(2, vI z3), (0, vR 4 i0), (1, vR 8 0)]) dX4_readNumber_8 rfl (by decide) rfl ?_
  refine xj_iload_n 0 dX4_readNumber_9 rfl ?_
  refine xj_iconst (z := (-1)) dX4_readNumber_10 (by decide) ?_
  refine xj_icmp_ne (tgt := 16) dX4_readNumber_11 (by decide) (fun c4 => ?_) (fun c4 => ?_)
  · rw [if_neg c4] at h
    refine xj_aload_n 1 dX4_readNumber_16 rfl ?_
    refine xj_iload_n 0 dX4_readNumber_17 rfl ?_
    obtain ⟨m6, e5, h⟩ := bd1_some h
    refine xc_Vv0 (st := []) (ok_X4_put i0 z3 m2 e5) dX4_readNumber_18 cv_X4_58 rfl rfl (Nat.le_of_ble_eq_true rfl) (by decide) (by decide) (by decide) (by decide) ?_
    refine xj_iconst (z := 1) dX4_readNumber_21 (by decide) ?_
    cases h
    exact xj_ireturn dX4_readNumber_22 rfl (by decide) (by decide)
  · rw [if_pos c4] at h
    refine xj_iconst (z := 0) dX4_readNumber_14 (by decide) ?_
    cases h
    exact xj_ireturn dX4_readNumber_15 rfl (by decide) (by decide)
/-! the methods that call each other: law -/
def MG_law (f0 l0 sel i : Nat) (as : List Int32) (m : Mem) (z : Bool) (m' : Mem) : Prop := match sel, as with
  | 0, [x2] => Mt yX4_readSum cX4_readSum 5 (some .boolean) f0 l0 0 0 [vR 4 i, vR 8 0, vI x2] m (oB z) m'
  | 1, [x2] => Mt yX4_readProduct cX4_readProduct 5 (some .boolean) f0 l0 0 0 [vR 4 i, vR 8 0, vI x2] m (oB z) m'
  | 2, [x2] => Mt yX4_readUnit cX4_readUnit 5 (some .boolean) f0 l0 0 0 [vR 4 i, vR 8 0, vI x2] m (oB z) m'
  | 3, [x2] => Mt yX4_readBrackets cX4_readBrackets 3 (some .boolean) f0 l0 0 0 [vR 4 i, vR 8 0, vI x2] m (oB z) m'
  | 4, [x2, x3] => Mt yX4_readPair cX4_readPair 4 (some .boolean) f0 l0 0 0 [vR 4 i, vR 8 0, vI x2, vI x3] m (oB z) m'
  | _, _ => True
def RG_law (f0 l0 : Nat) (rec : Nat → Nat → List Int32 → Mem → Option (Bool × Mem)) : Prop := ∀ (sel i : Nat) (as : List Int32) (m : Mem) (z : Bool) (m' : Mem), rec sel i as m = some (z, m') → MG_law f0 l0 sel i as m z m'
noncomputable def r_X4_readSum_j79_c13 (rec : Nat → Nat → List Int32 → Mem → Option (Bool × Mem)) (i0 : Nat) (x2 : Int32) (x3 : Int32) (s0 : Int32) (q1 : Nat) (m : Mem) : Option ((Int32 × Mem) ⊕ ((Mem) ⊕ (Bool × Mem))) :=
  bd1 (r_X4_put q1 s0 m) fun m20 => (some (Sum.inl (x3 + 1, m20)))
set_option maxHeartbeats 4000000 in
set_option maxRecDepth 20000 in
theorem ok_X4_readSum_j79_c13 (rec : Nat → Nat → List Int32 → Mem → Option (Bool × Mem)) {f0 l0 f9 l9 : Nat} (hrec : RG_law f0 l0 rec) (hf : f0 + 1 ≤ f9) (hf2 : 3 ≤ f9) (hl : l0 + 24 ≤ l9) (hl2 : 43 ≤ l9) (i0 : Nat) (x2 : Int32) (x3 : Int32) (s0 : Int32) (q1 : Nat) (m : Mem) {r : (Int32 × Mem) ⊕ ((Mem) ⊕ (Bool × Mem))} (h : r_X4_readSum_j79_c13 rec i0 x2 x3 s0 q1 m = some r) {o : Ou} {M' : Mem} (kb : ∀ (x3' : Int32) (m'' : Mem), r = Sum.inl (x3', m'') → Xj RX4 cX4_readSum 5 (some .boolean) f9 l9 0 0 0 0 13 [(0, vR 4 i0), (1, vR 8 0), (2, vI x2), (3, vI x3')] [] m'' o M') (ke : ∀ (m'' : Mem), r = Sum.inr (Sum.inl m'') → Xj RX4 cX4_readSum 5 (some .boolean) f9 l9 0 0 0 0 88 [] [] m'' o M') (kr : ∀ (z : Bool) (m' : Mem), r = Sum.inr (Sum.inr (z, m')) → o = (oB z) ∧ M' = m') : Xj RX4 cX4_readSum 5 (some .boolean) f9 l9 0 0 0 0 79 [(0, vR 4 i0), (1, vR 8 0), (2, vI x2), (3, vI x3)] [vI s0, vR 4 q1] m o M' := by
  unfold r_X4_readSum_j79_c13 at h
  obtain ⟨m20, e19, h⟩ := bd1_some h
  refine xc_Vv0 (st := []) (ok_X4_put q1 s0 m e19) dX4_readSum_79 cv_X4_58 rfl rfl (Nat.le_of_ble_eq_true rfl) (by omega) (by omega) (by decide) (by decide) ?_
  refine xj_iinc (z := x3 + 1) (ls' := [(3, vI (x3 + 1)), (0, vR 4 i0), (1, vR 8 0), (2, vI x2)]) 3 dX4_readSum_82 rfl rfl (by decide) rfl ?_
  refine xj_goto (tgt := 13) dX4_readSum_85 (by decide) ?_
  cases h
  refine xj_pick (ls' := [(0, vR 4 i0), (1, vR 8 0), (2, vI x2), (3, vI (x3 + 1))]) [1, 2, 3, 0] rfl ?_
  exact kb (x3 + 1) m20 rfl
noncomputable def r_X4_readSum_j42_c13 (rec : Nat → Nat → List Int32 → Mem → Option (Bool × Mem)) (i0 : Nat) (x2 : Int32) (x3 : Int32) (x4 : Int32) (m : Mem) : Option ((Int32 × Mem) ⊕ ((Mem) ⊕ (Bool × Mem))) :=
  bd2 (r_X8_sign x4 m) fun z12 m11 => (if z12 = true then (bd2 (rec 1 i0 [x2] m11) fun z16 m15 => (if z16 = true then (if x4 = 43 then (r_X4_readSum_j79_c13 rec i0 x2 x3 2000 i0 m15) else (r_X4_readSum_j79_c13 rec i0 x2 x3 2001 i0 m15)) else (some (Sum.inr (Sum.inr (false, m15)))))) else (some (Sum.inr (Sum.inr (false, m11)))))
set_option maxHeartbeats 4000000 in
set_option maxRecDepth 20000 in
theorem ok_X4_readSum_j42_c13 (rec : Nat → Nat → List Int32 → Mem → Option (Bool × Mem)) {f0 l0 f9 l9 : Nat} (hrec : RG_law f0 l0 rec) (hf : f0 + 1 ≤ f9) (hf2 : 3 ≤ f9) (hl : l0 + 24 ≤ l9) (hl2 : 43 ≤ l9) (i0 : Nat) (x2 : Int32) (x3 : Int32) (x4 : Int32) (m : Mem) {r : (Int32 × Mem) ⊕ ((Mem) ⊕ (Bool × Mem))} (h : r_X4_readSum_j42_c13 rec i0 x2 x3 x4 m = some r) {o : Ou} {M' : Mem} (kb : ∀ (x3' : Int32) (m'' : Mem), r = Sum.inl (x3', m'') → Xj RX4 cX4_readSum 5 (some .boolean) f9 l9 0 0 0 0 13 [(0, vR 4 i0), (1, vR 8 0), (2, vI x2), (3, vI x3')] [] m'' o M') (ke : ∀ (m'' : Mem), r = Sum.inr (Sum.inl m'') → Xj RX4 cX4_readSum 5 (some .boolean) f9 l9 0 0 0 0 88 [] [] m'' o M') (kr : ∀ (z : Bool) (m' : Mem), r = Sum.inr (Sum.inr (z, m')) → o = (oB z) ∧ M' = m') : Xj RX4 cX4_readSum 5 (some .boolean) f9 l9 0 0 0 0 42 [(0, vR 4 i0), (1, vR 8 0), (2, vI x2), (3, vI x3), (4, vI x4)] [] m o M' := by
  unfold r_X4_readSum_j42_c13 at h
  refine xj_aload_n 1 dX4_readSum_42 rfl ?_
  refine xj_iload 4 dX4_readSum_43 rfl ?_
  obtain ⟨z12, m11, e10, h⟩ := bd2_some h
  refine xc_Vb0 (st := []) (ok_X8_sign x4 m e10) dX4_readSum_45 cv_X4_54 rfl rfl (Nat.le_of_ble_eq_true rfl) (by omega) (by omega) (by decide) (by decide) ?_
  refine xj_if_eq (tgt := 60) dX4_readSum_48 (by decide) (fun c13 => ?_) (fun c13 => ?_)
  · rw [if_neg (b2i_f c13)] at h
    refine xj_iconst (z := 0) dX4_readSum_60 (by decide) ?_
    cases h
    obtain ⟨rfl, rfl⟩ := kr _ _ rfl
    exact xj_ireturn dX4_readSum_61 rfl (by decide) (by decide)
  · rw [if_pos (b2i_t c13)] at h
    refine xj_aload_n 0 dX4_readSum_51 rfl ?_
    refine xj_aload_n 1 dX4_readSum_52 rfl ?_
    refine xj_iload_n 2 dX4_readSum_53 rfl ?_
    obtain ⟨z16, m15, e14, h⟩ := bd2_some h
    refine xc_Vb0 (st := []) (hrec 1 i0 [x2] m11 _ _ e14) dX4_readSum_54 cv_X4_47 rfl rfl (Nat.le_of_ble_eq_true rfl) (by omega) (by omega) (by decide) (by decide) ?_
    refine xj_if_ne (tgt := 62) dX4_readSum_57 (by decide) (fun c17 => ?_) (fun c17 => ?_)
    · rw [if_pos (b2i_t c17)] at h
      refine xj_aload_n 0 dX4_readSum_62 rfl ?_
      refine xj_iload 4 dX4_readSum_63 rfl ?_
      refine xj_bipush (z := 43) dX4_readSum_65 (by decide) ?_
      refine xj_icmp_ne (tgt := 76) dX4_readSum_67 (by decide) (fun c18 => ?_) (fun c18 => ?_)
      · rw [if_neg c18] at h
        refine xj_sipush (z := 2001) dX4_readSum_76 (by decide) ?_
        refine xj_pick (ls' := [(0, vR 4 i0), (1, vR 8 0), (2, vI x2), (3, vI x3)]) [0, 1, 2, 3] rfl ?_
        exact ok_X4_readSum_j79_c13 rec hrec hf hf2 hl hl2 i0 x2 x3 2001 i0 m15 h kb ke kr
      · rw [if_pos c18] at h
        refine xj_sipush (z := 2000) dX4_readSum_70 (by decide) ?_
        refine xj_goto (tgt := 79) dX4_readSum_73 (by decide) ?_
        refine xj_pick (ls' := [(0, vR 4 i0), (1, vR 8 0), (2, vI x2), (3, vI x3)]) [0, 1, 2, 3] rfl ?_
        exact ok_X4_readSum_j79_c13 rec hrec hf hf2 hl hl2 i0 x2 x3 2000 i0 m15 h kb ke kr
    · rw [if_neg (b2i_f c17)] at h
      refine xj_iconst (z := 0) dX4_readSum_60 (by decide) ?_
      cases h
      obtain ⟨rfl, rfl⟩ := kr _ _ rfl
      exact xj_ireturn dX4_readSum_61 rfl (by decide) (by decide)
noncomputable def r_X4_readSum_b13 (rec : Nat → Nat → List Int32 → Mem → Option (Bool × Mem)) (i0 : Nat) (x2 : Int32) (x3 : Int32) (m : Mem) : Option ((Int32 × Mem) ⊕ ((Mem) ⊕ (Bool × Mem))) :=
  if 150 ≤ x3 then (some (Sum.inr (Sum.inl m))) else (bd2 (r_X8_peek m) fun z8 m7 => (if z8 = 43 then (r_X4_readSum_j42_c13 rec i0 x2 x3 z8 m7) else (if z8 = 45 then (r_X4_readSum_j42_c13 rec i0 x2 x3 z8 m7) else (some (Sum.inr (Sum.inr (true, m7)))))))
set_option maxHeartbeats 4000000 in
set_option maxRecDepth 20000 in
theorem ok_X4_readSum_b13 (rec : Nat → Nat → List Int32 → Mem → Option (Bool × Mem)) {f0 l0 f9 l9 : Nat} (hrec : RG_law f0 l0 rec) (hf : f0 + 1 ≤ f9) (hf2 : 3 ≤ f9) (hl : l0 + 24 ≤ l9) (hl2 : 43 ≤ l9) (i0 : Nat) (x2 : Int32) (x3 : Int32) (m : Mem) {r : (Int32 × Mem) ⊕ ((Mem) ⊕ (Bool × Mem))} (h : r_X4_readSum_b13 rec i0 x2 x3 m = some r) {o : Ou} {M' : Mem} (kb : ∀ (x3' : Int32) (m'' : Mem), r = Sum.inl (x3', m'') → Xj RX4 cX4_readSum 5 (some .boolean) f9 l9 0 0 0 0 13 [(0, vR 4 i0), (1, vR 8 0), (2, vI x2), (3, vI x3')] [] m'' o M') (ke : ∀ (m'' : Mem), r = Sum.inr (Sum.inl m'') → Xj RX4 cX4_readSum 5 (some .boolean) f9 l9 0 0 0 0 88 [] [] m'' o M') (kr : ∀ (z : Bool) (m' : Mem), r = Sum.inr (Sum.inr (z, m')) → o = (oB z) ∧ M' = m') : Xj RX4 cX4_readSum 5 (some .boolean) f9 l9 0 0 0 0 13 [(0, vR 4 i0), (1, vR 8 0), (2, vI x2), (3, vI x3)] [] m o M' := by
  unfold r_X4_readSum_b13 at h
  refine xj_iload_n 3 dX4_readSum_13 rfl ?_
  refine xj_sipush (z := 150) dX4_readSum_14 (by decide) ?_
  refine xj_icmp_ge (tgt := 88) dX4_readSum_17 (by decide) (fun c5 => ?_) (fun c5 => ?_)
  · rw [if_pos c5] at h
    cases h
    refine xj_pick (ls' := []) [] rfl ?_
    exact ke m rfl
  · rw [if_neg c5] at h
    refine xj_aload_n 1 dX4_readSum_20 rfl ?_
    obtain ⟨z8, m7, e6, h⟩ := bd2_some h
    refine xc_Vi0 (st := []) (ok_X8_peek m e6) dX4_readSum_21 cv_X4_50 rfl rfl (Nat.le_of_ble_eq_true rfl) (by omega) (by omega) (by decide) (by decide) ?_
    refine xj_istore (ls' := [(4, vI z8), (0, vR 4 i0), (1, vR 8 0), (2, vI x2), (3, vI x3)]) dX4_readSum_24 (by decide) rfl ?_
    refine xj_iload 0 dX4_readSum_26 rfl ?_
    refine xj_bipush (z := 43) dX4_readSum_28 (by decide) ?_
    refine xj_icmp_eq (tgt := 42) dX4_readSum_30 (by decide) (fun c9 => ?_) (fun c9 => ?_)
    · rw [if_pos c9] at h
      refine xj_pick (ls' := [(0, vR 4 i0), (1, vR 8 0), (2, vI x2), (3, vI x3), (4, vI z8)]) [1, 2, 3, 4, 0] rfl ?_
      exact ok_X4_readSum_j42_c13 rec hrec hf hf2 hl hl2 i0 x2 x3 z8 m7 h kb ke kr
    · rw [if_neg c9] at h
      refine xj_iload 0 dX4_readSum_33 rfl ?_
      refine xj_bipush (z := 45) dX4_readSum_35 (by decide) ?_
      refine xj_icmp_eq (tgt := 42) dX4_readSum_37 (by decide) (fun c21 => ?_) (fun c21 => ?_)
      · rw [if_pos c21] at h
        refine xj_pick (ls' := [(0, vR 4 i0), (1, vR 8 0), (2, vI x2), (3, vI x3), (4, vI z8)]) [1, 2, 3, 4, 0] rfl ?_
        exact ok_X4_readSum_j42_c13 rec hrec hf hf2 hl hl2 i0 x2 x3 z8 m7 h kb ke kr
      · rw [if_neg c21] at h
        refine xj_iconst (z := 1) dX4_readSum_40 (by decide) ?_
        cases h
        obtain ⟨rfl, rfl⟩ := kr _ _ rfl
        exact xj_ireturn dX4_readSum_41 rfl (by decide) (by decide)
noncomputable def r_X4_readSum_e88_h13 (rec : Nat → Nat → List Int32 → Mem → Option (Bool × Mem)) (m : Mem) : Option (Bool × Mem) :=
  some (true, m)
set_option maxHeartbeats 4000000 in
set_option maxRecDepth 20000 in
theorem ok_X4_readSum_e88_h13 (rec : Nat → Nat → List Int32 → Mem → Option (Bool × Mem)) {f0 l0 f9 l9 : Nat} (hrec : RG_law f0 l0 rec) (hf : f0 + 1 ≤ f9) (hf2 : 3 ≤ f9) (hl : l0 + 24 ≤ l9) (hl2 : 43 ≤ l9) (m : Mem) {z : Bool} {m' : Mem} (h : r_X4_readSum_e88_h13 rec m = some (z, m')) : Xj RX4 cX4_readSum 5 (some .boolean) f9 l9 0 0 0 0 88 [] [] m (oB z) m' := by
  unfold r_X4_readSum_e88_h13 at h
  refine xj_iconst (z := 1) dX4_readSum_88 (by decide) ?_
  cases h
  exact xj_ireturn dX4_readSum_89 rfl (by decide) (by decide)
noncomputable def r_X4_readSum_l13 (rec : Nat → Nat → List Int32 → Mem → Option (Bool × Mem)) (i0 : Nat) (x2 : Int32) (x3 : Int32) (m : Mem) : Option (Bool × Mem) :=
  bdS (loopO (fun s => r_X4_readSum_b13 rec i0 x2 s.1 s.2) (x3, m)) (fun e => r_X4_readSum_e88_h13 rec e) (fun q => some q)
set_option maxHeartbeats 4000000 in
set_option maxRecDepth 20000 in
theorem ok_X4_readSum_l13 (rec : Nat → Nat → List Int32 → Mem → Option (Bool × Mem)) {f0 l0 f9 l9 : Nat} (hrec : RG_law f0 l0 rec) (hf : f0 + 1 ≤ f9) (hf2 : 3 ≤ f9) (hl : l0 + 24 ≤ l9) (hl2 : 43 ≤ l9) (i0 : Nat) (x2 : Int32) (x3 : Int32) (m : Mem) {z : Bool} {m' : Mem} (h : r_X4_readSum_l13 rec i0 x2 x3 m = some (z, m')) : Xj RX4 cX4_readSum 5 (some .boolean) f9 l9 0 0 0 0 13 [(0, vR 4 i0), (1, vR 8 0), (2, vI x2), (3, vI x3)] [] m (oB z) m' := by
  unfold r_X4_readSum_l13 at h
  rcases bdS_some h with ⟨e, e1, h⟩ | ⟨q, e1, h⟩
  · refine loopO_ok (P := fun s : (Int32 × Mem) => Xj RX4 cX4_readSum 5 (some .boolean) f9 l9 0 0 0 0 13 [(0, vR 4 i0), (1, vR 8 0), (2, vI x2), (3, vI s.1)] [] s.2 (oB z) m') (Q := Sum.elim (fun e : (Mem) => Xj RX4 cX4_readSum 5 (some .boolean) f9 l9 0 0 0 0 88 [] [] e (oB z) m') (fun q : (Bool × Mem) => (oB z) = (oB q.1) ∧ m' = q.2)) ?_ _ _ e1 ?_
    · intro s r9 h9 hi hx
      exact ok_X4_readSum_b13 rec hrec hf hf2 hl hl2 i0 x2 s.1 s.2 h9 (by rintro _ _ rfl; exact hi _ rfl) (by rintro _ rfl; exact hx _ rfl) (by rintro _ _ rfl; exact hx _ rfl)
    · exact ok_X4_readSum_e88_h13 rec hrec hf hf2 hl hl2 e h 
  · refine loopO_ok (P := fun s : (Int32 × Mem) => Xj RX4 cX4_readSum 5 (some .boolean) f9 l9 0 0 0 0 13 [(0, vR 4 i0), (1, vR 8 0), (2, vI x2), (3, vI s.1)] [] s.2 (oB z) m') (Q := Sum.elim (fun e : (Mem) => Xj RX4 cX4_readSum 5 (some .boolean) f9 l9 0 0 0 0 88 [] [] e (oB z) m') (fun q : (Bool × Mem) => (oB z) = (oB q.1) ∧ m' = q.2)) ?_ _ _ e1 ?_
    · intro s r9 h9 hi hx
      exact ok_X4_readSum_b13 rec hrec hf hf2 hl hl2 i0 x2 s.1 s.2 h9 (by rintro _ _ rfl; exact hi _ rfl) (by rintro _ rfl; exact hx _ rfl) (by rintro _ _ rfl; exact hx _ rfl)
    · cases h; exact ⟨rfl, rfl⟩
noncomputable def r_X4_readSum (rec : Nat → Nat → List Int32 → Mem → Option (Bool × Mem)) (i0 : Nat) (x2 : Int32) (m : Mem) : Option (Bool × Mem) :=
  bd2 (rec 1 i0 [x2] m) fun z3 m2 => (if z3 = true then (r_X4_readSum_l13 rec i0 x2 0 m2) else (some (false, m2)))
set_option maxHeartbeats 4000000 in
set_option maxRecDepth 20000 in
theorem ok_X4_readSum (rec : Nat → Nat → List Int32 → Mem → Option (Bool × Mem)) {f0 l0 f9 l9 : Nat} (hrec : RG_law f0 l0 rec) (hf : f0 + 1 ≤ f9) (hf2 : 3 ≤ f9) (hl : l0 + 24 ≤ l9) (hl2 : 43 ≤ l9) (i0 : Nat) (x2 : Int32) (m : Mem) {z : Bool} {m' : Mem} (h : r_X4_readSum rec i0 x2 m = some (z, m')) : Mt yX4_readSum cX4_readSum 5 (some .boolean) f9 l9 0 0 [vR 4 i0, vR 8 0, vI x2] m (oB z) m' := by
  refine Mt.of (by decide) (Nat.le_of_ble_eq_true rfl) (by decide +kernel) (hhF_ne (by decide)) ?_
  show Xj RX4 cX4_readSum 5 (some .boolean) f9 l9 0 0 0 0 0 [(0, vR 4 i0), (1, vR 8 0), (2, vI x2)] [] m (oB z) m'
  unfold r_X4_readSum at h
  refine xj_aload_n 0 dX4_readSum_0 rfl ?_
  refine xj_aload_n 1 dX4_readSum_1 rfl ?_
  refine xj_iload_n 2 dX4_readSum_2 rfl ?_
  obtain ⟨z3, m2, e1, h⟩ := bd2_some h
  refine xc_Vb0 (st := []) (hrec 1 i0 [x2] m _ _ e1) dX4_readSum_3 cv_X4_47 rfl rfl (Nat.le_of_ble_eq_true rfl) (by omega) (by omega) (by decide) (by decide) ?_
  refine xj_if_ne (tgt := 11) dX4_readSum_6 (by decide) (fun c4 => ?_) (fun c4 => ?_)
  · rw [if_pos (b2i_t c4)] at h
    refine xj_iconst (z := 0) dX4_readSum_11 (by decide) ?_
    refine xj_istore_n (ls' := [(3, vI 0), (0, vR 4 i0), (1, vR 8 0), (2, vI x2)]) dX4_readSum_12 rfl (by decide) rfl ?_
    refine xj_pick (ls' := [(0, vR 4 i0), (1, vR 8 0), (2, vI x2), (3, vI 0)]) [1, 2, 3, 0] rfl ?_
    exact ok_X4_readSum_l13 rec hrec hf hf2 hl hl2 i0 x2 0 m2 h 
  · rw [if_neg (b2i_f c4)] at h
    refine xj_iconst (z := 0) dX4_readSum_9 (by decide) ?_
    cases h
    exact xj_ireturn dX4_readSum_10 rfl (by decide) (by decide)
noncomputable def r_X4_readProduct_j99_c13 (rec : Nat → Nat → List Int32 → Mem → Option (Bool × Mem)) (i0 : Nat) (x2 : Int32) (x3 : Int32) (s0 : Int32) (q1 : Nat) (m : Mem) : Option ((Int32 × Mem) ⊕ ((Mem) ⊕ (Bool × Mem))) :=
  bd1 (r_X4_put q1 s0 m) fun m20 => (some (Sum.inl (x3 + 1, m20)))
set_option maxHeartbeats 4000000 in
set_option maxRecDepth 20000 in
theorem ok_X4_readProduct_j99_c13 (rec : Nat → Nat → List Int32 → Mem → Option (Bool × Mem)) {f0 l0 f9 l9 : Nat} (hrec : RG_law f0 l0 rec) (hf : f0 + 1 ≤ f9) (hf2 : 3 ≤ f9) (hl : l0 + 24 ≤ l9) (hl2 : 43 ≤ l9) (i0 : Nat) (x2 : Int32) (x3 : Int32) (s0 : Int32) (q1 : Nat) (m : Mem) {r : (Int32 × Mem) ⊕ ((Mem) ⊕ (Bool × Mem))} (h : r_X4_readProduct_j99_c13 rec i0 x2 x3 s0 q1 m = some r) {o : Ou} {M' : Mem} (kb : ∀ (x3' : Int32) (m'' : Mem), r = Sum.inl (x3', m'') → Xj RX4 cX4_readProduct 5 (some .boolean) f9 l9 0 0 0 0 13 [(0, vR 4 i0), (1, vR 8 0), (2, vI x2), (3, vI x3')] [] m'' o M') (ke : ∀ (m'' : Mem), r = Sum.inr (Sum.inl m'') → Xj RX4 cX4_readProduct 5 (some .boolean) f9 l9 0 0 0 0 108 [] [] m'' o M') (kr : ∀ (z : Bool) (m' : Mem), r = Sum.inr (Sum.inr (z, m')) → o = (oB z) ∧ M' = m') : Xj RX4 cX4_readProduct 5 (some .boolean) f9 l9 0 0 0 0 99 [(0, vR 4 i0), (1, vR 8 0), (2, vI x2), (3, vI x3)] [vI s0, vR 4 q1] m o M' := by
  unfold r_X4_readProduct_j99_c13 at h
  obtain ⟨m20, e19, h⟩ := bd1_some h
  refine xc_Vv0 (st := []) (ok_X4_put q1 s0 m e19) dX4_readProduct_99 cv_X4_58 rfl rfl (Nat.le_of_ble_eq_true rfl) (by omega) (by omega) (by decide) (by decide) ?_
  refine xj_iinc (z := x3 + 1) (ls' := [(3, vI (x3 + 1)), (0, vR 4 i0), (1, vR 8 0), (2, vI x2)]) 3 dX4_readProduct_102 rfl rfl (by decide) rfl ?_
  refine xj_goto (tgt := 13) dX4_readProduct_105 (by decide) ?_
  cases h
  refine xj_pick (ls' := [(0, vR 4 i0), (1, vR 8 0), (2, vI x2), (3, vI (x3 + 1))]) [1, 2, 3, 0] rfl ?_
  exact kb (x3 + 1) m20 rfl
noncomputable def r_X4_readProduct_j49_c13 (rec : Nat → Nat → List Int32 → Mem → Option (Bool × Mem)) (i0 : Nat) (x2 : Int32) (x3 : Int32) (x4 : Int32) (m : Mem) : Option ((Int32 × Mem) ⊕ ((Mem) ⊕ (Bool × Mem))) :=
  bd2 (r_X8_sign x4 m) fun z12 m11 => (if z12 = true then (bd2 (rec 2 i0 [x2] m11) fun z16 m15 => (if z16 = true then (if x4 = 42 then (r_X4_readProduct_j99_c13 rec i0 x2 x3 2002 i0 m15) else (if x4 = 47 then (r_X4_readProduct_j99_c13 rec i0 x2 x3 2003 i0 m15) else (r_X4_readProduct_j99_c13 rec i0 x2 x3 2004 i0 m15))) else (some (Sum.inr (Sum.inr (false, m15)))))) else (some (Sum.inr (Sum.inr (false, m11)))))
set_option maxHeartbeats 4000000 in
set_option maxRecDepth 20000 in
theorem ok_X4_readProduct_j49_c13 (rec : Nat → Nat → List Int32 → Mem → Option (Bool × Mem)) {f0 l0 f9 l9 : Nat} (hrec : RG_law f0 l0 rec) (hf : f0 + 1 ≤ f9) (hf2 : 3 ≤ f9) (hl : l0 + 24 ≤ l9) (hl2 : 43 ≤ l9) (i0 : Nat) (x2 : Int32) (x3 : Int32) (x4 : Int32) (m : Mem) {r : (Int32 × Mem) ⊕ ((Mem) ⊕ (Bool × Mem))} (h : r_X4_readProduct_j49_c13 rec i0 x2 x3 x4 m = some r) {o : Ou} {M' : Mem} (kb : ∀ (x3' : Int32) (m'' : Mem), r = Sum.inl (x3', m'') → Xj RX4 cX4_readProduct 5 (some .boolean) f9 l9 0 0 0 0 13 [(0, vR 4 i0), (1, vR 8 0), (2, vI x2), (3, vI x3')] [] m'' o M') (ke : ∀ (m'' : Mem), r = Sum.inr (Sum.inl m'') → Xj RX4 cX4_readProduct 5 (some .boolean) f9 l9 0 0 0 0 108 [] [] m'' o M') (kr : ∀ (z : Bool) (m' : Mem), r = Sum.inr (Sum.inr (z, m')) → o = (oB z) ∧ M' = m') : Xj RX4 cX4_readProduct 5 (some .boolean) f9 l9 0 0 0 0 49 [(0, vR 4 i0), (1, vR 8 0), (2, vI x2), (3, vI x3), (4, vI x4)] [] m o M' := by
  unfold r_X4_readProduct_j49_c13 at h
  refine xj_aload_n 1 dX4_readProduct_49 rfl ?_
  refine xj_iload 4 dX4_readProduct_50 rfl ?_
  obtain ⟨z12, m11, e10, h⟩ := bd2_some h
  refine xc_Vb0 (st := []) (ok_X8_sign x4 m e10) dX4_readProduct_52 cv_X4_54 rfl rfl (Nat.le_of_ble_eq_true rfl) (by omega) (by omega) (by decide) (by decide) ?_
  refine xj_if_eq (tgt := 67) dX4_readProduct_55 (by decide) (fun c13 => ?_) (fun c13 => ?_)
  · rw [if_neg (b2i_f c13)] at h
    refine xj_iconst (z := 0) dX4_readProduct_67 (by decide) ?_
    cases h
    obtain ⟨rfl, rfl⟩ := kr _ _ rfl
    exact xj_ireturn dX4_readProduct_68 rfl (by decide) (by decide)
  · rw [if_pos (b2i_t c13)] at h
    refine xj_aload_n 0 dX4_readProduct_58 rfl ?_
    refine xj_aload_n 1 dX4_readProduct_59 rfl ?_
    refine xj_iload_n 2 dX4_readProduct_60 rfl ?_
    obtain ⟨z16, m15, e14, h⟩ := bd2_some h
    refine xc_Vb0 (st := []) (hrec 2 i0 [x2] m11 _ _ e14) dX4_readProduct_61 cv_X4_62 rfl rfl (Nat.le_of_ble_eq_true rfl) (by omega) (by omega) (by decide) (by decide) ?_
    refine xj_if_ne (tgt := 69) dX4_readProduct_64 (by decide) (fun c17 => ?_) (fun c17 => ?_)
    · rw [if_pos (b2i_t c17)] at h
      refine xj_aload_n 0 dX4_readProduct_69 rfl ?_
      refine xj_iload 4 dX4_readProduct_70 rfl ?_
      refine xj_bipush (z := 42) dX4_readProduct_72 (by decide) ?_
      refine xj_icmp_ne (tgt := 83) dX4_readProduct_74 (by decide) (fun c18 => ?_) (fun c18 => ?_)
      · rw [if_neg c18] at h
        refine xj_iload 4 dX4_readProduct_83 rfl ?_
        refine xj_bipush (z := 47) dX4_readProduct_85 (by decide) ?_
        refine xj_icmp_ne (tgt := 96) dX4_readProduct_87 (by decide) (fun c21 => ?_) (fun c21 => ?_)
        · rw [if_neg c21] at h
          refine xj_sipush (z := 2004) dX4_readProduct_96 (by decide) ?_
          refine xj_pick (ls' := [(0, vR 4 i0), (1, vR 8 0), (2, vI x2), (3, vI x3)]) [0, 1, 2, 3] rfl ?_
          exact ok_X4_readProduct_j99_c13 rec hrec hf hf2 hl hl2 i0 x2 x3 2004 i0 m15 h kb ke kr
        · rw [if_pos c21] at h
          refine xj_sipush (z := 2003) dX4_readProduct_90 (by decide) ?_
          refine xj_goto (tgt := 99) dX4_readProduct_93 (by decide) ?_
          refine xj_pick (ls' := [(0, vR 4 i0), (1, vR 8 0), (2, vI x2), (3, vI x3)]) [0, 1, 2, 3] rfl ?_
          exact ok_X4_readProduct_j99_c13 rec hrec hf hf2 hl hl2 i0 x2 x3 2003 i0 m15 h kb ke kr
      · rw [if_pos c18] at h
        refine xj_sipush (z := 2002) dX4_readProduct_77 (by decide) ?_
        refine xj_goto (tgt := 99) dX4_readProduct_80 (by decide) ?_
        refine xj_pick (ls' := [(0, vR 4 i0), (1, vR 8 0), (2, vI x2), (3, vI x3)]) [0, 1, 2, 3] rfl ?_
        exact ok_X4_readProduct_j99_c13 rec hrec hf hf2 hl hl2 i0 x2 x3 2002 i0 m15 h kb ke kr
    · rw [if_neg (b2i_f c17)] at h
      refine xj_iconst (z := 0) dX4_readProduct_67 (by decide) ?_
      cases h
      obtain ⟨rfl, rfl⟩ := kr _ _ rfl
      exact xj_ireturn dX4_readProduct_68 rfl (by decide) (by decide)
noncomputable def r_X4_readProduct_b13 (rec : Nat → Nat → List Int32 → Mem → Option (Bool × Mem)) (i0 : Nat) (x2 : Int32) (x3 : Int32) (m : Mem) : Option ((Int32 × Mem) ⊕ ((Mem) ⊕ (Bool × Mem))) :=
  if 150 ≤ x3 then (some (Sum.inr (Sum.inl m))) else (bd2 (r_X8_peek m) fun z8 m7 => (if z8 = 42 then (r_X4_readProduct_j49_c13 rec i0 x2 x3 z8 m7) else (if z8 = 47 then (r_X4_readProduct_j49_c13 rec i0 x2 x3 z8 m7) else (if z8 = 37 then (r_X4_readProduct_j49_c13 rec i0 x2 x3 z8 m7) else (some (Sum.inr (Sum.inr (true, m7))))))))
set_option maxHeartbeats 4000000 in
set_option maxRecDepth 20000 in
theorem ok_X4_readProduct_b13 (rec : Nat → Nat → List Int32 → Mem → Option (Bool × Mem)) {f0 l0 f9 l9 : Nat} (hrec : RG_law f0 l0 rec) (hf : f0 + 1 ≤ f9) (hf2 : 3 ≤ f9) (hl : l0 + 24 ≤ l9) (hl2 : 43 ≤ l9) (i0 : Nat) (x2 : Int32) (x3 : Int32) (m : Mem) {r : (Int32 × Mem) ⊕ ((Mem) ⊕ (Bool × Mem))} (h : r_X4_readProduct_b13 rec i0 x2 x3 m = some r) {o : Ou} {M' : Mem} (kb : ∀ (x3' : Int32) (m'' : Mem), r = Sum.inl (x3', m'') → Xj RX4 cX4_readProduct 5 (some .boolean) f9 l9 0 0 0 0 13 [(0, vR 4 i0), (1, vR 8 0), (2, vI x2), (3, vI x3')] [] m'' o M') (ke : ∀ (m'' : Mem), r = Sum.inr (Sum.inl m'') → Xj RX4 cX4_readProduct 5 (some .boolean) f9 l9 0 0 0 0 108 [] [] m'' o M') (kr : ∀ (z : Bool) (m' : Mem), r = Sum.inr (Sum.inr (z, m')) → o = (oB z) ∧ M' = m') : Xj RX4 cX4_readProduct 5 (some .boolean) f9 l9 0 0 0 0 13 [(0, vR 4 i0), (1, vR 8 0), (2, vI x2), (3, vI x3)] [] m o M' := by
  unfold r_X4_readProduct_b13 at h
  refine xj_iload_n 3 dX4_readProduct_13 rfl ?_
  refine xj_sipush (z := 150) dX4_readProduct_14 (by decide) ?_
  refine xj_icmp_ge (tgt := 108) dX4_readProduct_17 (by decide) (fun c5 => ?_) (fun c5 => ?_)
  · rw [if_pos c5] at h
    cases h
    refine xj_pick (ls' := []) [] rfl ?_
    exact ke m rfl
  · rw [if_neg c5] at h
    refine xj_aload_n 1 dX4_readProduct_20 rfl ?_
    obtain ⟨z8, m7, e6, h⟩ := bd2_some h
    refine xc_Vi0 (st := []) (ok_X8_peek m e6) dX4_readProduct_21 cv_X4_50 rfl rfl (Nat.le_of_ble_eq_true rfl) (by omega) (by omega) (by decide) (by decide) ?_
    refine xj_istore (ls' := [(4, vI z8), (0, vR 4 i0), (1, vR 8 0), (2, vI x2), (3, vI x3)]) dX4_readProduct_24 (by decide) rfl ?_
    refine xj_iload 0 dX4_readProduct_26 rfl ?_
    refine xj_bipush (z := 42) dX4_readProduct_28 (by decide) ?_
    refine xj_icmp_eq (tgt := 49) dX4_readProduct_30 (by decide) (fun c9 => ?_) (fun c9 => ?_)
    · rw [if_pos c9] at h
      refine xj_pick (ls' := [(0, vR 4 i0), (1, vR 8 0), (2, vI x2), (3, vI x3), (4, vI z8)]) [1, 2, 3, 4, 0] rfl ?_
      exact ok_X4_readProduct_j49_c13 rec hrec hf hf2 hl hl2 i0 x2 x3 z8 m7 h kb ke kr
    · rw [if_neg c9] at h
      refine xj_iload 0 dX4_readProduct_33 rfl ?_
      refine xj_bipush (z := 47) dX4_readProduct_35 (by decide) ?_
      refine xj_icmp_eq (tgt := 49) dX4_readProduct_37 (by decide) (fun c22 => ?_) (fun c22 => ?_)
      · rw [if_pos c22] at h
        refine xj_pick (ls' := [(0, vR 4 i0), (1, vR 8 0), (2, vI x2), (3, vI x3), (4, vI z8)]) [1, 2, 3, 4, 0] rfl ?_
        exact ok_X4_readProduct_j49_c13 rec hrec hf hf2 hl hl2 i0 x2 x3 z8 m7 h kb ke kr
      · rw [if_neg c22] at h
        refine xj_iload 0 dX4_readProduct_40 rfl ?_
        refine xj_bipush (z := 37) dX4_readProduct_42 (by decide) ?_
        refine xj_icmp_eq (tgt := 49) dX4_readProduct_44 (by decide) (fun c23 => ?_) (fun c23 => ?_)
        · rw [if_pos c23] at h
          refine xj_pick (ls' := [(0, vR 4 i0), (1, vR 8 0), (2, vI x2), (3, vI x3), (4, vI z8)]) [1, 2, 3, 4, 0] rfl ?_
          exact ok_X4_readProduct_j49_c13 rec hrec hf hf2 hl hl2 i0 x2 x3 z8 m7 h kb ke kr
        · rw [if_neg c23] at h
          refine xj_iconst (z := 1) dX4_readProduct_47 (by decide) ?_
          cases h
          obtain ⟨rfl, rfl⟩ := kr _ _ rfl
          exact xj_ireturn dX4_readProduct_48 rfl (by decide) (by decide)
noncomputable def r_X4_readProduct_e108_h13 (rec : Nat → Nat → List Int32 → Mem → Option (Bool × Mem)) (m : Mem) : Option (Bool × Mem) :=
  some (true, m)
set_option maxHeartbeats 4000000 in
set_option maxRecDepth 20000 in
theorem ok_X4_readProduct_e108_h13 (rec : Nat → Nat → List Int32 → Mem → Option (Bool × Mem)) {f0 l0 f9 l9 : Nat} (hrec : RG_law f0 l0 rec) (hf : f0 + 1 ≤ f9) (hf2 : 3 ≤ f9) (hl : l0 + 24 ≤ l9) (hl2 : 43 ≤ l9) (m : Mem) {z : Bool} {m' : Mem} (h : r_X4_readProduct_e108_h13 rec m = some (z, m')) : Xj RX4 cX4_readProduct 5 (some .boolean) f9 l9 0 0 0 0 108 [] [] m (oB z) m' := by
  unfold r_X4_readProduct_e108_h13 at h
  refine xj_iconst (z := 1) dX4_readProduct_108 (by decide) ?_
  cases h
  exact xj_ireturn dX4_readProduct_109 rfl (by decide) (by decide)
noncomputable def r_X4_readProduct_l13 (rec : Nat → Nat → List Int32 → Mem → Option (Bool × Mem)) (i0 : Nat) (x2 : Int32) (x3 : Int32) (m : Mem) : Option (Bool × Mem) :=
  bdS (loopO (fun s => r_X4_readProduct_b13 rec i0 x2 s.1 s.2) (x3, m)) (fun e => r_X4_readProduct_e108_h13 rec e) (fun q => some q)
set_option maxHeartbeats 4000000 in
set_option maxRecDepth 20000 in
theorem ok_X4_readProduct_l13 (rec : Nat → Nat → List Int32 → Mem → Option (Bool × Mem)) {f0 l0 f9 l9 : Nat} (hrec : RG_law f0 l0 rec) (hf : f0 + 1 ≤ f9) (hf2 : 3 ≤ f9) (hl : l0 + 24 ≤ l9) (hl2 : 43 ≤ l9) (i0 : Nat) (x2 : Int32) (x3 : Int32) (m : Mem) {z : Bool} {m' : Mem} (h : r_X4_readProduct_l13 rec i0 x2 x3 m = some (z, m')) : Xj RX4 cX4_readProduct 5 (some .boolean) f9 l9 0 0 0 0 13 [(0, vR 4 i0), (1, vR 8 0), (2, vI x2), (3, vI x3)] [] m (oB z) m' := by
  unfold r_X4_readProduct_l13 at h
  rcases bdS_some h with ⟨e, e1, h⟩ | ⟨q, e1, h⟩
  · refine loopO_ok (P := fun s : (Int32 × Mem) => Xj RX4 cX4_readProduct 5 (some .boolean) f9 l9 0 0 0 0 13 [(0, vR 4 i0), (1, vR 8 0), (2, vI x2), (3, vI s.1)] [] s.2 (oB z) m') (Q := Sum.elim (fun e : (Mem) => Xj RX4 cX4_readProduct 5 (some .boolean) f9 l9 0 0 0 0 108 [] [] e (oB z) m') (fun q : (Bool × Mem) => (oB z) = (oB q.1) ∧ m' = q.2)) ?_ _ _ e1 ?_
    · intro s r9 h9 hi hx
      exact ok_X4_readProduct_b13 rec hrec hf hf2 hl hl2 i0 x2 s.1 s.2 h9 (by rintro _ _ rfl; exact hi _ rfl) (by rintro _ rfl; exact hx _ rfl) (by rintro _ _ rfl; exact hx _ rfl)
    · exact ok_X4_readProduct_e108_h13 rec hrec hf hf2 hl hl2 e h 
  · refine loopO_ok (P := fun s : (Int32 × Mem) => Xj RX4 cX4_readProduct 5 (some .boolean) f9 l9 0 0 0 0 13 [(0, vR 4 i0), (1, vR 8 0), (2, vI x2), (3, vI s.1)] [] s.2 (oB z) m') (Q := Sum.elim (fun e : (Mem) => Xj RX4 cX4_readProduct 5 (some .boolean) f9 l9 0 0 0 0 108 [] [] e (oB z) m') (fun q : (Bool × Mem) => (oB z) = (oB q.1) ∧ m' = q.2)) ?_ _ _ e1 ?_
    · intro s r9 h9 hi hx
      exact ok_X4_readProduct_b13 rec hrec hf hf2 hl hl2 i0 x2 s.1 s.2 h9 (by rintro _ _ rfl; exact hi _ rfl) (by rintro _ rfl; exact hx _ rfl) (by rintro _ _ rfl; exact hx _ rfl)
    · cases h; exact ⟨rfl, rfl⟩
noncomputable def r_X4_readProduct (rec : Nat → Nat → List Int32 → Mem → Option (Bool × Mem)) (i0 : Nat) (x2 : Int32) (m : Mem) : Option (Bool × Mem) :=
  bd2 (rec 2 i0 [x2] m) fun z3 m2 => (if z3 = true then (r_X4_readProduct_l13 rec i0 x2 0 m2) else (some (false, m2)))
set_option maxHeartbeats 4000000 in
set_option maxRecDepth 20000 in
theorem ok_X4_readProduct (rec : Nat → Nat → List Int32 → Mem → Option (Bool × Mem)) {f0 l0 f9 l9 : Nat} (hrec : RG_law f0 l0 rec) (hf : f0 + 1 ≤ f9) (hf2 : 3 ≤ f9) (hl : l0 + 24 ≤ l9) (hl2 : 43 ≤ l9) (i0 : Nat) (x2 : Int32) (m : Mem) {z : Bool} {m' : Mem} (h : r_X4_readProduct rec i0 x2 m = some (z, m')) : Mt yX4_readProduct cX4_readProduct 5 (some .boolean) f9 l9 0 0 [vR 4 i0, vR 8 0, vI x2] m (oB z) m' := by
  refine Mt.of (by decide) (Nat.le_of_ble_eq_true rfl) (by decide +kernel) (hhF_ne (by decide)) ?_
  show Xj RX4 cX4_readProduct 5 (some .boolean) f9 l9 0 0 0 0 0 [(0, vR 4 i0), (1, vR 8 0), (2, vI x2)] [] m (oB z) m'
  unfold r_X4_readProduct at h
  refine xj_aload_n 0 dX4_readProduct_0 rfl ?_
  refine xj_aload_n 1 dX4_readProduct_1 rfl ?_
  refine xj_iload_n 2 dX4_readProduct_2 rfl ?_
  obtain ⟨z3, m2, e1, h⟩ := bd2_some h
  refine xc_Vb0 (st := []) (hrec 2 i0 [x2] m _ _ e1) dX4_readProduct_3 cv_X4_62 rfl rfl (Nat.le_of_ble_eq_true rfl) (by omega) (by omega) (by decide) (by decide) ?_
  refine xj_if_ne (tgt := 11) dX4_readProduct_6 (by decide) (fun c4 => ?_) (fun c4 => ?_)
  · rw [if_pos (b2i_t c4)] at h
    refine xj_iconst (z := 0) dX4_readProduct_11 (by decide) ?_
    refine xj_istore_n (ls' := [(3, vI 0), (0, vR 4 i0), (1, vR 8 0), (2, vI x2)]) dX4_readProduct_12 rfl (by decide) rfl ?_
    refine xj_pick (ls' := [(0, vR 4 i0), (1, vR 8 0), (2, vI x2), (3, vI 0)]) [1, 2, 3, 0] rfl ?_
    exact ok_X4_readProduct_l13 rec hrec hf hf2 hl hl2 i0 x2 0 m2 h 
  · rw [if_neg (b2i_f c4)] at h
    refine xj_iconst (z := 0) dX4_readProduct_9 (by decide) ?_
    cases h
    exact xj_ireturn dX4_readProduct_10 rfl (by decide) (by decide)
noncomputable def r_X4_readUnit (rec : Nat → Nat → List Int32 → Mem → Option (Bool × Mem)) (i0 : Nat) (x2 : Int32) (m : Mem) : Option (Bool × Mem) :=
  bd2 (r_X8_peek m) fun z3 m2 => (if (r_X8_isDigit z3) = true then (bd2 (r_X4_readNumber i0 m2) fun z7 m6 => (some (z7, m6))) else (if z3 = 40 then (bd2 (rec 3 i0 [x2] m2) fun z11 m10 => (some (z11, m10))) else (bd2 (r_X8_word m2) fun z14 m13 => (if z14 = true then (bd1 (r_X4_inputOf i0 m13) fun z17 => (if z17 = (-1) then (bd1 (r_X8_wordIs 15 m13) fun z20 => (if z20 = true then (bd2 (rec 4 i0 [x2, 2005] m13) fun z24 m23 => (some (z24, m23))) else (bd1 (r_X8_wordIs 16 m13) fun z26 => (if z26 = true then (bd2 (rec 4 i0 [x2, 2006] m13) fun z30 m29 => (some (z30, m29))) else (bd2 (r_X8_wrong 1 (m13 8 0 2) m13) fun z33 m32 => (some (z33, m32))))))) else (bd1 (r_X4_put i0 (1000 + z17) m13) fun m35 => (some (true, m35))))) else (some (false, m13))))))
set_option maxHeartbeats 4000000 in
set_option maxRecDepth 20000 in
theorem ok_X4_readUnit (rec : Nat → Nat → List Int32 → Mem → Option (Bool × Mem)) {f0 l0 f9 l9 : Nat} (hrec : RG_law f0 l0 rec) (hf : f0 + 1 ≤ f9) (hf2 : 7 ≤ f9) (hl : l0 + 24 ≤ l9) (hl2 : 128 ≤ l9) (i0 : Nat) (x2 : Int32) (m : Mem) {z : Bool} {m' : Mem} (h : r_X4_readUnit rec i0 x2 m = some (z, m')) : Mt yX4_readUnit cX4_readUnit 5 (some .boolean) f9 l9 0 0 [vR 4 i0, vR 8 0, vI x2] m (oB z) m' := by
  refine Mt.of (by decide) (Nat.le_of_ble_eq_true rfl) (by decide +kernel) (hhF_ne (by decide)) ?_
  show Xj RX4 cX4_readUnit 5 (some .boolean) f9 l9 0 0 0 0 0 [(0, vR 4 i0), (1, vR 8 0), (2, vI x2)] [] m (oB z) m'
  unfold r_X4_readUnit at h
  refine xj_aload_n 1 dX4_readUnit_0 rfl ?_
  obtain ⟨z3, m2, e1, h⟩ := bd2_some h
  refine xc_Vi0 (st := []) (ok_X8_peek m e1) dX4_readUnit_1 cv_X4_50 rfl rfl (Nat.le_of_ble_eq_true rfl) (by omega) (by omega) (by decide) (by decide) ?_
  refine xj_istore_n (ls' := [(3, vI z3), (0, vR 4 i0), (1, vR 8 0), (2, vI x2)]) dX4_readUnit_4 rfl (by decide) rfl ?_
  refine xj_aload_n 2 dX4_readUnit_5 rfl ?_
  refine xj_iload_n 0 dX4_readUnit_6 rfl ?_
  refine xc_Vb0 (st := []) (ok_X8_isDigit z3 m2 rfl) dX4_readUnit_7 cv_X4_65 rfl rfl (Nat.le_of_ble_eq_true rfl) (by omega) (by omega) (by decide) (by decide) ?_
  refine xj_if_eq (tgt := 19) dX4_readUnit_10 (by decide) (fun c4 => ?_) (fun c4 => ?_)
  · rw [if_neg (b2i_f c4)] at h
    refine xj_iload_n 0 dX4_readUnit_19 rfl ?_
    refine xj_bipush (z := 40) dX4_readUnit_20 (by decide) ?_
    refine xj_icmp_ne (tgt := 32) dX4_readUnit_22 (by decide) (fun c8 => ?_) (fun c8 => ?_)
    · rw [if_neg c8] at h
      refine xj_aload_n 2 dX4_readUnit_32 rfl ?_
      obtain ⟨z14, m13, e12, h⟩ := bd2_some h
      refine xc_Vb0 (st := []) (ok_X8_word m2 e12) dX4_readUnit_33 cv_X4_75 rfl rfl (Nat.le_of_ble_eq_true rfl) (by omega) (by omega) (by decide) (by decide) ?_
      refine xj_if_ne (tgt := 41) dX4_readUnit_36 (by decide) (fun c15 => ?_) (fun c15 => ?_)
      · rw [if_pos (b2i_t c15)] at h
        refine xj_aload_n 1 dX4_readUnit_41 rfl ?_
        refine xj_aload_n 2 dX4_readUnit_42 rfl ?_
        obtain ⟨z17, e16, h⟩ := bd1_some h
        refine xc_Vi0 (st := []) (ok_X4_inputOf i0 m13 e16) dX4_readUnit_43 cv_X4_78 rfl rfl (Nat.le_of_ble_eq_true rfl) (by omega) (by omega) (by decide) (by decide) ?_
        refine xj_istore (ls' := [(4, vI z17), (3, vI z3), (0, vR 4 i0), (1, vR 8 0), (2, vI x2)]) dX4_readUnit_46 (by decide) rfl ?_
        refine xj_iload 0 dX4_readUnit_48 rfl ?_
        refine xj_iconst (z := (-1)) dX4_readUnit_50 (by decide) ?_
        refine xj_icmp_eq (tgt := 66) dX4_readUnit_51 (by decide) (fun c18 => ?_) (fun c18 => ?_)
        · rw [if_pos c18] at h
          refine xj_aload_n 3 dX4_readUnit_66 rfl ?_
          refine xj_ldcS (n := 15) dX4_readUnit_67 rfl ?_
          obtain ⟨z20, e19, h⟩ := bd1_some h
          refine xc_Vb0 (st := []) (ok_X8_wordIs 15 m13 e19) dX4_readUnit_69 cv_X4_84 rfl rfl (Nat.le_of_ble_eq_true rfl) (by omega) (by omega) (by decide) (by decide) ?_
          refine xj_if_eq (tgt := 85) dX4_readUnit_72 (by decide) (fun c21 => ?_) (fun c21 => ?_)
          · rw [if_neg (b2i_f c21)] at h
            refine xj_aload_n 3 dX4_readUnit_85 rfl ?_
            refine xj_ldcS (n := 16) dX4_readUnit_86 rfl ?_
            obtain ⟨z26, e25, h⟩ := bd1_some h
            refine xc_Vb0 (st := []) (ok_X8_wordIs 16 m13 e25) dX4_readUnit_88 cv_X4_84 rfl rfl (Nat.le_of_ble_eq_true rfl) (by omega) (by omega) (by decide) (by decide) ?_
            refine xj_if_eq (tgt := 106) dX4_readUnit_91 (by decide) (fun c27 => ?_) (fun c27 => ?_)
            · rw [if_neg (b2i_f c27)] at h
              refine xj_aload_n 3 dX4_readUnit_106 rfl ?_
              refine xj_iconst (z := 1) dX4_readUnit_107 (by decide) ?_
              refine xj_aload_n 3 dX4_readUnit_108 rfl ?_
              refine xg_getI (x := (m13 8 0 2)) dX4_readUnit_109 fl_X4_94 rfl rfl ?_
              obtain ⟨z33, m32, e31, h⟩ := bd2_some h
              refine xc_Vb0 (st := []) (ok_X8_wrong 1 (m13 8 0 2) m13 e31) dX4_readUnit_112 cv_X4_97 rfl rfl (Nat.le_of_ble_eq_true rfl) (by omega) (by omega) (by decide) (by decide) ?_
              cases h
              exact xj_ireturn dX4_readUnit_115 (nar_b2i _) (by decide) (by decide)
            · rw [if_pos (b2i_t c27)] at h
              refine xj_aload_n 2 dX4_readUnit_94 rfl ?_
              refine xj_aload_n 3 dX4_readUnit_95 rfl ?_
              refine xj_iload_n 4 dX4_readUnit_96 rfl ?_
              refine xj_sipush (z := 2006) dX4_readUnit_97 (by decide) ?_
              obtain ⟨z30, m29, e28, h⟩ := bd2_some h
              refine xc_Vb0 (st := []) (hrec 4 i0 [x2, 2006] m13 _ _ e28) dX4_readUnit_100 cv_X4_88 rfl rfl (Nat.le_of_ble_eq_true rfl) (by omega) (by omega) (by decide) (by decide) ?_
              refine xj_goto (tgt := 115) dX4_readUnit_103 (by decide) ?_
              cases h
              exact xj_ireturn dX4_readUnit_115 (nar_b2i _) (by decide) (by decide)
          · rw [if_pos (b2i_t c21)] at h
            refine xj_aload_n 2 dX4_readUnit_75 rfl ?_
            refine xj_aload_n 3 dX4_readUnit_76 rfl ?_
            refine xj_iload_n 4 dX4_readUnit_77 rfl ?_
            refine xj_sipush (z := 2005) dX4_readUnit_78 (by decide) ?_
            obtain ⟨z24, m23, e22, h⟩ := bd2_some h
            refine xc_Vb0 (st := []) (hrec 4 i0 [x2, 2005] m13 _ _ e22) dX4_readUnit_81 cv_X4_88 rfl rfl (Nat.le_of_ble_eq_true rfl) (by omega) (by omega) (by decide) (by decide) ?_
            cases h
            exact xj_ireturn dX4_readUnit_84 (nar_b2i _) (by decide) (by decide)
        · rw [if_neg c18] at h
          refine xj_aload_n 2 dX4_readUnit_54 rfl ?_
          refine xj_sipush (z := 1000) dX4_readUnit_55 (by decide) ?_
          refine xj_iload 0 dX4_readUnit_58 rfl ?_
          refine xj_iadd dX4_readUnit_60 ?_
          obtain ⟨m35, e34, h⟩ := bd1_some h
          refine xc_Vv0 (st := []) (ok_X4_put i0 (1000 + z17) m13 e34) dX4_readUnit_61 cv_X4_58 rfl rfl (Nat.le_of_ble_eq_true rfl) (by omega) (by omega) (by decide) (by decide) ?_
          refine xj_iconst (z := 1) dX4_readUnit_64 (by decide) ?_
          cases h
          exact xj_ireturn dX4_readUnit_65 rfl (by decide) (by decide)
      · rw [if_neg (b2i_f c15)] at h
        refine xj_iconst (z := 0) dX4_readUnit_39 (by decide) ?_
        cases h
        exact xj_ireturn dX4_readUnit_40 rfl (by decide) (by decide)
    · rw [if_pos c8] at h
      refine xj_aload_n 1 dX4_readUnit_25 rfl ?_
      refine xj_aload_n 2 dX4_readUnit_26 rfl ?_
      refine xj_iload_n 3 dX4_readUnit_27 rfl ?_
      obtain ⟨z11, m10, e9, h⟩ := bd2_some h
      refine xc_Vb0 (st := []) (hrec 3 i0 [x2] m2 _ _ e9) dX4_readUnit_28 cv_X4_72 rfl rfl (Nat.le_of_ble_eq_true rfl) (by omega) (by omega) (by decide) (by decide) ?_
      cases h
      exact xj_ireturn dX4_readUnit_31 (nar_b2i _) (by decide) (by decide)
  · rw [if_pos (b2i_t c4)] at h
    refine xj_aload_n 1 dX4_readUnit_13 rfl ?_
    refine xj_aload_n 2 dX4_readUnit_14 rfl ?_
    obtain ⟨z7, m6, e5, h⟩ := bd2_some h
    refine xc_Vb0 (st := []) (ok_X4_readNumber i0 m2 e5) dX4_readUnit_15 cv_X4_68 rfl rfl (Nat.le_of_ble_eq_true rfl) (by omega) (by omega) (by decide) (by decide) ?_
    cases h
    exact xj_ireturn dX4_readUnit_18 (nar_b2i _) (by decide) (by decide)
noncomputable def r_X4_readBrackets (rec : Nat → Nat → List Int32 → Mem → Option (Bool × Mem)) (i0 : Nat) (x2 : Int32) (m : Mem) : Option (Bool × Mem) :=
  bd2 (r_X8_sign 40 m) fun z3 m2 => (if z3 = true then (if x2 < 6 then (bd2 (rec 0 i0 [(x2 + 1)] m2) fun z8 m7 => (if z8 = true then (bd2 (r_X8_sign 41 m7) fun z12 m11 => (if z12 = true then (some (true, m11)) else (some (false, m11)))) else (some (false, m7)))) else (bd2 (r_X8_wrong 3 (m2 8 0 2) m2) fun z16 m15 => (some (z16, m15)))) else (some (false, m2)))
set_option maxHeartbeats 4000000 in
set_option maxRecDepth 20000 in
theorem ok_X4_readBrackets (rec : Nat → Nat → List Int32 → Mem → Option (Bool × Mem)) {f0 l0 f9 l9 : Nat} (hrec : RG_law f0 l0 rec) (hf : f0 + 1 ≤ f9) (hf2 : 3 ≤ f9) (hl : l0 + 24 ≤ l9) (hl2 : 43 ≤ l9) (i0 : Nat) (x2 : Int32) (m : Mem) {z : Bool} {m' : Mem} (h : r_X4_readBrackets rec i0 x2 m = some (z, m')) : Mt yX4_readBrackets cX4_readBrackets 3 (some .boolean) f9 l9 0 0 [vR 4 i0, vR 8 0, vI x2] m (oB z) m' := by
  refine Mt.of (by decide) (Nat.le_of_ble_eq_true rfl) (by decide +kernel) (hhF_ne (by decide)) ?_
  show Xj RX4 cX4_readBrackets 3 (some .boolean) f9 l9 0 0 0 0 0 [(0, vR 4 i0), (1, vR 8 0), (2, vI x2)] [] m (oB z) m'
  unfold r_X4_readBrackets at h
  refine xj_aload_n 1 dX4_readBrackets_0 rfl ?_
  refine xj_bipush (z := 40) dX4_readBrackets_1 (by decide) ?_
  obtain ⟨z3, m2, e1, h⟩ := bd2_some h
  refine xc_Vb0 (st := []) (ok_X8_sign 40 m e1) dX4_readBrackets_3 cv_X4_54 rfl rfl (Nat.le_of_ble_eq_true rfl) (by omega) (by omega) (by decide) (by decide) ?_
  refine xj_if_ne (tgt := 11) dX4_readBrackets_6 (by decide) (fun c4 => ?_) (fun c4 => ?_)
  · rw [if_pos (b2i_t c4)] at h
    refine xj_iload_n 2 dX4_readBrackets_11 rfl ?_
    refine xj_bipush (z := 6) dX4_readBrackets_12 (by decide) ?_
    refine xj_icmp_lt (tgt := 27) dX4_readBrackets_14 (by decide) (fun c5 => ?_) (fun c5 => ?_)
    · rw [if_pos c5] at h
      refine xj_aload_n 0 dX4_readBrackets_27 rfl ?_
      refine xj_aload_n 1 dX4_readBrackets_28 rfl ?_
      refine xj_iload_n 2 dX4_readBrackets_29 rfl ?_
      refine xj_iconst (z := 1) dX4_readBrackets_30 (by decide) ?_
      refine xj_iadd dX4_readBrackets_31 ?_
      obtain ⟨z8, m7, e6, h⟩ := bd2_some h
      refine xc_Vb0 (st := []) (hrec 0 i0 [(x2 + 1)] m2 _ _ e6) dX4_readBrackets_32 cv_X4_37 rfl rfl (Nat.le_of_ble_eq_true rfl) (by omega) (by omega) (by decide) (by decide) ?_
      refine xj_if_eq (tgt := 51) dX4_readBrackets_35 (by decide) (fun c9 => ?_) (fun c9 => ?_)
      · rw [if_neg (b2i_f c9)] at h
        refine xj_iconst (z := 0) dX4_readBrackets_51 (by decide) ?_
        cases h
        exact xj_ireturn dX4_readBrackets_52 rfl (by decide) (by decide)
      · rw [if_pos (b2i_t c9)] at h
        refine xj_aload_n 1 dX4_readBrackets_38 rfl ?_
        refine xj_bipush (z := 41) dX4_readBrackets_39 (by decide) ?_
        obtain ⟨z12, m11, e10, h⟩ := bd2_some h
        refine xc_Vb0 (st := []) (ok_X8_sign 41 m7 e10) dX4_readBrackets_41 cv_X4_54 rfl rfl (Nat.le_of_ble_eq_true rfl) (by omega) (by omega) (by decide) (by decide) ?_
        refine xj_if_eq (tgt := 51) dX4_readBrackets_44 (by decide) (fun c13 => ?_) (fun c13 => ?_)
        · rw [if_neg (b2i_f c13)] at h
          refine xj_iconst (z := 0) dX4_readBrackets_51 (by decide) ?_
          cases h
          exact xj_ireturn dX4_readBrackets_52 rfl (by decide) (by decide)
        · rw [if_pos (b2i_t c13)] at h
          refine xj_iconst (z := 1) dX4_readBrackets_47 (by decide) ?_
          refine xj_goto (tgt := 52) dX4_readBrackets_48 (by decide) ?_
          cases h
          exact xj_ireturn dX4_readBrackets_52 rfl (by decide) (by decide)
    · rw [if_neg c5] at h
      refine xj_aload_n 1 dX4_readBrackets_17 rfl ?_
      refine xj_iconst (z := 3) dX4_readBrackets_18 (by decide) ?_
      refine xj_aload_n 1 dX4_readBrackets_19 rfl ?_
      refine xg_getI (x := (m2 8 0 2)) dX4_readBrackets_20 fl_X4_94 rfl rfl ?_
      obtain ⟨z16, m15, e14, h⟩ := bd2_some h
      refine xc_Vb0 (st := []) (ok_X8_wrong 3 (m2 8 0 2) m2 e14) dX4_readBrackets_23 cv_X4_97 rfl rfl (Nat.le_of_ble_eq_true rfl) (by omega) (by omega) (by decide) (by decide) ?_
      cases h
      exact xj_ireturn dX4_readBrackets_26 (nar_b2i _) (by decide) (by decide)
  · rw [if_neg (b2i_f c4)] at h
    refine xj_iconst (z := 0) dX4_readBrackets_9 (by decide) ?_
    cases h
    exact xj_ireturn dX4_readBrackets_10 rfl (by decide) (by decide)
noncomputable def r_X4_readPair (rec : Nat → Nat → List Int32 → Mem → Option (Bool × Mem)) (i0 : Nat) (x2 : Int32) (x3 : Int32) (m : Mem) : Option (Bool × Mem) :=
  if x2 < 6 then (bd2 (r_X8_sign 91 m) fun z4 m3 => (if z4 = true then (bd2 (rec 0 i0 [(x2 + 1)] m3) fun z8 m7 => (if z8 = true then (bd2 (r_X8_sign 44 m7) fun z12 m11 => (if z12 = true then (bd2 (rec 0 i0 [(x2 + 1)] m11) fun z16 m15 => (if z16 = true then (bd1 (r_X4_put i0 x3 m15) fun m19 => (bd2 (r_X8_sign 93 m19) fun z22 m21 => (some (z22, m21)))) else (some (false, m15)))) else (some (false, m11)))) else (some (false, m7)))) else (some (false, m3)))) else (bd2 (r_X8_wrong 3 (m 8 0 2) m) fun z25 m24 => (some (z25, m24)))
set_option maxHeartbeats 4000000 in
set_option maxRecDepth 20000 in
theorem ok_X4_readPair (rec : Nat → Nat → List Int32 → Mem → Option (Bool × Mem)) {f0 l0 f9 l9 : Nat} (hrec : RG_law f0 l0 rec) (hf : f0 + 1 ≤ f9) (hf2 : 3 ≤ f9) (hl : l0 + 24 ≤ l9) (hl2 : 43 ≤ l9) (i0 : Nat) (x2 : Int32) (x3 : Int32) (m : Mem) {z : Bool} {m' : Mem} (h : r_X4_readPair rec i0 x2 x3 m = some (z, m')) : Mt yX4_readPair cX4_readPair 4 (some .boolean) f9 l9 0 0 [vR 4 i0, vR 8 0, vI x2, vI x3] m (oB z) m' := by
  refine Mt.of (by decide) (Nat.le_of_ble_eq_true rfl) (by decide +kernel) (hhF_ne (by decide)) ?_
  show Xj RX4 cX4_readPair 4 (some .boolean) f9 l9 0 0 0 0 0 [(0, vR 4 i0), (1, vR 8 0), (2, vI x2), (3, vI x3)] [] m (oB z) m'
  unfold r_X4_readPair at h
  refine xj_iload_n 2 dX4_readPair_0 rfl ?_
  refine xj_bipush (z := 6) dX4_readPair_1 (by decide) ?_
  refine xj_icmp_lt (tgt := 16) dX4_readPair_3 (by decide) (fun c1 => ?_) (fun c1 => ?_)
  · rw [if_pos c1] at h
    refine xj_aload_n 1 dX4_readPair_16 rfl ?_
    refine xj_bipush (z := 91) dX4_readPair_17 (by decide) ?_
    obtain ⟨z4, m3, e2, h⟩ := bd2_some h
    refine xc_Vb0 (st := []) (ok_X8_sign 91 m e2) dX4_readPair_19 cv_X4_54 rfl rfl (Nat.le_of_ble_eq_true rfl) (by omega) (by omega) (by decide) (by decide) ?_
    refine xj_if_eq (tgt := 36) dX4_readPair_22 (by decide) (fun c5 => ?_) (fun c5 => ?_)
    · rw [if_neg (b2i_f c5)] at h
      refine xj_iconst (z := 0) dX4_readPair_36 (by decide) ?_
      cases h
      exact xj_ireturn dX4_readPair_37 rfl (by decide) (by decide)
    · rw [if_pos (b2i_t c5)] at h
      refine xj_aload_n 0 dX4_readPair_25 rfl ?_
      refine xj_aload_n 1 dX4_readPair_26 rfl ?_
      refine xj_iload_n 2 dX4_readPair_27 rfl ?_
      refine xj_iconst (z := 1) dX4_readPair_28 (by decide) ?_
      refine xj_iadd dX4_readPair_29 ?_
      obtain ⟨z8, m7, e6, h⟩ := bd2_some h
      refine xc_Vb0 (st := []) (hrec 0 i0 [(x2 + 1)] m3 _ _ e6) dX4_readPair_30 cv_X4_37 rfl rfl (Nat.le_of_ble_eq_true rfl) (by omega) (by omega) (by decide) (by decide) ?_
      refine xj_if_ne (tgt := 38) dX4_readPair_33 (by decide) (fun c9 => ?_) (fun c9 => ?_)
      · rw [if_pos (b2i_t c9)] at h
        refine xj_aload_n 1 dX4_readPair_38 rfl ?_
        refine xj_bipush (z := 44) dX4_readPair_39 (by decide) ?_
        obtain ⟨z12, m11, e10, h⟩ := bd2_some h
        refine xc_Vb0 (st := []) (ok_X8_sign 44 m7 e10) dX4_readPair_41 cv_X4_54 rfl rfl (Nat.le_of_ble_eq_true rfl) (by omega) (by omega) (by decide) (by decide) ?_
        refine xj_if_eq (tgt := 58) dX4_readPair_44 (by decide) (fun c13 => ?_) (fun c13 => ?_)
        · rw [if_neg (b2i_f c13)] at h
          refine xj_iconst (z := 0) dX4_readPair_58 (by decide) ?_
          cases h
          exact xj_ireturn dX4_readPair_59 rfl (by decide) (by decide)
        · rw [if_pos (b2i_t c13)] at h
          refine xj_aload_n 0 dX4_readPair_47 rfl ?_
          refine xj_aload_n 1 dX4_readPair_48 rfl ?_
          refine xj_iload_n 2 dX4_readPair_49 rfl ?_
          refine xj_iconst (z := 1) dX4_readPair_50 (by decide) ?_
          refine xj_iadd dX4_readPair_51 ?_
          obtain ⟨z16, m15, e14, h⟩ := bd2_some h
          refine xc_Vb0 (st := []) (hrec 0 i0 [(x2 + 1)] m11 _ _ e14) dX4_readPair_52 cv_X4_37 rfl rfl (Nat.le_of_ble_eq_true rfl) (by omega) (by omega) (by decide) (by decide) ?_
          refine xj_if_ne (tgt := 60) dX4_readPair_55 (by decide) (fun c17 => ?_) (fun c17 => ?_)
          · rw [if_pos (b2i_t c17)] at h
            refine xj_aload_n 0 dX4_readPair_60 rfl ?_
            refine xj_iload_n 3 dX4_readPair_61 rfl ?_
            obtain ⟨m19, e18, h⟩ := bd1_some h
            refine xc_Vv0 (st := []) (ok_X4_put i0 x3 m15 e18) dX4_readPair_62 cv_X4_58 rfl rfl (Nat.le_of_ble_eq_true rfl) (by omega) (by omega) (by decide) (by decide) ?_
            refine xj_aload_n 1 dX4_readPair_65 rfl ?_
            refine xj_bipush (z := 93) dX4_readPair_66 (by decide) ?_
            obtain ⟨z22, m21, e20, h⟩ := bd2_some h
            refine xc_Vb0 (st := []) (ok_X8_sign 93 m19 e20) dX4_readPair_68 cv_X4_54 rfl rfl (Nat.le_of_ble_eq_true rfl) (by omega) (by omega) (by decide) (by decide) ?_
            cases h
            exact xj_ireturn dX4_readPair_71 (nar_b2i _) (by decide) (by decide)
          · rw [if_neg (b2i_f c17)] at h
            refine xj_iconst (z := 0) dX4_readPair_58 (by decide) ?_
            cases h
            exact xj_ireturn dX4_readPair_59 rfl (by decide) (by decide)
      · rw [if_neg (b2i_f c9)] at h
        refine xj_iconst (z := 0) dX4_readPair_36 (by decide) ?_
        cases h
        exact xj_ireturn dX4_readPair_37 rfl (by decide) (by decide)
  · rw [if_neg c1] at h
    refine xj_aload_n 1 dX4_readPair_6 rfl ?_
    refine xj_iconst (z := 3) dX4_readPair_7 (by decide) ?_
    refine xj_aload_n 1 dX4_readPair_8 rfl ?_
    refine xg_getI (x := (m 8 0 2)) dX4_readPair_9 fl_X4_94 rfl rfl ?_
    obtain ⟨z25, m24, e23, h⟩ := bd2_some h
    refine xc_Vb0 (st := []) (ok_X8_wrong 3 (m 8 0 2) m e23) dX4_readPair_12 cv_X4_97 rfl rfl (Nat.le_of_ble_eq_true rfl) (by omega) (by omega) (by decide) (by decide) ?_
    cases h
    exact xj_ireturn dX4_readPair_15 (nar_b2i _) (by decide) (by decide)
noncomputable def rec_law : Nat → Nat → Nat → List Int32 → Mem → Option (Bool × Mem)
  | 0 => fun _ _ _ _ => none
  | g + 1 => fun sel i as m => match sel, as with
    | 0, [x2] => r_X4_readSum (rec_law g) i x2 m
    | 1, [x2] => r_X4_readProduct (rec_law g) i x2 m
    | 2, [x2] => r_X4_readUnit (rec_law g) i x2 m
    | 3, [x2] => r_X4_readBrackets (rec_law g) i x2 m
    | 4, [x2, x3] => r_X4_readPair (rec_law g) i x2 x3 m
    | _, _ => none
theorem ok_rec_law : ∀ g : Nat, RG_law (7 + g) (128 + g * 24) (rec_law g)
  | 0 => fun _ _ _ _ _ _ h => nomatch h
  | g + 1 => fun sel i as m z m' h => by
    have ih := ok_rec_law g
    unfold rec_law at h
    split at h
    · exact ok_X4_readSum (rec_law g) ih (by omega) (by omega) (by omega) (by omega) _ _ m h
    · exact ok_X4_readProduct (rec_law g) ih (by omega) (by omega) (by omega) (by omega) _ _ m h
    · exact ok_X4_readUnit (rec_law g) ih (by omega) (by omega) (by omega) (by omega) _ _ m h
    · exact ok_X4_readBrackets (rec_law g) ih (by omega) (by omega) (by omega) (by omega) _ _ m h
    · exact ok_X4_readPair (rec_law g) ih (by omega) (by omega) (by omega) (by omega) _ _ _ m h
    · cases h
noncomputable def r_X4_readSum_t (i0 : Nat) (x2 : Int32) (m : Mem) : Option (Bool × Mem) := rec_law 32 0 i0 [x2] m
theorem ok_X4_readSum_t (i0 : Nat) (x2 : Int32) (m : Mem) {z : Bool} {m' : Mem} (h : r_X4_readSum_t i0 x2 m = some (z, m')) : Mt yX4_readSum cX4_readSum 5 (some .boolean) 39 896 0 0 [vR 4 i0, vR 8 0, vI x2] m (oB z) m' := ok_rec_law 32 0 i0 [x2] m _ _ h
noncomputable def r_X4_readProduct_t (i0 : Nat) (x2 : Int32) (m : Mem) : Option (Bool × Mem) := rec_law 32 1 i0 [x2] m
theorem ok_X4_readProduct_t (i0 : Nat) (x2 : Int32) (m : Mem) {z : Bool} {m' : Mem} (h : r_X4_readProduct_t i0 x2 m = some (z, m')) : Mt yX4_readProduct cX4_readProduct 5 (some .boolean) 39 896 0 0 [vR 4 i0, vR 8 0, vI x2] m (oB z) m' := ok_rec_law 32 1 i0 [x2] m _ _ h
noncomputable def r_X4_readUnit_t (i0 : Nat) (x2 : Int32) (m : Mem) : Option (Bool × Mem) := rec_law 32 2 i0 [x2] m
theorem ok_X4_readUnit_t (i0 : Nat) (x2 : Int32) (m : Mem) {z : Bool} {m' : Mem} (h : r_X4_readUnit_t i0 x2 m = some (z, m')) : Mt yX4_readUnit cX4_readUnit 5 (some .boolean) 39 896 0 0 [vR 4 i0, vR 8 0, vI x2] m (oB z) m' := ok_rec_law 32 2 i0 [x2] m _ _ h
noncomputable def r_X4_readBrackets_t (i0 : Nat) (x2 : Int32) (m : Mem) : Option (Bool × Mem) := rec_law 32 3 i0 [x2] m
theorem ok_X4_readBrackets_t (i0 : Nat) (x2 : Int32) (m : Mem) {z : Bool} {m' : Mem} (h : r_X4_readBrackets_t i0 x2 m = some (z, m')) : Mt yX4_readBrackets cX4_readBrackets 3 (some .boolean) 39 896 0 0 [vR 4 i0, vR 8 0, vI x2] m (oB z) m' := ok_rec_law 32 3 i0 [x2] m _ _ h
noncomputable def r_X4_readPair_t (i0 : Nat) (x2 : Int32) (x3 : Int32) (m : Mem) : Option (Bool × Mem) := rec_law 32 4 i0 [x2, x3] m
theorem ok_X4_readPair_t (i0 : Nat) (x2 : Int32) (x3 : Int32) (m : Mem) {z : Bool} {m' : Mem} (h : r_X4_readPair_t i0 x2 x3 m = some (z, m')) : Mt yX4_readPair cX4_readPair 4 (some .boolean) 39 896 0 0 [vR 4 i0, vR 8 0, vI x2, vI x3] m (oB z) m' := ok_rec_law 32 4 i0 [x2, x3] m _ _ h




noncomputable def r_X4_readFrom (i0 : Nat) (m : Mem) : Option (Bool × Mem) :=
  bd2 (r_X4_readSum_t i0 0 (wr m 4 i0 3 0)) fun z3 m2 => (if z3 = true then (bd2 (r_X8_endsHere m2) fun z7 m6 => (if z7 = true then (some (true, m6)) else (some (false, m6)))) else (some (false, m2)))
set_option maxHeartbeats 4000000 in
set_option maxRecDepth 20000 in
theorem ok_X4_readFrom (i0 : Nat) (m : Mem) {z : Bool} {m' : Mem} (h : r_X4_readFrom i0 m = some (z, m')) : Mt yX4_readFrom cX4_readFrom 2 (some .boolean) 40 920 0 0 [vR 4 i0, vR 8 0] m (oB z) m' := by
  refine Mt.of (by decide) (Nat.le_of_ble_eq_true rfl) (by decide +kernel) (hhF_ne (by decide)) ?_
  show Xj RX4 cX4_readFrom 2 (some .boolean) 40 920 0 0 0 0 0 [(0, vR 4 i0), (1, vR 8 0)] [] m (oB z) m'
  unfold r_X4_readFrom at h
  refine xj_aload_n 0 dX4_readFrom_0 rfl ?_
  refine xj_iconst (z := 0) dX4_readFrom_1 (by decide) ?_
  refine xj_putI dX4_readFrom_2 fw_X4_27 rfl ?_
  refine xj_aload_n 0 dX4_readFrom_5 rfl ?_
  refine xj_aload_n 1 dX4_readFrom_6 rfl ?_
  refine xj_iconst (z := 0) dX4_readFrom_7 (by decide) ?_
  obtain ⟨z3, m2, e1, h⟩ := bd2_some h
  refine xc_Vb0 (st := []) (ok_X4_readSum_t i0 0 (wr m 4 i0 3 0) e1) dX4_readFrom_8 cv_X4_37 rfl rfl (Nat.le_of_ble_eq_true rfl) (by decide) (by decide) (by decide) (by decide) ?_
  refine xj_if_eq (tgt := 25) dX4_readFrom_11 (by decide) (fun c4 => ?_) (fun c4 => ?_)
  · rw [if_neg (b2i_f c4)] at h
    refine xj_iconst (z := 0) dX4_readFrom_25 (by decide) ?_
    cases h
    exact xj_ireturn dX4_readFrom_26 rfl (by decide) (by decide)
  · rw [if_pos (b2i_t c4)] at h
    refine xj_aload_n 1 dX4_readFrom_14 rfl ?_
    obtain ⟨z7, m6, e5, h⟩ := bd2_some h
    refine xc_Vb0 (st := []) (ok_X8_endsHere m2 e5) dX4_readFrom_15 cv_X4_41 rfl rfl (Nat.le_of_ble_eq_true rfl) (by decide) (by decide) (by decide) (by decide) ?_
    refine xj_if_eq (tgt := 25) dX4_readFrom_18 (by decide) (fun c8 => ?_) (fun c8 => ?_)
    · rw [if_neg (b2i_f c8)] at h
      refine xj_iconst (z := 0) dX4_readFrom_25 (by decide) ?_
      cases h
      exact xj_ireturn dX4_readFrom_26 rfl (by decide) (by decide)
    · rw [if_pos (b2i_t c8)] at h
      refine xj_iconst (z := 1) dX4_readFrom_21 (by decide) ?_
      refine xj_goto (tgt := 26) dX4_readFrom_22 (by decide) ?_
      cases h
      exact xj_ireturn dX4_readFrom_26 rfl (by decide) (by decide)
