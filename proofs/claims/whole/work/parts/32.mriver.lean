theorem dX12_less_0 : decode cX12_less 0 = .ok (.iload_n 0, 1) := by decide +kernel
theorem dX12_less_1 : decode cX12_less 1 = .ok (.iload_n 1, 1) := by decide +kernel
theorem dX12_less_2 : decode cX12_less 2 = .ok (.if_icmp .ge 7, 3) := by decide +kernel
theorem dX12_less_5 : decode cX12_less 5 = .ok (.iload_n 0, 1) := by decide +kernel
theorem dX12_less_6 : decode cX12_less 6 = .ok (.goto 4, 3) := by decide +kernel
theorem dX12_less_9 : decode cX12_less 9 = .ok (.iload_n 1, 1) := by decide +kernel
theorem dX12_less_10 : decode cX12_less 10 = .ok (.ireturn, 1) := by decide +kernel
theorem dX12_more_0 : decode cX12_more 0 = .ok (.iload_n 0, 1) := by decide +kernel
theorem dX12_more_1 : decode cX12_more 1 = .ok (.iload_n 1, 1) := by decide +kernel
theorem dX12_more_2 : decode cX12_more 2 = .ok (.if_icmp .le 7, 3) := by decide +kernel
theorem dX12_more_5 : decode cX12_more 5 = .ok (.iload_n 0, 1) := by decide +kernel
theorem dX12_more_6 : decode cX12_more 6 = .ok (.goto 4, 3) := by decide +kernel
theorem dX12_more_9 : decode cX12_more 9 = .ok (.iload_n 1, 1) := by decide +kernel
theorem dX12_more_10 : decode cX12_more 10 = .ok (.ireturn, 1) := by decide +kernel
theorem dX12_by_0 : decode cX12_by 0 = .ok (.iload_n 0, 1) := by decide +kernel
theorem dX12_by_1 : decode cX12_by 1 = .ok (.tableswitch 96 2 7 #[39, 43, 47, 51, 73, 90], 39) := by decide +kernel
theorem dX12_by_40 : decode cX12_by 40 = .ok (.iload_n 1, 1) := by decide +kernel
theorem dX12_by_41 : decode cX12_by 41 = .ok (.iload_n 2, 1) := by decide +kernel
theorem dX12_by_42 : decode cX12_by 42 = .ok (.iadd, 1) := by decide +kernel
theorem dX12_by_43 : decode cX12_by 43 = .ok (.ireturn, 1) := by decide +kernel
theorem dX12_by_44 : decode cX12_by 44 = .ok (.iload_n 1, 1) := by decide +kernel
theorem dX12_by_45 : decode cX12_by 45 = .ok (.iload_n 2, 1) := by decide +kernel
theorem dX12_by_46 : decode cX12_by 46 = .ok (.isub, 1) := by decide +kernel
theorem dX12_by_47 : decode cX12_by 47 = .ok (.ireturn, 1) := by decide +kernel
theorem dX12_by_48 : decode cX12_by 48 = .ok (.iload_n 1, 1) := by decide +kernel
theorem dX12_by_49 : decode cX12_by 49 = .ok (.iload_n 2, 1) := by decide +kernel
theorem dX12_by_50 : decode cX12_by 50 = .ok (.imul, 1) := by decide +kernel
theorem dX12_by_51 : decode cX12_by 51 = .ok (.ireturn, 1) := by decide +kernel
theorem dX12_by_52 : decode cX12_by 52 = .ok (.iload_n 2, 1) := by decide +kernel
theorem dX12_by_53 : decode cX12_by 53 = .ok (.ifCond .ne 7, 3) := by decide +kernel
theorem dX12_by_56 : decode cX12_by 56 = .ok (.iconst 0, 1) := by decide +kernel
theorem dX12_by_57 : decode cX12_by 57 = .ok (.goto 16, 3) := by decide +kernel
theorem dX12_by_60 : decode cX12_by 60 = .ok (.iload_n 2, 1) := by decide +kernel
theorem dX12_by_61 : decode cX12_by 61 = .ok (.iconst (-1), 1) := by decide +kernel
theorem dX12_by_62 : decode cX12_by 62 = .ok (.if_icmp .ne 8, 3) := by decide +kernel
theorem dX12_by_65 : decode cX12_by 65 = .ok (.iload_n 1, 1) := by decide +kernel
theorem dX12_by_66 : decode cX12_by 66 = .ok (.ineg, 1) := by decide +kernel
theorem dX12_by_67 : decode cX12_by 67 = .ok (.goto 6, 3) := by decide +kernel
theorem dX12_by_70 : decode cX12_by 70 = .ok (.iload_n 1, 1) := by decide +kernel
theorem dX12_by_71 : decode cX12_by 71 = .ok (.iload_n 2, 1) := by decide +kernel
theorem dX12_by_72 : decode cX12_by 72 = .ok (.idiv, 1) := by decide +kernel
theorem dX12_by_73 : decode cX12_by 73 = .ok (.ireturn, 1) := by decide +kernel
theorem dX12_by_74 : decode cX12_by 74 = .ok (.iload_n 2, 1) := by decide +kernel
theorem dX12_by_75 : decode cX12_by 75 = .ok (.ifCond .eq 8, 3) := by decide +kernel
theorem dX12_by_78 : decode cX12_by 78 = .ok (.iload_n 2, 1) := by decide +kernel
theorem dX12_by_79 : decode cX12_by 79 = .ok (.iconst (-1), 1) := by decide +kernel
theorem dX12_by_80 : decode cX12_by 80 = .ok (.if_icmp .ne 7, 3) := by decide +kernel
theorem dX12_by_83 : decode cX12_by 83 = .ok (.iconst 0, 1) := by decide +kernel
theorem dX12_by_84 : decode cX12_by 84 = .ok (.goto 6, 3) := by decide +kernel
theorem dX12_by_87 : decode cX12_by 87 = .ok (.iload_n 1, 1) := by decide +kernel
theorem dX12_by_88 : decode cX12_by 88 = .ok (.iload_n 2, 1) := by decide +kernel
theorem dX12_by_89 : decode cX12_by 89 = .ok (.irem, 1) := by decide +kernel
theorem dX12_by_90 : decode cX12_by 90 = .ok (.ireturn, 1) := by decide +kernel
theorem dX12_by_91 : decode cX12_by 91 = .ok (.iload_n 1, 1) := by decide +kernel
theorem dX12_by_92 : decode cX12_by 92 = .ok (.iload_n 2, 1) := by decide +kernel
theorem dX12_by_93 : decode cX12_by 93 = .ok (.invokestatic 254, 3) := by decide +kernel
theorem dX12_by_96 : decode cX12_by 96 = .ok (.ireturn, 1) := by decide +kernel
theorem dX12_by_97 : decode cX12_by 97 = .ok (.iload_n 1, 1) := by decide +kernel
theorem dX12_by_98 : decode cX12_by 98 = .ok (.iload_n 2, 1) := by decide +kernel
theorem dX12_by_99 : decode cX12_by 99 = .ok (.invokestatic 257, 3) := by decide +kernel
theorem dX12_by_102 : decode cX12_by 102 = .ok (.ireturn, 1) := by decide +kernel
theorem dX12_byLaw_0 : decode cX12_byLaw 0 = .ok (.iconst 0, 1) := by decide +kernel
theorem dX12_byLaw_1 : decode cX12_byLaw 1 = .ok (.istore_n 1, 1) := by decide +kernel
theorem dX12_byLaw_2 : decode cX12_byLaw 2 = .ok (.aload_n 0, 1) := by decide +kernel
theorem dX12_byLaw_3 : decode cX12_byLaw 3 = .ok (.getfield 64, 3) := by decide +kernel
theorem dX12_byLaw_6 : decode cX12_byLaw 6 = .ok (.iconst 0, 1) := by decide +kernel
theorem dX12_byLaw_7 : decode cX12_byLaw 7 = .ok (.aload_n 0, 1) := by decide +kernel
theorem dX12_byLaw_8 : decode cX12_byLaw 8 = .ok (.getfield 67, 3) := by decide +kernel
theorem dX12_byLaw_11 : decode cX12_byLaw 11 = .ok (.iconst 0, 1) := by decide +kernel
theorem dX12_byLaw_12 : decode cX12_byLaw 12 = .ok (.iaload, 1) := by decide +kernel
theorem dX12_byLaw_13 : decode cX12_byLaw 13 = .ok (.iconst 3, 1) := by decide +kernel
theorem dX12_byLaw_14 : decode cX12_byLaw 14 = .ok (.aload_n 0, 1) := by decide +kernel
theorem dX12_byLaw_15 : decode cX12_byLaw 15 = .ok (.getfield 67, 3) := by decide +kernel
theorem dX12_byLaw_18 : decode cX12_byLaw 18 = .ok (.iconst 1, 1) := by decide +kernel
theorem dX12_byLaw_19 : decode cX12_byLaw 19 = .ok (.iaload, 1) := by decide +kernel
theorem dX12_byLaw_20 : decode cX12_byLaw 20 = .ok (.imul, 1) := by decide +kernel
theorem dX12_byLaw_21 : decode cX12_byLaw 21 = .ok (.iadd, 1) := by decide +kernel
theorem dX12_byLaw_22 : decode cX12_byLaw 22 = .ok (.aload_n 0, 1) := by decide +kernel
theorem dX12_byLaw_23 : decode cX12_byLaw 23 = .ok (.getfield 67, 3) := by decide +kernel
theorem dX12_byLaw_26 : decode cX12_byLaw 26 = .ok (.iconst 2, 1) := by decide +kernel
theorem dX12_byLaw_27 : decode cX12_byLaw 27 = .ok (.iaload, 1) := by decide +kernel
theorem dX12_byLaw_28 : decode cX12_byLaw 28 = .ok (.isub, 1) := by decide +kernel
theorem dX12_byLaw_29 : decode cX12_byLaw 29 = .ok (.iastore, 1) := by decide +kernel
theorem dX12_byLaw_30 : decode cX12_byLaw 30 = .ok (.iconst 0, 1) := by decide +kernel
theorem dX12_byLaw_31 : decode cX12_byLaw 31 = .ok (.istore_n 2, 1) := by decide +kernel
theorem dX12_byLaw_32 : decode cX12_byLaw 32 = .ok (.iload_n 2, 1) := by decide +kernel
theorem dX12_byLaw_33 : decode cX12_byLaw 33 = .ok (.aload_n 0, 1) := by decide +kernel
theorem dX12_byLaw_34 : decode cX12_byLaw 34 = .ok (.getfield 208, 3) := by decide +kernel
theorem dX12_byLaw_37 : decode cX12_byLaw 37 = .ok (.if_icmp .ge 104, 3) := by decide +kernel
theorem dX12_byLaw_40 : decode cX12_byLaw 40 = .ok (.aload_n 0, 1) := by decide +kernel
theorem dX12_byLaw_41 : decode cX12_byLaw 41 = .ok (.getfield 52, 3) := by decide +kernel
theorem dX12_byLaw_44 : decode cX12_byLaw 44 = .ok (.iload_n 2, 1) := by decide +kernel
theorem dX12_byLaw_45 : decode cX12_byLaw 45 = .ok (.aaload, 1) := by decide +kernel
theorem dX12_byLaw_46 : decode cX12_byLaw 46 = .ok (.iconst 0, 1) := by decide +kernel
theorem dX12_byLaw_47 : decode cX12_byLaw 47 = .ok (.iaload, 1) := by decide +kernel
theorem dX12_byLaw_48 : decode cX12_byLaw 48 = .ok (.iconst 2, 1) := by decide +kernel
theorem dX12_byLaw_49 : decode cX12_byLaw 49 = .ok (.if_icmp .ge 50, 3) := by decide +kernel
theorem dX12_byLaw_52 : decode cX12_byLaw 52 = .ok (.aload_n 0, 1) := by decide +kernel
theorem dX12_byLaw_53 : decode cX12_byLaw 53 = .ok (.getfield 64, 3) := by decide +kernel
theorem dX12_byLaw_56 : decode cX12_byLaw 56 = .ok (.iload_n 1, 1) := by decide +kernel
theorem dX12_byLaw_57 : decode cX12_byLaw 57 = .ok (.aload_n 0, 1) := by decide +kernel
theorem dX12_byLaw_58 : decode cX12_byLaw 58 = .ok (.getfield 52, 3) := by decide +kernel
theorem dX12_byLaw_61 : decode cX12_byLaw 61 = .ok (.iload_n 2, 1) := by decide +kernel
theorem dX12_byLaw_62 : decode cX12_byLaw 62 = .ok (.aaload, 1) := by decide +kernel
theorem dX12_byLaw_63 : decode cX12_byLaw 63 = .ok (.iconst 0, 1) := by decide +kernel
theorem dX12_byLaw_64 : decode cX12_byLaw 64 = .ok (.iaload, 1) := by decide +kernel
theorem dX12_byLaw_65 : decode cX12_byLaw 65 = .ok (.ifCond .ne 14, 3) := by decide +kernel
theorem dX12_byLaw_68 : decode cX12_byLaw 68 = .ok (.aload_n 0, 1) := by decide +kernel
theorem dX12_byLaw_69 : decode cX12_byLaw 69 = .ok (.getfield 52, 3) := by decide +kernel
theorem dX12_byLaw_72 : decode cX12_byLaw 72 = .ok (.iload_n 2, 1) := by decide +kernel
theorem dX12_byLaw_73 : decode cX12_byLaw 73 = .ok (.aaload, 1) := by decide +kernel
theorem dX12_byLaw_74 : decode cX12_byLaw 74 = .ok (.iconst 1, 1) := by decide +kernel
theorem dX12_byLaw_75 : decode cX12_byLaw 75 = .ok (.iaload, 1) := by decide +kernel
theorem dX12_byLaw_76 : decode cX12_byLaw 76 = .ok (.goto 16, 3) := by decide +kernel
theorem dX12_byLaw_79 : decode cX12_byLaw 79 = .ok (.aload_n 0, 1) := by decide +kernel
theorem dX12_byLaw_80 : decode cX12_byLaw 80 = .ok (.getfield 67, 3) := by decide +kernel
theorem dX12_byLaw_83 : decode cX12_byLaw 83 = .ok (.aload_n 0, 1) := by decide +kernel
theorem dX12_byLaw_84 : decode cX12_byLaw 84 = .ok (.getfield 52, 3) := by decide +kernel
theorem dX12_byLaw_87 : decode cX12_byLaw 87 = .ok (.iload_n 2, 1) := by decide +kernel
theorem dX12_byLaw_88 : decode cX12_byLaw 88 = .ok (.aaload, 1) := by decide +kernel
theorem dX12_byLaw_89 : decode cX12_byLaw 89 = .ok (.iconst 1, 1) := by decide +kernel
theorem dX12_byLaw_90 : decode cX12_byLaw 90 = .ok (.iaload, 1) := by decide +kernel
theorem dX12_byLaw_91 : decode cX12_byLaw 91 = .ok (.iaload, 1) := by decide +kernel
theorem dX12_byLaw_92 : decode cX12_byLaw 92 = .ok (.iastore, 1) := by decide +kernel
theorem dX12_byLaw_93 : decode cX12_byLaw 93 = .ok (.iinc 1 1, 3) := by decide +kernel
theorem dX12_byLaw_96 : decode cX12_byLaw 96 = .ok (.goto 39, 3) := by decide +kernel
theorem dX12_byLaw_99 : decode cX12_byLaw 99 = .ok (.iinc 1 (-1), 3) := by decide +kernel
theorem dX12_byLaw_102 : decode cX12_byLaw 102 = .ok (.aload_n 0, 1) := by decide +kernel
theorem dX12_byLaw_103 : decode cX12_byLaw 103 = .ok (.getfield 64, 3) := by decide +kernel
theorem dX12_byLaw_106 : decode cX12_byLaw 106 = .ok (.iload_n 1, 1) := by decide +kernel
theorem dX12_byLaw_107 : decode cX12_byLaw 107 = .ok (.iconst 1, 1) := by decide +kernel
theorem dX12_byLaw_108 : decode cX12_byLaw 108 = .ok (.isub, 1) := by decide +kernel
theorem dX12_byLaw_109 : decode cX12_byLaw 109 = .ok (.aload_n 0, 1) := by decide +kernel
theorem dX12_byLaw_110 : decode cX12_byLaw 110 = .ok (.getfield 52, 3) := by decide +kernel
theorem dX12_byLaw_113 : decode cX12_byLaw 113 = .ok (.iload_n 2, 1) := by decide +kernel
theorem dX12_byLaw_114 : decode cX12_byLaw 114 = .ok (.aaload, 1) := by decide +kernel
theorem dX12_byLaw_115 : decode cX12_byLaw 115 = .ok (.iconst 0, 1) := by decide +kernel
theorem dX12_byLaw_116 : decode cX12_byLaw 116 = .ok (.iaload, 1) := by decide +kernel
theorem dX12_byLaw_117 : decode cX12_byLaw 117 = .ok (.aload_n 0, 1) := by decide +kernel
theorem dX12_byLaw_118 : decode cX12_byLaw 118 = .ok (.getfield 64, 3) := by decide +kernel
theorem dX12_byLaw_121 : decode cX12_byLaw 121 = .ok (.iload_n 1, 1) := by decide +kernel
theorem dX12_byLaw_122 : decode cX12_byLaw 122 = .ok (.iconst 1, 1) := by decide +kernel
theorem dX12_byLaw_123 : decode cX12_byLaw 123 = .ok (.isub, 1) := by decide +kernel
theorem dX12_byLaw_124 : decode cX12_byLaw 124 = .ok (.iaload, 1) := by decide +kernel
theorem dX12_byLaw_125 : decode cX12_byLaw 125 = .ok (.aload_n 0, 1) := by decide +kernel
theorem dX12_byLaw_126 : decode cX12_byLaw 126 = .ok (.getfield 64, 3) := by decide +kernel
theorem dX12_byLaw_129 : decode cX12_byLaw 129 = .ok (.iload_n 1, 1) := by decide +kernel
theorem dX12_byLaw_130 : decode cX12_byLaw 130 = .ok (.iaload, 1) := by decide +kernel
theorem dX12_byLaw_131 : decode cX12_byLaw 131 = .ok (.invokestatic 260, 3) := by decide +kernel
theorem dX12_byLaw_134 : decode cX12_byLaw 134 = .ok (.iastore, 1) := by decide +kernel
theorem dX12_byLaw_135 : decode cX12_byLaw 135 = .ok (.iinc 2 1, 3) := by decide +kernel
theorem dX12_byLaw_138 : decode cX12_byLaw 138 = .ok (.goto (-106), 3) := by decide +kernel
theorem dX12_byLaw_141 : decode cX12_byLaw 141 = .ok (.bipush 99, 2) := by decide +kernel
theorem dX12_byLaw_143 : decode cX12_byLaw 143 = .ok (.bipush (-99), 2) := by decide +kernel
theorem dX12_byLaw_145 : decode cX12_byLaw 145 = .ok (.aload_n 0, 1) := by decide +kernel
theorem dX12_byLaw_146 : decode cX12_byLaw 146 = .ok (.getfield 64, 3) := by decide +kernel
theorem dX12_byLaw_149 : decode cX12_byLaw 149 = .ok (.iconst 0, 1) := by decide +kernel
theorem dX12_byLaw_150 : decode cX12_byLaw 150 = .ok (.iaload, 1) := by decide +kernel
theorem dX12_byLaw_151 : decode cX12_byLaw 151 = .ok (.invokestatic 257, 3) := by decide +kernel
theorem dX12_byLaw_154 : decode cX12_byLaw 154 = .ok (.invokestatic 254, 3) := by decide +kernel
theorem dX12_byLaw_157 : decode cX12_byLaw 157 = .ok (.ireturn, 1) := by decide +kernel
theorem dX12_drawBy_0 : decode cX12_drawBy 0 = .ok (.aload_n 0, 1) := by decide +kernel
theorem dX12_drawBy_1 : decode cX12_drawBy 1 = .ok (.getfield 67, 3) := by decide +kernel
theorem dX12_drawBy_4 : decode cX12_drawBy 4 = .ok (.iconst 0, 1) := by decide +kernel
theorem dX12_drawBy_5 : decode cX12_drawBy 5 = .ok (.iload_n 1, 1) := by decide +kernel
theorem dX12_drawBy_6 : decode cX12_drawBy 6 = .ok (.iastore, 1) := by decide +kernel
theorem dX12_drawBy_7 : decode cX12_drawBy 7 = .ok (.aload_n 0, 1) := by decide +kernel
theorem dX12_drawBy_8 : decode cX12_drawBy 8 = .ok (.getfield 67, 3) := by decide +kernel
theorem dX12_drawBy_11 : decode cX12_drawBy 11 = .ok (.iconst 1, 1) := by decide +kernel
theorem dX12_drawBy_12 : decode cX12_drawBy 12 = .ok (.iload_n 2, 1) := by decide +kernel
theorem dX12_drawBy_13 : decode cX12_drawBy 13 = .ok (.iastore, 1) := by decide +kernel
theorem dX12_drawBy_14 : decode cX12_drawBy 14 = .ok (.aload_n 0, 1) := by decide +kernel
theorem dX12_drawBy_15 : decode cX12_drawBy 15 = .ok (.getfield 67, 3) := by decide +kernel
theorem dX12_drawBy_18 : decode cX12_drawBy 18 = .ok (.iconst 2, 1) := by decide +kernel
theorem dX12_drawBy_19 : decode cX12_drawBy 19 = .ok (.iload_n 3, 1) := by decide +kernel
theorem dX12_drawBy_20 : decode cX12_drawBy 20 = .ok (.iastore, 1) := by decide +kernel
theorem dX12_drawBy_21 : decode cX12_drawBy 21 = .ok (.aload_n 0, 1) := by decide +kernel
theorem dX12_drawBy_22 : decode cX12_drawBy 22 = .ok (.getfield 67, 3) := by decide +kernel
theorem dX12_drawBy_25 : decode cX12_drawBy 25 = .ok (.iconst 3, 1) := by decide +kernel
theorem dX12_drawBy_26 : decode cX12_drawBy 26 = .ok (.iload 4, 2) := by decide +kernel
theorem dX12_drawBy_28 : decode cX12_drawBy 28 = .ok (.iastore, 1) := by decide +kernel
theorem dX12_drawBy_29 : decode cX12_drawBy 29 = .ok (.aload_n 0, 1) := by decide +kernel
theorem dX12_drawBy_30 : decode cX12_drawBy 30 = .ok (.getfield 67, 3) := by decide +kernel
theorem dX12_drawBy_33 : decode cX12_drawBy 33 = .ok (.iconst 4, 1) := by decide +kernel
theorem dX12_drawBy_34 : decode cX12_drawBy 34 = .ok (.iload 5, 2) := by decide +kernel
theorem dX12_drawBy_36 : decode cX12_drawBy 36 = .ok (.iastore, 1) := by decide +kernel
theorem dX12_drawBy_37 : decode cX12_drawBy 37 = .ok (.aload_n 0, 1) := by decide +kernel
theorem dX12_drawBy_38 : decode cX12_drawBy 38 = .ok (.getfield 67, 3) := by decide +kernel
theorem dX12_drawBy_41 : decode cX12_drawBy 41 = .ok (.iconst 5, 1) := by decide +kernel
theorem dX12_drawBy_42 : decode cX12_drawBy 42 = .ok (.iload 6, 2) := by decide +kernel
theorem dX12_drawBy_44 : decode cX12_drawBy 44 = .ok (.iastore, 1) := by decide +kernel
theorem dX12_drawBy_45 : decode cX12_drawBy 45 = .ok (.aload_n 0, 1) := by decide +kernel
theorem dX12_drawBy_46 : decode cX12_drawBy 46 = .ok (.getfield 67, 3) := by decide +kernel
theorem dX12_drawBy_49 : decode cX12_drawBy 49 = .ok (.bipush 6, 2) := by decide +kernel
theorem dX12_drawBy_51 : decode cX12_drawBy 51 = .ok (.iload 7, 2) := by decide +kernel
theorem dX12_drawBy_53 : decode cX12_drawBy 53 = .ok (.iastore, 1) := by decide +kernel
theorem dX12_drawBy_54 : decode cX12_drawBy 54 = .ok (.aload_n 0, 1) := by decide +kernel
theorem dX12_drawBy_55 : decode cX12_drawBy 55 = .ok (.getfield 67, 3) := by decide +kernel
theorem dX12_drawBy_58 : decode cX12_drawBy 58 = .ok (.bipush 7, 2) := by decide +kernel
theorem dX12_drawBy_60 : decode cX12_drawBy 60 = .ok (.iload 8, 2) := by decide +kernel
theorem dX12_drawBy_62 : decode cX12_drawBy 62 = .ok (.iastore, 1) := by decide +kernel
theorem dX12_drawBy_63 : decode cX12_drawBy 63 = .ok (.aload_n 0, 1) := by decide +kernel
theorem dX12_drawBy_64 : decode cX12_drawBy 64 = .ok (.getfield 67, 3) := by decide +kernel
theorem dX12_drawBy_67 : decode cX12_drawBy 67 = .ok (.bipush 8, 2) := by decide +kernel
theorem dX12_drawBy_69 : decode cX12_drawBy 69 = .ok (.iload 9, 2) := by decide +kernel
theorem dX12_drawBy_71 : decode cX12_drawBy 71 = .ok (.iastore, 1) := by decide +kernel
theorem dX12_drawBy_72 : decode cX12_drawBy 72 = .ok (.aload_n 0, 1) := by decide +kernel
theorem dX12_drawBy_73 : decode cX12_drawBy 73 = .ok (.invokevirtual 286, 3) := by decide +kernel
theorem dX12_drawBy_76 : decode cX12_drawBy 76 = .ok (.ireturn, 1) := by decide +kernel
theorem dX12_drawWith_0 : decode cX12_drawWith 0 = .ok (.iload 5, 2) := by decide +kernel
theorem dX12_drawWith_2 : decode cX12_drawWith 2 = .ok (.istore 8, 2) := by decide +kernel
theorem dX12_drawWith_4 : decode cX12_drawWith 4 = .ok (.iload 6, 2) := by decide +kernel
theorem dX12_drawWith_6 : decode cX12_drawWith 6 = .ok (.istore 9, 2) := by decide +kernel
theorem dX12_drawWith_8 : decode cX12_drawWith 8 = .ok (.iconst 0, 1) := by decide +kernel
theorem dX12_drawWith_9 : decode cX12_drawWith 9 = .ok (.istore 10, 2) := by decide +kernel
theorem dX12_drawWith_11 : decode cX12_drawWith 11 = .ok (.iconst 0, 1) := by decide +kernel
theorem dX12_drawWith_12 : decode cX12_drawWith 12 = .ok (.istore 11, 2) := by decide +kernel
theorem dX12_drawWith_14 : decode cX12_drawWith 14 = .ok (.iload 11, 2) := by decide +kernel
theorem dX12_drawWith_16 : decode cX12_drawWith 16 = .ok (.aload_n 0, 1) := by decide +kernel
theorem dX12_drawWith_17 : decode cX12_drawWith 17 = .ok (.getfield 23, 3) := by decide +kernel
theorem dX12_drawWith_20 : decode cX12_drawWith 20 = .ok (.iconst 2, 1) := by decide +kernel
theorem dX12_drawWith_21 : decode cX12_drawWith 21 = .ok (.iaload, 1) := by decide +kernel
theorem dX12_drawWith_22 : decode cX12_drawWith 22 = .ok (.if_icmp .ge 111, 3) := by decide +kernel
theorem dX12_drawWith_25 : decode cX12_drawWith 25 = .ok (.aload_n 1, 1) := by decide +kernel
theorem dX12_drawWith_26 : decode cX12_drawWith 26 = .ok (.iconst 0, 1) := by decide +kernel
theorem dX12_drawWith_27 : decode cX12_drawWith 27 = .ok (.bipush 12, 2) := by decide +kernel
theorem dX12_drawWith_29 : decode cX12_drawWith 29 = .ok (.iload 11, 2) := by decide +kernel
theorem dX12_drawWith_31 : decode cX12_drawWith 31 = .ok (.imul, 1) := by decide +kernel
theorem dX12_drawWith_32 : decode cX12_drawWith 32 = .ok (.iadd, 1) := by decide +kernel
theorem dX12_drawWith_33 : decode cX12_drawWith 33 = .ok (.iload_n 3, 1) := by decide +kernel
theorem dX12_drawWith_34 : decode cX12_drawWith 34 = .ok (.iadd, 1) := by decide +kernel
theorem dX12_drawWith_35 : decode cX12_drawWith 35 = .ok (.iaload, 1) := by decide +kernel
theorem dX12_drawWith_36 : decode cX12_drawWith 36 = .ok (.istore 12, 2) := by decide +kernel
theorem dX12_drawWith_38 : decode cX12_drawWith 38 = .ok (.iload 8, 2) := by decide +kernel
theorem dX12_drawWith_40 : decode cX12_drawWith 40 = .ok (.iload 12, 2) := by decide +kernel
theorem dX12_drawWith_42 : decode cX12_drawWith 42 = .ok (.iload 4, 2) := by decide +kernel
theorem dX12_drawWith_44 : decode cX12_drawWith 44 = .ok (.if_icmp .ne 15, 3) := by decide +kernel
theorem dX12_drawWith_47 : decode cX12_drawWith 47 = .ok (.aload_n 0, 1) := by decide +kernel
theorem dX12_drawWith_48 : decode cX12_drawWith 48 = .ok (.getfield 43, 3) := by decide +kernel
theorem dX12_drawWith_51 : decode cX12_drawWith 51 = .ok (.iload 11, 2) := by decide +kernel
theorem dX12_drawWith_53 : decode cX12_drawWith 53 = .ok (.aaload, 1) := by decide +kernel
theorem dX12_drawWith_54 : decode cX12_drawWith 54 = .ok (.iconst 0, 1) := by decide +kernel
theorem dX12_drawWith_55 : decode cX12_drawWith 55 = .ok (.iaload, 1) := by decide +kernel
theorem dX12_drawWith_56 : decode cX12_drawWith 56 = .ok (.goto 4, 3) := by decide +kernel
theorem dX12_drawWith_59 : decode cX12_drawWith 59 = .ok (.iconst 0, 1) := by decide +kernel
theorem dX12_drawWith_60 : decode cX12_drawWith 60 = .ok (.iadd, 1) := by decide +kernel
theorem dX12_drawWith_61 : decode cX12_drawWith 61 = .ok (.istore 8, 2) := by decide +kernel
theorem dX12_drawWith_63 : decode cX12_drawWith 63 = .ok (.iload 9, 2) := by decide +kernel
theorem dX12_drawWith_65 : decode cX12_drawWith 65 = .ok (.iload 12, 2) := by decide +kernel
theorem dX12_drawWith_67 : decode cX12_drawWith 67 = .ok (.iconst (-1), 1) := by decide +kernel
theorem dX12_drawWith_68 : decode cX12_drawWith 68 = .ok (.if_icmp .eq 22, 3) := by decide +kernel
theorem dX12_drawWith_71 : decode cX12_drawWith 71 = .ok (.iload 12, 2) := by decide +kernel
theorem dX12_drawWith_73 : decode cX12_drawWith 73 = .ok (.iload 4, 2) := by decide +kernel
theorem dX12_drawWith_75 : decode cX12_drawWith 75 = .ok (.if_icmp .eq 15, 3) := by decide +kernel
theorem dX12_drawWith_78 : decode cX12_drawWith 78 = .ok (.aload_n 0, 1) := by decide +kernel
theorem dX12_drawWith_79 : decode cX12_drawWith 79 = .ok (.getfield 43, 3) := by decide +kernel
theorem dX12_drawWith_82 : decode cX12_drawWith 82 = .ok (.iload 11, 2) := by decide +kernel
theorem dX12_drawWith_84 : decode cX12_drawWith 84 = .ok (.aaload, 1) := by decide +kernel
theorem dX12_drawWith_85 : decode cX12_drawWith 85 = .ok (.iconst 0, 1) := by decide +kernel
theorem dX12_drawWith_86 : decode cX12_drawWith 86 = .ok (.iaload, 1) := by decide +kernel
theorem dX12_drawWith_87 : decode cX12_drawWith 87 = .ok (.goto 4, 3) := by decide +kernel
theorem dX12_drawWith_90 : decode cX12_drawWith 90 = .ok (.iconst 0, 1) := by decide +kernel
theorem dX12_drawWith_91 : decode cX12_drawWith 91 = .ok (.iadd, 1) := by decide +kernel
theorem dX12_drawWith_92 : decode cX12_drawWith 92 = .ok (.istore 9, 2) := by decide +kernel
theorem dX12_drawWith_94 : decode cX12_drawWith 94 = .ok (.iload 10, 2) := by decide +kernel
theorem dX12_drawWith_96 : decode cX12_drawWith 96 = .ok (.aload_n 1, 1) := by decide +kernel
theorem dX12_drawWith_97 : decode cX12_drawWith 97 = .ok (.bipush 72, 2) := by decide +kernel
theorem dX12_drawWith_99 : decode cX12_drawWith 99 = .ok (.iload 11, 2) := by decide +kernel
theorem dX12_drawWith_101 : decode cX12_drawWith 101 = .ok (.iadd, 1) := by decide +kernel
theorem dX12_drawWith_102 : decode cX12_drawWith 102 = .ok (.iaload, 1) := by decide +kernel
theorem dX12_drawWith_103 : decode cX12_drawWith 103 = .ok (.iload_n 3, 1) := by decide +kernel
theorem dX12_drawWith_104 : decode cX12_drawWith 104 = .ok (.if_icmp .eq 15, 3) := by decide +kernel
theorem dX12_drawWith_107 : decode cX12_drawWith 107 = .ok (.aload_n 1, 1) := by decide +kernel
theorem dX12_drawWith_108 : decode cX12_drawWith 108 = .ok (.bipush 72, 2) := by decide +kernel
theorem dX12_drawWith_110 : decode cX12_drawWith 110 = .ok (.iload 11, 2) := by decide +kernel
theorem dX12_drawWith_112 : decode cX12_drawWith 112 = .ok (.iadd, 1) := by decide +kernel
theorem dX12_drawWith_113 : decode cX12_drawWith 113 = .ok (.iaload, 1) := by decide +kernel
theorem dX12_drawWith_114 : decode cX12_drawWith 114 = .ok (.iload 4, 2) := by decide +kernel
theorem dX12_drawWith_116 : decode cX12_drawWith 116 = .ok (.if_icmp .ne 7, 3) := by decide +kernel
theorem dX12_drawWith_119 : decode cX12_drawWith 119 = .ok (.iconst 1, 1) := by decide +kernel
theorem dX12_drawWith_120 : decode cX12_drawWith 120 = .ok (.goto 4, 3) := by decide +kernel
theorem dX12_drawWith_123 : decode cX12_drawWith 123 = .ok (.iconst 0, 1) := by decide +kernel
theorem dX12_drawWith_124 : decode cX12_drawWith 124 = .ok (.iadd, 1) := by decide +kernel
theorem dX12_drawWith_125 : decode cX12_drawWith 125 = .ok (.istore 10, 2) := by decide +kernel
theorem dX12_drawWith_127 : decode cX12_drawWith 127 = .ok (.iinc 11 1, 3) := by decide +kernel
theorem dX12_drawWith_130 : decode cX12_drawWith 130 = .ok (.goto (-116), 3) := by decide +kernel
theorem dX12_drawWith_133 : decode cX12_drawWith 133 = .ok (.aload_n 0, 1) := by decide +kernel
theorem dX12_drawWith_134 : decode cX12_drawWith 134 = .ok (.aload_n 0, 1) := by decide +kernel
theorem dX12_drawWith_135 : decode cX12_drawWith 135 = .ok (.getfield 29, 3) := by decide +kernel
theorem dX12_drawWith_138 : decode cX12_drawWith 138 = .ok (.iload_n 3, 1) := by decide +kernel
theorem dX12_drawWith_139 : decode cX12_drawWith 139 = .ok (.iaload, 1) := by decide +kernel
theorem dX12_drawWith_140 : decode cX12_drawWith 140 = .ok (.aload_n 0, 1) := by decide +kernel
theorem dX12_drawWith_141 : decode cX12_drawWith 141 = .ok (.getfield 29, 3) := by decide +kernel
theorem dX12_drawWith_144 : decode cX12_drawWith 144 = .ok (.iload 4, 2) := by decide +kernel
theorem dX12_drawWith_146 : decode cX12_drawWith 146 = .ok (.iaload, 1) := by decide +kernel
theorem dX12_drawWith_147 : decode cX12_drawWith 147 = .ok (.isub, 1) := by decide +kernel
theorem dX12_drawWith_148 : decode cX12_drawWith 148 = .ok (.iload 8, 2) := by decide +kernel
theorem dX12_drawWith_150 : decode cX12_drawWith 150 = .ok (.iload 9, 2) := by decide +kernel
theorem dX12_drawWith_152 : decode cX12_drawWith 152 = .ok (.iload 10, 2) := by decide +kernel
theorem dX12_drawWith_154 : decode cX12_drawWith 154 = .ok (.aload_n 1, 1) := by decide +kernel
theorem dX12_drawWith_155 : decode cX12_drawWith 155 = .ok (.bipush 78, 2) := by decide +kernel
theorem dX12_drawWith_157 : decode cX12_drawWith 157 = .ok (.iload_n 2, 1) := by decide +kernel
theorem dX12_drawWith_158 : decode cX12_drawWith 158 = .ok (.iadd, 1) := by decide +kernel
theorem dX12_drawWith_159 : decode cX12_drawWith 159 = .ok (.iaload, 1) := by decide +kernel
theorem dX12_drawWith_160 : decode cX12_drawWith 160 = .ok (.iload 7, 2) := by decide +kernel
theorem dX12_drawWith_162 : decode cX12_drawWith 162 = .ok (.iadd, 1) := by decide +kernel
theorem dX12_drawWith_163 : decode cX12_drawWith 163 = .ok (.aload_n 1, 1) := by decide +kernel
theorem dX12_drawWith_164 : decode cX12_drawWith 164 = .ok (.bipush 94, 2) := by decide +kernel
theorem dX12_drawWith_166 : decode cX12_drawWith 166 = .ok (.iload_n 2, 1) := by decide +kernel
theorem dX12_drawWith_167 : decode cX12_drawWith 167 = .ok (.iadd, 1) := by decide +kernel
theorem dX12_drawWith_168 : decode cX12_drawWith 168 = .ok (.iaload, 1) := by decide +kernel
theorem dX12_drawWith_169 : decode cX12_drawWith 169 = .ok (.aload_n 1, 1) := by decide +kernel
theorem dX12_drawWith_170 : decode cX12_drawWith 170 = .ok (.bipush 110, 2) := by decide +kernel
theorem dX12_drawWith_172 : decode cX12_drawWith 172 = .ok (.iaload, 1) := by decide +kernel
theorem dX12_drawWith_173 : decode cX12_drawWith 173 = .ok (.iload_n 3, 1) := by decide +kernel
theorem dX12_drawWith_174 : decode cX12_drawWith 174 = .ok (.iload 4, 2) := by decide +kernel
theorem dX12_drawWith_176 : decode cX12_drawWith 176 = .ok (.invokevirtual 289, 3) := by decide +kernel
theorem dX12_drawWith_179 : decode cX12_drawWith 179 = .ok (.ireturn, 1) := by decide +kernel
theorem dX12_nextWith_0 : decode cX12_nextWith 0 = .ok (.iconst (-1), 1) := by decide +kernel
theorem dX12_nextWith_1 : decode cX12_nextWith 1 = .ok (.istore 5, 2) := by decide +kernel
theorem dX12_nextWith_3 : decode cX12_nextWith 3 = .ok (.iconst 0, 1) := by decide +kernel
theorem dX12_nextWith_4 : decode cX12_nextWith 4 = .ok (.istore 6, 2) := by decide +kernel
theorem dX12_nextWith_6 : decode cX12_nextWith 6 = .ok (.iconst 0, 1) := by decide +kernel
theorem dX12_nextWith_7 : decode cX12_nextWith 7 = .ok (.istore 7, 2) := by decide +kernel
theorem dX12_nextWith_9 : decode cX12_nextWith 9 = .ok (.iload 7, 2) := by decide +kernel
theorem dX12_nextWith_11 : decode cX12_nextWith 11 = .ok (.aload_n 0, 1) := by decide +kernel
theorem dX12_nextWith_12 : decode cX12_nextWith 12 = .ok (.getfield 23, 3) := by decide +kernel
theorem dX12_nextWith_15 : decode cX12_nextWith 15 = .ok (.iconst 0, 1) := by decide +kernel
theorem dX12_nextWith_16 : decode cX12_nextWith 16 = .ok (.iaload, 1) := by decide +kernel
theorem dX12_nextWith_17 : decode cX12_nextWith 17 = .ok (.if_icmp .ge 71, 3) := by decide +kernel
theorem dX12_nextWith_20 : decode cX12_nextWith 20 = .ok (.aload_n 0, 1) := by decide +kernel
theorem dX12_nextWith_21 : decode cX12_nextWith 21 = .ok (.iload_n 2, 1) := by decide +kernel
theorem dX12_nextWith_22 : decode cX12_nextWith 22 = .ok (.iload 7, 2) := by decide +kernel
theorem dX12_nextWith_24 : decode cX12_nextWith 24 = .ok (.invokevirtual 267, 3) := by decide +kernel
theorem dX12_nextWith_27 : decode cX12_nextWith 27 = .ok (.istore 8, 2) := by decide +kernel
theorem dX12_nextWith_29 : decode cX12_nextWith 29 = .ok (.iload 8, 2) := by decide +kernel
theorem dX12_nextWith_31 : decode cX12_nextWith 31 = .ok (.iconst (-1), 1) := by decide +kernel
theorem dX12_nextWith_32 : decode cX12_nextWith 32 = .ok (.if_icmp .ne 6, 3) := by decide +kernel
theorem dX12_nextWith_35 : decode cX12_nextWith 35 = .ok (.goto 47, 3) := by decide +kernel
theorem dX12_nextWith_38 : decode cX12_nextWith 38 = .ok (.aload_n 0, 1) := by decide +kernel
theorem dX12_nextWith_39 : decode cX12_nextWith 39 = .ok (.aload_n 1, 1) := by decide +kernel
theorem dX12_nextWith_40 : decode cX12_nextWith 40 = .ok (.iload 8, 2) := by decide +kernel
theorem dX12_nextWith_42 : decode cX12_nextWith 42 = .ok (.iload_n 2, 1) := by decide +kernel
theorem dX12_nextWith_43 : decode cX12_nextWith 43 = .ok (.iload 7, 2) := by decide +kernel
theorem dX12_nextWith_45 : decode cX12_nextWith 45 = .ok (.iconst 0, 1) := by decide +kernel
theorem dX12_nextWith_46 : decode cX12_nextWith 46 = .ok (.iconst 0, 1) := by decide +kernel
theorem dX12_nextWith_47 : decode cX12_nextWith 47 = .ok (.iload 8, 2) := by decide +kernel
theorem dX12_nextWith_49 : decode cX12_nextWith 49 = .ok (.iload_n 3, 1) := by decide +kernel
theorem dX12_nextWith_50 : decode cX12_nextWith 50 = .ok (.if_icmp .ne 8, 3) := by decide +kernel
theorem dX12_nextWith_53 : decode cX12_nextWith 53 = .ok (.iload 4, 2) := by decide +kernel
theorem dX12_nextWith_55 : decode cX12_nextWith 55 = .ok (.goto 4, 3) := by decide +kernel
theorem dX12_nextWith_58 : decode cX12_nextWith 58 = .ok (.iconst 0, 1) := by decide +kernel
theorem dX12_nextWith_59 : decode cX12_nextWith 59 = .ok (.invokevirtual 293, 3) := by decide +kernel
theorem dX12_nextWith_62 : decode cX12_nextWith 62 = .ok (.istore 9, 2) := by decide +kernel
theorem dX12_nextWith_64 : decode cX12_nextWith 64 = .ok (.iload 9, 2) := by decide +kernel
theorem dX12_nextWith_66 : decode cX12_nextWith 66 = .ok (.iload 6, 2) := by decide +kernel
theorem dX12_nextWith_68 : decode cX12_nextWith 68 = .ok (.if_icmp .gt 6, 3) := by decide +kernel
theorem dX12_nextWith_71 : decode cX12_nextWith 71 = .ok (.goto 11, 3) := by decide +kernel
theorem dX12_nextWith_74 : decode cX12_nextWith 74 = .ok (.iload 7, 2) := by decide +kernel
theorem dX12_nextWith_76 : decode cX12_nextWith 76 = .ok (.istore 5, 2) := by decide +kernel
theorem dX12_nextWith_78 : decode cX12_nextWith 78 = .ok (.iload 9, 2) := by decide +kernel
theorem dX12_nextWith_80 : decode cX12_nextWith 80 = .ok (.istore 6, 2) := by decide +kernel
theorem dX12_nextWith_82 : decode cX12_nextWith 82 = .ok (.iinc 7 1, 3) := by decide +kernel
theorem dX12_nextWith_85 : decode cX12_nextWith 85 = .ok (.goto (-76), 3) := by decide +kernel
theorem dX12_nextWith_88 : decode cX12_nextWith 88 = .ok (.iload 5, 2) := by decide +kernel
theorem dX12_nextWith_90 : decode cX12_nextWith 90 = .ok (.ireturn, 1) := by decide +kernel
theorem dX12_nextOf_0 : decode cX12_nextOf 0 = .ok (.aload_n 0, 1) := by decide +kernel
theorem dX12_nextOf_1 : decode cX12_nextOf 1 = .ok (.aload_n 1, 1) := by decide +kernel
theorem dX12_nextOf_2 : decode cX12_nextOf 2 = .ok (.iload_n 2, 1) := by decide +kernel
theorem dX12_nextOf_3 : decode cX12_nextOf 3 = .ok (.iconst (-1), 1) := by decide +kernel
theorem dX12_nextOf_4 : decode cX12_nextOf 4 = .ok (.iconst 0, 1) := by decide +kernel
theorem dX12_nextOf_5 : decode cX12_nextOf 5 = .ok (.invokevirtual 297, 3) := by decide +kernel
theorem dX12_nextOf_8 : decode cX12_nextOf 8 = .ok (.ireturn, 1) := by decide +kernel
theorem dX12_laysNext_0 : decode cX12_laysNext 0 = .ok (.iconst 0, 1) := by decide +kernel
theorem dX12_laysNext_1 : decode cX12_laysNext 1 = .ok (.istore_n 2, 1) := by decide +kernel
theorem dX12_laysNext_2 : decode cX12_laysNext 2 = .ok (.iload_n 2, 1) := by decide +kernel
theorem dX12_laysNext_3 : decode cX12_laysNext 3 = .ok (.aload_n 0, 1) := by decide +kernel
theorem dX12_laysNext_4 : decode cX12_laysNext 4 = .ok (.getfield 23, 3) := by decide +kernel
theorem dX12_laysNext_7 : decode cX12_laysNext 7 = .ok (.iconst 0, 1) := by decide +kernel
theorem dX12_laysNext_8 : decode cX12_laysNext 8 = .ok (.iaload, 1) := by decide +kernel
theorem dX12_laysNext_9 : decode cX12_laysNext 9 = .ok (.if_icmp .ge 21, 3) := by decide +kernel
theorem dX12_laysNext_12 : decode cX12_laysNext 12 = .ok (.aload_n 0, 1) := by decide +kernel
theorem dX12_laysNext_13 : decode cX12_laysNext 13 = .ok (.getfield 85, 3) := by decide +kernel
theorem dX12_laysNext_16 : decode cX12_laysNext 16 = .ok (.iload_n 2, 1) := by decide +kernel
theorem dX12_laysNext_17 : decode cX12_laysNext 17 = .ok (.aload_n 0, 1) := by decide +kernel
theorem dX12_laysNext_18 : decode cX12_laysNext 18 = .ok (.aload_n 1, 1) := by decide +kernel
theorem dX12_laysNext_19 : decode cX12_laysNext 19 = .ok (.iload_n 2, 1) := by decide +kernel
theorem dX12_laysNext_20 : decode cX12_laysNext 20 = .ok (.invokevirtual 301, 3) := by decide +kernel
theorem dX12_laysNext_23 : decode cX12_laysNext 23 = .ok (.iastore, 1) := by decide +kernel
theorem dX12_laysNext_24 : decode cX12_laysNext 24 = .ok (.iinc 2 1, 3) := by decide +kernel
theorem dX12_laysNext_27 : decode cX12_laysNext 27 = .ok (.goto (-25), 3) := by decide +kernel
theorem dX12_laysNext_30 : decode cX12_laysNext 30 = .ok (.return_, 1) := by decide +kernel
theorem dX12_has_0 : decode cX12_has 0 = .ok (.iload_n 0, 1) := by decide +kernel
theorem dX12_has_1 : decode cX12_has 1 = .ok (.iload_n 1, 1) := by decide +kernel
theorem dX12_has_2 : decode cX12_has 2 = .ok (.ishr, 1) := by decide +kernel
theorem dX12_has_3 : decode cX12_has 3 = .ok (.iconst 1, 1) := by decide +kernel
theorem dX12_has_4 : decode cX12_has 4 = .ok (.iand, 1) := by decide +kernel
theorem dX12_has_5 : decode cX12_has 5 = .ok (.iconst 1, 1) := by decide +kernel
theorem dX12_has_6 : decode cX12_has 6 = .ok (.if_icmp .ne 7, 3) := by decide +kernel
theorem dX12_has_9 : decode cX12_has 9 = .ok (.iconst 1, 1) := by decide +kernel
theorem dX12_has_10 : decode cX12_has 10 = .ok (.goto 4, 3) := by decide +kernel
theorem dX12_has_13 : decode cX12_has 13 = .ok (.iconst 0, 1) := by decide +kernel
theorem dX12_has_14 : decode cX12_has 14 = .ok (.ireturn, 1) := by decide +kernel
theorem dX12_courseBits_0 : decode cX12_courseBits 0 = .ok (.iconst 0, 1) := by decide +kernel
theorem dX12_courseBits_1 : decode cX12_courseBits 1 = .ok (.istore_n 1, 1) := by decide +kernel
theorem dX12_courseBits_2 : decode cX12_courseBits 2 = .ok (.aload_n 0, 1) := by decide +kernel
theorem dX12_courseBits_3 : decode cX12_courseBits 3 = .ok (.getfield 23, 3) := by decide +kernel
theorem dX12_courseBits_6 : decode cX12_courseBits 6 = .ok (.iconst 0, 1) := by decide +kernel
theorem dX12_courseBits_7 : decode cX12_courseBits 7 = .ok (.iaload, 1) := by decide +kernel
theorem dX12_courseBits_8 : decode cX12_courseBits 8 = .ok (.ifCond .ne 7, 3) := by decide +kernel
theorem dX12_courseBits_11 : decode cX12_courseBits 11 = .ok (.iconst (-1), 1) := by decide +kernel
theorem dX12_courseBits_12 : decode cX12_courseBits 12 = .ok (.goto 9, 3) := by decide +kernel
theorem dX12_courseBits_15 : decode cX12_courseBits 15 = .ok (.aload_n 0, 1) := by decide +kernel
theorem dX12_courseBits_16 : decode cX12_courseBits 16 = .ok (.getfield 23, 3) := by decide +kernel
theorem dX12_courseBits_19 : decode cX12_courseBits 19 = .ok (.iconst 3, 1) := by decide +kernel
theorem dX12_courseBits_20 : decode cX12_courseBits 20 = .ok (.iaload, 1) := by decide +kernel
theorem dX12_courseBits_21 : decode cX12_courseBits 21 = .ok (.istore_n 2, 1) := by decide +kernel
theorem dX12_courseBits_22 : decode cX12_courseBits 22 = .ok (.aload_n 0, 1) := by decide +kernel
theorem dX12_courseBits_23 : decode cX12_courseBits 23 = .ok (.iconst 0, 1) := by decide +kernel
theorem dX12_courseBits_24 : decode cX12_courseBits 24 = .ok (.putfield 305, 3) := by decide +kernel
theorem dX12_courseBits_27 : decode cX12_courseBits 27 = .ok (.iload_n 2, 1) := by decide +kernel
theorem dX12_courseBits_28 : decode cX12_courseBits 28 = .ok (.iconst (-1), 1) := by decide +kernel
theorem dX12_courseBits_29 : decode cX12_courseBits 29 = .ok (.if_icmp .eq 47, 3) := by decide +kernel
theorem dX12_courseBits_32 : decode cX12_courseBits 32 = .ok (.iload_n 1, 1) := by decide +kernel
theorem dX12_courseBits_33 : decode cX12_courseBits 33 = .ok (.iload_n 2, 1) := by decide +kernel
theorem dX12_courseBits_34 : decode cX12_courseBits 34 = .ok (.invokestatic 282, 3) := by decide +kernel
theorem dX12_courseBits_37 : decode cX12_courseBits 37 = .ok (.ifCond .ne 39, 3) := by decide +kernel
theorem dX12_courseBits_40 : decode cX12_courseBits 40 = .ok (.iload_n 1, 1) := by decide +kernel
theorem dX12_courseBits_41 : decode cX12_courseBits 41 = .ok (.iconst 1, 1) := by decide +kernel
theorem dX12_courseBits_42 : decode cX12_courseBits 42 = .ok (.iload_n 2, 1) := by decide +kernel
theorem dX12_courseBits_43 : decode cX12_courseBits 43 = .ok (.ishl, 1) := by decide +kernel
theorem dX12_courseBits_44 : decode cX12_courseBits 44 = .ok (.ior, 1) := by decide +kernel
theorem dX12_courseBits_45 : decode cX12_courseBits 45 = .ok (.istore_n 1, 1) := by decide +kernel
theorem dX12_courseBits_46 : decode cX12_courseBits 46 = .ok (.aload_n 0, 1) := by decide +kernel
theorem dX12_courseBits_47 : decode cX12_courseBits 47 = .ok (.getfield 88, 3) := by decide +kernel
theorem dX12_courseBits_50 : decode cX12_courseBits 50 = .ok (.aload_n 0, 1) := by decide +kernel
theorem dX12_courseBits_51 : decode cX12_courseBits 51 = .ok (.getfield 305, 3) := by decide +kernel
theorem dX12_courseBits_54 : decode cX12_courseBits 54 = .ok (.iload_n 2, 1) := by decide +kernel
theorem dX12_courseBits_55 : decode cX12_courseBits 55 = .ok (.iastore, 1) := by decide +kernel
theorem dX12_courseBits_56 : decode cX12_courseBits 56 = .ok (.aload_n 0, 1) := by decide +kernel
theorem dX12_courseBits_57 : decode cX12_courseBits 57 = .ok (.dup, 1) := by decide +kernel
theorem dX12_courseBits_58 : decode cX12_courseBits 58 = .ok (.getfield 305, 3) := by decide +kernel
theorem dX12_courseBits_61 : decode cX12_courseBits 61 = .ok (.iconst 1, 1) := by decide +kernel
theorem dX12_courseBits_62 : decode cX12_courseBits 62 = .ok (.iadd, 1) := by decide +kernel
theorem dX12_courseBits_63 : decode cX12_courseBits 63 = .ok (.putfield 305, 3) := by decide +kernel
theorem dX12_courseBits_66 : decode cX12_courseBits 66 = .ok (.aload_n 0, 1) := by decide +kernel
theorem dX12_courseBits_67 : decode cX12_courseBits 67 = .ok (.getfield 85, 3) := by decide +kernel
theorem dX12_courseBits_70 : decode cX12_courseBits 70 = .ok (.iload_n 2, 1) := by decide +kernel
theorem dX12_courseBits_71 : decode cX12_courseBits 71 = .ok (.iaload, 1) := by decide +kernel
theorem dX12_courseBits_72 : decode cX12_courseBits 72 = .ok (.istore_n 2, 1) := by decide +kernel
theorem dX12_courseBits_73 : decode cX12_courseBits 73 = .ok (.goto (-46), 3) := by decide +kernel
theorem dX12_courseBits_76 : decode cX12_courseBits 76 = .ok (.iload_n 1, 1) := by decide +kernel
theorem dX12_courseBits_77 : decode cX12_courseBits 77 = .ok (.ireturn, 1) := by decide +kernel
theorem dX12_courseOf_0 : decode cX12_courseOf 0 = .ok (.aload_n 0, 1) := by decide +kernel
theorem dX12_courseOf_1 : decode cX12_courseOf 1 = .ok (.aload_n 1, 1) := by decide +kernel
theorem dX12_courseOf_2 : decode cX12_courseOf 2 = .ok (.invokevirtual 308, 3) := by decide +kernel
theorem dX12_courseOf_5 : decode cX12_courseOf 5 = .ok (.aload_n 0, 1) := by decide +kernel
theorem dX12_courseOf_6 : decode cX12_courseOf 6 = .ok (.invokevirtual 312, 3) := by decide +kernel
theorem dX12_courseOf_9 : decode cX12_courseOf 9 = .ok (.ireturn, 1) := by decide +kernel
theorem dX12_dayEnds_0 : decode cX12_dayEnds 0 = .ok (.aload_n 0, 1) := by decide +kernel
theorem dX12_dayEnds_1 : decode cX12_dayEnds 1 = .ok (.aload_n 1, 1) := by decide +kernel
theorem dX12_dayEnds_2 : decode cX12_dayEnds 2 = .ok (.invokevirtual 315, 3) := by decide +kernel
theorem dX12_dayEnds_5 : decode cX12_dayEnds 5 = .ok (.pop, 1) := by decide +kernel
theorem dX12_dayEnds_6 : decode cX12_dayEnds 6 = .ok (.iconst 0, 1) := by decide +kernel
theorem dX12_dayEnds_7 : decode cX12_dayEnds 7 = .ok (.istore_n 2, 1) := by decide +kernel
theorem dX12_dayEnds_8 : decode cX12_dayEnds 8 = .ok (.iload_n 2, 1) := by decide +kernel
theorem dX12_dayEnds_9 : decode cX12_dayEnds 9 = .ok (.iconst 1, 1) := by decide +kernel
theorem dX12_dayEnds_10 : decode cX12_dayEnds 10 = .ok (.iadd, 1) := by decide +kernel
theorem dX12_dayEnds_11 : decode cX12_dayEnds 11 = .ok (.aload_n 0, 1) := by decide +kernel
theorem dX12_dayEnds_12 : decode cX12_dayEnds 12 = .ok (.getfield 305, 3) := by decide +kernel
theorem dX12_dayEnds_15 : decode cX12_dayEnds 15 = .ok (.if_icmp .ge 100, 3) := by decide +kernel
theorem dX12_dayEnds_18 : decode cX12_dayEnds 18 = .ok (.aload_n 0, 1) := by decide +kernel
theorem dX12_dayEnds_19 : decode cX12_dayEnds 19 = .ok (.getfield 88, 3) := by decide +kernel
theorem dX12_dayEnds_22 : decode cX12_dayEnds 22 = .ok (.iload_n 2, 1) := by decide +kernel
theorem dX12_dayEnds_23 : decode cX12_dayEnds 23 = .ok (.iaload, 1) := by decide +kernel
theorem dX12_dayEnds_24 : decode cX12_dayEnds 24 = .ok (.istore_n 3, 1) := by decide +kernel
theorem dX12_dayEnds_25 : decode cX12_dayEnds 25 = .ok (.aload_n 0, 1) := by decide +kernel
theorem dX12_dayEnds_26 : decode cX12_dayEnds 26 = .ok (.getfield 88, 3) := by decide +kernel
theorem dX12_dayEnds_29 : decode cX12_dayEnds 29 = .ok (.iload_n 2, 1) := by decide +kernel
theorem dX12_dayEnds_30 : decode cX12_dayEnds 30 = .ok (.iconst 1, 1) := by decide +kernel
theorem dX12_dayEnds_31 : decode cX12_dayEnds 31 = .ok (.iadd, 1) := by decide +kernel
theorem dX12_dayEnds_32 : decode cX12_dayEnds 32 = .ok (.iaload, 1) := by decide +kernel
theorem dX12_dayEnds_33 : decode cX12_dayEnds 33 = .ok (.istore 4, 2) := by decide +kernel
theorem dX12_dayEnds_35 : decode cX12_dayEnds 35 = .ok (.aload_n 1, 1) := by decide +kernel
theorem dX12_dayEnds_36 : decode cX12_dayEnds 36 = .ok (.bipush 94, 2) := by decide +kernel
theorem dX12_dayEnds_38 : decode cX12_dayEnds 38 = .ok (.aload_n 0, 1) := by decide +kernel
theorem dX12_dayEnds_39 : decode cX12_dayEnds 39 = .ok (.iload_n 3, 1) := by decide +kernel
theorem dX12_dayEnds_40 : decode cX12_dayEnds 40 = .ok (.iload 4, 2) := by decide +kernel
theorem dX12_dayEnds_42 : decode cX12_dayEnds 42 = .ok (.invokevirtual 267, 3) := by decide +kernel
theorem dX12_dayEnds_45 : decode cX12_dayEnds 45 = .ok (.iadd, 1) := by decide +kernel
theorem dX12_dayEnds_46 : decode cX12_dayEnds 46 = .ok (.dup2, 1) := by decide +kernel
theorem dX12_dayEnds_47 : decode cX12_dayEnds 47 = .ok (.iaload, 1) := by decide +kernel
theorem dX12_dayEnds_48 : decode cX12_dayEnds 48 = .ok (.iconst 1, 1) := by decide +kernel
theorem dX12_dayEnds_49 : decode cX12_dayEnds 49 = .ok (.iadd, 1) := by decide +kernel
theorem dX12_dayEnds_50 : decode cX12_dayEnds 50 = .ok (.iastore, 1) := by decide +kernel
theorem dX12_dayEnds_51 : decode cX12_dayEnds 51 = .ok (.iconst 0, 1) := by decide +kernel
theorem dX12_dayEnds_52 : decode cX12_dayEnds 52 = .ok (.istore 5, 2) := by decide +kernel
theorem dX12_dayEnds_54 : decode cX12_dayEnds 54 = .ok (.iload 5, 2) := by decide +kernel
theorem dX12_dayEnds_56 : decode cX12_dayEnds 56 = .ok (.aload_n 0, 1) := by decide +kernel
theorem dX12_dayEnds_57 : decode cX12_dayEnds 57 = .ok (.getfield 23, 3) := by decide +kernel
theorem dX12_dayEnds_60 : decode cX12_dayEnds 60 = .ok (.iconst 2, 1) := by decide +kernel
theorem dX12_dayEnds_61 : decode cX12_dayEnds 61 = .ok (.iaload, 1) := by decide +kernel
theorem dX12_dayEnds_62 : decode cX12_dayEnds 62 = .ok (.if_icmp .ge 47, 3) := by decide +kernel
theorem dX12_dayEnds_65 : decode cX12_dayEnds 65 = .ok (.aload_n 1, 1) := by decide +kernel
theorem dX12_dayEnds_66 : decode cX12_dayEnds 66 = .ok (.iconst 0, 1) := by decide +kernel
theorem dX12_dayEnds_67 : decode cX12_dayEnds 67 = .ok (.bipush 12, 2) := by decide +kernel
theorem dX12_dayEnds_69 : decode cX12_dayEnds 69 = .ok (.iload 5, 2) := by decide +kernel
theorem dX12_dayEnds_71 : decode cX12_dayEnds 71 = .ok (.imul, 1) := by decide +kernel
theorem dX12_dayEnds_72 : decode cX12_dayEnds 72 = .ok (.iadd, 1) := by decide +kernel
theorem dX12_dayEnds_73 : decode cX12_dayEnds 73 = .ok (.iload_n 3, 1) := by decide +kernel
theorem dX12_dayEnds_74 : decode cX12_dayEnds 74 = .ok (.iadd, 1) := by decide +kernel
theorem dX12_dayEnds_75 : decode cX12_dayEnds 75 = .ok (.aload_n 1, 1) := by decide +kernel
theorem dX12_dayEnds_76 : decode cX12_dayEnds 76 = .ok (.bipush 72, 2) := by decide +kernel
theorem dX12_dayEnds_78 : decode cX12_dayEnds 78 = .ok (.iload 5, 2) := by decide +kernel
theorem dX12_dayEnds_80 : decode cX12_dayEnds 80 = .ok (.iadd, 1) := by decide +kernel
theorem dX12_dayEnds_81 : decode cX12_dayEnds 81 = .ok (.iaload, 1) := by decide +kernel
theorem dX12_dayEnds_82 : decode cX12_dayEnds 82 = .ok (.iload_n 3, 1) := by decide +kernel
theorem dX12_dayEnds_83 : decode cX12_dayEnds 83 = .ok (.if_icmp .ne 8, 3) := by decide +kernel
theorem dX12_dayEnds_86 : decode cX12_dayEnds 86 = .ok (.iload 4, 2) := by decide +kernel
theorem dX12_dayEnds_88 : decode cX12_dayEnds 88 = .ok (.goto 14, 3) := by decide +kernel
theorem dX12_dayEnds_91 : decode cX12_dayEnds 91 = .ok (.aload_n 1, 1) := by decide +kernel
theorem dX12_dayEnds_92 : decode cX12_dayEnds 92 = .ok (.iconst 0, 1) := by decide +kernel
theorem dX12_dayEnds_93 : decode cX12_dayEnds 93 = .ok (.bipush 12, 2) := by decide +kernel
theorem dX12_dayEnds_95 : decode cX12_dayEnds 95 = .ok (.iload 5, 2) := by decide +kernel
theorem dX12_dayEnds_97 : decode cX12_dayEnds 97 = .ok (.imul, 1) := by decide +kernel
theorem dX12_dayEnds_98 : decode cX12_dayEnds 98 = .ok (.iadd, 1) := by decide +kernel
theorem dX12_dayEnds_99 : decode cX12_dayEnds 99 = .ok (.iload_n 3, 1) := by decide +kernel
theorem dX12_dayEnds_100 : decode cX12_dayEnds 100 = .ok (.iadd, 1) := by decide +kernel
theorem dX12_dayEnds_101 : decode cX12_dayEnds 101 = .ok (.iaload, 1) := by decide +kernel
theorem dX12_dayEnds_102 : decode cX12_dayEnds 102 = .ok (.iastore, 1) := by decide +kernel
theorem dX12_dayEnds_103 : decode cX12_dayEnds 103 = .ok (.iinc 5 1, 3) := by decide +kernel
theorem dX12_dayEnds_106 : decode cX12_dayEnds 106 = .ok (.goto (-52), 3) := by decide +kernel
theorem dX12_dayEnds_109 : decode cX12_dayEnds 109 = .ok (.iinc 2 1, 3) := by decide +kernel
theorem dX12_dayEnds_112 : decode cX12_dayEnds 112 = .ok (.goto (-104), 3) := by decide +kernel
theorem dX12_dayEnds_115 : decode cX12_dayEnds 115 = .ok (.aload_n 1, 1) := by decide +kernel
theorem dX12_dayEnds_116 : decode cX12_dayEnds 116 = .ok (.bipush 110, 2) := by decide +kernel
theorem dX12_dayEnds_118 : decode cX12_dayEnds 118 = .ok (.dup2, 1) := by decide +kernel
theorem dX12_dayEnds_119 : decode cX12_dayEnds 119 = .ok (.iaload, 1) := by decide +kernel
theorem dX12_dayEnds_120 : decode cX12_dayEnds 120 = .ok (.iconst 1, 1) := by decide +kernel
theorem dX12_dayEnds_121 : decode cX12_dayEnds 121 = .ok (.iadd, 1) := by decide +kernel
theorem dX12_dayEnds_122 : decode cX12_dayEnds 122 = .ok (.iastore, 1) := by decide +kernel
theorem dX12_dayEnds_123 : decode cX12_dayEnds 123 = .ok (.return_, 1) := by decide +kernel
theorem dX12_forgets_0 : decode cX12_forgets 0 = .ok (.aload_n 0, 1) := by decide +kernel
theorem dX12_forgets_1 : decode cX12_forgets 1 = .ok (.iconst 0, 1) := by decide +kernel
theorem dX12_forgets_2 : decode cX12_forgets 2 = .ok (.bipush 12, 2) := by decide +kernel
theorem dX12_forgets_4 : decode cX12_forgets 4 = .ok (.iload_n 1, 1) := by decide +kernel
theorem dX12_forgets_5 : decode cX12_forgets 5 = .ok (.imul, 1) := by decide +kernel
theorem dX12_forgets_6 : decode cX12_forgets 6 = .ok (.iadd, 1) := by decide +kernel
theorem dX12_forgets_7 : decode cX12_forgets 7 = .ok (.iload_n 2, 1) := by decide +kernel
theorem dX12_forgets_8 : decode cX12_forgets 8 = .ok (.iadd, 1) := by decide +kernel
theorem dX12_forgets_9 : decode cX12_forgets 9 = .ok (.iaload, 1) := by decide +kernel
theorem dX12_forgets_10 : decode cX12_forgets 10 = .ok (.iconst (-1), 1) := by decide +kernel
theorem dX12_forgets_11 : decode cX12_forgets 11 = .ok (.if_icmp .eq 7, 3) := by decide +kernel
theorem dX12_forgets_14 : decode cX12_forgets 14 = .ok (.iconst 1, 1) := by decide +kernel
theorem dX12_forgets_15 : decode cX12_forgets 15 = .ok (.goto 4, 3) := by decide +kernel
theorem dX12_forgets_18 : decode cX12_forgets 18 = .ok (.iconst 0, 1) := by decide +kernel
theorem dX12_forgets_19 : decode cX12_forgets 19 = .ok (.istore_n 3, 1) := by decide +kernel
theorem dX12_forgets_20 : decode cX12_forgets 20 = .ok (.aload_n 0, 1) := by decide +kernel
theorem dX12_forgets_21 : decode cX12_forgets 21 = .ok (.iconst 0, 1) := by decide +kernel
theorem dX12_forgets_22 : decode cX12_forgets 22 = .ok (.bipush 12, 2) := by decide +kernel
theorem dX12_forgets_24 : decode cX12_forgets 24 = .ok (.iload_n 1, 1) := by decide +kernel
theorem dX12_forgets_25 : decode cX12_forgets 25 = .ok (.imul, 1) := by decide +kernel
theorem dX12_forgets_26 : decode cX12_forgets 26 = .ok (.iadd, 1) := by decide +kernel
theorem dX12_forgets_27 : decode cX12_forgets 27 = .ok (.iload_n 2, 1) := by decide +kernel
theorem dX12_forgets_28 : decode cX12_forgets 28 = .ok (.iadd, 1) := by decide +kernel
theorem dX12_forgets_29 : decode cX12_forgets 29 = .ok (.iconst (-1), 1) := by decide +kernel
theorem dX12_forgets_30 : decode cX12_forgets 30 = .ok (.iastore, 1) := by decide +kernel
theorem dX12_forgets_31 : decode cX12_forgets 31 = .ok (.iload_n 3, 1) := by decide +kernel
theorem dX12_forgets_32 : decode cX12_forgets 32 = .ok (.ireturn, 1) := by decide +kernel
theorem dX12_walks_0 : decode cX12_walks 0 = .ok (.aload_n 0, 1) := by decide +kernel
theorem dX12_walks_1 : decode cX12_walks 1 = .ok (.aload_n 1, 1) := by decide +kernel
theorem dX12_walks_2 : decode cX12_walks 2 = .ok (.bipush 72, 2) := by decide +kernel
theorem dX12_walks_4 : decode cX12_walks 4 = .ok (.iload_n 2, 1) := by decide +kernel
theorem dX12_walks_5 : decode cX12_walks 5 = .ok (.iadd, 1) := by decide +kernel
theorem dX12_walks_6 : decode cX12_walks 6 = .ok (.iaload, 1) := by decide +kernel
theorem dX12_walks_7 : decode cX12_walks 7 = .ok (.iload_n 3, 1) := by decide +kernel
theorem dX12_walks_8 : decode cX12_walks 8 = .ok (.invokevirtual 267, 3) := by decide +kernel
theorem dX12_walks_11 : decode cX12_walks 11 = .ok (.iconst (-1), 1) := by decide +kernel
theorem dX12_walks_12 : decode cX12_walks 12 = .ok (.if_icmp .ne 5, 3) := by decide +kernel
theorem dX12_walks_15 : decode cX12_walks 15 = .ok (.iconst 0, 1) := by decide +kernel
theorem dX12_walks_16 : decode cX12_walks 16 = .ok (.ireturn, 1) := by decide +kernel
theorem dX12_walks_17 : decode cX12_walks 17 = .ok (.aload_n 1, 1) := by decide +kernel
theorem dX12_walks_18 : decode cX12_walks 18 = .ok (.bipush 72, 2) := by decide +kernel
theorem dX12_walks_20 : decode cX12_walks 20 = .ok (.iload_n 2, 1) := by decide +kernel
theorem dX12_walks_21 : decode cX12_walks 21 = .ok (.iadd, 1) := by decide +kernel
theorem dX12_walks_22 : decode cX12_walks 22 = .ok (.iload_n 3, 1) := by decide +kernel
theorem dX12_walks_23 : decode cX12_walks 23 = .ok (.iastore, 1) := by decide +kernel
theorem dX12_walks_24 : decode cX12_walks 24 = .ok (.iconst 1, 1) := by decide +kernel
theorem dX12_walks_25 : decode cX12_walks 25 = .ok (.ireturn, 1) := by decide +kernel
theorem dX12_does_0 : decode cX12_does 0 = .ok (.aload_n 2, 1) := by decide +kernel
theorem dX12_does_1 : decode cX12_does 1 = .ok (.iconst 1, 1) := by decide +kernel
theorem dX12_does_2 : decode cX12_does 2 = .ok (.iaload, 1) := by decide +kernel
theorem dX12_does_3 : decode cX12_does 3 = .ok (.istore_n 3, 1) := by decide +kernel
theorem dX12_does_4 : decode cX12_does 4 = .ok (.aload_n 2, 1) := by decide +kernel
theorem dX12_does_5 : decode cX12_does 5 = .ok (.iconst 2, 1) := by decide +kernel
theorem dX12_does_6 : decode cX12_does 6 = .ok (.iaload, 1) := by decide +kernel
theorem dX12_does_7 : decode cX12_does 7 = .ok (.istore 4, 2) := by decide +kernel
theorem dX12_does_9 : decode cX12_does 9 = .ok (.aload_n 2, 1) := by decide +kernel
theorem dX12_does_10 : decode cX12_does 10 = .ok (.iconst 3, 1) := by decide +kernel
theorem dX12_does_11 : decode cX12_does 11 = .ok (.iaload, 1) := by decide +kernel
theorem dX12_does_12 : decode cX12_does 12 = .ok (.istore 5, 2) := by decide +kernel
theorem dX12_does_14 : decode cX12_does 14 = .ok (.aload_n 2, 1) := by decide +kernel
theorem dX12_does_15 : decode cX12_does 15 = .ok (.iconst 0, 1) := by decide +kernel
theorem dX12_does_16 : decode cX12_does 16 = .ok (.iaload, 1) := by decide +kernel
theorem dX12_does_17 : decode cX12_does 17 = .ok (.tableswitch 120 0 3 #[31, 64, 72, 81], 31) := by decide +kernel
theorem dX12_does_48 : decode cX12_does 48 = .ok (.aload_n 1, 1) := by decide +kernel
theorem dX12_does_49 : decode cX12_does 49 = .ok (.iconst 0, 1) := by decide +kernel
theorem dX12_does_50 : decode cX12_does 50 = .ok (.bipush 12, 2) := by decide +kernel
theorem dX12_does_52 : decode cX12_does 52 = .ok (.iload_n 3, 1) := by decide +kernel
theorem dX12_does_53 : decode cX12_does 53 = .ok (.imul, 1) := by decide +kernel
theorem dX12_does_54 : decode cX12_does 54 = .ok (.iadd, 1) := by decide +kernel
theorem dX12_does_55 : decode cX12_does 55 = .ok (.iload 4, 2) := by decide +kernel
theorem dX12_does_57 : decode cX12_does 57 = .ok (.iadd, 1) := by decide +kernel
theorem dX12_does_58 : decode cX12_does 58 = .ok (.iaload, 1) := by decide +kernel
theorem dX12_does_59 : decode cX12_does 59 = .ok (.iload 5, 2) := by decide +kernel
theorem dX12_does_61 : decode cX12_does 61 = .ok (.if_icmp .ne 5, 3) := by decide +kernel
theorem dX12_does_64 : decode cX12_does 64 = .ok (.iconst 0, 1) := by decide +kernel
theorem dX12_does_65 : decode cX12_does 65 = .ok (.ireturn, 1) := by decide +kernel
theorem dX12_does_66 : decode cX12_does 66 = .ok (.aload_n 1, 1) := by decide +kernel
theorem dX12_does_67 : decode cX12_does 67 = .ok (.iconst 0, 1) := by decide +kernel
theorem dX12_does_68 : decode cX12_does 68 = .ok (.bipush 12, 2) := by decide +kernel
theorem dX12_does_70 : decode cX12_does 70 = .ok (.iload_n 3, 1) := by decide +kernel
theorem dX12_does_71 : decode cX12_does 71 = .ok (.imul, 1) := by decide +kernel
theorem dX12_does_72 : decode cX12_does 72 = .ok (.iadd, 1) := by decide +kernel
theorem dX12_does_73 : decode cX12_does 73 = .ok (.iload 4, 2) := by decide +kernel
theorem dX12_does_75 : decode cX12_does 75 = .ok (.iadd, 1) := by decide +kernel
theorem dX12_does_76 : decode cX12_does 76 = .ok (.iload 5, 2) := by decide +kernel
theorem dX12_does_78 : decode cX12_does 78 = .ok (.iastore, 1) := by decide +kernel
theorem dX12_does_79 : decode cX12_does 79 = .ok (.iconst 1, 1) := by decide +kernel
theorem dX12_does_80 : decode cX12_does 80 = .ok (.ireturn, 1) := by decide +kernel
theorem dX12_does_81 : decode cX12_does 81 = .ok (.aload_n 1, 1) := by decide +kernel
theorem dX12_does_82 : decode cX12_does 82 = .ok (.iload_n 3, 1) := by decide +kernel
theorem dX12_does_83 : decode cX12_does 83 = .ok (.iload 4, 2) := by decide +kernel
theorem dX12_does_85 : decode cX12_does 85 = .ok (.invokestatic 319, 3) := by decide +kernel
theorem dX12_does_88 : decode cX12_does 88 = .ok (.ireturn, 1) := by decide +kernel
theorem dX12_does_89 : decode cX12_does 89 = .ok (.aload_n 0, 1) := by decide +kernel
theorem dX12_does_90 : decode cX12_does 90 = .ok (.aload_n 1, 1) := by decide +kernel
theorem dX12_does_91 : decode cX12_does 91 = .ok (.iload_n 3, 1) := by decide +kernel
theorem dX12_does_92 : decode cX12_does 92 = .ok (.iload 4, 2) := by decide +kernel
theorem dX12_does_94 : decode cX12_does 94 = .ok (.invokevirtual 323, 3) := by decide +kernel
theorem dX12_does_97 : decode cX12_does 97 = .ok (.ireturn, 1) := by decide +kernel
theorem dX12_does_98 : decode cX12_does 98 = .ok (.aload_n 1, 1) := by decide +kernel
theorem dX12_does_99 : decode cX12_does 99 = .ok (.bipush 78, 2) := by decide +kernel
theorem dX12_does_101 : decode cX12_does 101 = .ok (.aload_n 0, 1) := by decide +kernel
theorem dX12_does_102 : decode cX12_does 102 = .ok (.iload 4, 2) := by decide +kernel
theorem dX12_does_104 : decode cX12_does 104 = .ok (.iload 5, 2) := by decide +kernel
theorem dX12_does_106 : decode cX12_does 106 = .ok (.invokevirtual 267, 3) := by decide +kernel
theorem dX12_does_109 : decode cX12_does 109 = .ok (.iadd, 1) := by decide +kernel
theorem dX12_does_110 : decode cX12_does 110 = .ok (.iaload, 1) := by decide +kernel
theorem dX12_does_111 : decode cX12_does 111 = .ok (.bipush 9, 2) := by decide +kernel
theorem dX12_does_113 : decode cX12_does 113 = .ok (.if_icmp .ne 5, 3) := by decide +kernel
theorem dX12_does_116 : decode cX12_does 116 = .ok (.iconst 0, 1) := by decide +kernel
theorem dX12_does_117 : decode cX12_does 117 = .ok (.ireturn, 1) := by decide +kernel
theorem dX12_does_118 : decode cX12_does 118 = .ok (.aload_n 1, 1) := by decide +kernel
theorem dX12_does_119 : decode cX12_does 119 = .ok (.bipush 78, 2) := by decide +kernel
theorem dX12_does_121 : decode cX12_does 121 = .ok (.aload_n 0, 1) := by decide +kernel
theorem dX12_does_122 : decode cX12_does 122 = .ok (.iload 4, 2) := by decide +kernel
theorem dX12_does_124 : decode cX12_does 124 = .ok (.iload 5, 2) := by decide +kernel
theorem dX12_does_126 : decode cX12_does 126 = .ok (.invokevirtual 267, 3) := by decide +kernel
theorem dX12_does_129 : decode cX12_does 129 = .ok (.iadd, 1) := by decide +kernel
theorem dX12_does_130 : decode cX12_does 130 = .ok (.dup2, 1) := by decide +kernel
theorem dX12_does_131 : decode cX12_does 131 = .ok (.iaload, 1) := by decide +kernel
theorem dX12_does_132 : decode cX12_does 132 = .ok (.iconst 1, 1) := by decide +kernel
theorem dX12_does_133 : decode cX12_does 133 = .ok (.iadd, 1) := by decide +kernel
theorem dX12_does_134 : decode cX12_does 134 = .ok (.iastore, 1) := by decide +kernel
theorem dX12_does_135 : decode cX12_does 135 = .ok (.iconst 1, 1) := by decide +kernel
theorem dX12_does_136 : decode cX12_does 136 = .ok (.ireturn, 1) := by decide +kernel
theorem dX12_does_137 : decode cX12_does 137 = .ok (.aload_n 1, 1) := by decide +kernel
theorem dX12_does_138 : decode cX12_does 138 = .ok (.bipush 110, 2) := by decide +kernel
theorem dX12_does_140 : decode cX12_does 140 = .ok (.iaload, 1) := by decide +kernel
theorem dX12_does_141 : decode cX12_does 141 = .ok (.sipush 500, 3) := by decide +kernel
theorem dX12_does_144 : decode cX12_does 144 = .ok (.if_icmp .lt 5, 3) := by decide +kernel
theorem dX12_does_147 : decode cX12_does 147 = .ok (.iconst 0, 1) := by decide +kernel
theorem dX12_does_148 : decode cX12_does 148 = .ok (.ireturn, 1) := by decide +kernel
theorem dX12_does_149 : decode cX12_does 149 = .ok (.aload_n 0, 1) := by decide +kernel
theorem dX12_does_150 : decode cX12_does 150 = .ok (.aload_n 1, 1) := by decide +kernel
theorem dX12_does_151 : decode cX12_does 151 = .ok (.invokevirtual 326, 3) := by decide +kernel
theorem dX12_does_154 : decode cX12_does 154 = .ok (.iconst 1, 1) := by decide +kernel
theorem dX12_does_155 : decode cX12_does 155 = .ok (.ireturn, 1) := by decide +kernel
theorem dX12_goes_0 : decode cX12_goes 0 = .ok (.iload_n 1, 1) := by decide +kernel
theorem dX12_goes_1 : decode cX12_goes 1 = .ok (.istore_n 3, 1) := by decide +kernel
theorem dX12_goes_2 : decode cX12_goes 2 = .ok (.iload_n 3, 1) := by decide +kernel
theorem dX12_goes_3 : decode cX12_goes 3 = .ok (.iload_n 2, 1) := by decide +kernel
theorem dX12_goes_4 : decode cX12_goes 4 = .ok (.if_icmp .ge 151, 3) := by decide +kernel
theorem dX12_goes_7 : decode cX12_goes 7 = .ok (.aload_n 0, 1) := by decide +kernel
theorem dX12_goes_8 : decode cX12_goes 8 = .ok (.getfield 329, 3) := by decide +kernel
theorem dX12_goes_11 : decode cX12_goes 11 = .ok (.sipush 200, 3) := by decide +kernel
theorem dX12_goes_14 : decode cX12_goes 14 = .ok (.if_icmp .ge 141, 3) := by decide +kernel
theorem dX12_goes_17 : decode cX12_goes 17 = .ok (.aload_n 0, 1) := by decide +kernel
theorem dX12_goes_18 : decode cX12_goes 18 = .ok (.dup, 1) := by decide +kernel
theorem dX12_goes_19 : decode cX12_goes 19 = .ok (.getfield 329, 3) := by decide +kernel
theorem dX12_goes_22 : decode cX12_goes 22 = .ok (.iconst 1, 1) := by decide +kernel
theorem dX12_goes_23 : decode cX12_goes 23 = .ok (.iadd, 1) := by decide +kernel
theorem dX12_goes_24 : decode cX12_goes 24 = .ok (.putfield 329, 3) := by decide +kernel
theorem dX12_goes_27 : decode cX12_goes 27 = .ok (.aload_n 0, 1) := by decide +kernel
theorem dX12_goes_28 : decode cX12_goes 28 = .ok (.getfield 70, 3) := by decide +kernel
theorem dX12_goes_31 : decode cX12_goes 31 = .ok (.iload_n 3, 1) := by decide +kernel
theorem dX12_goes_32 : decode cX12_goes 32 = .ok (.aaload, 1) := by decide +kernel
theorem dX12_goes_33 : decode cX12_goes 33 = .ok (.iconst 0, 1) := by decide +kernel
theorem dX12_goes_34 : decode cX12_goes 34 = .ok (.iaload, 1) := by decide +kernel
theorem dX12_goes_35 : decode cX12_goes 35 = .ok (.iconst 5, 1) := by decide +kernel
theorem dX12_goes_36 : decode cX12_goes 36 = .ok (.if_icmp .ne 53, 3) := by decide +kernel
theorem dX12_goes_39 : decode cX12_goes 39 = .ok (.iconst 0, 1) := by decide +kernel
theorem dX12_goes_40 : decode cX12_goes 40 = .ok (.istore 4, 2) := by decide +kernel
theorem dX12_goes_42 : decode cX12_goes 42 = .ok (.iload 4, 2) := by decide +kernel
theorem dX12_goes_44 : decode cX12_goes 44 = .ok (.aload_n 0, 1) := by decide +kernel
theorem dX12_goes_45 : decode cX12_goes 45 = .ok (.getfield 70, 3) := by decide +kernel
theorem dX12_goes_48 : decode cX12_goes 48 = .ok (.iload_n 3, 1) := by decide +kernel
theorem dX12_goes_49 : decode cX12_goes 49 = .ok (.aaload, 1) := by decide +kernel
theorem dX12_goes_50 : decode cX12_goes 50 = .ok (.iconst 1, 1) := by decide +kernel
theorem dX12_goes_51 : decode cX12_goes 51 = .ok (.iaload, 1) := by decide +kernel
theorem dX12_goes_52 : decode cX12_goes 52 = .ok (.if_icmp .ge 34, 3) := by decide +kernel
theorem dX12_goes_55 : decode cX12_goes 55 = .ok (.aload_n 0, 1) := by decide +kernel
theorem dX12_goes_56 : decode cX12_goes 56 = .ok (.getfield 329, 3) := by decide +kernel
theorem dX12_goes_59 : decode cX12_goes 59 = .ok (.sipush 200, 3) := by decide +kernel
theorem dX12_goes_62 : decode cX12_goes 62 = .ok (.if_icmp .ge 24, 3) := by decide +kernel
theorem dX12_goes_65 : decode cX12_goes 65 = .ok (.aload_n 0, 1) := by decide +kernel
theorem dX12_goes_66 : decode cX12_goes 66 = .ok (.iload_n 3, 1) := by decide +kernel
theorem dX12_goes_67 : decode cX12_goes 67 = .ok (.iconst 1, 1) := by decide +kernel
theorem dX12_goes_68 : decode cX12_goes 68 = .ok (.iadd, 1) := by decide +kernel
theorem dX12_goes_69 : decode cX12_goes 69 = .ok (.aload_n 0, 1) := by decide +kernel
theorem dX12_goes_70 : decode cX12_goes 70 = .ok (.getfield 70, 3) := by decide +kernel
theorem dX12_goes_73 : decode cX12_goes 73 = .ok (.iload_n 3, 1) := by decide +kernel
theorem dX12_goes_74 : decode cX12_goes 74 = .ok (.aaload, 1) := by decide +kernel
theorem dX12_goes_75 : decode cX12_goes 75 = .ok (.iconst 4, 1) := by decide +kernel
theorem dX12_goes_76 : decode cX12_goes 76 = .ok (.iaload, 1) := by decide +kernel
theorem dX12_goes_77 : decode cX12_goes 77 = .ok (.invokevirtual 332, 3) := by decide +kernel
theorem dX12_goes_80 : decode cX12_goes 80 = .ok (.iinc 4 1, 3) := by decide +kernel
theorem dX12_goes_83 : decode cX12_goes 83 = .ok (.goto (-41), 3) := by decide +kernel
theorem dX12_goes_86 : decode cX12_goes 86 = .ok (.goto 57, 3) := by decide +kernel
theorem dX12_goes_89 : decode cX12_goes 89 = .ok (.aload_n 0, 1) := by decide +kernel
theorem dX12_goes_90 : decode cX12_goes 90 = .ok (.aload_n 0, 1) := by decide +kernel
theorem dX12_goes_91 : decode cX12_goes 91 = .ok (.getfield 73, 3) := by decide +kernel
theorem dX12_goes_94 : decode cX12_goes 94 = .ok (.aload_n 0, 1) := by decide +kernel
theorem dX12_goes_95 : decode cX12_goes 95 = .ok (.getfield 70, 3) := by decide +kernel
theorem dX12_goes_98 : decode cX12_goes 98 = .ok (.iload_n 3, 1) := by decide +kernel
theorem dX12_goes_99 : decode cX12_goes 99 = .ok (.aaload, 1) := by decide +kernel
theorem dX12_goes_100 : decode cX12_goes 100 = .ok (.invokevirtual 335, 3) := by decide +kernel
theorem dX12_goes_103 : decode cX12_goes 103 = .ok (.istore 4, 2) := by decide +kernel
theorem dX12_goes_105 : decode cX12_goes 105 = .ok (.aload_n 0, 1) := by decide +kernel
theorem dX12_goes_106 : decode cX12_goes 106 = .ok (.dup, 1) := by decide +kernel
theorem dX12_goes_107 : decode cX12_goes 107 = .ok (.getfield 339, 3) := by decide +kernel
theorem dX12_goes_110 : decode cX12_goes 110 = .ok (.iload 4, 2) := by decide +kernel
theorem dX12_goes_112 : decode cX12_goes 112 = .ok (.ifCond .eq 7, 3) := by decide +kernel
theorem dX12_goes_115 : decode cX12_goes 115 = .ok (.iconst 1, 1) := by decide +kernel
theorem dX12_goes_116 : decode cX12_goes 116 = .ok (.goto 4, 3) := by decide +kernel
theorem dX12_goes_119 : decode cX12_goes 119 = .ok (.iconst 0, 1) := by decide +kernel
theorem dX12_goes_120 : decode cX12_goes 120 = .ok (.iadd, 1) := by decide +kernel
theorem dX12_goes_121 : decode cX12_goes 121 = .ok (.putfield 339, 3) := by decide +kernel
theorem dX12_goes_124 : decode cX12_goes 124 = .ok (.aload_n 0, 1) := by decide +kernel
theorem dX12_goes_125 : decode cX12_goes 125 = .ok (.dup, 1) := by decide +kernel
theorem dX12_goes_126 : decode cX12_goes 126 = .ok (.getfield 217, 3) := by decide +kernel
theorem dX12_goes_129 : decode cX12_goes 129 = .ok (.iload 4, 2) := by decide +kernel
theorem dX12_goes_131 : decode cX12_goes 131 = .ok (.ifCond .eq 7, 3) := by decide +kernel
theorem dX12_goes_134 : decode cX12_goes 134 = .ok (.iconst 0, 1) := by decide +kernel
theorem dX12_goes_135 : decode cX12_goes 135 = .ok (.goto 4, 3) := by decide +kernel
theorem dX12_goes_138 : decode cX12_goes 138 = .ok (.iconst 1, 1) := by decide +kernel
theorem dX12_goes_139 : decode cX12_goes 139 = .ok (.iadd, 1) := by decide +kernel
theorem dX12_goes_140 : decode cX12_goes 140 = .ok (.putfield 217, 3) := by decide +kernel
theorem dX12_goes_143 : decode cX12_goes 143 = .ok (.aload_n 0, 1) := by decide +kernel
theorem dX12_goes_144 : decode cX12_goes 144 = .ok (.getfield 70, 3) := by decide +kernel
theorem dX12_goes_147 : decode cX12_goes 147 = .ok (.iload_n 3, 1) := by decide +kernel
theorem dX12_goes_148 : decode cX12_goes 148 = .ok (.aaload, 1) := by decide +kernel
theorem dX12_goes_149 : decode cX12_goes 149 = .ok (.iconst 4, 1) := by decide +kernel
theorem dX12_goes_150 : decode cX12_goes 150 = .ok (.iaload, 1) := by decide +kernel
theorem dX12_goes_151 : decode cX12_goes 151 = .ok (.istore_n 3, 1) := by decide +kernel
theorem dX12_goes_152 : decode cX12_goes 152 = .ok (.goto (-150), 3) := by decide +kernel
theorem dX12_goes_155 : decode cX12_goes 155 = .ok (.return_, 1) := by decide +kernel
theorem dX12_copies_0 : decode cX12_copies 0 = .ok (.iconst 0, 1) := by decide +kernel
theorem dX12_copies_1 : decode cX12_copies 1 = .ok (.istore_n 2, 1) := by decide +kernel
theorem dX12_copies_2 : decode cX12_copies 2 = .ok (.iload_n 2, 1) := by decide +kernel
theorem dX12_copies_3 : decode cX12_copies 3 = .ok (.bipush 111, 2) := by decide +kernel
theorem dX12_copies_5 : decode cX12_copies 5 = .ok (.if_icmp .ge 15, 3) := by decide +kernel
theorem dX12_copies_8 : decode cX12_copies 8 = .ok (.aload_n 1, 1) := by decide +kernel
theorem dX12_copies_9 : decode cX12_copies 9 = .ok (.iload_n 2, 1) := by decide +kernel
theorem dX12_copies_10 : decode cX12_copies 10 = .ok (.aload_n 0, 1) := by decide +kernel
theorem dX12_copies_11 : decode cX12_copies 11 = .ok (.iload_n 2, 1) := by decide +kernel
theorem dX12_copies_12 : decode cX12_copies 12 = .ok (.iaload, 1) := by decide +kernel
theorem dX12_copies_13 : decode cX12_copies 13 = .ok (.iastore, 1) := by decide +kernel
theorem dX12_copies_14 : decode cX12_copies 14 = .ok (.iinc 2 1, 3) := by decide +kernel
theorem dX12_copies_17 : decode cX12_copies 17 = .ok (.goto (-15), 3) := by decide +kernel
theorem dX12_copies_20 : decode cX12_copies 20 = .ok (.return_, 1) := by decide +kernel
theorem dX12_draw_0 : decode cX12_draw 0 = .ok (.aload_n 0, 1) := by decide +kernel
theorem dX12_draw_1 : decode cX12_draw 1 = .ok (.aload_n 0, 1) := by decide +kernel
theorem dX12_draw_2 : decode cX12_draw 2 = .ok (.getfield 405, 3) := by decide +kernel
theorem dX12_draw_5 : decode cX12_draw 5 = .ok (.ldc_w 408, 3) := by decide +kernel
theorem dX12_draw_8 : decode cX12_draw 8 = .ok (.imul, 1) := by decide +kernel
theorem dX12_draw_9 : decode cX12_draw 9 = .ok (.sipush 12345, 3) := by decide +kernel
theorem dX12_draw_12 : decode cX12_draw 12 = .ok (.iadd, 1) := by decide +kernel
theorem dX12_draw_13 : decode cX12_draw 13 = .ok (.putfield 405, 3) := by decide +kernel
theorem dX12_draw_16 : decode cX12_draw 16 = .ok (.aload_n 0, 1) := by decide +kernel
theorem dX12_draw_17 : decode cX12_draw 17 = .ok (.getfield 405, 3) := by decide +kernel
theorem dX12_draw_20 : decode cX12_draw 20 = .ok (.bipush 16, 2) := by decide +kernel
theorem dX12_draw_22 : decode cX12_draw 22 = .ok (.ishr, 1) := by decide +kernel
theorem dX12_draw_23 : decode cX12_draw 23 = .ok (.sipush 32767, 3) := by decide +kernel
theorem dX12_draw_26 : decode cX12_draw 26 = .ok (.iand, 1) := by decide +kernel
theorem dX12_draw_27 : decode cX12_draw 27 = .ok (.iload_n 1, 1) := by decide +kernel
theorem dX12_draw_28 : decode cX12_draw 28 = .ok (.irem, 1) := by decide +kernel
theorem dX12_draw_29 : decode cX12_draw 29 = .ok (.ireturn, 1) := by decide +kernel
theorem dX12_yearBy_0 : decode cX12_yearBy 0 = .ok (.aload_n 0, 1) := by decide +kernel
theorem dX12_yearBy_1 : decode cX12_yearBy 1 = .ok (.getfield 73, 3) := by decide +kernel
theorem dX12_yearBy_4 : decode cX12_yearBy 4 = .ok (.aload_n 0, 1) := by decide +kernel
theorem dX12_yearBy_5 : decode cX12_yearBy 5 = .ok (.getfield 76, 3) := by decide +kernel
theorem dX12_yearBy_8 : decode cX12_yearBy 8 = .ok (.invokestatic 342, 3) := by decide +kernel
theorem dX12_yearBy_11 : decode cX12_yearBy 11 = .ok (.aload_n 0, 1) := by decide +kernel
theorem dX12_yearBy_12 : decode cX12_yearBy 12 = .ok (.iload_n 1, 1) := by decide +kernel
theorem dX12_yearBy_13 : decode cX12_yearBy 13 = .ok (.putfield 405, 3) := by decide +kernel
theorem dX12_yearBy_16 : decode cX12_yearBy 16 = .ok (.aload_n 0, 1) := by decide +kernel
theorem dX12_yearBy_17 : decode cX12_yearBy 17 = .ok (.iconst 0, 1) := by decide +kernel
theorem dX12_yearBy_18 : decode cX12_yearBy 18 = .ok (.putfield 409, 3) := by decide +kernel
theorem dX12_yearBy_21 : decode cX12_yearBy 21 = .ok (.iconst 0, 1) := by decide +kernel
theorem dX12_yearBy_22 : decode cX12_yearBy 22 = .ok (.istore 4, 2) := by decide +kernel
theorem dX12_yearBy_24 : decode cX12_yearBy 24 = .ok (.iload 4, 2) := by decide +kernel
theorem dX12_yearBy_26 : decode cX12_yearBy 26 = .ok (.iload_n 2, 1) := by decide +kernel
theorem dX12_yearBy_27 : decode cX12_yearBy 27 = .ok (.if_icmp .ge 105, 3) := by decide +kernel
theorem dX12_yearBy_30 : decode cX12_yearBy 30 = .ok (.aload_n 0, 1) := by decide +kernel
theorem dX12_yearBy_31 : decode cX12_yearBy 31 = .ok (.getfield 23, 3) := by decide +kernel
theorem dX12_yearBy_34 : decode cX12_yearBy 34 = .ok (.iconst 2, 1) := by decide +kernel
theorem dX12_yearBy_35 : decode cX12_yearBy 35 = .ok (.iaload, 1) := by decide +kernel
theorem dX12_yearBy_36 : decode cX12_yearBy 36 = .ok (.ifCond .le 82, 3) := by decide +kernel
theorem dX12_yearBy_39 : decode cX12_yearBy 39 = .ok (.aload_n 0, 1) := by decide +kernel
theorem dX12_yearBy_40 : decode cX12_yearBy 40 = .ok (.aload_n 0, 1) := by decide +kernel
theorem dX12_yearBy_41 : decode cX12_yearBy 41 = .ok (.getfield 23, 3) := by decide +kernel
theorem dX12_yearBy_44 : decode cX12_yearBy 44 = .ok (.iconst 2, 1) := by decide +kernel
theorem dX12_yearBy_45 : decode cX12_yearBy 45 = .ok (.iaload, 1) := by decide +kernel
theorem dX12_yearBy_46 : decode cX12_yearBy 46 = .ok (.invokevirtual 412, 3) := by decide +kernel
theorem dX12_yearBy_49 : decode cX12_yearBy 49 = .ok (.istore 5, 2) := by decide +kernel
theorem dX12_yearBy_51 : decode cX12_yearBy 51 = .ok (.aload_n 0, 1) := by decide +kernel
theorem dX12_yearBy_52 : decode cX12_yearBy 52 = .ok (.dup, 1) := by decide +kernel
theorem dX12_yearBy_53 : decode cX12_yearBy 53 = .ok (.getfield 409, 3) := by decide +kernel
theorem dX12_yearBy_56 : decode cX12_yearBy 56 = .ok (.aload_n 0, 1) := by decide +kernel
theorem dX12_yearBy_57 : decode cX12_yearBy 57 = .ok (.aload_n 0, 1) := by decide +kernel
theorem dX12_yearBy_58 : decode cX12_yearBy 58 = .ok (.getfield 76, 3) := by decide +kernel
theorem dX12_yearBy_61 : decode cX12_yearBy 61 = .ok (.iload 5, 2) := by decide +kernel
theorem dX12_yearBy_63 : decode cX12_yearBy 63 = .ok (.aload_n 0, 1) := by decide +kernel
theorem dX12_yearBy_64 : decode cX12_yearBy 64 = .ok (.aload_n 0, 1) := by decide +kernel
theorem dX12_yearBy_65 : decode cX12_yearBy 65 = .ok (.getfield 23, 3) := by decide +kernel
theorem dX12_yearBy_68 : decode cX12_yearBy 68 = .ok (.iconst 0, 1) := by decide +kernel
theorem dX12_yearBy_69 : decode cX12_yearBy 69 = .ok (.iaload, 1) := by decide +kernel
theorem dX12_yearBy_70 : decode cX12_yearBy 70 = .ok (.invokevirtual 412, 3) := by decide +kernel
theorem dX12_yearBy_73 : decode cX12_yearBy 73 = .ok (.invokevirtual 323, 3) := by decide +kernel
theorem dX12_yearBy_76 : decode cX12_yearBy 76 = .ok (.ifCond .eq 7, 3) := by decide +kernel
theorem dX12_yearBy_79 : decode cX12_yearBy 79 = .ok (.iconst 1, 1) := by decide +kernel
theorem dX12_yearBy_80 : decode cX12_yearBy 80 = .ok (.goto 4, 3) := by decide +kernel
theorem dX12_yearBy_83 : decode cX12_yearBy 83 = .ok (.iconst 0, 1) := by decide +kernel
theorem dX12_yearBy_84 : decode cX12_yearBy 84 = .ok (.iadd, 1) := by decide +kernel
theorem dX12_yearBy_85 : decode cX12_yearBy 85 = .ok (.putfield 409, 3) := by decide +kernel
theorem dX12_yearBy_88 : decode cX12_yearBy 88 = .ok (.aload_n 0, 1) := by decide +kernel
theorem dX12_yearBy_89 : decode cX12_yearBy 89 = .ok (.bipush 16, 2) := by decide +kernel
theorem dX12_yearBy_91 : decode cX12_yearBy 91 = .ok (.invokevirtual 412, 3) := by decide +kernel
theorem dX12_yearBy_94 : decode cX12_yearBy 94 = .ok (.iload_n 3, 1) := by decide +kernel
theorem dX12_yearBy_95 : decode cX12_yearBy 95 = .ok (.if_icmp .ge 23, 3) := by decide +kernel
theorem dX12_yearBy_98 : decode cX12_yearBy 98 = .ok (.aload_n 0, 1) := by decide +kernel
theorem dX12_yearBy_99 : decode cX12_yearBy 99 = .ok (.getfield 76, 3) := by decide +kernel
theorem dX12_yearBy_102 : decode cX12_yearBy 102 = .ok (.iload 5, 2) := by decide +kernel
theorem dX12_yearBy_104 : decode cX12_yearBy 104 = .ok (.aload_n 0, 1) := by decide +kernel
theorem dX12_yearBy_105 : decode cX12_yearBy 105 = .ok (.getfield 76, 3) := by decide +kernel
theorem dX12_yearBy_108 : decode cX12_yearBy 108 = .ok (.bipush 72, 2) := by decide +kernel
theorem dX12_yearBy_110 : decode cX12_yearBy 110 = .ok (.iload 5, 2) := by decide +kernel
theorem dX12_yearBy_112 : decode cX12_yearBy 112 = .ok (.iadd, 1) := by decide +kernel
theorem dX12_yearBy_113 : decode cX12_yearBy 113 = .ok (.iaload, 1) := by decide +kernel
theorem dX12_yearBy_114 : decode cX12_yearBy 114 = .ok (.invokestatic 319, 3) := by decide +kernel
theorem dX12_yearBy_117 : decode cX12_yearBy 117 = .ok (.pop, 1) := by decide +kernel
theorem dX12_yearBy_118 : decode cX12_yearBy 118 = .ok (.aload_n 0, 1) := by decide +kernel
theorem dX12_yearBy_119 : decode cX12_yearBy 119 = .ok (.aload_n 0, 1) := by decide +kernel
theorem dX12_yearBy_120 : decode cX12_yearBy 120 = .ok (.getfield 76, 3) := by decide +kernel
theorem dX12_yearBy_123 : decode cX12_yearBy 123 = .ok (.invokevirtual 326, 3) := by decide +kernel
theorem dX12_yearBy_126 : decode cX12_yearBy 126 = .ok (.iinc 4 1, 3) := by decide +kernel
theorem dX12_yearBy_129 : decode cX12_yearBy 129 = .ok (.goto (-105), 3) := by decide +kernel
theorem dX12_yearBy_132 : decode cX12_yearBy 132 = .ok (.return_, 1) := by decide +kernel
theorem dX12_laysFar_0 : decode cX12_laysFar 0 = .ok (.iconst 0, 1) := by decide +kernel
theorem dX12_laysFar_1 : decode cX12_laysFar 1 = .ok (.istore_n 1, 1) := by decide +kernel
theorem dX12_laysFar_2 : decode cX12_laysFar 2 = .ok (.iload_n 1, 1) := by decide +kernel
theorem dX12_laysFar_3 : decode cX12_laysFar 3 = .ok (.aload_n 0, 1) := by decide +kernel
theorem dX12_laysFar_4 : decode cX12_laysFar 4 = .ok (.getfield 23, 3) := by decide +kernel
theorem dX12_laysFar_7 : decode cX12_laysFar 7 = .ok (.iconst 0, 1) := by decide +kernel
theorem dX12_laysFar_8 : decode cX12_laysFar 8 = .ok (.iaload, 1) := by decide +kernel
theorem dX12_laysFar_9 : decode cX12_laysFar 9 = .ok (.if_icmp .ge 60, 3) := by decide +kernel
theorem dX12_laysFar_12 : decode cX12_laysFar 12 = .ok (.iconst 0, 1) := by decide +kernel
theorem dX12_laysFar_13 : decode cX12_laysFar 13 = .ok (.istore_n 2, 1) := by decide +kernel
theorem dX12_laysFar_14 : decode cX12_laysFar 14 = .ok (.iload_n 2, 1) := by decide +kernel
theorem dX12_laysFar_15 : decode cX12_laysFar 15 = .ok (.aload_n 0, 1) := by decide +kernel
theorem dX12_laysFar_16 : decode cX12_laysFar 16 = .ok (.getfield 23, 3) := by decide +kernel
theorem dX12_laysFar_19 : decode cX12_laysFar 19 = .ok (.iconst 0, 1) := by decide +kernel
theorem dX12_laysFar_20 : decode cX12_laysFar 20 = .ok (.iaload, 1) := by decide +kernel
theorem dX12_laysFar_21 : decode cX12_laysFar 21 = .ok (.if_icmp .ge 42, 3) := by decide +kernel
theorem dX12_laysFar_24 : decode cX12_laysFar 24 = .ok (.aload_n 0, 1) := by decide +kernel
theorem dX12_laysFar_25 : decode cX12_laysFar 25 = .ok (.getfield 100, 3) := by decide +kernel
theorem dX12_laysFar_28 : decode cX12_laysFar 28 = .ok (.iload_n 1, 1) := by decide +kernel
theorem dX12_laysFar_29 : decode cX12_laysFar 29 = .ok (.aaload, 1) := by decide +kernel
theorem dX12_laysFar_30 : decode cX12_laysFar 30 = .ok (.iload_n 2, 1) := by decide +kernel
theorem dX12_laysFar_31 : decode cX12_laysFar 31 = .ok (.iload_n 1, 1) := by decide +kernel
theorem dX12_laysFar_32 : decode cX12_laysFar 32 = .ok (.iload_n 2, 1) := by decide +kernel
theorem dX12_laysFar_33 : decode cX12_laysFar 33 = .ok (.if_icmp .ne 7, 3) := by decide +kernel
theorem dX12_laysFar_36 : decode cX12_laysFar 36 = .ok (.iconst 0, 1) := by decide +kernel
theorem dX12_laysFar_37 : decode cX12_laysFar 37 = .ok (.goto 19, 3) := by decide +kernel
theorem dX12_laysFar_40 : decode cX12_laysFar 40 = .ok (.aload_n 0, 1) := by decide +kernel
theorem dX12_laysFar_41 : decode cX12_laysFar 41 = .ok (.iload_n 1, 1) := by decide +kernel
theorem dX12_laysFar_42 : decode cX12_laysFar 42 = .ok (.iload_n 2, 1) := by decide +kernel
theorem dX12_laysFar_43 : decode cX12_laysFar 43 = .ok (.invokevirtual 267, 3) := by decide +kernel
theorem dX12_laysFar_46 : decode cX12_laysFar 46 = .ok (.iconst (-1), 1) := by decide +kernel
theorem dX12_laysFar_47 : decode cX12_laysFar 47 = .ok (.if_icmp .ne 8, 3) := by decide +kernel
theorem dX12_laysFar_50 : decode cX12_laysFar 50 = .ok (.bipush 99, 2) := by decide +kernel
theorem dX12_laysFar_52 : decode cX12_laysFar 52 = .ok (.goto 4, 3) := by decide +kernel
theorem dX12_laysFar_55 : decode cX12_laysFar 55 = .ok (.iconst 1, 1) := by decide +kernel
theorem dX12_laysFar_56 : decode cX12_laysFar 56 = .ok (.iastore, 1) := by decide +kernel
theorem dX12_laysFar_57 : decode cX12_laysFar 57 = .ok (.iinc 2 1, 3) := by decide +kernel
theorem dX12_laysFar_60 : decode cX12_laysFar 60 = .ok (.goto (-46), 3) := by decide +kernel
theorem dX12_laysFar_63 : decode cX12_laysFar 63 = .ok (.iinc 1 1, 3) := by decide +kernel
theorem dX12_laysFar_66 : decode cX12_laysFar 66 = .ok (.goto (-64), 3) := by decide +kernel
theorem dX12_laysFar_69 : decode cX12_laysFar 69 = .ok (.iconst 0, 1) := by decide +kernel
theorem dX12_laysFar_70 : decode cX12_laysFar 70 = .ok (.istore_n 1, 1) := by decide +kernel
theorem dX12_laysFar_71 : decode cX12_laysFar 71 = .ok (.iload_n 1, 1) := by decide +kernel
theorem dX12_laysFar_72 : decode cX12_laysFar 72 = .ok (.aload_n 0, 1) := by decide +kernel
theorem dX12_laysFar_73 : decode cX12_laysFar 73 = .ok (.getfield 23, 3) := by decide +kernel
theorem dX12_laysFar_76 : decode cX12_laysFar 76 = .ok (.iconst 0, 1) := by decide +kernel
theorem dX12_laysFar_77 : decode cX12_laysFar 77 = .ok (.iaload, 1) := by decide +kernel
theorem dX12_laysFar_78 : decode cX12_laysFar 78 = .ok (.if_icmp .ge 81, 3) := by decide +kernel
theorem dX12_laysFar_81 : decode cX12_laysFar 81 = .ok (.iconst 0, 1) := by decide +kernel
theorem dX12_laysFar_82 : decode cX12_laysFar 82 = .ok (.istore_n 2, 1) := by decide +kernel
theorem dX12_laysFar_83 : decode cX12_laysFar 83 = .ok (.iload_n 2, 1) := by decide +kernel
theorem dX12_laysFar_84 : decode cX12_laysFar 84 = .ok (.aload_n 0, 1) := by decide +kernel
theorem dX12_laysFar_85 : decode cX12_laysFar 85 = .ok (.getfield 23, 3) := by decide +kernel
theorem dX12_laysFar_88 : decode cX12_laysFar 88 = .ok (.iconst 0, 1) := by decide +kernel
theorem dX12_laysFar_89 : decode cX12_laysFar 89 = .ok (.iaload, 1) := by decide +kernel
theorem dX12_laysFar_90 : decode cX12_laysFar 90 = .ok (.if_icmp .ge 63, 3) := by decide +kernel
theorem dX12_laysFar_93 : decode cX12_laysFar 93 = .ok (.iconst 0, 1) := by decide +kernel
theorem dX12_laysFar_94 : decode cX12_laysFar 94 = .ok (.istore_n 3, 1) := by decide +kernel
theorem dX12_laysFar_95 : decode cX12_laysFar 95 = .ok (.iload_n 3, 1) := by decide +kernel
theorem dX12_laysFar_96 : decode cX12_laysFar 96 = .ok (.aload_n 0, 1) := by decide +kernel
theorem dX12_laysFar_97 : decode cX12_laysFar 97 = .ok (.getfield 23, 3) := by decide +kernel
theorem dX12_laysFar_100 : decode cX12_laysFar 100 = .ok (.iconst 0, 1) := by decide +kernel
theorem dX12_laysFar_101 : decode cX12_laysFar 101 = .ok (.iaload, 1) := by decide +kernel
theorem dX12_laysFar_102 : decode cX12_laysFar 102 = .ok (.if_icmp .ge 45, 3) := by decide +kernel
theorem dX12_laysFar_105 : decode cX12_laysFar 105 = .ok (.aload_n 0, 1) := by decide +kernel
theorem dX12_laysFar_106 : decode cX12_laysFar 106 = .ok (.getfield 100, 3) := by decide +kernel
theorem dX12_laysFar_109 : decode cX12_laysFar 109 = .ok (.iload_n 2, 1) := by decide +kernel
theorem dX12_laysFar_110 : decode cX12_laysFar 110 = .ok (.aaload, 1) := by decide +kernel
theorem dX12_laysFar_111 : decode cX12_laysFar 111 = .ok (.iload_n 3, 1) := by decide +kernel
theorem dX12_laysFar_112 : decode cX12_laysFar 112 = .ok (.aload_n 0, 1) := by decide +kernel
theorem dX12_laysFar_113 : decode cX12_laysFar 113 = .ok (.getfield 100, 3) := by decide +kernel
theorem dX12_laysFar_116 : decode cX12_laysFar 116 = .ok (.iload_n 2, 1) := by decide +kernel
theorem dX12_laysFar_117 : decode cX12_laysFar 117 = .ok (.aaload, 1) := by decide +kernel
theorem dX12_laysFar_118 : decode cX12_laysFar 118 = .ok (.iload_n 3, 1) := by decide +kernel
theorem dX12_laysFar_119 : decode cX12_laysFar 119 = .ok (.iaload, 1) := by decide +kernel
theorem dX12_laysFar_120 : decode cX12_laysFar 120 = .ok (.aload_n 0, 1) := by decide +kernel
theorem dX12_laysFar_121 : decode cX12_laysFar 121 = .ok (.getfield 100, 3) := by decide +kernel
theorem dX12_laysFar_124 : decode cX12_laysFar 124 = .ok (.iload_n 2, 1) := by decide +kernel
theorem dX12_laysFar_125 : decode cX12_laysFar 125 = .ok (.aaload, 1) := by decide +kernel
theorem dX12_laysFar_126 : decode cX12_laysFar 126 = .ok (.iload_n 1, 1) := by decide +kernel
theorem dX12_laysFar_127 : decode cX12_laysFar 127 = .ok (.iaload, 1) := by decide +kernel
theorem dX12_laysFar_128 : decode cX12_laysFar 128 = .ok (.aload_n 0, 1) := by decide +kernel
theorem dX12_laysFar_129 : decode cX12_laysFar 129 = .ok (.getfield 100, 3) := by decide +kernel
theorem dX12_laysFar_132 : decode cX12_laysFar 132 = .ok (.iload_n 1, 1) := by decide +kernel
theorem dX12_laysFar_133 : decode cX12_laysFar 133 = .ok (.aaload, 1) := by decide +kernel
theorem dX12_laysFar_134 : decode cX12_laysFar 134 = .ok (.iload_n 3, 1) := by decide +kernel
theorem dX12_laysFar_135 : decode cX12_laysFar 135 = .ok (.iaload, 1) := by decide +kernel
theorem dX12_laysFar_136 : decode cX12_laysFar 136 = .ok (.iadd, 1) := by decide +kernel
theorem dX12_laysFar_137 : decode cX12_laysFar 137 = .ok (.invokestatic 254, 3) := by decide +kernel
theorem dX12_laysFar_140 : decode cX12_laysFar 140 = .ok (.iastore, 1) := by decide +kernel
theorem dX12_laysFar_141 : decode cX12_laysFar 141 = .ok (.iinc 3 1, 3) := by decide +kernel
theorem dX12_laysFar_144 : decode cX12_laysFar 144 = .ok (.goto (-49), 3) := by decide +kernel
theorem dX12_laysFar_147 : decode cX12_laysFar 147 = .ok (.iinc 2 1, 3) := by decide +kernel
theorem dX12_laysFar_150 : decode cX12_laysFar 150 = .ok (.goto (-67), 3) := by decide +kernel
theorem dX12_laysFar_153 : decode cX12_laysFar 153 = .ok (.iinc 1 1, 3) := by decide +kernel
theorem dX12_laysFar_156 : decode cX12_laysFar 156 = .ok (.goto (-85), 3) := by decide +kernel
theorem dX12_laysFar_159 : decode cX12_laysFar 159 = .ok (.return_, 1) := by decide +kernel
theorem dX12_ledTo_0 : decode cX12_ledTo 0 = .ok (.iconst (-1), 1) := by decide +kernel
theorem dX12_ledTo_1 : decode cX12_ledTo 1 = .ok (.istore 4, 2) := by decide +kernel
theorem dX12_ledTo_3 : decode cX12_ledTo 3 = .ok (.iconst 0, 1) := by decide +kernel
theorem dX12_ledTo_4 : decode cX12_ledTo 4 = .ok (.istore 5, 2) := by decide +kernel
theorem dX12_ledTo_6 : decode cX12_ledTo 6 = .ok (.iconst 0, 1) := by decide +kernel
theorem dX12_ledTo_7 : decode cX12_ledTo 7 = .ok (.istore 6, 2) := by decide +kernel
theorem dX12_ledTo_9 : decode cX12_ledTo 9 = .ok (.iload 6, 2) := by decide +kernel
theorem dX12_ledTo_11 : decode cX12_ledTo 11 = .ok (.aload_n 0, 1) := by decide +kernel
theorem dX12_ledTo_12 : decode cX12_ledTo 12 = .ok (.getfield 23, 3) := by decide +kernel
theorem dX12_ledTo_15 : decode cX12_ledTo 15 = .ok (.iconst 0, 1) := by decide +kernel
theorem dX12_ledTo_16 : decode cX12_ledTo 16 = .ok (.iaload, 1) := by decide +kernel
theorem dX12_ledTo_17 : decode cX12_ledTo 17 = .ok (.if_icmp .ge 104, 3) := by decide +kernel
theorem dX12_ledTo_20 : decode cX12_ledTo 20 = .ok (.aload_n 0, 1) := by decide +kernel
theorem dX12_ledTo_21 : decode cX12_ledTo 21 = .ok (.aload_n 0, 1) := by decide +kernel
theorem dX12_ledTo_22 : decode cX12_ledTo 22 = .ok (.getfield 23, 3) := by decide +kernel
theorem dX12_ledTo_25 : decode cX12_ledTo 25 = .ok (.iconst 3, 1) := by decide +kernel
theorem dX12_ledTo_26 : decode cX12_ledTo 26 = .ok (.iaload, 1) := by decide +kernel
theorem dX12_ledTo_27 : decode cX12_ledTo 27 = .ok (.iload 6, 2) := by decide +kernel
theorem dX12_ledTo_29 : decode cX12_ledTo 29 = .ok (.invokevirtual 267, 3) := by decide +kernel
theorem dX12_ledTo_32 : decode cX12_ledTo 32 = .ok (.istore 7, 2) := by decide +kernel
theorem dX12_ledTo_34 : decode cX12_ledTo 34 = .ok (.iload 7, 2) := by decide +kernel
theorem dX12_ledTo_36 : decode cX12_ledTo 36 = .ok (.iconst (-1), 1) := by decide +kernel
theorem dX12_ledTo_37 : decode cX12_ledTo 37 = .ok (.if_icmp .ne 6, 3) := by decide +kernel
theorem dX12_ledTo_40 : decode cX12_ledTo 40 = .ok (.goto 75, 3) := by decide +kernel
theorem dX12_ledTo_43 : decode cX12_ledTo 43 = .ok (.iload_n 1, 1) := by decide +kernel
theorem dX12_ledTo_44 : decode cX12_ledTo 44 = .ok (.iload 6, 2) := by decide +kernel
theorem dX12_ledTo_46 : decode cX12_ledTo 46 = .ok (.if_icmp .ne 7, 3) := by decide +kernel
theorem dX12_ledTo_49 : decode cX12_ledTo 49 = .ok (.iload_n 3, 1) := by decide +kernel
theorem dX12_ledTo_50 : decode cX12_ledTo 50 = .ok (.goto 4, 3) := by decide +kernel
theorem dX12_ledTo_53 : decode cX12_ledTo 53 = .ok (.iconst 0, 1) := by decide +kernel
theorem dX12_ledTo_54 : decode cX12_ledTo 54 = .ok (.iload_n 2, 1) := by decide +kernel
theorem dX12_ledTo_55 : decode cX12_ledTo 55 = .ok (.iload 6, 2) := by decide +kernel
theorem dX12_ledTo_57 : decode cX12_ledTo 57 = .ok (.if_icmp .ne 7, 3) := by decide +kernel
theorem dX12_ledTo_60 : decode cX12_ledTo 60 = .ok (.iload_n 3, 1) := by decide +kernel
theorem dX12_ledTo_61 : decode cX12_ledTo 61 = .ok (.goto 4, 3) := by decide +kernel
theorem dX12_ledTo_64 : decode cX12_ledTo 64 = .ok (.iconst 0, 1) := by decide +kernel
theorem dX12_ledTo_65 : decode cX12_ledTo 65 = .ok (.iadd, 1) := by decide +kernel
theorem dX12_ledTo_66 : decode cX12_ledTo 66 = .ok (.istore 8, 2) := by decide +kernel
theorem dX12_ledTo_68 : decode cX12_ledTo 68 = .ok (.aload_n 0, 1) := by decide +kernel
theorem dX12_ledTo_69 : decode cX12_ledTo 69 = .ok (.aload_n 0, 1) := by decide +kernel
theorem dX12_ledTo_70 : decode cX12_ledTo 70 = .ok (.getfield 73, 3) := by decide +kernel
theorem dX12_ledTo_73 : decode cX12_ledTo 73 = .ok (.iload 7, 2) := by decide +kernel
theorem dX12_ledTo_75 : decode cX12_ledTo 75 = .ok (.aload_n 0, 1) := by decide +kernel
theorem dX12_ledTo_76 : decode cX12_ledTo 76 = .ok (.getfield 23, 3) := by decide +kernel
theorem dX12_ledTo_79 : decode cX12_ledTo 79 = .ok (.iconst 3, 1) := by decide +kernel
theorem dX12_ledTo_80 : decode cX12_ledTo 80 = .ok (.iaload, 1) := by decide +kernel
theorem dX12_ledTo_81 : decode cX12_ledTo 81 = .ok (.iload 6, 2) := by decide +kernel
theorem dX12_ledTo_83 : decode cX12_ledTo 83 = .ok (.iload 8, 2) := by decide +kernel
theorem dX12_ledTo_85 : decode cX12_ledTo 85 = .ok (.iconst 2, 1) := by decide +kernel
theorem dX12_ledTo_86 : decode cX12_ledTo 86 = .ok (.iload_n 3, 1) := by decide +kernel
theorem dX12_ledTo_87 : decode cX12_ledTo 87 = .ok (.imul, 1) := by decide +kernel
theorem dX12_ledTo_88 : decode cX12_ledTo 88 = .ok (.iload 8, 2) := by decide +kernel
theorem dX12_ledTo_90 : decode cX12_ledTo 90 = .ok (.isub, 1) := by decide +kernel
theorem dX12_ledTo_91 : decode cX12_ledTo 91 = .ok (.iconst 0, 1) := by decide +kernel
theorem dX12_ledTo_92 : decode cX12_ledTo 92 = .ok (.invokevirtual 293, 3) := by decide +kernel
theorem dX12_ledTo_95 : decode cX12_ledTo 95 = .ok (.istore 9, 2) := by decide +kernel
theorem dX12_ledTo_97 : decode cX12_ledTo 97 = .ok (.iload 9, 2) := by decide +kernel
theorem dX12_ledTo_99 : decode cX12_ledTo 99 = .ok (.iload 5, 2) := by decide +kernel
theorem dX12_ledTo_101 : decode cX12_ledTo 101 = .ok (.if_icmp .gt 6, 3) := by decide +kernel
theorem dX12_ledTo_104 : decode cX12_ledTo 104 = .ok (.goto 11, 3) := by decide +kernel
theorem dX12_ledTo_107 : decode cX12_ledTo 107 = .ok (.iload 6, 2) := by decide +kernel
theorem dX12_ledTo_109 : decode cX12_ledTo 109 = .ok (.istore 4, 2) := by decide +kernel
theorem dX12_ledTo_111 : decode cX12_ledTo 111 = .ok (.iload 9, 2) := by decide +kernel
theorem dX12_ledTo_113 : decode cX12_ledTo 113 = .ok (.istore 5, 2) := by decide +kernel
theorem dX12_ledTo_115 : decode cX12_ledTo 115 = .ok (.iinc 6 1, 3) := by decide +kernel
theorem dX12_ledTo_118 : decode cX12_ledTo 118 = .ok (.goto (-109), 3) := by decide +kernel
theorem dX12_ledTo_121 : decode cX12_ledTo 121 = .ok (.iload 4, 2) := by decide +kernel
theorem dX12_ledTo_123 : decode cX12_ledTo 123 = .ok (.ireturn, 1) := by decide +kernel
theorem dX12_silences_0 : decode cX12_silences 0 = .ok (.aload_n 0, 1) := by decide +kernel
theorem dX12_silences_1 : decode cX12_silences 1 = .ok (.getfield 73, 3) := by decide +kernel
theorem dX12_silences_4 : decode cX12_silences 4 = .ok (.aload_n 0, 1) := by decide +kernel
theorem dX12_silences_5 : decode cX12_silences 5 = .ok (.getfield 76, 3) := by decide +kernel
theorem dX12_silences_8 : decode cX12_silences 8 = .ok (.invokestatic 342, 3) := by decide +kernel
theorem dX12_silences_11 : decode cX12_silences 11 = .ok (.iconst 0, 1) := by decide +kernel
theorem dX12_silences_12 : decode cX12_silences 12 = .ok (.istore_n 2, 1) := by decide +kernel
theorem dX12_silences_13 : decode cX12_silences 13 = .ok (.iload_n 2, 1) := by decide +kernel
theorem dX12_silences_14 : decode cX12_silences 14 = .ok (.aload_n 0, 1) := by decide +kernel
theorem dX12_silences_15 : decode cX12_silences 15 = .ok (.getfield 23, 3) := by decide +kernel
theorem dX12_silences_18 : decode cX12_silences 18 = .ok (.iconst 2, 1) := by decide +kernel
theorem dX12_silences_19 : decode cX12_silences 19 = .ok (.iaload, 1) := by decide +kernel
theorem dX12_silences_20 : decode cX12_silences 20 = .ok (.if_icmp .ge 45, 3) := by decide +kernel
theorem dX12_silences_23 : decode cX12_silences 23 = .ok (.iconst 0, 1) := by decide +kernel
theorem dX12_silences_24 : decode cX12_silences 24 = .ok (.istore_n 3, 1) := by decide +kernel
theorem dX12_silences_25 : decode cX12_silences 25 = .ok (.iload_n 3, 1) := by decide +kernel
theorem dX12_silences_26 : decode cX12_silences 26 = .ok (.bipush 12, 2) := by decide +kernel
theorem dX12_silences_28 : decode cX12_silences 28 = .ok (.if_icmp .ge 31, 3) := by decide +kernel
theorem dX12_silences_31 : decode cX12_silences 31 = .ok (.iload_n 1, 1) := by decide +kernel
theorem dX12_silences_32 : decode cX12_silences 32 = .ok (.iload_n 2, 1) := by decide +kernel
theorem dX12_silences_33 : decode cX12_silences 33 = .ok (.invokestatic 282, 3) := by decide +kernel
theorem dX12_silences_36 : decode cX12_silences 36 = .ok (.ifCond .eq 23, 3) := by decide +kernel
theorem dX12_silences_39 : decode cX12_silences 39 = .ok (.aload_n 0, 1) := by decide +kernel
theorem dX12_silences_40 : decode cX12_silences 40 = .ok (.getfield 76, 3) := by decide +kernel
theorem dX12_silences_43 : decode cX12_silences 43 = .ok (.iconst 0, 1) := by decide +kernel
theorem dX12_silences_44 : decode cX12_silences 44 = .ok (.bipush 12, 2) := by decide +kernel
theorem dX12_silences_46 : decode cX12_silences 46 = .ok (.iload_n 2, 1) := by decide +kernel
theorem dX12_silences_47 : decode cX12_silences 47 = .ok (.imul, 1) := by decide +kernel
theorem dX12_silences_48 : decode cX12_silences 48 = .ok (.iadd, 1) := by decide +kernel
theorem dX12_silences_49 : decode cX12_silences 49 = .ok (.iload_n 3, 1) := by decide +kernel
theorem dX12_silences_50 : decode cX12_silences 50 = .ok (.iadd, 1) := by decide +kernel
theorem dX12_silences_51 : decode cX12_silences 51 = .ok (.iconst (-1), 1) := by decide +kernel
theorem dX12_silences_52 : decode cX12_silences 52 = .ok (.iastore, 1) := by decide +kernel
theorem dX12_silences_53 : decode cX12_silences 53 = .ok (.iinc 3 1, 3) := by decide +kernel
theorem dX12_silences_56 : decode cX12_silences 56 = .ok (.goto (-31), 3) := by decide +kernel
theorem dX12_silences_59 : decode cX12_silences 59 = .ok (.iinc 2 1, 3) := by decide +kernel
theorem dX12_silences_62 : decode cX12_silences 62 = .ok (.goto (-49), 3) := by decide +kernel
theorem dX12_silences_65 : decode cX12_silences 65 = .ok (.return_, 1) := by decide +kernel
theorem dX12_isForgotten_0 : decode cX12_isForgotten 0 = .ok (.aload_n 0, 1) := by decide +kernel
theorem dX12_isForgotten_1 : decode cX12_isForgotten 1 = .ok (.iload_n 1, 1) := by decide +kernel
theorem dX12_isForgotten_2 : decode cX12_isForgotten 2 = .ok (.invokevirtual 378, 3) := by decide +kernel
theorem dX12_isForgotten_5 : decode cX12_isForgotten 5 = .ok (.iconst 0, 1) := by decide +kernel
theorem dX12_isForgotten_6 : decode cX12_isForgotten 6 = .ok (.istore_n 2, 1) := by decide +kernel
theorem dX12_isForgotten_7 : decode cX12_isForgotten 7 = .ok (.iload_n 2, 1) := by decide +kernel
theorem dX12_isForgotten_8 : decode cX12_isForgotten 8 = .ok (.aload_n 0, 1) := by decide +kernel
theorem dX12_isForgotten_9 : decode cX12_isForgotten 9 = .ok (.getfield 211, 3) := by decide +kernel
theorem dX12_isForgotten_12 : decode cX12_isForgotten 12 = .ok (.if_icmp .ge 38, 3) := by decide +kernel
theorem dX12_isForgotten_15 : decode cX12_isForgotten 15 = .ok (.aload_n 0, 1) := by decide +kernel
theorem dX12_isForgotten_16 : decode cX12_isForgotten 16 = .ok (.aload_n 0, 1) := by decide +kernel
theorem dX12_isForgotten_17 : decode cX12_isForgotten 17 = .ok (.getfield 76, 3) := by decide +kernel
theorem dX12_isForgotten_20 : decode cX12_isForgotten 20 = .ok (.aload_n 0, 1) := by decide +kernel
theorem dX12_isForgotten_21 : decode cX12_isForgotten 21 = .ok (.getfield 58, 3) := by decide +kernel
theorem dX12_isForgotten_24 : decode cX12_isForgotten 24 = .ok (.iload_n 2, 1) := by decide +kernel
theorem dX12_isForgotten_25 : decode cX12_isForgotten 25 = .ok (.aaload, 1) := by decide +kernel
theorem dX12_isForgotten_26 : decode cX12_isForgotten 26 = .ok (.iconst 0, 1) := by decide +kernel
theorem dX12_isForgotten_27 : decode cX12_isForgotten 27 = .ok (.iaload, 1) := by decide +kernel
theorem dX12_isForgotten_28 : decode cX12_isForgotten 28 = .ok (.invokevirtual 301, 3) := by decide +kernel
theorem dX12_isForgotten_31 : decode cX12_isForgotten 31 = .ok (.aload_n 0, 1) := by decide +kernel
theorem dX12_isForgotten_32 : decode cX12_isForgotten 32 = .ok (.getfield 58, 3) := by decide +kernel
theorem dX12_isForgotten_35 : decode cX12_isForgotten 35 = .ok (.iload_n 2, 1) := by decide +kernel
theorem dX12_isForgotten_36 : decode cX12_isForgotten 36 = .ok (.aaload, 1) := by decide +kernel
theorem dX12_isForgotten_37 : decode cX12_isForgotten 37 = .ok (.iconst 1, 1) := by decide +kernel
theorem dX12_isForgotten_38 : decode cX12_isForgotten 38 = .ok (.iaload, 1) := by decide +kernel
theorem dX12_isForgotten_39 : decode cX12_isForgotten 39 = .ok (.if_icmp .eq 5, 3) := by decide +kernel
theorem dX12_isForgotten_42 : decode cX12_isForgotten 42 = .ok (.iconst 0, 1) := by decide +kernel
theorem dX12_isForgotten_43 : decode cX12_isForgotten 43 = .ok (.ireturn, 1) := by decide +kernel
theorem dX12_isForgotten_44 : decode cX12_isForgotten 44 = .ok (.iinc 2 1, 3) := by decide +kernel
theorem dX12_isForgotten_47 : decode cX12_isForgotten 47 = .ok (.goto (-40), 3) := by decide +kernel
theorem dX12_isForgotten_50 : decode cX12_isForgotten 50 = .ok (.iconst 1, 1) := by decide +kernel
theorem dX12_isForgotten_51 : decode cX12_isForgotten 51 = .ok (.ireturn, 1) := by decide +kernel
theorem dX12_laysTells_0 : decode cX12_laysTells 0 = .ok (.aload_n 0, 1) := by decide +kernel
theorem dX12_laysTells_1 : decode cX12_laysTells 1 = .ok (.iconst 0, 1) := by decide +kernel
theorem dX12_laysTells_2 : decode cX12_laysTells 2 = .ok (.putfield 369, 3) := by decide +kernel
theorem dX12_laysTells_5 : decode cX12_laysTells 5 = .ok (.iconst 0, 1) := by decide +kernel
theorem dX12_laysTells_6 : decode cX12_laysTells 6 = .ok (.istore_n 2, 1) := by decide +kernel
theorem dX12_laysTells_7 : decode cX12_laysTells 7 = .ok (.iload_n 2, 1) := by decide +kernel
theorem dX12_laysTells_8 : decode cX12_laysTells 8 = .ok (.aload_n 0, 1) := by decide +kernel
theorem dX12_laysTells_9 : decode cX12_laysTells 9 = .ok (.getfield 23, 3) := by decide +kernel
theorem dX12_laysTells_12 : decode cX12_laysTells 12 = .ok (.iconst 0, 1) := by decide +kernel
theorem dX12_laysTells_13 : decode cX12_laysTells 13 = .ok (.iaload, 1) := by decide +kernel
theorem dX12_laysTells_14 : decode cX12_laysTells 14 = .ok (.if_icmp .ge 134, 3) := by decide +kernel
theorem dX12_laysTells_17 : decode cX12_laysTells 17 = .ok (.iconst 0, 1) := by decide +kernel
theorem dX12_laysTells_18 : decode cX12_laysTells 18 = .ok (.istore_n 3, 1) := by decide +kernel
theorem dX12_laysTells_19 : decode cX12_laysTells 19 = .ok (.iload_n 3, 1) := by decide +kernel
theorem dX12_laysTells_20 : decode cX12_laysTells 20 = .ok (.aload_n 0, 1) := by decide +kernel
theorem dX12_laysTells_21 : decode cX12_laysTells 21 = .ok (.getfield 23, 3) := by decide +kernel
theorem dX12_laysTells_24 : decode cX12_laysTells 24 = .ok (.iconst 0, 1) := by decide +kernel
theorem dX12_laysTells_25 : decode cX12_laysTells 25 = .ok (.iaload, 1) := by decide +kernel
theorem dX12_laysTells_26 : decode cX12_laysTells 26 = .ok (.if_icmp .ge 116, 3) := by decide +kernel
theorem dX12_laysTells_29 : decode cX12_laysTells 29 = .ok (.aload_n 0, 1) := by decide +kernel
theorem dX12_laysTells_30 : decode cX12_laysTells 30 = .ok (.iload_n 2, 1) := by decide +kernel
theorem dX12_laysTells_31 : decode cX12_laysTells 31 = .ok (.iload_n 3, 1) := by decide +kernel
theorem dX12_laysTells_32 : decode cX12_laysTells 32 = .ok (.invokevirtual 267, 3) := by decide +kernel
theorem dX12_laysTells_35 : decode cX12_laysTells 35 = .ok (.iconst (-1), 1) := by decide +kernel
theorem dX12_laysTells_36 : decode cX12_laysTells 36 = .ok (.if_icmp .eq 100, 3) := by decide +kernel
theorem dX12_laysTells_39 : decode cX12_laysTells 39 = .ok (.aload_n 0, 1) := by decide +kernel
theorem dX12_laysTells_40 : decode cX12_laysTells 40 = .ok (.getfield 73, 3) := by decide +kernel
theorem dX12_laysTells_43 : decode cX12_laysTells 43 = .ok (.iconst 0, 1) := by decide +kernel
theorem dX12_laysTells_44 : decode cX12_laysTells 44 = .ok (.bipush 12, 2) := by decide +kernel
theorem dX12_laysTells_46 : decode cX12_laysTells 46 = .ok (.iload_n 1, 1) := by decide +kernel
theorem dX12_laysTells_47 : decode cX12_laysTells 47 = .ok (.imul, 1) := by decide +kernel
theorem dX12_laysTells_48 : decode cX12_laysTells 48 = .ok (.iadd, 1) := by decide +kernel
theorem dX12_laysTells_49 : decode cX12_laysTells 49 = .ok (.iload_n 2, 1) := by decide +kernel
theorem dX12_laysTells_50 : decode cX12_laysTells 50 = .ok (.iadd, 1) := by decide +kernel
theorem dX12_laysTells_51 : decode cX12_laysTells 51 = .ok (.iaload, 1) := by decide +kernel
theorem dX12_laysTells_52 : decode cX12_laysTells 52 = .ok (.iload_n 3, 1) := by decide +kernel
theorem dX12_laysTells_53 : decode cX12_laysTells 53 = .ok (.if_icmp .ne 6, 3) := by decide +kernel
theorem dX12_laysTells_56 : decode cX12_laysTells 56 = .ok (.goto 80, 3) := by decide +kernel
theorem dX12_laysTells_59 : decode cX12_laysTells 59 = .ok (.aload_n 0, 1) := by decide +kernel
theorem dX12_laysTells_60 : decode cX12_laysTells 60 = .ok (.getfield 73, 3) := by decide +kernel
theorem dX12_laysTells_63 : decode cX12_laysTells 63 = .ok (.aload_n 0, 1) := by decide +kernel
theorem dX12_laysTells_64 : decode cX12_laysTells 64 = .ok (.getfield 76, 3) := by decide +kernel
theorem dX12_laysTells_67 : decode cX12_laysTells 67 = .ok (.invokestatic 342, 3) := by decide +kernel
theorem dX12_laysTells_70 : decode cX12_laysTells 70 = .ok (.aload_n 0, 1) := by decide +kernel
theorem dX12_laysTells_71 : decode cX12_laysTells 71 = .ok (.getfield 76, 3) := by decide +kernel
theorem dX12_laysTells_74 : decode cX12_laysTells 74 = .ok (.iconst 0, 1) := by decide +kernel
theorem dX12_laysTells_75 : decode cX12_laysTells 75 = .ok (.bipush 12, 2) := by decide +kernel
theorem dX12_laysTells_77 : decode cX12_laysTells 77 = .ok (.iload_n 1, 1) := by decide +kernel
theorem dX12_laysTells_78 : decode cX12_laysTells 78 = .ok (.imul, 1) := by decide +kernel
theorem dX12_laysTells_79 : decode cX12_laysTells 79 = .ok (.iadd, 1) := by decide +kernel
theorem dX12_laysTells_80 : decode cX12_laysTells 80 = .ok (.iload_n 2, 1) := by decide +kernel
theorem dX12_laysTells_81 : decode cX12_laysTells 81 = .ok (.iadd, 1) := by decide +kernel
theorem dX12_laysTells_82 : decode cX12_laysTells 82 = .ok (.iload_n 3, 1) := by decide +kernel
theorem dX12_laysTells_83 : decode cX12_laysTells 83 = .ok (.iastore, 1) := by decide +kernel
theorem dX12_laysTells_84 : decode cX12_laysTells 84 = .ok (.aload_n 0, 1) := by decide +kernel
theorem dX12_laysTells_85 : decode cX12_laysTells 85 = .ok (.getfield 91, 3) := by decide +kernel
theorem dX12_laysTells_88 : decode cX12_laysTells 88 = .ok (.aload_n 0, 1) := by decide +kernel
theorem dX12_laysTells_89 : decode cX12_laysTells 89 = .ok (.getfield 369, 3) := by decide +kernel
theorem dX12_laysTells_92 : decode cX12_laysTells 92 = .ok (.aaload, 1) := by decide +kernel
theorem dX12_laysTells_93 : decode cX12_laysTells 93 = .ok (.iconst 0, 1) := by decide +kernel
theorem dX12_laysTells_94 : decode cX12_laysTells 94 = .ok (.iload_n 2, 1) := by decide +kernel
theorem dX12_laysTells_95 : decode cX12_laysTells 95 = .ok (.iastore, 1) := by decide +kernel
theorem dX12_laysTells_96 : decode cX12_laysTells 96 = .ok (.aload_n 0, 1) := by decide +kernel
theorem dX12_laysTells_97 : decode cX12_laysTells 97 = .ok (.getfield 91, 3) := by decide +kernel
theorem dX12_laysTells_100 : decode cX12_laysTells 100 = .ok (.aload_n 0, 1) := by decide +kernel
theorem dX12_laysTells_101 : decode cX12_laysTells 101 = .ok (.getfield 369, 3) := by decide +kernel
theorem dX12_laysTells_104 : decode cX12_laysTells 104 = .ok (.aaload, 1) := by decide +kernel
theorem dX12_laysTells_105 : decode cX12_laysTells 105 = .ok (.iconst 1, 1) := by decide +kernel
theorem dX12_laysTells_106 : decode cX12_laysTells 106 = .ok (.iload_n 3, 1) := by decide +kernel
theorem dX12_laysTells_107 : decode cX12_laysTells 107 = .ok (.iastore, 1) := by decide +kernel
theorem dX12_laysTells_108 : decode cX12_laysTells 108 = .ok (.aload_n 0, 1) := by decide +kernel
theorem dX12_laysTells_109 : decode cX12_laysTells 109 = .ok (.getfield 94, 3) := by decide +kernel
theorem dX12_laysTells_112 : decode cX12_laysTells 112 = .ok (.aload_n 0, 1) := by decide +kernel
theorem dX12_laysTells_113 : decode cX12_laysTells 113 = .ok (.getfield 369, 3) := by decide +kernel
theorem dX12_laysTells_116 : decode cX12_laysTells 116 = .ok (.aload_n 0, 1) := by decide +kernel
theorem dX12_laysTells_117 : decode cX12_laysTells 117 = .ok (.aload_n 0, 1) := by decide +kernel
theorem dX12_laysTells_118 : decode cX12_laysTells 118 = .ok (.getfield 76, 3) := by decide +kernel
theorem dX12_laysTells_121 : decode cX12_laysTells 121 = .ok (.iload_n 2, 1) := by decide +kernel
theorem dX12_laysTells_122 : decode cX12_laysTells 122 = .ok (.invokevirtual 301, 3) := by decide +kernel
theorem dX12_laysTells_125 : decode cX12_laysTells 125 = .ok (.iastore, 1) := by decide +kernel
theorem dX12_laysTells_126 : decode cX12_laysTells 126 = .ok (.aload_n 0, 1) := by decide +kernel
theorem dX12_laysTells_127 : decode cX12_laysTells 127 = .ok (.dup, 1) := by decide +kernel
theorem dX12_laysTells_128 : decode cX12_laysTells 128 = .ok (.getfield 369, 3) := by decide +kernel
theorem dX12_laysTells_131 : decode cX12_laysTells 131 = .ok (.iconst 1, 1) := by decide +kernel
theorem dX12_laysTells_132 : decode cX12_laysTells 132 = .ok (.iadd, 1) := by decide +kernel
theorem dX12_laysTells_133 : decode cX12_laysTells 133 = .ok (.putfield 369, 3) := by decide +kernel
theorem dX12_laysTells_136 : decode cX12_laysTells 136 = .ok (.iinc 3 1, 3) := by decide +kernel
theorem dX12_laysTells_139 : decode cX12_laysTells 139 = .ok (.goto (-120), 3) := by decide +kernel
theorem dX12_laysTells_142 : decode cX12_laysTells 142 = .ok (.iinc 2 1, 3) := by decide +kernel
theorem dX12_laysTells_145 : decode cX12_laysTells 145 = .ok (.goto (-138), 3) := by decide +kernel
theorem dX12_laysTells_148 : decode cX12_laysTells 148 = .ok (.return_, 1) := by decide +kernel
noncomputable def r_X12_less (x0 : Int32) (x1 : Int32) : Int32 :=
  if x1 ≤ x0 then (x1) else (x0)
set_option maxHeartbeats 4000000 in
set_option maxRecDepth 20000 in
theorem ok_X12_less (x0 : Int32) (x1 : Int32) (m : Mem) {z : Int32} (h : r_X12_less x0 x1 = z) : Mt yX12_less cX12_less 2 (some .int) 1 0 0 0 [vI x0, vI x1] m (oI z) m := by
  refine Mt.of (by decide) (Nat.le_of_ble_eq_true rfl) (by decide +kernel) (hhF_ne (by decide)) ?_
  show Xj RX12 cX12_less 2 (some .int) 1 0 0 0 0 0 0 [(0, vI x0), (1, vI x1)] [] m (oI z) m
  unfold r_X12_less at h
  refine xj_iload_n 0 dX12_less_0 rfl ?_
  refine xj_iload_n 1 dX12_less_1 rfl ?_
  refine xj_icmp_ge (tgt := 9) dX12_less_2 (by decide) (fun c1 => ?_) (fun c1 => ?_)
  · rw [if_pos c1] at h
    refine xj_iload_n 1 dX12_less_9 rfl ?_
    subst h
    exact xj_ireturn dX12_less_10 rfl (by decide) (by decide)
  · rw [if_neg c1] at h
    refine xj_iload_n 0 dX12_less_5 rfl ?_
    refine xj_goto (tgt := 10) dX12_less_6 (by decide) ?_
    subst h
    exact xj_ireturn dX12_less_10 rfl (by decide) (by decide)
noncomputable def r_X12_more (x0 : Int32) (x1 : Int32) : Int32 :=
  if x0 ≤ x1 then (x1) else (x0)
set_option maxHeartbeats 4000000 in
set_option maxRecDepth 20000 in
theorem ok_X12_more (x0 : Int32) (x1 : Int32) (m : Mem) {z : Int32} (h : r_X12_more x0 x1 = z) : Mt yX12_more cX12_more 2 (some .int) 1 0 0 0 [vI x0, vI x1] m (oI z) m := by
  refine Mt.of (by decide) (Nat.le_of_ble_eq_true rfl) (by decide +kernel) (hhF_ne (by decide)) ?_
  show Xj RX12 cX12_more 2 (some .int) 1 0 0 0 0 0 0 [(0, vI x0), (1, vI x1)] [] m (oI z) m
  unfold r_X12_more at h
  refine xj_iload_n 0 dX12_more_0 rfl ?_
  refine xj_iload_n 1 dX12_more_1 rfl ?_
  refine xj_icmp_le (tgt := 9) dX12_more_2 (by decide) (fun c1 => ?_) (fun c1 => ?_)
  · rw [if_pos c1] at h
    refine xj_iload_n 1 dX12_more_9 rfl ?_
    subst h
    exact xj_ireturn dX12_more_10 rfl (by decide) (by decide)
  · rw [if_neg c1] at h
    refine xj_iload_n 0 dX12_more_5 rfl ?_
    refine xj_goto (tgt := 10) dX12_more_6 (by decide) ?_
    subst h
    exact xj_ireturn dX12_more_10 rfl (by decide) (by decide)
noncomputable def r_X12_by (x0 : Int32) (x1 : Int32) (x2 : Int32) : Option Int32 :=
  if x0 = 2 then (some (x1 + x2)) else if x0 = 3 then (some (x1 - x2)) else if x0 = 4 then (some (x1 * x2)) else if x0 = 5 then (if x2 = 0 then (some 0) else (if x2 = (-1) then (some (-x1)) else (if x2 = 0 then none else (some (x1 / x2))))) else if x0 = 6 then (if x2 = 0 then (some 0) else (if x2 = (-1) then (some 0) else (if x2 = 0 then none else (some (remI x1 x2))))) else if x0 = 7 then (some (r_X12_less x1 x2)) else (some (r_X12_more x1 x2))
set_option maxHeartbeats 4000000 in
set_option maxRecDepth 20000 in
theorem ok_X12_by (x0 : Int32) (x1 : Int32) (x2 : Int32) (m : Mem) {z : Int32} (h : r_X12_by x0 x1 x2 = some z) : Mt yX12_by cX12_by 3 (some .int) 2 21 0 0 [vI x0, vI x1, vI x2] m (oI z) m := by
  refine Mt.of (by decide) (Nat.le_of_ble_eq_true rfl) (by decide +kernel) (hhF_ne (by decide)) ?_
  show Xj RX12 cX12_by 3 (some .int) 2 21 0 0 0 0 0 [(0, vI x0), (1, vI x1), (2, vI x2)] [] m (oI z) m
  unfold r_X12_by at h
  refine xj_iload_n 0 dX12_by_0 rfl ?_
  by_cases c1 : x0 = 2
  · rw [if_pos c1] at h
    refine xj_tableIn (off := 39) (tgt := 40) dX12_by_1 (by rw [c1]; decide) (by rw [c1]; decide) (by rw [c1]; decide) (by decide) ?_
    refine xj_iload_n 1 dX12_by_40 rfl ?_
    refine xj_iload_n 2 dX12_by_41 rfl ?_
    refine xj_iadd dX12_by_42 ?_
    cases h
    exact xj_ireturn dX12_by_43 rfl (by decide) (by decide)
  rw [if_neg c1] at h
  by_cases c2 : x0 = 3
  · rw [if_pos c2] at h
    refine xj_tableIn (off := 43) (tgt := 44) dX12_by_1 (by rw [c2]; decide) (by rw [c2]; decide) (by rw [c2]; decide) (by decide) ?_
    refine xj_iload_n 1 dX12_by_44 rfl ?_
    refine xj_iload_n 2 dX12_by_45 rfl ?_
    refine xj_isub dX12_by_46 ?_
    cases h
    exact xj_ireturn dX12_by_47 rfl (by decide) (by decide)
  rw [if_neg c2] at h
  by_cases c3 : x0 = 4
  · rw [if_pos c3] at h
    refine xj_tableIn (off := 47) (tgt := 48) dX12_by_1 (by rw [c3]; decide) (by rw [c3]; decide) (by rw [c3]; decide) (by decide) ?_
    refine xj_iload_n 1 dX12_by_48 rfl ?_
    refine xj_iload_n 2 dX12_by_49 rfl ?_
    refine xj_imul dX12_by_50 ?_
    cases h
    exact xj_ireturn dX12_by_51 rfl (by decide) (by decide)
  rw [if_neg c3] at h
  by_cases c4 : x0 = 5
  · rw [if_pos c4] at h
    refine xj_tableIn (off := 51) (tgt := 52) dX12_by_1 (by rw [c4]; decide) (by rw [c4]; decide) (by rw [c4]; decide) (by decide) ?_
    refine xj_iload_n 2 dX12_by_52 rfl ?_
    refine xj_if_ne (tgt := 60) dX12_by_53 (by decide) (fun c5 => ?_) (fun c5 => ?_)
    · rw [if_neg c5] at h
      refine xj_iload_n 2 dX12_by_60 rfl ?_
      refine xj_iconst (z := (-1)) dX12_by_61 (by decide) ?_
      refine xj_icmp_ne (tgt := 70) dX12_by_62 (by decide) (fun c6 => ?_) (fun c6 => ?_)
      · rw [if_neg c6] at h
        refine xj_iload_n 1 dX12_by_70 rfl ?_
        refine xj_iload_n 2 dX12_by_71 rfl ?_
        by_cases c7 : x2 = 0
        · rw [if_pos c7] at h; cases h
        rw [if_neg c7] at h
        refine xj_idiv dX12_by_72 c7 ?_
        cases h
        exact xj_ireturn dX12_by_73 rfl (by decide) (by decide)
      · rw [if_pos c6] at h
        refine xj_iload_n 1 dX12_by_65 rfl ?_
        refine xj_ineg dX12_by_66 ?_
        refine xj_goto (tgt := 73) dX12_by_67 (by decide) ?_
        cases h
        exact xj_ireturn dX12_by_73 rfl (by decide) (by decide)
    · rw [if_pos c5] at h
      refine xj_iconst (z := 0) dX12_by_56 (by decide) ?_
      refine xj_goto (tgt := 73) dX12_by_57 (by decide) ?_
      cases h
      exact xj_ireturn dX12_by_73 rfl (by decide) (by decide)
  rw [if_neg c4] at h
  by_cases c8 : x0 = 6
  · rw [if_pos c8] at h
    refine xj_tableIn (off := 73) (tgt := 74) dX12_by_1 (by rw [c8]; decide) (by rw [c8]; decide) (by rw [c8]; decide) (by decide) ?_
    refine xj_iload_n 2 dX12_by_74 rfl ?_
    refine xj_if_eq (tgt := 83) dX12_by_75 (by decide) (fun c9 => ?_) (fun c9 => ?_)
    · rw [if_pos c9] at h
      refine xj_iconst (z := 0) dX12_by_83 (by decide) ?_
      refine xj_goto (tgt := 90) dX12_by_84 (by decide) ?_
      cases h
      exact xj_ireturn dX12_by_90 rfl (by decide) (by decide)
    · rw [if_neg c9] at h
      refine xj_iload_n 2 dX12_by_78 rfl ?_
      refine xj_iconst (z := (-1)) dX12_by_79 (by decide) ?_
      refine xj_icmp_ne (tgt := 87) dX12_by_80 (by decide) (fun c10 => ?_) (fun c10 => ?_)
      · rw [if_neg c10] at h
        refine xj_iload_n 1 dX12_by_87 rfl ?_
        refine xj_iload_n 2 dX12_by_88 rfl ?_
        by_cases c11 : x2 = 0
        · rw [if_pos c11] at h; cases h
        rw [if_neg c11] at h
        refine xg_irem dX12_by_89 c11 ?_
        cases h
        exact xj_ireturn dX12_by_90 rfl (by decide) (by decide)
      · rw [if_pos c10] at h
        refine xj_iconst (z := 0) dX12_by_83 (by decide) ?_
        refine xj_goto (tgt := 90) dX12_by_84 (by decide) ?_
        cases h
        exact xj_ireturn dX12_by_90 rfl (by decide) (by decide)
  rw [if_neg c8] at h
  by_cases c12 : x0 = 7
  · rw [if_pos c12] at h
    refine xj_tableIn (off := 90) (tgt := 91) dX12_by_1 (by rw [c12]; decide) (by rw [c12]; decide) (by rw [c12]; decide) (by decide) ?_
    refine xj_iload_n 1 dX12_by_91 rfl ?_
    refine xj_iload_n 2 dX12_by_92 rfl ?_
    refine xc_Si0 (st := []) (ok_X12_less x1 x2 m rfl) dX12_by_93 cs_X12_254 rfl rfl (Nat.le_of_ble_eq_true rfl) (by decide) (by decide) (by decide) (by decide) ?_
    cases h
    exact xj_ireturn dX12_by_96 rfl (by decide) (by decide)
  rw [if_neg c12] at h
  refine xj_tableOut (tgt := 97) dX12_by_1 ?_ (by decide) ?_
  · have nc1 := lv_neT c1 (show (2 : Int32).toInt = 2 by decide)
    have nc2 := lv_neT c2 (show (3 : Int32).toInt = 3 by decide)
    have nc3 := lv_neT c3 (show (4 : Int32).toInt = 4 by decide)
    have nc4 := lv_neT c4 (show (5 : Int32).toInt = 5 by decide)
    have nc8 := lv_neT c8 (show (6 : Int32).toInt = 6 by decide)
    have nc12 := lv_neT c12 (show (7 : Int32).toInt = 7 by decide)
    omega
  refine xj_iload_n 1 dX12_by_97 rfl ?_
  refine xj_iload_n 2 dX12_by_98 rfl ?_
  refine xc_Si0 (st := []) (ok_X12_more x1 x2 m rfl) dX12_by_99 cs_X12_257 rfl rfl (Nat.le_of_ble_eq_true rfl) (by decide) (by decide) (by decide) (by decide) ?_
  cases h
  exact xj_ireturn dX12_by_102 rfl (by decide) (by decide)
noncomputable def r_X12_byLaw_j135_c32 (x1 : Int32) (x2 : Int32) (m : Mem) : Option ((Int32 × Int32 × Mem) ⊕ (Mem)) :=
  some (Sum.inl (x1, x2 + 1, m))
set_option maxHeartbeats 4000000 in
set_option maxRecDepth 20000 in
theorem ok_X12_byLaw_j135_c32 (x1 : Int32) (x2 : Int32) (m : Mem) {r : (Int32 × Int32 × Mem) ⊕ (Mem)} (h : r_X12_byLaw_j135_c32 x1 x2 m = some r) {o : Ou} {M' : Mem} (kb : ∀ (x1' : Int32) (x2' : Int32) (m'' : Mem), r = Sum.inl (x1', x2', m'') → Xj RX12 cX12_byLaw 3 (some .int) 3 43 0 0 0 0 32 [(0, vR 12 0), (1, vI x1'), (2, vI x2')] [] m'' o M') (ke : ∀ (m'' : Mem), r = Sum.inr m'' → Xj RX12 cX12_byLaw 3 (some .int) 3 43 0 0 0 0 141 [(0, vR 12 0)] [] m'' o M') : Xj RX12 cX12_byLaw 3 (some .int) 3 43 0 0 0 0 135 [(0, vR 12 0), (1, vI x1), (2, vI x2)] [] m o M' := by
  unfold r_X12_byLaw_j135_c32 at h
  refine xj_iinc (z := x2 + 1) (ls' := [(2, vI (x2 + 1)), (0, vR 12 0), (1, vI x1)]) 2 dX12_byLaw_135 rfl rfl (by decide) rfl ?_
  refine xj_goto (tgt := 32) dX12_byLaw_138 (by decide) ?_
  cases h
  refine xj_pick (ls' := [(0, vR 12 0), (1, vI x1), (2, vI (x2 + 1))]) [1, 2, 0] rfl ?_
  exact kb x1 (x2 + 1) m rfl
noncomputable def r_X12_byLaw_j92_c32 (x1 : Int32) (x2 : Int32) (s0 : Int32) (s1 : Int32) (m : Mem) : Option ((Int32 × Int32 × Mem) ⊕ (Mem)) :=
  if inb s1 160 = true then (r_X12_byLaw_j135_c32 (x1 + 1) x2 (wr m 55 0 s1.toNatClampNeg s0)) else none
set_option maxHeartbeats 4000000 in
set_option maxRecDepth 20000 in
theorem ok_X12_byLaw_j92_c32 (x1 : Int32) (x2 : Int32) (s0 : Int32) (s1 : Int32) (m : Mem) {r : (Int32 × Int32 × Mem) ⊕ (Mem)} (h : r_X12_byLaw_j92_c32 x1 x2 s0 s1 m = some r) {o : Ou} {M' : Mem} (kb : ∀ (x1' : Int32) (x2' : Int32) (m'' : Mem), r = Sum.inl (x1', x2', m'') → Xj RX12 cX12_byLaw 3 (some .int) 3 43 0 0 0 0 32 [(0, vR 12 0), (1, vI x1'), (2, vI x2')] [] m'' o M') (ke : ∀ (m'' : Mem), r = Sum.inr m'' → Xj RX12 cX12_byLaw 3 (some .int) 3 43 0 0 0 0 141 [(0, vR 12 0)] [] m'' o M') : Xj RX12 cX12_byLaw 3 (some .int) 3 43 0 0 0 0 92 [(0, vR 12 0), (1, vI x1), (2, vI x2)] [vI s0, vI s1, vR 55 0] m o M' := by
  unfold r_X12_byLaw_j92_c32 at h
  by_cases c9 : inb s1 160 = true
  case neg => rw [if_neg c9] at h; cases h
  rw [if_pos c9] at h
  refine xg_iast (n := s1.toNatClampNeg) dX12_byLaw_92 rfl (by decide) (inb_in c9) rfl ?_
  refine xj_iinc (z := x1 + 1) (ls' := [(1, vI (x1 + 1)), (0, vR 12 0), (2, vI x2)]) 1 dX12_byLaw_93 rfl rfl (by decide) rfl ?_
  refine xj_goto (tgt := 135) dX12_byLaw_96 (by decide) ?_
  refine xj_pick (ls' := [(0, vR 12 0), (1, vI (x1 + 1)), (2, vI x2)]) [1, 0, 2] rfl ?_
  exact ok_X12_byLaw_j135_c32 (x1 + 1) x2 (wr m 55 0 s1.toNatClampNeg s0) h kb ke
noncomputable def r_X12_byLaw_b32 (x1 : Int32) (x2 : Int32) (m : Mem) : Option ((Int32 × Int32 × Mem) ⊕ (Mem)) :=
  if (m 12 0 21) ≤ x2 then (some (Sum.inr m)) else (if inb x2 160 = true then (if 2 ≤ (m 73 x2.toNatClampNeg 0) then (if inb ((x1 + (-1)) - 1) 160 = true then (if inb (x1 + (-1)) 160 = true then (bd1 (r_X12_by (m 73 x2.toNatClampNeg 0) (m 55 0 (((x1 + (-1)) - 1).toNatClampNeg)) (m 55 0 ((x1 + (-1)).toNatClampNeg))) fun z7 => (r_X12_byLaw_j135_c32 (x1 + (-1)) x2 (wr m 55 0 (((x1 + (-1)) - 1).toNatClampNeg) z7))) else none) else none) else (if (m 73 x2.toNatClampNeg 0) = 0 then (r_X12_byLaw_j92_c32 x1 x2 (m 73 x2.toNatClampNeg 1) x1 m) else (if inb (m 73 x2.toNatClampNeg 1) 9 = true then (r_X12_byLaw_j92_c32 x1 x2 (m 56 0 ((m 73 x2.toNatClampNeg 1).toNatClampNeg)) x1 m) else none))) else none)
set_option maxHeartbeats 4000000 in
set_option maxRecDepth 20000 in
theorem ok_X12_byLaw_b32 (x1 : Int32) (x2 : Int32) (m : Mem) {r : (Int32 × Int32 × Mem) ⊕ (Mem)} (h : r_X12_byLaw_b32 x1 x2 m = some r) {o : Ou} {M' : Mem} (kb : ∀ (x1' : Int32) (x2' : Int32) (m'' : Mem), r = Sum.inl (x1', x2', m'') → Xj RX12 cX12_byLaw 3 (some .int) 3 43 0 0 0 0 32 [(0, vR 12 0), (1, vI x1'), (2, vI x2')] [] m'' o M') (ke : ∀ (m'' : Mem), r = Sum.inr m'' → Xj RX12 cX12_byLaw 3 (some .int) 3 43 0 0 0 0 141 [(0, vR 12 0)] [] m'' o M') : Xj RX12 cX12_byLaw 3 (some .int) 3 43 0 0 0 0 32 [(0, vR 12 0), (1, vI x1), (2, vI x2)] [] m o M' := by
  unfold r_X12_byLaw_b32 at h
  refine xj_iload_n 2 dX12_byLaw_32 rfl ?_
  refine xj_aload_n 0 dX12_byLaw_33 rfl ?_
  refine xg_getI (x := (m 12 0 21)) dX12_byLaw_34 fl_X12_208 rfl rfl ?_
  refine xj_icmp_ge (tgt := 141) dX12_byLaw_37 (by decide) (fun c1 => ?_) (fun c1 => ?_)
  · rw [if_pos c1] at h
    cases h
    refine xj_pick (ls' := [(0, vR 12 0)]) [0] rfl ?_
    exact ke m rfl
  · rw [if_neg c1] at h
    refine xj_aload_n 0 dX12_byLaw_40 rfl ?_
    refine xg_getR (k' := 74) (i' := 0) dX12_byLaw_41 fl_X12_52 rfl ?_
    refine xj_iload_n 2 dX12_byLaw_44 rfl ?_
    by_cases c2 : inb x2 160 = true
    case neg => rw [if_neg c2] at h; cases h
    rw [if_pos c2] at h
    refine xg_aald (k' := 73) (i' := x2.toNatClampNeg) (n := x2.toNatClampNeg) dX12_byLaw_45 rfl (by decide) (inb_in c2) rfl rfl ?_
    refine xj_iconst (z := 0) dX12_byLaw_46 (by decide) ?_
    refine xg_iald (z := (m 73 x2.toNatClampNeg 0)) (n := 0) dX12_byLaw_47 rfl (by decide) (inb_in (by decide)) (by decide) rfl ?_
    refine xj_iconst (z := 2) dX12_byLaw_48 (by decide) ?_
    refine xj_icmp_ge (tgt := 99) dX12_byLaw_49 (by decide) (fun c3 => ?_) (fun c3 => ?_)
    · rw [if_pos c3] at h
      refine xj_iinc (z := x1 + (-1)) (ls' := [(1, vI (x1 + (-1))), (0, vR 12 0), (2, vI x2)]) 1 dX12_byLaw_99 rfl rfl (by decide) rfl ?_
      refine xj_aload_n 1 dX12_byLaw_102 rfl ?_
      refine xg_getR (k' := 55) (i' := 0) dX12_byLaw_103 fl_X12_64 rfl ?_
      refine xj_iload_n 0 dX12_byLaw_106 rfl ?_
      refine xj_iconst (z := 1) dX12_byLaw_107 (by decide) ?_
      refine xj_isub dX12_byLaw_108 ?_
      refine xj_aload_n 1 dX12_byLaw_109 rfl ?_
      refine xg_getR (k' := 74) (i' := 0) dX12_byLaw_110 fl_X12_52 rfl ?_
      refine xj_iload_n 2 dX12_byLaw_113 rfl ?_
      refine xg_aald (k' := 73) (i' := x2.toNatClampNeg) (n := x2.toNatClampNeg) dX12_byLaw_114 rfl (by decide) (inb_in c2) rfl rfl ?_
      refine xj_iconst (z := 0) dX12_byLaw_115 (by decide) ?_
      refine xg_iald (z := (m 73 x2.toNatClampNeg 0)) (n := 0) dX12_byLaw_116 rfl (by decide) (inb_in (by decide)) (by decide) rfl ?_
      refine xj_aload_n 1 dX12_byLaw_117 rfl ?_
      refine xg_getR (k' := 55) (i' := 0) dX12_byLaw_118 fl_X12_64 rfl ?_
      refine xj_iload_n 0 dX12_byLaw_121 rfl ?_
      refine xj_iconst (z := 1) dX12_byLaw_122 (by decide) ?_
      refine xj_isub dX12_byLaw_123 ?_
      by_cases c4 : inb ((x1 + (-1)) - 1) 160 = true
      case neg => rw [if_neg c4] at h; cases h
      rw [if_pos c4] at h
      refine xg_iald (z := (m 55 0 (((x1 + (-1)) - 1).toNatClampNeg))) (n := ((x1 + (-1)) - 1).toNatClampNeg) dX12_byLaw_124 rfl (by decide) (inb_in c4) rfl rfl ?_
      refine xj_aload_n 1 dX12_byLaw_125 rfl ?_
      refine xg_getR (k' := 55) (i' := 0) dX12_byLaw_126 fl_X12_64 rfl ?_
      refine xj_iload_n 0 dX12_byLaw_129 rfl ?_
      by_cases c5 : inb (x1 + (-1)) 160 = true
      case neg => rw [if_neg c5] at h; cases h
      rw [if_pos c5] at h
      refine xg_iald (z := (m 55 0 ((x1 + (-1)).toNatClampNeg))) (n := (x1 + (-1)).toNatClampNeg) dX12_byLaw_130 rfl (by decide) (inb_in c5) rfl rfl ?_
      obtain ⟨z7, e6, h⟩ := bd1_some h
      refine xc_Si0 (st := [vI ((x1 + (-1)) - 1), vR 55 0]) (ok_X12_by (m 73 x2.toNatClampNeg 0) (m 55 0 (((x1 + (-1)) - 1).toNatClampNeg)) (m 55 0 ((x1 + (-1)).toNatClampNeg)) m e6) dX12_byLaw_131 cs_X12_260 rfl rfl (Nat.le_of_ble_eq_true rfl) (by decide) (by decide) (by decide) (by decide) ?_
      refine xg_iast (n := ((x1 + (-1)) - 1).toNatClampNeg) dX12_byLaw_134 rfl (by decide) (inb_in c4) rfl ?_
      refine xj_pick (ls' := [(0, vR 12 0), (1, vI (x1 + (-1))), (2, vI x2)]) [1, 0, 2] rfl ?_
      exact ok_X12_byLaw_j135_c32 (x1 + (-1)) x2 (wr m 55 0 (((x1 + (-1)) - 1).toNatClampNeg) z7) h kb ke
    · rw [if_neg c3] at h
      refine xj_aload_n 0 dX12_byLaw_52 rfl ?_
      refine xg_getR (k' := 55) (i' := 0) dX12_byLaw_53 fl_X12_64 rfl ?_
      refine xj_iload_n 1 dX12_byLaw_56 rfl ?_
      refine xj_aload_n 0 dX12_byLaw_57 rfl ?_
      refine xg_getR (k' := 74) (i' := 0) dX12_byLaw_58 fl_X12_52 rfl ?_
      refine xj_iload_n 2 dX12_byLaw_61 rfl ?_
      refine xg_aald (k' := 73) (i' := x2.toNatClampNeg) (n := x2.toNatClampNeg) dX12_byLaw_62 rfl (by decide) (inb_in c2) rfl rfl ?_
      refine xj_iconst (z := 0) dX12_byLaw_63 (by decide) ?_
      refine xg_iald (z := (m 73 x2.toNatClampNeg 0)) (n := 0) dX12_byLaw_64 rfl (by decide) (inb_in (by decide)) (by decide) rfl ?_
      refine xj_if_ne (tgt := 79) dX12_byLaw_65 (by decide) (fun c8 => ?_) (fun c8 => ?_)
      · rw [if_neg c8] at h
        refine xj_aload_n 0 dX12_byLaw_79 rfl ?_
        refine xg_getR (k' := 56) (i' := 0) dX12_byLaw_80 fl_X12_67 rfl ?_
        refine xj_aload_n 0 dX12_byLaw_83 rfl ?_
        refine xg_getR (k' := 74) (i' := 0) dX12_byLaw_84 fl_X12_52 rfl ?_
        refine xj_iload_n 2 dX12_byLaw_87 rfl ?_
        refine xg_aald (k' := 73) (i' := x2.toNatClampNeg) (n := x2.toNatClampNeg) dX12_byLaw_88 rfl (by decide) (inb_in c2) rfl rfl ?_
        refine xj_iconst (z := 1) dX12_byLaw_89 (by decide) ?_
        refine xg_iald (z := (m 73 x2.toNatClampNeg 1)) (n := 1) dX12_byLaw_90 rfl (by decide) (inb_in (by decide)) (by decide) rfl ?_
        by_cases c10 : inb (m 73 x2.toNatClampNeg 1) 9 = true
        case neg => rw [if_neg c10] at h; cases h
        rw [if_pos c10] at h
        refine xg_iald (z := (m 56 0 ((m 73 x2.toNatClampNeg 1).toNatClampNeg))) (n := (m 73 x2.toNatClampNeg 1).toNatClampNeg) dX12_byLaw_91 rfl (by decide) (inb_in c10) rfl rfl ?_
        exact ok_X12_byLaw_j92_c32 x1 x2 (m 56 0 ((m 73 x2.toNatClampNeg 1).toNatClampNeg)) x1 m h kb ke
      · rw [if_pos c8] at h
        refine xj_aload_n 0 dX12_byLaw_68 rfl ?_
        refine xg_getR (k' := 74) (i' := 0) dX12_byLaw_69 fl_X12_52 rfl ?_
        refine xj_iload_n 2 dX12_byLaw_72 rfl ?_
        refine xg_aald (k' := 73) (i' := x2.toNatClampNeg) (n := x2.toNatClampNeg) dX12_byLaw_73 rfl (by decide) (inb_in c2) rfl rfl ?_
        refine xj_iconst (z := 1) dX12_byLaw_74 (by decide) ?_
        refine xg_iald (z := (m 73 x2.toNatClampNeg 1)) (n := 1) dX12_byLaw_75 rfl (by decide) (inb_in (by decide)) (by decide) rfl ?_
        refine xj_goto (tgt := 92) dX12_byLaw_76 (by decide) ?_
        exact ok_X12_byLaw_j92_c32 x1 x2 (m 73 x2.toNatClampNeg 1) x1 m h kb ke
noncomputable def r_X12_byLaw_e141_h32 (m : Mem) : Option (Int32 × Mem) :=
  some ((r_X12_less 99 (r_X12_more (-99) (m 55 0 0))), m)
set_option maxHeartbeats 4000000 in
set_option maxRecDepth 20000 in
theorem ok_X12_byLaw_e141_h32 (m : Mem) {z : Int32} {m' : Mem} (h : r_X12_byLaw_e141_h32 m = some (z, m')) : Xj RX12 cX12_byLaw 3 (some .int) 3 43 0 0 0 0 141 [(0, vR 12 0)] [] m (oI z) m' := by
  unfold r_X12_byLaw_e141_h32 at h
  refine xj_bipush (z := 99) dX12_byLaw_141 (by decide) ?_
  refine xj_bipush (z := (-99)) dX12_byLaw_143 (by decide) ?_
  refine xj_aload_n 0 dX12_byLaw_145 rfl ?_
  refine xg_getR (k' := 55) (i' := 0) dX12_byLaw_146 fl_X12_64 rfl ?_
  refine xj_iconst (z := 0) dX12_byLaw_149 (by decide) ?_
  refine xg_iald (z := (m 55 0 0)) (n := 0) dX12_byLaw_150 rfl (by decide) (inb_in (by decide)) (by decide) rfl ?_
  refine xc_Si0 (st := [vI 99]) (ok_X12_more (-99) (m 55 0 0) m rfl) dX12_byLaw_151 cs_X12_257 rfl rfl (Nat.le_of_ble_eq_true rfl) (by decide) (by decide) (by decide) (by decide) ?_
  refine xc_Si0 (st := []) (ok_X12_less 99 (r_X12_more (-99) (m 55 0 0)) m rfl) dX12_byLaw_154 cs_X12_254 rfl rfl (Nat.le_of_ble_eq_true rfl) (by decide) (by decide) (by decide) (by decide) ?_
  cases h
  exact xj_ireturn dX12_byLaw_157 rfl (by decide) (by decide)
noncomputable def r_X12_byLaw_l32 (x1 : Int32) (x2 : Int32) (m : Mem) : Option (Int32 × Mem) :=
  bd1 (loopO (fun s => r_X12_byLaw_b32 s.1 s.2.1 s.2.2) (x1, x2, m)) (fun e => r_X12_byLaw_e141_h32 e)
set_option maxHeartbeats 4000000 in
set_option maxRecDepth 20000 in
theorem ok_X12_byLaw_l32 (x1 : Int32) (x2 : Int32) (m : Mem) {z : Int32} {m' : Mem} (h : r_X12_byLaw_l32 x1 x2 m = some (z, m')) : Xj RX12 cX12_byLaw 3 (some .int) 3 43 0 0 0 0 32 [(0, vR 12 0), (1, vI x1), (2, vI x2)] [] m (oI z) m' := by
  unfold r_X12_byLaw_l32 at h
  obtain ⟨e, e1, h⟩ := bd1_some h
  refine loopO_ok (P := fun s : (Int32 × Int32 × Mem) => Xj RX12 cX12_byLaw 3 (some .int) 3 43 0 0 0 0 32 [(0, vR 12 0), (1, vI s.1), (2, vI s.2.1)] [] s.2.2 (oI z) m') (Q := fun e : (Mem) => Xj RX12 cX12_byLaw 3 (some .int) 3 43 0 0 0 0 141 [(0, vR 12 0)] [] e (oI z) m') ?_ _ _ e1 ?_
  · intro s r9 h9 hi hx
    exact ok_X12_byLaw_b32 s.1 s.2.1 s.2.2 h9 (by rintro _ _ _ rfl; exact hi _ rfl) (by rintro _ rfl; exact hx _ rfl)
  · exact ok_X12_byLaw_e141_h32 e h 
noncomputable def r_X12_byLaw (m : Mem) : Option (Int32 × Mem) :=
  r_X12_byLaw_l32 0 0 (wr m 55 0 0 (((m 56 0 0) + (3 * (m 56 0 1))) - (m 56 0 2)))
set_option maxHeartbeats 4000000 in
set_option maxRecDepth 20000 in
theorem ok_X12_byLaw (m : Mem) {z : Int32} {m' : Mem} (h : r_X12_byLaw m = some (z, m')) : Mt yX12_byLaw cX12_byLaw 3 (some .int) 3 43 0 0 [vR 12 0] m (oI z) m' := by
  refine Mt.of (by decide) (Nat.le_of_ble_eq_true rfl) (by decide +kernel) (hhF_ne (by decide)) ?_
  show Xj RX12 cX12_byLaw 3 (some .int) 3 43 0 0 0 0 0 [(0, vR 12 0)] [] m (oI z) m'
  unfold r_X12_byLaw at h
  refine xj_iconst (z := 0) dX12_byLaw_0 (by decide) ?_
  refine xj_istore_n (ls' := [(1, vI 0), (0, vR 12 0)]) dX12_byLaw_1 rfl (by decide) rfl ?_
  refine xj_aload_n 1 dX12_byLaw_2 rfl ?_
  refine xg_getR (k' := 55) (i' := 0) dX12_byLaw_3 fl_X12_64 rfl ?_
  refine xj_iconst (z := 0) dX12_byLaw_6 (by decide) ?_
  refine xj_aload_n 1 dX12_byLaw_7 rfl ?_
  refine xg_getR (k' := 56) (i' := 0) dX12_byLaw_8 fl_X12_67 rfl ?_
  refine xj_iconst (z := 0) dX12_byLaw_11 (by decide) ?_
  refine xg_iald (z := (m 56 0 0)) (n := 0) dX12_byLaw_12 rfl (by decide) (inb_in (by decide)) (by decide) rfl ?_
  refine xj_iconst (z := 3) dX12_byLaw_13 (by decide) ?_
  refine xj_aload_n 1 dX12_byLaw_14 rfl ?_
  refine xg_getR (k' := 56) (i' := 0) dX12_byLaw_15 fl_X12_67 rfl ?_
  refine xj_iconst (z := 1) dX12_byLaw_18 (by decide) ?_
  refine xg_iald (z := (m 56 0 1)) (n := 1) dX12_byLaw_19 rfl (by decide) (inb_in (by decide)) (by decide) rfl ?_
  refine xj_imul dX12_byLaw_20 ?_
  refine xj_iadd dX12_byLaw_21 ?_
  refine xj_aload_n 1 dX12_byLaw_22 rfl ?_
  refine xg_getR (k' := 56) (i' := 0) dX12_byLaw_23 fl_X12_67 rfl ?_
  refine xj_iconst (z := 2) dX12_byLaw_26 (by decide) ?_
  refine xg_iald (z := (m 56 0 2)) (n := 2) dX12_byLaw_27 rfl (by decide) (inb_in (by decide)) (by decide) rfl ?_
  refine xj_isub dX12_byLaw_28 ?_
  refine xg_iast (n := 0) dX12_byLaw_29 rfl (by decide) (inb_in (by decide)) (by decide) ?_
  refine xj_iconst (z := 0) dX12_byLaw_30 (by decide) ?_
  refine xj_istore_n (ls' := [(2, vI 0), (1, vI 0), (0, vR 12 0)]) dX12_byLaw_31 rfl (by decide) rfl ?_
  refine xj_pick (ls' := [(0, vR 12 0), (1, vI 0), (2, vI 0)]) [2, 1, 0] rfl ?_
  exact ok_X12_byLaw_l32 0 0 (wr m 55 0 0 (((m 56 0 0) + (3 * (m 56 0 1))) - (m 56 0 2))) h 
noncomputable def r_X12_drawBy (x1 : Int32) (x2 : Int32) (x3 : Int32) (x4 : Int32) (x5 : Int32) (x6 : Int32) (x7 : Int32) (x8 : Int32) (x9 : Int32) (m : Mem) : Option (Int32 × Mem) :=
  bd2 (r_X12_byLaw (wr (wr (wr (wr (wr (wr (wr (wr (wr m 56 0 0 x1) 56 0 1 x2) 56 0 2 x3) 56 0 3 x4) 56 0 4 x5) 56 0 5 x6) 56 0 6 x7) 56 0 7 x8) 56 0 8 x9)) fun z3 m2 => (some (z3, m2))
set_option maxHeartbeats 4000000 in
set_option maxRecDepth 20000 in
theorem ok_X12_drawBy (x1 : Int32) (x2 : Int32) (x3 : Int32) (x4 : Int32) (x5 : Int32) (x6 : Int32) (x7 : Int32) (x8 : Int32) (x9 : Int32) (m : Mem) {z : Int32} {m' : Mem} (h : r_X12_drawBy x1 x2 x3 x4 x5 x6 x7 x8 x9 m = some (z, m')) : Mt yX12_drawBy cX12_drawBy 10 (some .int) 4 65 0 0 [vR 12 0, vI x1, vI x2, vI x3, vI x4, vI x5, vI x6, vI x7, vI x8, vI x9] m (oI z) m' := by
  refine Mt.of (by decide) (Nat.le_of_ble_eq_true rfl) (by decide +kernel) (hhF_ne (by decide)) ?_
  show Xj RX12 cX12_drawBy 10 (some .int) 4 65 0 0 0 0 0 [(0, vR 12 0), (1, vI x1), (2, vI x2), (3, vI x3), (4, vI x4), (5, vI x5), (6, vI x6), (7, vI x7), (8, vI x8), (9, vI x9)] [] m (oI z) m'
  unfold r_X12_drawBy at h
  refine xj_aload_n 0 dX12_drawBy_0 rfl ?_
  refine xg_getR (k' := 56) (i' := 0) dX12_drawBy_1 fl_X12_67 rfl ?_
  refine xj_iconst (z := 0) dX12_drawBy_4 (by decide) ?_
  refine xj_iload_n 1 dX12_drawBy_5 rfl ?_
  refine xg_iast (n := 0) dX12_drawBy_6 rfl (by decide) (inb_in (by decide)) (by decide) ?_
  refine xj_aload_n 0 dX12_drawBy_7 rfl ?_
  refine xg_getR (k' := 56) (i' := 0) dX12_drawBy_8 fl_X12_67 rfl ?_
  refine xj_iconst (z := 1) dX12_drawBy_11 (by decide) ?_
  refine xj_iload_n 2 dX12_drawBy_12 rfl ?_
  refine xg_iast (n := 1) dX12_drawBy_13 rfl (by decide) (inb_in (by decide)) (by decide) ?_
  refine xj_aload_n 0 dX12_drawBy_14 rfl ?_
  refine xg_getR (k' := 56) (i' := 0) dX12_drawBy_15 fl_X12_67 rfl ?_
  refine xj_iconst (z := 2) dX12_drawBy_18 (by decide) ?_
  refine xj_iload_n 3 dX12_drawBy_19 rfl ?_
  refine xg_iast (n := 2) dX12_drawBy_20 rfl (by decide) (inb_in (by decide)) (by decide) ?_
  refine xj_aload_n 0 dX12_drawBy_21 rfl ?_
  refine xg_getR (k' := 56) (i' := 0) dX12_drawBy_22 fl_X12_67 rfl ?_
  refine xj_iconst (z := 3) dX12_drawBy_25 (by decide) ?_
  refine xj_iload 4 dX12_drawBy_26 rfl ?_
  refine xg_iast (n := 3) dX12_drawBy_28 rfl (by decide) (inb_in (by decide)) (by decide) ?_
  refine xj_aload_n 0 dX12_drawBy_29 rfl ?_
  refine xg_getR (k' := 56) (i' := 0) dX12_drawBy_30 fl_X12_67 rfl ?_
  refine xj_iconst (z := 4) dX12_drawBy_33 (by decide) ?_
  refine xj_iload 5 dX12_drawBy_34 rfl ?_
  refine xg_iast (n := 4) dX12_drawBy_36 rfl (by decide) (inb_in (by decide)) (by decide) ?_
  refine xj_aload_n 0 dX12_drawBy_37 rfl ?_
  refine xg_getR (k' := 56) (i' := 0) dX12_drawBy_38 fl_X12_67 rfl ?_
  refine xj_iconst (z := 5) dX12_drawBy_41 (by decide) ?_
  refine xj_iload 6 dX12_drawBy_42 rfl ?_
  refine xg_iast (n := 5) dX12_drawBy_44 rfl (by decide) (inb_in (by decide)) (by decide) ?_
  refine xj_aload_n 0 dX12_drawBy_45 rfl ?_
  refine xg_getR (k' := 56) (i' := 0) dX12_drawBy_46 fl_X12_67 rfl ?_
  refine xj_bipush (z := 6) dX12_drawBy_49 (by decide) ?_
  refine xj_iload 7 dX12_drawBy_51 rfl ?_
  refine xg_iast (n := 6) dX12_drawBy_53 rfl (by decide) (inb_in (by decide)) (by decide) ?_
  refine xj_aload_n 0 dX12_drawBy_54 rfl ?_
  refine xg_getR (k' := 56) (i' := 0) dX12_drawBy_55 fl_X12_67 rfl ?_
  refine xj_bipush (z := 7) dX12_drawBy_58 (by decide) ?_
  refine xj_iload 8 dX12_drawBy_60 rfl ?_
  refine xg_iast (n := 7) dX12_drawBy_62 rfl (by decide) (inb_in (by decide)) (by decide) ?_
  refine xj_aload_n 0 dX12_drawBy_63 rfl ?_
  refine xg_getR (k' := 56) (i' := 0) dX12_drawBy_64 fl_X12_67 rfl ?_
  refine xj_bipush (z := 8) dX12_drawBy_67 (by decide) ?_
  refine xj_iload 9 dX12_drawBy_69 rfl ?_
  refine xg_iast (n := 8) dX12_drawBy_71 rfl (by decide) (inb_in (by decide)) (by decide) ?_
  refine xj_aload_n 0 dX12_drawBy_72 rfl ?_
  obtain ⟨z3, m2, e1, h⟩ := bd2_some h
  refine xc_Vi0 (st := []) (ok_X12_byLaw (wr (wr (wr (wr (wr (wr (wr (wr (wr m 56 0 0 x1) 56 0 1 x2) 56 0 2 x3) 56 0 3 x4) 56 0 4 x5) 56 0 5 x6) 56 0 6 x7) 56 0 7 x8) 56 0 8 x9) e1) dX12_drawBy_73 cv_X12_286 rfl rfl (Nat.le_of_ble_eq_true rfl) (by decide) (by decide) (by decide) (by decide) ?_
  cases h
  exact xj_ireturn dX12_drawBy_76 rfl (by decide) (by decide)
noncomputable def r_X12_drawWith_j124_c14 (i1 : Nat) (x2 : Int32) (x3 : Int32) (x4 : Int32) (x7 : Int32) (x8 : Int32) (x9 : Int32) (x11 : Int32) (s0 : Int32) (s1 : Int32) (m : Mem) : Option ((Int32 × Int32 × Int32 × Int32) ⊕ (Int32 × Int32 × Int32)) :=
  some (Sum.inl (x8, x9, (s1 + s0), x11 + 1))
set_option maxHeartbeats 4000000 in
set_option maxRecDepth 20000 in
theorem ok_X12_drawWith_j124_c14 (i1 : Nat) (x2 : Int32) (x3 : Int32) (x4 : Int32) (x7 : Int32) (x8 : Int32) (x9 : Int32) (x11 : Int32) (s0 : Int32) (s1 : Int32) (m : Mem) {r : (Int32 × Int32 × Int32 × Int32) ⊕ (Int32 × Int32 × Int32)} (h : r_X12_drawWith_j124_c14 i1 x2 x3 x4 x7 x8 x9 x11 s0 s1 m = some r) {o : Ou} {M' : Mem} (kb : ∀ (x8' : Int32) (x9' : Int32) (x10' : Int32) (x11' : Int32), r = Sum.inl (x8', x9', x10', x11') → Xj RX12 cX12_drawWith 13 (some .int) 5 94 0 0 0 0 14 [(0, vR 12 0), (1, vR 60 i1), (2, vI x2), (3, vI x3), (4, vI x4), (7, vI x7), (8, vI x8'), (9, vI x9'), (10, vI x10'), (11, vI x11')] [] m o M') (ke : ∀ (x8' : Int32) (x9' : Int32) (x10' : Int32), r = Sum.inr (x8', x9', x10') → Xj RX12 cX12_drawWith 13 (some .int) 5 94 0 0 0 0 133 [(0, vR 12 0), (1, vR 60 i1), (2, vI x2), (3, vI x3), (4, vI x4), (7, vI x7), (8, vI x8'), (9, vI x9'), (10, vI x10')] [] m o M') : Xj RX12 cX12_drawWith 13 (some .int) 5 94 0 0 0 0 124 [(0, vR 12 0), (1, vR 60 i1), (2, vI x2), (3, vI x3), (4, vI x4), (7, vI x7), (8, vI x8), (9, vI x9), (11, vI x11)] [vI s0, vI s1] m o M' := by
  unfold r_X12_drawWith_j124_c14 at h
  refine xj_iadd dX12_drawWith_124 ?_
  refine xj_istore (ls' := [(10, vI (s1 + s0)), (0, vR 12 0), (1, vR 60 i1), (2, vI x2), (3, vI x3), (4, vI x4), (7, vI x7), (8, vI x8), (9, vI x9), (11, vI x11)]) dX12_drawWith_125 (by decide) rfl ?_
  refine xj_iinc (z := x11 + 1) (ls' := [(11, vI (x11 + 1)), (10, vI (s1 + s0)), (0, vR 12 0), (1, vR 60 i1), (2, vI x2), (3, vI x3), (4, vI x4), (7, vI x7), (8, vI x8), (9, vI x9)]) 9 dX12_drawWith_127 rfl rfl (by decide) rfl ?_
  refine xj_goto (tgt := 14) dX12_drawWith_130 (by decide) ?_
  cases h
  refine xj_pick (ls' := [(0, vR 12 0), (1, vR 60 i1), (2, vI x2), (3, vI x3), (4, vI x4), (7, vI x7), (8, vI x8), (9, vI x9), (10, vI (s1 + s0)), (11, vI (x11 + 1))]) [2, 3, 4, 5, 6, 7, 8, 9, 1, 0] rfl ?_
  exact kb x8 x9 (s1 + s0) (x11 + 1) rfl
noncomputable def r_X12_drawWith_j119_c14 (i1 : Nat) (x2 : Int32) (x3 : Int32) (x4 : Int32) (x7 : Int32) (x8 : Int32) (x9 : Int32) (x11 : Int32) (s0 : Int32) (m : Mem) : Option ((Int32 × Int32 × Int32 × Int32) ⊕ (Int32 × Int32 × Int32)) :=
  r_X12_drawWith_j124_c14 i1 x2 x3 x4 x7 x8 x9 x11 1 s0 m
set_option maxHeartbeats 4000000 in
set_option maxRecDepth 20000 in
theorem ok_X12_drawWith_j119_c14 (i1 : Nat) (x2 : Int32) (x3 : Int32) (x4 : Int32) (x7 : Int32) (x8 : Int32) (x9 : Int32) (x11 : Int32) (s0 : Int32) (m : Mem) {r : (Int32 × Int32 × Int32 × Int32) ⊕ (Int32 × Int32 × Int32)} (h : r_X12_drawWith_j119_c14 i1 x2 x3 x4 x7 x8 x9 x11 s0 m = some r) {o : Ou} {M' : Mem} (kb : ∀ (x8' : Int32) (x9' : Int32) (x10' : Int32) (x11' : Int32), r = Sum.inl (x8', x9', x10', x11') → Xj RX12 cX12_drawWith 13 (some .int) 5 94 0 0 0 0 14 [(0, vR 12 0), (1, vR 60 i1), (2, vI x2), (3, vI x3), (4, vI x4), (7, vI x7), (8, vI x8'), (9, vI x9'), (10, vI x10'), (11, vI x11')] [] m o M') (ke : ∀ (x8' : Int32) (x9' : Int32) (x10' : Int32), r = Sum.inr (x8', x9', x10') → Xj RX12 cX12_drawWith 13 (some .int) 5 94 0 0 0 0 133 [(0, vR 12 0), (1, vR 60 i1), (2, vI x2), (3, vI x3), (4, vI x4), (7, vI x7), (8, vI x8'), (9, vI x9'), (10, vI x10')] [] m o M') : Xj RX12 cX12_drawWith 13 (some .int) 5 94 0 0 0 0 119 [(0, vR 12 0), (1, vR 60 i1), (2, vI x2), (3, vI x3), (4, vI x4), (7, vI x7), (8, vI x8), (9, vI x9), (11, vI x11)] [vI s0] m o M' := by
  unfold r_X12_drawWith_j119_c14 at h
  refine xj_iconst (z := 1) dX12_drawWith_119 (by decide) ?_
  refine xj_goto (tgt := 124) dX12_drawWith_120 (by decide) ?_
  exact ok_X12_drawWith_j124_c14 i1 x2 x3 x4 x7 x8 x9 x11 1 s0 m h kb ke
noncomputable def r_X12_drawWith_j91_c14 (i1 : Nat) (x2 : Int32) (x3 : Int32) (x4 : Int32) (x7 : Int32) (x8 : Int32) (x10 : Int32) (x11 : Int32) (s0 : Int32) (s1 : Int32) (m : Mem) : Option ((Int32 × Int32 × Int32 × Int32) ⊕ (Int32 × Int32 × Int32)) :=
  if inb (72 + x11) 111 = true then (if (m 60 i1 ((72 + x11).toNatClampNeg)) = x3 then (r_X12_drawWith_j119_c14 i1 x2 x3 x4 x7 x8 (s1 + s0) x11 x10 m) else (if (m 60 i1 ((72 + x11).toNatClampNeg)) = x4 then (r_X12_drawWith_j119_c14 i1 x2 x3 x4 x7 x8 (s1 + s0) x11 x10 m) else (r_X12_drawWith_j124_c14 i1 x2 x3 x4 x7 x8 (s1 + s0) x11 0 x10 m))) else none
set_option maxHeartbeats 4000000 in
set_option maxRecDepth 20000 in
theorem ok_X12_drawWith_j91_c14 (i1 : Nat) (x2 : Int32) (x3 : Int32) (x4 : Int32) (x7 : Int32) (x8 : Int32) (x10 : Int32) (x11 : Int32) (s0 : Int32) (s1 : Int32) (m : Mem) {r : (Int32 × Int32 × Int32 × Int32) ⊕ (Int32 × Int32 × Int32)} (h : r_X12_drawWith_j91_c14 i1 x2 x3 x4 x7 x8 x10 x11 s0 s1 m = some r) {o : Ou} {M' : Mem} (kb : ∀ (x8' : Int32) (x9' : Int32) (x10' : Int32) (x11' : Int32), r = Sum.inl (x8', x9', x10', x11') → Xj RX12 cX12_drawWith 13 (some .int) 5 94 0 0 0 0 14 [(0, vR 12 0), (1, vR 60 i1), (2, vI x2), (3, vI x3), (4, vI x4), (7, vI x7), (8, vI x8'), (9, vI x9'), (10, vI x10'), (11, vI x11')] [] m o M') (ke : ∀ (x8' : Int32) (x9' : Int32) (x10' : Int32), r = Sum.inr (x8', x9', x10') → Xj RX12 cX12_drawWith 13 (some .int) 5 94 0 0 0 0 133 [(0, vR 12 0), (1, vR 60 i1), (2, vI x2), (3, vI x3), (4, vI x4), (7, vI x7), (8, vI x8'), (9, vI x9'), (10, vI x10')] [] m o M') : Xj RX12 cX12_drawWith 13 (some .int) 5 94 0 0 0 0 91 [(0, vR 12 0), (1, vR 60 i1), (2, vI x2), (3, vI x3), (4, vI x4), (7, vI x7), (8, vI x8), (10, vI x10), (11, vI x11)] [vI s0, vI s1] m o M' := by
  unfold r_X12_drawWith_j91_c14 at h
  refine xj_iadd dX12_drawWith_91 ?_
  refine xj_istore (ls' := [(9, vI (s1 + s0)), (0, vR 12 0), (1, vR 60 i1), (2, vI x2), (3, vI x3), (4, vI x4), (7, vI x7), (8, vI x8), (10, vI x10), (11, vI x11)]) dX12_drawWith_92 (by decide) rfl ?_
  refine xj_iload 8 dX12_drawWith_94 rfl ?_
  refine xj_aload_n 2 dX12_drawWith_96 rfl ?_
  refine xj_bipush (z := 72) dX12_drawWith_97 (by decide) ?_
  refine xj_iload 9 dX12_drawWith_99 rfl ?_
  refine xj_iadd dX12_drawWith_101 ?_
  by_cases c6 : inb (72 + x11) 111 = true
  case neg => rw [if_neg c6] at h; cases h
  rw [if_pos c6] at h
  refine xg_iald (z := (m 60 i1 ((72 + x11).toNatClampNeg))) (n := (72 + x11).toNatClampNeg) dX12_drawWith_102 rfl (by decide) (inb_in c6) rfl rfl ?_
  refine xj_iload_n 4 dX12_drawWith_103 rfl ?_
  refine xj_icmp_eq (tgt := 119) dX12_drawWith_104 (by decide) (fun c7 => ?_) (fun c7 => ?_)
  · rw [if_pos c7] at h
    refine xj_pick (ls' := [(0, vR 12 0), (1, vR 60 i1), (2, vI x2), (3, vI x3), (4, vI x4), (7, vI x7), (8, vI x8), (9, vI (s1 + s0)), (11, vI x11)]) [1, 2, 3, 4, 5, 6, 7, 0, 9] rfl ?_
    exact ok_X12_drawWith_j119_c14 i1 x2 x3 x4 x7 x8 (s1 + s0) x11 x10 m h kb ke
  · rw [if_neg c7] at h
    refine xj_aload_n 2 dX12_drawWith_107 rfl ?_
    refine xj_bipush (z := 72) dX12_drawWith_108 (by decide) ?_
    refine xj_iload 9 dX12_drawWith_110 rfl ?_
    refine xj_iadd dX12_drawWith_112 ?_
    refine xg_iald (z := (m 60 i1 ((72 + x11).toNatClampNeg))) (n := (72 + x11).toNatClampNeg) dX12_drawWith_113 rfl (by decide) (inb_in c6) rfl rfl ?_
    refine xj_iload 5 dX12_drawWith_114 rfl ?_
    refine xj_icmp_ne (tgt := 123) dX12_drawWith_116 (by decide) (fun c8 => ?_) (fun c8 => ?_)
    · rw [if_neg c8] at h
      refine xj_iconst (z := 0) dX12_drawWith_123 (by decide) ?_
      refine xj_pick (ls' := [(0, vR 12 0), (1, vR 60 i1), (2, vI x2), (3, vI x3), (4, vI x4), (7, vI x7), (8, vI x8), (9, vI (s1 + s0)), (11, vI x11)]) [1, 2, 3, 4, 5, 6, 7, 0, 9] rfl ?_
      exact ok_X12_drawWith_j124_c14 i1 x2 x3 x4 x7 x8 (s1 + s0) x11 0 x10 m h kb ke
    · rw [if_pos c8] at h
      refine xj_pick (ls' := [(0, vR 12 0), (1, vR 60 i1), (2, vI x2), (3, vI x3), (4, vI x4), (7, vI x7), (8, vI x8), (9, vI (s1 + s0)), (11, vI x11)]) [1, 2, 3, 4, 5, 6, 7, 0, 9] rfl ?_
      exact ok_X12_drawWith_j119_c14 i1 x2 x3 x4 x7 x8 (s1 + s0) x11 x10 m h kb ke
noncomputable def r_X12_drawWith_j90_c14 (i1 : Nat) (x2 : Int32) (x3 : Int32) (x4 : Int32) (x7 : Int32) (x8 : Int32) (x10 : Int32) (x11 : Int32) (s0 : Int32) (m : Mem) : Option ((Int32 × Int32 × Int32 × Int32) ⊕ (Int32 × Int32 × Int32)) :=
  r_X12_drawWith_j91_c14 i1 x2 x3 x4 x7 x8 x10 x11 0 s0 m
set_option maxHeartbeats 4000000 in
set_option maxRecDepth 20000 in
theorem ok_X12_drawWith_j90_c14 (i1 : Nat) (x2 : Int32) (x3 : Int32) (x4 : Int32) (x7 : Int32) (x8 : Int32) (x10 : Int32) (x11 : Int32) (s0 : Int32) (m : Mem) {r : (Int32 × Int32 × Int32 × Int32) ⊕ (Int32 × Int32 × Int32)} (h : r_X12_drawWith_j90_c14 i1 x2 x3 x4 x7 x8 x10 x11 s0 m = some r) {o : Ou} {M' : Mem} (kb : ∀ (x8' : Int32) (x9' : Int32) (x10' : Int32) (x11' : Int32), r = Sum.inl (x8', x9', x10', x11') → Xj RX12 cX12_drawWith 13 (some .int) 5 94 0 0 0 0 14 [(0, vR 12 0), (1, vR 60 i1), (2, vI x2), (3, vI x3), (4, vI x4), (7, vI x7), (8, vI x8'), (9, vI x9'), (10, vI x10'), (11, vI x11')] [] m o M') (ke : ∀ (x8' : Int32) (x9' : Int32) (x10' : Int32), r = Sum.inr (x8', x9', x10') → Xj RX12 cX12_drawWith 13 (some .int) 5 94 0 0 0 0 133 [(0, vR 12 0), (1, vR 60 i1), (2, vI x2), (3, vI x3), (4, vI x4), (7, vI x7), (8, vI x8'), (9, vI x9'), (10, vI x10')] [] m o M') : Xj RX12 cX12_drawWith 13 (some .int) 5 94 0 0 0 0 90 [(0, vR 12 0), (1, vR 60 i1), (2, vI x2), (3, vI x3), (4, vI x4), (7, vI x7), (8, vI x8), (10, vI x10), (11, vI x11)] [vI s0] m o M' := by
  unfold r_X12_drawWith_j90_c14 at h
  refine xj_iconst (z := 0) dX12_drawWith_90 (by decide) ?_
  exact ok_X12_drawWith_j91_c14 i1 x2 x3 x4 x7 x8 x10 x11 0 s0 m h kb ke
noncomputable def r_X12_drawWith_j60_c14 (i1 : Nat) (x2 : Int32) (x3 : Int32) (x4 : Int32) (x7 : Int32) (x9 : Int32) (x10 : Int32) (x11 : Int32) (x12 : Int32) (s0 : Int32) (s1 : Int32) (m : Mem) : Option ((Int32 × Int32 × Int32 × Int32) ⊕ (Int32 × Int32 × Int32)) :=
  if x12 = (-1) then (r_X12_drawWith_j90_c14 i1 x2 x3 x4 x7 (s1 + s0) x10 x11 x9 m) else (if x12 = x4 then (r_X12_drawWith_j90_c14 i1 x2 x3 x4 x7 (s1 + s0) x10 x11 x9 m) else (if inb x11 6 = true then (r_X12_drawWith_j91_c14 i1 x2 x3 x4 x7 (s1 + s0) x10 x11 (m 67 x11.toNatClampNeg 0) x9 m) else none))
set_option maxHeartbeats 4000000 in
set_option maxRecDepth 20000 in
theorem ok_X12_drawWith_j60_c14 (i1 : Nat) (x2 : Int32) (x3 : Int32) (x4 : Int32) (x7 : Int32) (x9 : Int32) (x10 : Int32) (x11 : Int32) (x12 : Int32) (s0 : Int32) (s1 : Int32) (m : Mem) {r : (Int32 × Int32 × Int32 × Int32) ⊕ (Int32 × Int32 × Int32)} (h : r_X12_drawWith_j60_c14 i1 x2 x3 x4 x7 x9 x10 x11 x12 s0 s1 m = some r) {o : Ou} {M' : Mem} (kb : ∀ (x8' : Int32) (x9' : Int32) (x10' : Int32) (x11' : Int32), r = Sum.inl (x8', x9', x10', x11') → Xj RX12 cX12_drawWith 13 (some .int) 5 94 0 0 0 0 14 [(0, vR 12 0), (1, vR 60 i1), (2, vI x2), (3, vI x3), (4, vI x4), (7, vI x7), (8, vI x8'), (9, vI x9'), (10, vI x10'), (11, vI x11')] [] m o M') (ke : ∀ (x8' : Int32) (x9' : Int32) (x10' : Int32), r = Sum.inr (x8', x9', x10') → Xj RX12 cX12_drawWith 13 (some .int) 5 94 0 0 0 0 133 [(0, vR 12 0), (1, vR 60 i1), (2, vI x2), (3, vI x3), (4, vI x4), (7, vI x7), (8, vI x8'), (9, vI x9'), (10, vI x10')] [] m o M') : Xj RX12 cX12_drawWith 13 (some .int) 5 94 0 0 0 0 60 [(0, vR 12 0), (1, vR 60 i1), (2, vI x2), (3, vI x3), (4, vI x4), (7, vI x7), (9, vI x9), (10, vI x10), (11, vI x11), (12, vI x12)] [vI s0, vI s1] m o M' := by
  unfold r_X12_drawWith_j60_c14 at h
  refine xj_iadd dX12_drawWith_60 ?_
  refine xj_istore (ls' := [(8, vI (s1 + s0)), (0, vR 12 0), (1, vR 60 i1), (2, vI x2), (3, vI x3), (4, vI x4), (7, vI x7), (9, vI x9), (10, vI x10), (11, vI x11), (12, vI x12)]) dX12_drawWith_61 (by decide) rfl ?_
  refine xj_iload 7 dX12_drawWith_63 rfl ?_
  refine xj_iload 10 dX12_drawWith_65 rfl ?_
  refine xj_iconst (z := (-1)) dX12_drawWith_67 (by decide) ?_
  refine xj_icmp_eq (tgt := 90) dX12_drawWith_68 (by decide) (fun c5 => ?_) (fun c5 => ?_)
  · rw [if_pos c5] at h
    refine xj_pick (ls' := [(0, vR 12 0), (1, vR 60 i1), (2, vI x2), (3, vI x3), (4, vI x4), (7, vI x7), (8, vI (s1 + s0)), (10, vI x10), (11, vI x11)]) [1, 2, 3, 4, 5, 6, 0, 8, 9] rfl ?_
    exact ok_X12_drawWith_j90_c14 i1 x2 x3 x4 x7 (s1 + s0) x10 x11 x9 m h kb ke
  · rw [if_neg c5] at h
    refine xj_iload 10 dX12_drawWith_71 rfl ?_
    refine xj_iload 5 dX12_drawWith_73 rfl ?_
    refine xj_icmp_eq (tgt := 90) dX12_drawWith_75 (by decide) (fun c9 => ?_) (fun c9 => ?_)
    · rw [if_pos c9] at h
      refine xj_pick (ls' := [(0, vR 12 0), (1, vR 60 i1), (2, vI x2), (3, vI x3), (4, vI x4), (7, vI x7), (8, vI (s1 + s0)), (10, vI x10), (11, vI x11)]) [1, 2, 3, 4, 5, 6, 0, 8, 9] rfl ?_
      exact ok_X12_drawWith_j90_c14 i1 x2 x3 x4 x7 (s1 + s0) x10 x11 x9 m h kb ke
    · rw [if_neg c9] at h
      refine xj_aload_n 1 dX12_drawWith_78 rfl ?_
      refine xg_getR (k' := 68) (i' := 0) dX12_drawWith_79 fl_X12_43 rfl ?_
      refine xj_iload 9 dX12_drawWith_82 rfl ?_
      by_cases c10 : inb x11 6 = true
      case neg => rw [if_neg c10] at h; cases h
      rw [if_pos c10] at h
      refine xg_aald (k' := 67) (i' := x11.toNatClampNeg) (n := x11.toNatClampNeg) dX12_drawWith_84 rfl (by decide) (inb_in c10) rfl rfl ?_
      refine xj_iconst (z := 0) dX12_drawWith_85 (by decide) ?_
      refine xg_iald (z := (m 67 x11.toNatClampNeg 0)) (n := 0) dX12_drawWith_86 rfl (by decide) (inb_in (by decide)) (by decide) rfl ?_
      refine xj_goto (tgt := 91) dX12_drawWith_87 (by decide) ?_
      refine xj_pick (ls' := [(0, vR 12 0), (1, vR 60 i1), (2, vI x2), (3, vI x3), (4, vI x4), (7, vI x7), (8, vI (s1 + s0)), (10, vI x10), (11, vI x11)]) [1, 2, 3, 4, 5, 6, 0, 8, 9] rfl ?_
      exact ok_X12_drawWith_j91_c14 i1 x2 x3 x4 x7 (s1 + s0) x10 x11 (m 67 x11.toNatClampNeg 0) x9 m h kb ke
noncomputable def r_X12_drawWith_b14 (i1 : Nat) (x2 : Int32) (x3 : Int32) (x4 : Int32) (x7 : Int32) (m : Mem) (x8 : Int32) (x9 : Int32) (x10 : Int32) (x11 : Int32) : Option ((Int32 × Int32 × Int32 × Int32) ⊕ (Int32 × Int32 × Int32)) :=
  if (m 52 0 2) ≤ x11 then (some (Sum.inr (x8, x9, x10))) else (if inb ((0 + (12 * x11)) + x3) 111 = true then (if (m 60 i1 (((0 + (12 * x11)) + x3).toNatClampNeg)) = x4 then (if inb x11 6 = true then (r_X12_drawWith_j60_c14 i1 x2 x3 x4 x7 x9 x10 x11 (m 60 i1 (((0 + (12 * x11)) + x3).toNatClampNeg)) (m 67 x11.toNatClampNeg 0) x8 m) else none) else (r_X12_drawWith_j60_c14 i1 x2 x3 x4 x7 x9 x10 x11 (m 60 i1 (((0 + (12 * x11)) + x3).toNatClampNeg)) 0 x8 m)) else none)
set_option maxHeartbeats 4000000 in
set_option maxRecDepth 20000 in
theorem ok_X12_drawWith_b14 (i1 : Nat) (x2 : Int32) (x3 : Int32) (x4 : Int32) (x7 : Int32) (m : Mem) (x8 : Int32) (x9 : Int32) (x10 : Int32) (x11 : Int32) {r : (Int32 × Int32 × Int32 × Int32) ⊕ (Int32 × Int32 × Int32)} (h : r_X12_drawWith_b14 i1 x2 x3 x4 x7 m x8 x9 x10 x11 = some r) {o : Ou} {M' : Mem} (kb : ∀ (x8' : Int32) (x9' : Int32) (x10' : Int32) (x11' : Int32), r = Sum.inl (x8', x9', x10', x11') → Xj RX12 cX12_drawWith 13 (some .int) 5 94 0 0 0 0 14 [(0, vR 12 0), (1, vR 60 i1), (2, vI x2), (3, vI x3), (4, vI x4), (7, vI x7), (8, vI x8'), (9, vI x9'), (10, vI x10'), (11, vI x11')] [] m o M') (ke : ∀ (x8' : Int32) (x9' : Int32) (x10' : Int32), r = Sum.inr (x8', x9', x10') → Xj RX12 cX12_drawWith 13 (some .int) 5 94 0 0 0 0 133 [(0, vR 12 0), (1, vR 60 i1), (2, vI x2), (3, vI x3), (4, vI x4), (7, vI x7), (8, vI x8'), (9, vI x9'), (10, vI x10')] [] m o M') : Xj RX12 cX12_drawWith 13 (some .int) 5 94 0 0 0 0 14 [(0, vR 12 0), (1, vR 60 i1), (2, vI x2), (3, vI x3), (4, vI x4), (7, vI x7), (8, vI x8), (9, vI x9), (10, vI x10), (11, vI x11)] [] m o M' := by
  unfold r_X12_drawWith_b14 at h
  refine xj_iload 9 dX12_drawWith_14 rfl ?_
  refine xj_aload_n 0 dX12_drawWith_16 rfl ?_
  refine xg_getR (k' := 52) (i' := 0) dX12_drawWith_17 fl_X12_23 rfl ?_
  refine xj_iconst (z := 2) dX12_drawWith_20 (by decide) ?_
  refine xg_iald (z := (m 52 0 2)) (n := 2) dX12_drawWith_21 rfl (by decide) (inb_in (by decide)) (by decide) rfl ?_
  refine xj_icmp_ge (tgt := 133) dX12_drawWith_22 (by decide) (fun c1 => ?_) (fun c1 => ?_)
  · rw [if_pos c1] at h
    cases h
    refine xj_pick (ls' := [(0, vR 12 0), (1, vR 60 i1), (2, vI x2), (3, vI x3), (4, vI x4), (7, vI x7), (8, vI x8), (9, vI x9), (10, vI x10)]) [0, 1, 2, 3, 4, 5, 6, 7, 8] rfl ?_
    exact ke x8 x9 x10 rfl
  · rw [if_neg c1] at h
    refine xj_aload_n 1 dX12_drawWith_25 rfl ?_
    refine xj_iconst (z := 0) dX12_drawWith_26 (by decide) ?_
    refine xj_bipush (z := 12) dX12_drawWith_27 (by decide) ?_
    refine xj_iload 9 dX12_drawWith_29 rfl ?_
    refine xj_imul dX12_drawWith_31 ?_
    refine xj_iadd dX12_drawWith_32 ?_
    refine xj_iload_n 3 dX12_drawWith_33 rfl ?_
    refine xj_iadd dX12_drawWith_34 ?_
    by_cases c2 : inb ((0 + (12 * x11)) + x3) 111 = true
    case neg => rw [if_neg c2] at h; cases h
    rw [if_pos c2] at h
    refine xg_iald (z := (m 60 i1 (((0 + (12 * x11)) + x3).toNatClampNeg))) (n := ((0 + (12 * x11)) + x3).toNatClampNeg) dX12_drawWith_35 rfl (by decide) (inb_in c2) rfl rfl ?_
    refine xj_istore (ls' := [(12, vI (m 60 i1 (((0 + (12 * x11)) + x3).toNatClampNeg))), (0, vR 12 0), (1, vR 60 i1), (2, vI x2), (3, vI x3), (4, vI x4), (7, vI x7), (8, vI x8), (9, vI x9), (10, vI x10), (11, vI x11)]) dX12_drawWith_36 (by decide) rfl ?_
    refine xj_iload 7 dX12_drawWith_38 rfl ?_
    refine xj_iload 0 dX12_drawWith_40 rfl ?_
    refine xj_iload 5 dX12_drawWith_42 rfl ?_
    refine xj_icmp_ne (tgt := 59) dX12_drawWith_44 (by decide) (fun c3 => ?_) (fun c3 => ?_)
    · rw [if_neg c3] at h
      refine xj_iconst (z := 0) dX12_drawWith_59 (by decide) ?_
      refine xj_pick (ls' := [(0, vR 12 0), (1, vR 60 i1), (2, vI x2), (3, vI x3), (4, vI x4), (7, vI x7), (9, vI x9), (10, vI x10), (11, vI x11), (12, vI (m 60 i1 (((0 + (12 * x11)) + x3).toNatClampNeg)))]) [1, 2, 3, 4, 5, 6, 8, 9, 10, 0] rfl ?_
      exact ok_X12_drawWith_j60_c14 i1 x2 x3 x4 x7 x9 x10 x11 (m 60 i1 (((0 + (12 * x11)) + x3).toNatClampNeg)) 0 x8 m h kb ke
    · rw [if_pos c3] at h
      refine xj_aload_n 1 dX12_drawWith_47 rfl ?_
      refine xg_getR (k' := 68) (i' := 0) dX12_drawWith_48 fl_X12_43 rfl ?_
      refine xj_iload 10 dX12_drawWith_51 rfl ?_
      by_cases c4 : inb x11 6 = true
      case neg => rw [if_neg c4] at h; cases h
      rw [if_pos c4] at h
      refine xg_aald (k' := 67) (i' := x11.toNatClampNeg) (n := x11.toNatClampNeg) dX12_drawWith_53 rfl (by decide) (inb_in c4) rfl rfl ?_
      refine xj_iconst (z := 0) dX12_drawWith_54 (by decide) ?_
      refine xg_iald (z := (m 67 x11.toNatClampNeg 0)) (n := 0) dX12_drawWith_55 rfl (by decide) (inb_in (by decide)) (by decide) rfl ?_
      refine xj_goto (tgt := 60) dX12_drawWith_56 (by decide) ?_
      refine xj_pick (ls' := [(0, vR 12 0), (1, vR 60 i1), (2, vI x2), (3, vI x3), (4, vI x4), (7, vI x7), (9, vI x9), (10, vI x10), (11, vI x11), (12, vI (m 60 i1 (((0 + (12 * x11)) + x3).toNatClampNeg)))]) [1, 2, 3, 4, 5, 6, 8, 9, 10, 0] rfl ?_
      exact ok_X12_drawWith_j60_c14 i1 x2 x3 x4 x7 x9 x10 x11 (m 60 i1 (((0 + (12 * x11)) + x3).toNatClampNeg)) (m 67 x11.toNatClampNeg 0) x8 m h kb ke
noncomputable def r_X12_drawWith_e133_h14 (i1 : Nat) (x2 : Int32) (x3 : Int32) (x4 : Int32) (x7 : Int32) (x8 : Int32) (x9 : Int32) (x10 : Int32) (m : Mem) : Option (Int32 × Mem) :=
  if inb x3 12 = true then (if inb x4 12 = true then (if inb (78 + x2) 111 = true then (if inb (94 + x2) 111 = true then (bd2 (r_X12_drawBy ((m 54 0 x3.toNatClampNeg) - (m 54 0 x4.toNatClampNeg)) x8 x9 x10 ((m 60 i1 ((78 + x2).toNatClampNeg)) + x7) (m 60 i1 ((94 + x2).toNatClampNeg)) (m 60 i1 110) x3 x4 m) fun z17 m16 => (some (z17, m16))) else none) else none) else none) else none
set_option maxHeartbeats 4000000 in
set_option maxRecDepth 20000 in
theorem ok_X12_drawWith_e133_h14 (i1 : Nat) (x2 : Int32) (x3 : Int32) (x4 : Int32) (x7 : Int32) (x8 : Int32) (x9 : Int32) (x10 : Int32) (m : Mem) {z : Int32} {m' : Mem} (h : r_X12_drawWith_e133_h14 i1 x2 x3 x4 x7 x8 x9 x10 m = some (z, m')) : Xj RX12 cX12_drawWith 13 (some .int) 5 94 0 0 0 0 133 [(0, vR 12 0), (1, vR 60 i1), (2, vI x2), (3, vI x3), (4, vI x4), (7, vI x7), (8, vI x8), (9, vI x9), (10, vI x10)] [] m (oI z) m' := by
  unfold r_X12_drawWith_e133_h14 at h
  refine xj_aload_n 0 dX12_drawWith_133 rfl ?_
  refine xj_aload_n 0 dX12_drawWith_134 rfl ?_
  refine xg_getR (k' := 54) (i' := 0) dX12_drawWith_135 fl_X12_29 rfl ?_
  refine xj_iload_n 3 dX12_drawWith_138 rfl ?_
  by_cases c11 : inb x3 12 = true
  case neg => rw [if_neg c11] at h; cases h
  rw [if_pos c11] at h
  refine xg_iald (z := (m 54 0 x3.toNatClampNeg)) (n := x3.toNatClampNeg) dX12_drawWith_139 rfl (by decide) (inb_in c11) rfl rfl ?_
  refine xj_aload_n 0 dX12_drawWith_140 rfl ?_
  refine xg_getR (k' := 54) (i' := 0) dX12_drawWith_141 fl_X12_29 rfl ?_
  refine xj_iload 4 dX12_drawWith_144 rfl ?_
  by_cases c12 : inb x4 12 = true
  case neg => rw [if_neg c12] at h; cases h
  rw [if_pos c12] at h
  refine xg_iald (z := (m 54 0 x4.toNatClampNeg)) (n := x4.toNatClampNeg) dX12_drawWith_146 rfl (by decide) (inb_in c12) rfl rfl ?_
  refine xj_isub dX12_drawWith_147 ?_
  refine xj_iload 6 dX12_drawWith_148 rfl ?_
  refine xj_iload 7 dX12_drawWith_150 rfl ?_
  refine xj_iload 8 dX12_drawWith_152 rfl ?_
  refine xj_aload_n 1 dX12_drawWith_154 rfl ?_
  refine xj_bipush (z := 78) dX12_drawWith_155 (by decide) ?_
  refine xj_iload_n 2 dX12_drawWith_157 rfl ?_
  refine xj_iadd dX12_drawWith_158 ?_
  by_cases c13 : inb (78 + x2) 111 = true
  case neg => rw [if_neg c13] at h; cases h
  rw [if_pos c13] at h
  refine xg_iald (z := (m 60 i1 ((78 + x2).toNatClampNeg))) (n := (78 + x2).toNatClampNeg) dX12_drawWith_159 rfl (by decide) (inb_in c13) rfl rfl ?_
  refine xj_iload 5 dX12_drawWith_160 rfl ?_
  refine xj_iadd dX12_drawWith_162 ?_
  refine xj_aload_n 1 dX12_drawWith_163 rfl ?_
  refine xj_bipush (z := 94) dX12_drawWith_164 (by decide) ?_
  refine xj_iload_n 2 dX12_drawWith_166 rfl ?_
  refine xj_iadd dX12_drawWith_167 ?_
  by_cases c14 : inb (94 + x2) 111 = true
  case neg => rw [if_neg c14] at h; cases h
  rw [if_pos c14] at h
  refine xg_iald (z := (m 60 i1 ((94 + x2).toNatClampNeg))) (n := (94 + x2).toNatClampNeg) dX12_drawWith_168 rfl (by decide) (inb_in c14) rfl rfl ?_
  refine xj_aload_n 1 dX12_drawWith_169 rfl ?_
  refine xj_bipush (z := 110) dX12_drawWith_170 (by decide) ?_
  refine xg_iald (z := (m 60 i1 110)) (n := 110) dX12_drawWith_172 rfl (by decide) (inb_in (by decide)) (by decide) rfl ?_
  refine xj_iload_n 3 dX12_drawWith_173 rfl ?_
  refine xj_iload 4 dX12_drawWith_174 rfl ?_
  obtain ⟨z17, m16, e15, h⟩ := bd2_some h
  refine xc_Vi0 (st := []) (ok_X12_drawBy ((m 54 0 x3.toNatClampNeg) - (m 54 0 x4.toNatClampNeg)) x8 x9 x10 ((m 60 i1 ((78 + x2).toNatClampNeg)) + x7) (m 60 i1 ((94 + x2).toNatClampNeg)) (m 60 i1 110) x3 x4 m e15) dX12_drawWith_176 cv_X12_289 rfl rfl (Nat.le_of_ble_eq_true rfl) (by decide) (by decide) (by decide) (by decide) ?_
  cases h
  exact xj_ireturn dX12_drawWith_179 rfl (by decide) (by decide)
noncomputable def r_X12_drawWith_l14 (i1 : Nat) (x2 : Int32) (x3 : Int32) (x4 : Int32) (x7 : Int32) (x8 : Int32) (x9 : Int32) (x10 : Int32) (x11 : Int32) (m : Mem) : Option (Int32 × Mem) :=
  bd1 (loopO (fun s => r_X12_drawWith_b14 i1 x2 x3 x4 x7 m s.1 s.2.1 s.2.2.1 s.2.2.2) (x8, x9, x10, x11)) (fun e => r_X12_drawWith_e133_h14 i1 x2 x3 x4 x7 e.1 e.2.1 e.2.2 m)
set_option maxHeartbeats 4000000 in
set_option maxRecDepth 20000 in
theorem ok_X12_drawWith_l14 (i1 : Nat) (x2 : Int32) (x3 : Int32) (x4 : Int32) (x7 : Int32) (x8 : Int32) (x9 : Int32) (x10 : Int32) (x11 : Int32) (m : Mem) {z : Int32} {m' : Mem} (h : r_X12_drawWith_l14 i1 x2 x3 x4 x7 x8 x9 x10 x11 m = some (z, m')) : Xj RX12 cX12_drawWith 13 (some .int) 5 94 0 0 0 0 14 [(0, vR 12 0), (1, vR 60 i1), (2, vI x2), (3, vI x3), (4, vI x4), (7, vI x7), (8, vI x8), (9, vI x9), (10, vI x10), (11, vI x11)] [] m (oI z) m' := by
  unfold r_X12_drawWith_l14 at h
  obtain ⟨e, e1, h⟩ := bd1_some h
  refine loopO_ok (P := fun s : (Int32 × Int32 × Int32 × Int32) => Xj RX12 cX12_drawWith 13 (some .int) 5 94 0 0 0 0 14 [(0, vR 12 0), (1, vR 60 i1), (2, vI x2), (3, vI x3), (4, vI x4), (7, vI x7), (8, vI s.1), (9, vI s.2.1), (10, vI s.2.2.1), (11, vI s.2.2.2)] [] m (oI z) m') (Q := fun e : (Int32 × Int32 × Int32) => Xj RX12 cX12_drawWith 13 (some .int) 5 94 0 0 0 0 133 [(0, vR 12 0), (1, vR 60 i1), (2, vI x2), (3, vI x3), (4, vI x4), (7, vI x7), (8, vI e.1), (9, vI e.2.1), (10, vI e.2.2)] [] m (oI z) m') ?_ _ _ e1 ?_
  · intro s r9 h9 hi hx
    exact ok_X12_drawWith_b14 i1 x2 x3 x4 x7 m s.1 s.2.1 s.2.2.1 s.2.2.2 h9 (by rintro _ _ _ _ rfl; exact hi _ rfl) (by rintro _ _ _ rfl; exact hx _ rfl)
  · exact ok_X12_drawWith_e133_h14 i1 x2 x3 x4 x7 e.1 e.2.1 e.2.2 m h 
noncomputable def r_X12_drawWith (i1 : Nat) (x2 : Int32) (x3 : Int32) (x4 : Int32) (x5 : Int32) (x6 : Int32) (x7 : Int32) (m : Mem) : Option (Int32 × Mem) :=
  r_X12_drawWith_l14 i1 x2 x3 x4 x7 x5 x6 0 0 m
set_option maxHeartbeats 4000000 in
set_option maxRecDepth 20000 in
theorem ok_X12_drawWith (i1 : Nat) (x2 : Int32) (x3 : Int32) (x4 : Int32) (x5 : Int32) (x6 : Int32) (x7 : Int32) (m : Mem) {z : Int32} {m' : Mem} (h : r_X12_drawWith i1 x2 x3 x4 x5 x6 x7 m = some (z, m')) : Mt yX12_drawWith cX12_drawWith 13 (some .int) 5 94 0 0 [vR 12 0, vR 60 i1, vI x2, vI x3, vI x4, vI x5, vI x6, vI x7] m (oI z) m' := by
  refine Mt.of (by decide) (Nat.le_of_ble_eq_true rfl) (by decide +kernel) (hhF_ne (by decide)) ?_
  show Xj RX12 cX12_drawWith 13 (some .int) 5 94 0 0 0 0 0 [(0, vR 12 0), (1, vR 60 i1), (2, vI x2), (3, vI x3), (4, vI x4), (5, vI x5), (6, vI x6), (7, vI x7)] [] m (oI z) m'
  unfold r_X12_drawWith at h
  refine xj_iload 5 dX12_drawWith_0 rfl ?_
  refine xj_istore (ls' := [(8, vI x5), (0, vR 12 0), (1, vR 60 i1), (2, vI x2), (3, vI x3), (4, vI x4), (5, vI x5), (6, vI x6), (7, vI x7)]) dX12_drawWith_2 (by decide) rfl ?_
  refine xj_iload 7 dX12_drawWith_4 rfl ?_
  refine xj_istore (ls' := [(9, vI x6), (8, vI x5), (0, vR 12 0), (1, vR 60 i1), (2, vI x2), (3, vI x3), (4, vI x4), (5, vI x5), (6, vI x6), (7, vI x7)]) dX12_drawWith_6 (by decide) rfl ?_
  refine xj_iconst (z := 0) dX12_drawWith_8 (by decide) ?_
  refine xj_istore (ls' := [(10, vI 0), (9, vI x6), (8, vI x5), (0, vR 12 0), (1, vR 60 i1), (2, vI x2), (3, vI x3), (4, vI x4), (5, vI x5), (6, vI x6), (7, vI x7)]) dX12_drawWith_9 (by decide) rfl ?_
  refine xj_iconst (z := 0) dX12_drawWith_11 (by decide) ?_
  refine xj_istore (ls' := [(11, vI 0), (10, vI 0), (9, vI x6), (8, vI x5), (0, vR 12 0), (1, vR 60 i1), (2, vI x2), (3, vI x3), (4, vI x4), (5, vI x5), (6, vI x6), (7, vI x7)]) dX12_drawWith_12 (by decide) rfl ?_
  refine xj_pick (ls' := [(0, vR 12 0), (1, vR 60 i1), (2, vI x2), (3, vI x3), (4, vI x4), (7, vI x7), (8, vI x5), (9, vI x6), (10, vI 0), (11, vI 0)]) [4, 5, 6, 7, 8, 11, 3, 2, 1, 0] rfl ?_
  exact ok_X12_drawWith_l14 i1 x2 x3 x4 x7 x5 x6 0 0 m h 
noncomputable def r_X12_nextWith_j82_c9 (i1 : Nat) (x2 : Int32) (x3 : Int32) (x4 : Int32) (x5 : Int32) (x6 : Int32) (x7 : Int32) (m : Mem) : Option ((Int32 × Int32 × Int32 × Mem) ⊕ (Int32 × Mem)) :=
  some (Sum.inl (x5, x6, x7 + 1, m))
set_option maxHeartbeats 4000000 in
set_option maxRecDepth 20000 in
theorem ok_X12_nextWith_j82_c9 (i1 : Nat) (x2 : Int32) (x3 : Int32) (x4 : Int32) (x5 : Int32) (x6 : Int32) (x7 : Int32) (m : Mem) {r : (Int32 × Int32 × Int32 × Mem) ⊕ (Int32 × Mem)} (h : r_X12_nextWith_j82_c9 i1 x2 x3 x4 x5 x6 x7 m = some r) {o : Ou} {M' : Mem} (kb : ∀ (x5' : Int32) (x6' : Int32) (x7' : Int32) (m'' : Mem), r = Sum.inl (x5', x6', x7', m'') → Xj RX12 cX12_nextWith 10 (some .int) 6 126 0 0 0 0 9 [(0, vR 12 0), (1, vR 60 i1), (2, vI x2), (3, vI x3), (4, vI x4), (5, vI x5'), (6, vI x6'), (7, vI x7')] [] m'' o M') (ke : ∀ (x5' : Int32) (m'' : Mem), r = Sum.inr (x5', m'') → Xj RX12 cX12_nextWith 10 (some .int) 6 126 0 0 0 0 88 [(5, vI x5')] [] m'' o M') : Xj RX12 cX12_nextWith 10 (some .int) 6 126 0 0 0 0 82 [(0, vR 12 0), (1, vR 60 i1), (2, vI x2), (3, vI x3), (4, vI x4), (5, vI x5), (6, vI x6), (7, vI x7)] [] m o M' := by
  unfold r_X12_nextWith_j82_c9 at h
  refine xj_iinc (z := x7 + 1) (ls' := [(7, vI (x7 + 1)), (0, vR 12 0), (1, vR 60 i1), (2, vI x2), (3, vI x3), (4, vI x4), (5, vI x5), (6, vI x6)]) 7 dX12_nextWith_82 rfl rfl (by decide) rfl ?_
  refine xj_goto (tgt := 9) dX12_nextWith_85 (by decide) ?_
  cases h
  refine xj_pick (ls' := [(0, vR 12 0), (1, vR 60 i1), (2, vI x2), (3, vI x3), (4, vI x4), (5, vI x5), (6, vI x6), (7, vI (x7 + 1))]) [1, 2, 3, 4, 5, 6, 7, 0] rfl ?_
  exact kb x5 x6 (x7 + 1) m rfl
noncomputable def r_X12_nextWith_j59_c9 (i1 : Nat) (x2 : Int32) (x3 : Int32) (x4 : Int32) (x5 : Int32) (x6 : Int32) (x7 : Int32) (s0 : Int32) (s1 : Int32) (s2 : Int32) (s3 : Int32) (s4 : Int32) (s5 : Int32) (q6 : Nat) (m : Mem) : Option ((Int32 × Int32 × Int32 × Mem) ⊕ (Int32 × Mem)) :=
  bd2 (r_X12_drawWith q6 s5 s4 s3 s2 s1 s0 m) fun z8 m7 => (if x6 < z8 then (r_X12_nextWith_j82_c9 i1 x2 x3 x4 x7 z8 x7 m7) else (r_X12_nextWith_j82_c9 i1 x2 x3 x4 x5 x6 x7 m7))
set_option maxHeartbeats 4000000 in
set_option maxRecDepth 20000 in
theorem ok_X12_nextWith_j59_c9 (i1 : Nat) (x2 : Int32) (x3 : Int32) (x4 : Int32) (x5 : Int32) (x6 : Int32) (x7 : Int32) (s0 : Int32) (s1 : Int32) (s2 : Int32) (s3 : Int32) (s4 : Int32) (s5 : Int32) (q6 : Nat) (m : Mem) {r : (Int32 × Int32 × Int32 × Mem) ⊕ (Int32 × Mem)} (h : r_X12_nextWith_j59_c9 i1 x2 x3 x4 x5 x6 x7 s0 s1 s2 s3 s4 s5 q6 m = some r) {o : Ou} {M' : Mem} (kb : ∀ (x5' : Int32) (x6' : Int32) (x7' : Int32) (m'' : Mem), r = Sum.inl (x5', x6', x7', m'') → Xj RX12 cX12_nextWith 10 (some .int) 6 126 0 0 0 0 9 [(0, vR 12 0), (1, vR 60 i1), (2, vI x2), (3, vI x3), (4, vI x4), (5, vI x5'), (6, vI x6'), (7, vI x7')] [] m'' o M') (ke : ∀ (x5' : Int32) (m'' : Mem), r = Sum.inr (x5', m'') → Xj RX12 cX12_nextWith 10 (some .int) 6 126 0 0 0 0 88 [(5, vI x5')] [] m'' o M') : Xj RX12 cX12_nextWith 10 (some .int) 6 126 0 0 0 0 59 [(0, vR 12 0), (1, vR 60 i1), (2, vI x2), (3, vI x3), (4, vI x4), (5, vI x5), (6, vI x6), (7, vI x7)] [vI s0, vI s1, vI s2, vI s3, vI s4, vI s5, vR 60 q6, vR 12 0] m o M' := by
  unfold r_X12_nextWith_j59_c9 at h
  obtain ⟨z8, m7, e6, h⟩ := bd2_some h
  refine xc_Vi0 (st := []) (ok_X12_drawWith q6 s5 s4 s3 s2 s1 s0 m e6) dX12_nextWith_59 cv_X12_293 rfl rfl (Nat.le_of_ble_eq_true rfl) (by decide) (by decide) (by decide) (by decide) ?_
  refine xj_istore (ls' := [(9, vI z8), (0, vR 12 0), (1, vR 60 i1), (2, vI x2), (3, vI x3), (4, vI x4), (5, vI x5), (6, vI x6), (7, vI x7)]) dX12_nextWith_62 (by decide) rfl ?_
  refine xj_iload 0 dX12_nextWith_64 rfl ?_
  refine xj_iload 7 dX12_nextWith_66 rfl ?_
  refine xj_icmp_gt (tgt := 74) dX12_nextWith_68 (by decide) (fun c9 => ?_) (fun c9 => ?_)
  · rw [if_pos c9] at h
    refine xj_iload 8 dX12_nextWith_74 rfl ?_
    refine xj_istore (ls' := [(5, vI x7), (9, vI z8), (0, vR 12 0), (1, vR 60 i1), (2, vI x2), (3, vI x3), (4, vI x4), (6, vI x6), (7, vI x7)]) dX12_nextWith_76 (by decide) rfl ?_
    refine xj_iload 1 dX12_nextWith_78 rfl ?_
    refine xj_istore (ls' := [(6, vI z8), (5, vI x7), (9, vI z8), (0, vR 12 0), (1, vR 60 i1), (2, vI x2), (3, vI x3), (4, vI x4), (7, vI x7)]) dX12_nextWith_80 (by decide) rfl ?_
    refine xj_pick (ls' := [(0, vR 12 0), (1, vR 60 i1), (2, vI x2), (3, vI x3), (4, vI x4), (5, vI x7), (6, vI z8), (7, vI x7)]) [3, 4, 5, 6, 7, 1, 0, 8] rfl ?_
    exact ok_X12_nextWith_j82_c9 i1 x2 x3 x4 x7 z8 x7 m7 h kb ke
  · rw [if_neg c9] at h
    refine xj_goto (tgt := 82) dX12_nextWith_71 (by decide) ?_
    refine xj_pick (ls' := [(0, vR 12 0), (1, vR 60 i1), (2, vI x2), (3, vI x3), (4, vI x4), (5, vI x5), (6, vI x6), (7, vI x7)]) [1, 2, 3, 4, 5, 6, 7, 8] rfl ?_
    exact ok_X12_nextWith_j82_c9 i1 x2 x3 x4 x5 x6 x7 m7 h kb ke
noncomputable def r_X12_nextWith_b9 (i1 : Nat) (x2 : Int32) (x3 : Int32) (x4 : Int32) (x5 : Int32) (x6 : Int32) (x7 : Int32) (m : Mem) : Option ((Int32 × Int32 × Int32 × Mem) ⊕ (Int32 × Mem)) :=
  if (m 52 0 0) ≤ x7 then (some (Sum.inr (x5, m))) else (bd1 (r_X12_between x2 x7 m) fun z3 => (if z3 = (-1) then (r_X12_nextWith_j82_c9 i1 x2 x3 x4 x5 x6 x7 m) else (if z3 = x3 then (r_X12_nextWith_j59_c9 i1 x2 x3 x4 x5 x6 x7 x4 0 0 x7 x2 z3 i1 m) else (r_X12_nextWith_j59_c9 i1 x2 x3 x4 x5 x6 x7 0 0 0 x7 x2 z3 i1 m))))
set_option maxHeartbeats 4000000 in
set_option maxRecDepth 20000 in
theorem ok_X12_nextWith_b9 (i1 : Nat) (x2 : Int32) (x3 : Int32) (x4 : Int32) (x5 : Int32) (x6 : Int32) (x7 : Int32) (m : Mem) {r : (Int32 × Int32 × Int32 × Mem) ⊕ (Int32 × Mem)} (h : r_X12_nextWith_b9 i1 x2 x3 x4 x5 x6 x7 m = some r) {o : Ou} {M' : Mem} (kb : ∀ (x5' : Int32) (x6' : Int32) (x7' : Int32) (m'' : Mem), r = Sum.inl (x5', x6', x7', m'') → Xj RX12 cX12_nextWith 10 (some .int) 6 126 0 0 0 0 9 [(0, vR 12 0), (1, vR 60 i1), (2, vI x2), (3, vI x3), (4, vI x4), (5, vI x5'), (6, vI x6'), (7, vI x7')] [] m'' o M') (ke : ∀ (x5' : Int32) (m'' : Mem), r = Sum.inr (x5', m'') → Xj RX12 cX12_nextWith 10 (some .int) 6 126 0 0 0 0 88 [(5, vI x5')] [] m'' o M') : Xj RX12 cX12_nextWith 10 (some .int) 6 126 0 0 0 0 9 [(0, vR 12 0), (1, vR 60 i1), (2, vI x2), (3, vI x3), (4, vI x4), (5, vI x5), (6, vI x6), (7, vI x7)] [] m o M' := by
  unfold r_X12_nextWith_b9 at h
  refine xj_iload 7 dX12_nextWith_9 rfl ?_
  refine xj_aload_n 0 dX12_nextWith_11 rfl ?_
  refine xg_getR (k' := 52) (i' := 0) dX12_nextWith_12 fl_X12_23 rfl ?_
  refine xj_iconst (z := 0) dX12_nextWith_15 (by decide) ?_
  refine xg_iald (z := (m 52 0 0)) (n := 0) dX12_nextWith_16 rfl (by decide) (inb_in (by decide)) (by decide) rfl ?_
  refine xj_icmp_ge (tgt := 88) dX12_nextWith_17 (by decide) (fun c1 => ?_) (fun c1 => ?_)
  · rw [if_pos c1] at h
    cases h
    refine xj_pick (ls' := [(5, vI x5)]) [5] rfl ?_
    exact ke x5 m rfl
  · rw [if_neg c1] at h
    refine xj_aload_n 0 dX12_nextWith_20 rfl ?_
    refine xj_iload_n 2 dX12_nextWith_21 rfl ?_
    refine xj_iload 7 dX12_nextWith_22 rfl ?_
    obtain ⟨z3, e2, h⟩ := bd1_some h
    refine xc_Vi0 (st := []) (ok_X12_between x2 x7 m e2) dX12_nextWith_24 cv_X12_267 rfl rfl (Nat.le_of_ble_eq_true rfl) (by decide) (by decide) (by decide) (by decide) ?_
    refine xj_istore (ls' := [(8, vI z3), (0, vR 12 0), (1, vR 60 i1), (2, vI x2), (3, vI x3), (4, vI x4), (5, vI x5), (6, vI x6), (7, vI x7)]) dX12_nextWith_27 (by decide) rfl ?_
    refine xj_iload 0 dX12_nextWith_29 rfl ?_
    refine xj_iconst (z := (-1)) dX12_nextWith_31 (by decide) ?_
    refine xj_icmp_ne (tgt := 38) dX12_nextWith_32 (by decide) (fun c4 => ?_) (fun c4 => ?_)
    · rw [if_neg c4] at h
      refine xj_aload_n 1 dX12_nextWith_38 rfl ?_
      refine xj_aload_n 2 dX12_nextWith_39 rfl ?_
      refine xj_iload 0 dX12_nextWith_40 rfl ?_
      refine xj_iload_n 3 dX12_nextWith_42 rfl ?_
      refine xj_iload 8 dX12_nextWith_43 rfl ?_
      refine xj_iconst (z := 0) dX12_nextWith_45 (by decide) ?_
      refine xj_iconst (z := 0) dX12_nextWith_46 (by decide) ?_
      refine xj_iload 0 dX12_nextWith_47 rfl ?_
      refine xj_iload_n 4 dX12_nextWith_49 rfl ?_
      refine xj_icmp_ne (tgt := 58) dX12_nextWith_50 (by decide) (fun c5 => ?_) (fun c5 => ?_)
      · rw [if_neg c5] at h
        refine xj_iconst (z := 0) dX12_nextWith_58 (by decide) ?_
        refine xj_pick (ls' := [(0, vR 12 0), (1, vR 60 i1), (2, vI x2), (3, vI x3), (4, vI x4), (5, vI x5), (6, vI x6), (7, vI x7)]) [1, 2, 3, 4, 5, 6, 7, 8] rfl ?_
        exact ok_X12_nextWith_j59_c9 i1 x2 x3 x4 x5 x6 x7 0 0 0 x7 x2 z3 i1 m h kb ke
      · rw [if_pos c5] at h
        refine xj_iload 5 dX12_nextWith_53 rfl ?_
        refine xj_goto (tgt := 59) dX12_nextWith_55 (by decide) ?_
        refine xj_pick (ls' := [(0, vR 12 0), (1, vR 60 i1), (2, vI x2), (3, vI x3), (4, vI x4), (5, vI x5), (6, vI x6), (7, vI x7)]) [1, 2, 3, 4, 5, 6, 7, 8] rfl ?_
        exact ok_X12_nextWith_j59_c9 i1 x2 x3 x4 x5 x6 x7 x4 0 0 x7 x2 z3 i1 m h kb ke
    · rw [if_pos c4] at h
      refine xj_goto (tgt := 82) dX12_nextWith_35 (by decide) ?_
      refine xj_pick (ls' := [(0, vR 12 0), (1, vR 60 i1), (2, vI x2), (3, vI x3), (4, vI x4), (5, vI x5), (6, vI x6), (7, vI x7)]) [1, 2, 3, 4, 5, 6, 7, 8] rfl ?_
      exact ok_X12_nextWith_j82_c9 i1 x2 x3 x4 x5 x6 x7 m h kb ke
noncomputable def r_X12_nextWith_e88_h9 (x5 : Int32) (m : Mem) : Option (Int32 × Mem) :=
  some (x5, m)
set_option maxHeartbeats 4000000 in
set_option maxRecDepth 20000 in
theorem ok_X12_nextWith_e88_h9 (x5 : Int32) (m : Mem) {z : Int32} {m' : Mem} (h : r_X12_nextWith_e88_h9 x5 m = some (z, m')) : Xj RX12 cX12_nextWith 10 (some .int) 6 126 0 0 0 0 88 [(5, vI x5)] [] m (oI z) m' := by
  unfold r_X12_nextWith_e88_h9 at h
  refine xj_iload 0 dX12_nextWith_88 rfl ?_
  cases h
  exact xj_ireturn dX12_nextWith_90 rfl (by decide) (by decide)
noncomputable def r_X12_nextWith_l9 (i1 : Nat) (x2 : Int32) (x3 : Int32) (x4 : Int32) (x5 : Int32) (x6 : Int32) (x7 : Int32) (m : Mem) : Option (Int32 × Mem) :=
  bd1 (loopO (fun s => r_X12_nextWith_b9 i1 x2 x3 x4 s.1 s.2.1 s.2.2.1 s.2.2.2) (x5, x6, x7, m)) (fun e => r_X12_nextWith_e88_h9 e.1 e.2)
set_option maxHeartbeats 4000000 in
set_option maxRecDepth 20000 in
theorem ok_X12_nextWith_l9 (i1 : Nat) (x2 : Int32) (x3 : Int32) (x4 : Int32) (x5 : Int32) (x6 : Int32) (x7 : Int32) (m : Mem) {z : Int32} {m' : Mem} (h : r_X12_nextWith_l9 i1 x2 x3 x4 x5 x6 x7 m = some (z, m')) : Xj RX12 cX12_nextWith 10 (some .int) 6 126 0 0 0 0 9 [(0, vR 12 0), (1, vR 60 i1), (2, vI x2), (3, vI x3), (4, vI x4), (5, vI x5), (6, vI x6), (7, vI x7)] [] m (oI z) m' := by
  unfold r_X12_nextWith_l9 at h
  obtain ⟨e, e1, h⟩ := bd1_some h
  refine loopO_ok (P := fun s : (Int32 × Int32 × Int32 × Mem) => Xj RX12 cX12_nextWith 10 (some .int) 6 126 0 0 0 0 9 [(0, vR 12 0), (1, vR 60 i1), (2, vI x2), (3, vI x3), (4, vI x4), (5, vI s.1), (6, vI s.2.1), (7, vI s.2.2.1)] [] s.2.2.2 (oI z) m') (Q := fun e : (Int32 × Mem) => Xj RX12 cX12_nextWith 10 (some .int) 6 126 0 0 0 0 88 [(5, vI e.1)] [] e.2 (oI z) m') ?_ _ _ e1 ?_
  · intro s r9 h9 hi hx
    exact ok_X12_nextWith_b9 i1 x2 x3 x4 s.1 s.2.1 s.2.2.1 s.2.2.2 h9 (by rintro _ _ _ _ rfl; exact hi _ rfl) (by rintro _ _ rfl; exact hx _ rfl)
  · exact ok_X12_nextWith_e88_h9 e.1 e.2 h 
noncomputable def r_X12_nextWith (i1 : Nat) (x2 : Int32) (x3 : Int32) (x4 : Int32) (m : Mem) : Option (Int32 × Mem) :=
  r_X12_nextWith_l9 i1 x2 x3 x4 (-1) 0 0 m
set_option maxHeartbeats 4000000 in
set_option maxRecDepth 20000 in
theorem ok_X12_nextWith (i1 : Nat) (x2 : Int32) (x3 : Int32) (x4 : Int32) (m : Mem) {z : Int32} {m' : Mem} (h : r_X12_nextWith i1 x2 x3 x4 m = some (z, m')) : Mt yX12_nextWith cX12_nextWith 10 (some .int) 6 126 0 0 [vR 12 0, vR 60 i1, vI x2, vI x3, vI x4] m (oI z) m' := by
  refine Mt.of (by decide) (Nat.le_of_ble_eq_true rfl) (by decide +kernel) (hhF_ne (by decide)) ?_
  show Xj RX12 cX12_nextWith 10 (some .int) 6 126 0 0 0 0 0 [(0, vR 12 0), (1, vR 60 i1), (2, vI x2), (3, vI x3), (4, vI x4)] [] m (oI z) m'
  unfold r_X12_nextWith at h
  refine xj_iconst (z := (-1)) dX12_nextWith_0 (by decide) ?_
  refine xj_istore (ls' := [(5, vI (-1)), (0, vR 12 0), (1, vR 60 i1), (2, vI x2), (3, vI x3), (4, vI x4)]) dX12_nextWith_1 (by decide) rfl ?_
  refine xj_iconst (z := 0) dX12_nextWith_3 (by decide) ?_
  refine xj_istore (ls' := [(6, vI 0), (5, vI (-1)), (0, vR 12 0), (1, vR 60 i1), (2, vI x2), (3, vI x3), (4, vI x4)]) dX12_nextWith_4 (by decide) rfl ?_
  refine xj_iconst (z := 0) dX12_nextWith_6 (by decide) ?_
  refine xj_istore (ls' := [(7, vI 0), (6, vI 0), (5, vI (-1)), (0, vR 12 0), (1, vR 60 i1), (2, vI x2), (3, vI x3), (4, vI x4)]) dX12_nextWith_7 (by decide) rfl ?_
  refine xj_pick (ls' := [(0, vR 12 0), (1, vR 60 i1), (2, vI x2), (3, vI x3), (4, vI x4), (5, vI (-1)), (6, vI 0), (7, vI 0)]) [3, 4, 5, 6, 7, 2, 1, 0] rfl ?_
  exact ok_X12_nextWith_l9 i1 x2 x3 x4 (-1) 0 0 m h 
noncomputable def r_X12_nextOf (i1 : Nat) (x2 : Int32) (m : Mem) : Option (Int32 × Mem) :=
  bd2 (r_X12_nextWith i1 x2 (-1) 0 m) fun z3 m2 => (some (z3, m2))
set_option maxHeartbeats 4000000 in
set_option maxRecDepth 20000 in
theorem ok_X12_nextOf (i1 : Nat) (x2 : Int32) (m : Mem) {z : Int32} {m' : Mem} (h : r_X12_nextOf i1 x2 m = some (z, m')) : Mt yX12_nextOf cX12_nextOf 3 (some .int) 7 155 0 0 [vR 12 0, vR 60 i1, vI x2] m (oI z) m' := by
  refine Mt.of (by decide) (Nat.le_of_ble_eq_true rfl) (by decide +kernel) (hhF_ne (by decide)) ?_
  show Xj RX12 cX12_nextOf 3 (some .int) 7 155 0 0 0 0 0 [(0, vR 12 0), (1, vR 60 i1), (2, vI x2)] [] m (oI z) m'
  unfold r_X12_nextOf at h
  refine xj_aload_n 0 dX12_nextOf_0 rfl ?_
  refine xj_aload_n 1 dX12_nextOf_1 rfl ?_
  refine xj_iload_n 2 dX12_nextOf_2 rfl ?_
  refine xj_iconst (z := (-1)) dX12_nextOf_3 (by decide) ?_
  refine xj_iconst (z := 0) dX12_nextOf_4 (by decide) ?_
  obtain ⟨z3, m2, e1, h⟩ := bd2_some h
  refine xc_Vi0 (st := []) (ok_X12_nextWith i1 x2 (-1) 0 m e1) dX12_nextOf_5 cv_X12_297 rfl rfl (Nat.le_of_ble_eq_true rfl) (by decide) (by decide) (by decide) (by decide) ?_
  cases h
  exact xj_ireturn dX12_nextOf_8 rfl (by decide) (by decide)
noncomputable def r_X12_laysNext_b2 (i1 : Nat) (x2 : Int32) (m : Mem) : Option ((Int32 × Mem) ⊕ (Mem)) :=
  if (m 52 0 0) ≤ x2 then (some (Sum.inr m)) else (bd2 (r_X12_nextOf i1 x2 m) fun z4 m3 => (if inb x2 12 = true then (some (Sum.inl (x2 + 1, (wr m3 57 0 x2.toNatClampNeg z4)))) else none))
set_option maxHeartbeats 4000000 in
set_option maxRecDepth 20000 in
theorem ok_X12_laysNext_b2 (i1 : Nat) (x2 : Int32) (m : Mem) {r : (Int32 × Mem) ⊕ (Mem)} (h : r_X12_laysNext_b2 i1 x2 m = some r) {o : Ou} {M' : Mem} (kb : ∀ (x2' : Int32) (m'' : Mem), r = Sum.inl (x2', m'') → Xj RX12 cX12_laysNext 3 none 8 177 0 0 0 0 2 [(0, vR 12 0), (1, vR 60 i1), (2, vI x2')] [] m'' o M') (ke : ∀ (m'' : Mem), r = Sum.inr m'' → Xj RX12 cX12_laysNext 3 none 8 177 0 0 0 0 30 [] [] m'' o M') : Xj RX12 cX12_laysNext 3 none 8 177 0 0 0 0 2 [(0, vR 12 0), (1, vR 60 i1), (2, vI x2)] [] m o M' := by
  unfold r_X12_laysNext_b2 at h
  refine xj_iload_n 2 dX12_laysNext_2 rfl ?_
  refine xj_aload_n 0 dX12_laysNext_3 rfl ?_
  refine xg_getR (k' := 52) (i' := 0) dX12_laysNext_4 fl_X12_23 rfl ?_
  refine xj_iconst (z := 0) dX12_laysNext_7 (by decide) ?_
  refine xg_iald (z := (m 52 0 0)) (n := 0) dX12_laysNext_8 rfl (by decide) (inb_in (by decide)) (by decide) rfl ?_
  refine xj_icmp_ge (tgt := 30) dX12_laysNext_9 (by decide) (fun c1 => ?_) (fun c1 => ?_)
  · rw [if_pos c1] at h
    cases h
    refine xj_pick (ls' := []) [] rfl ?_
    exact ke m rfl
  · rw [if_neg c1] at h
    refine xj_aload_n 0 dX12_laysNext_12 rfl ?_
    refine xg_getR (k' := 57) (i' := 0) dX12_laysNext_13 fl_X12_85 rfl ?_
    refine xj_iload_n 2 dX12_laysNext_16 rfl ?_
    refine xj_aload_n 0 dX12_laysNext_17 rfl ?_
    refine xj_aload_n 1 dX12_laysNext_18 rfl ?_
    refine xj_iload_n 2 dX12_laysNext_19 rfl ?_
    obtain ⟨z4, m3, e2, h⟩ := bd2_some h
    refine xc_Vi0 (st := [vI x2, vR 57 0]) (ok_X12_nextOf i1 x2 m e2) dX12_laysNext_20 cv_X12_301 rfl rfl (Nat.le_of_ble_eq_true rfl) (by decide) (by decide) (by decide) (by decide) ?_
    by_cases c5 : inb x2 12 = true
    case neg => rw [if_neg c5] at h; cases h
    rw [if_pos c5] at h
    refine xg_iast (n := x2.toNatClampNeg) dX12_laysNext_23 rfl (by decide) (inb_in c5) rfl ?_
    refine xj_iinc (z := x2 + 1) (ls' := [(2, vI (x2 + 1)), (0, vR 12 0), (1, vR 60 i1)]) 2 dX12_laysNext_24 rfl rfl (by decide) rfl ?_
    refine xj_goto (tgt := 2) dX12_laysNext_27 (by decide) ?_
    cases h
    refine xj_pick (ls' := [(0, vR 12 0), (1, vR 60 i1), (2, vI (x2 + 1))]) [1, 2, 0] rfl ?_
    exact kb (x2 + 1) (wr m3 57 0 x2.toNatClampNeg z4) rfl
noncomputable def r_X12_laysNext_e30_h2 (m : Mem) : Option Mem :=
  some m
set_option maxHeartbeats 4000000 in
set_option maxRecDepth 20000 in
theorem ok_X12_laysNext_e30_h2 (m : Mem) {m' : Mem} (h : r_X12_laysNext_e30_h2 m = some m') : Xj RX12 cX12_laysNext 3 none 8 177 0 0 0 0 30 [] [] m oV m' := by
  unfold r_X12_laysNext_e30_h2 at h
  cases h
  exact xj_return dX12_laysNext_30 (by decide) (by decide)
noncomputable def r_X12_laysNext_l2 (i1 : Nat) (x2 : Int32) (m : Mem) : Option Mem :=
  bd1 (loopO (fun s => r_X12_laysNext_b2 i1 s.1 s.2) (x2, m)) (fun e => r_X12_laysNext_e30_h2 e)
set_option maxHeartbeats 4000000 in
set_option maxRecDepth 20000 in
theorem ok_X12_laysNext_l2 (i1 : Nat) (x2 : Int32) (m : Mem) {m' : Mem} (h : r_X12_laysNext_l2 i1 x2 m = some m') : Xj RX12 cX12_laysNext 3 none 8 177 0 0 0 0 2 [(0, vR 12 0), (1, vR 60 i1), (2, vI x2)] [] m oV m' := by
  unfold r_X12_laysNext_l2 at h
  obtain ⟨e, e1, h⟩ := bd1_some h
  refine loopO_ok (P := fun s : (Int32 × Mem) => Xj RX12 cX12_laysNext 3 none 8 177 0 0 0 0 2 [(0, vR 12 0), (1, vR 60 i1), (2, vI s.1)] [] s.2 oV m') (Q := fun e : (Mem) => Xj RX12 cX12_laysNext 3 none 8 177 0 0 0 0 30 [] [] e oV m') ?_ _ _ e1 ?_
  · intro s r9 h9 hi hx
    exact ok_X12_laysNext_b2 i1 s.1 s.2 h9 (by rintro _ _ rfl; exact hi _ rfl) (by rintro _ rfl; exact hx _ rfl)
  · exact ok_X12_laysNext_e30_h2 e h 
noncomputable def r_X12_laysNext (i1 : Nat) (m : Mem) : Option Mem :=
  r_X12_laysNext_l2 i1 0 m
set_option maxHeartbeats 4000000 in
set_option maxRecDepth 20000 in
theorem ok_X12_laysNext (i1 : Nat) (m : Mem) {m' : Mem} (h : r_X12_laysNext i1 m = some m') : Mt yX12_laysNext cX12_laysNext 3 none 8 177 0 0 [vR 12 0, vR 60 i1] m oV m' := by
  refine Mt.of (by decide) (Nat.le_of_ble_eq_true rfl) (by decide +kernel) (hhF_ne (by decide)) ?_
  show Xj RX12 cX12_laysNext 3 none 8 177 0 0 0 0 0 [(0, vR 12 0), (1, vR 60 i1)] [] m oV m'
  unfold r_X12_laysNext at h
  refine xj_iconst (z := 0) dX12_laysNext_0 (by decide) ?_
  refine xj_istore_n (ls' := [(2, vI 0), (0, vR 12 0), (1, vR 60 i1)]) dX12_laysNext_1 rfl (by decide) rfl ?_
  refine xj_pick (ls' := [(0, vR 12 0), (1, vR 60 i1), (2, vI 0)]) [1, 2, 0] rfl ?_
  exact ok_X12_laysNext_l2 i1 0 m h 
noncomputable def r_X12_has (x0 : Int32) (x1 : Int32) : Bool :=
  if ((x0 >>> (x1 &&& 31)) &&& 1) = 1 then (true) else (false)
set_option maxHeartbeats 4000000 in
set_option maxRecDepth 20000 in
theorem ok_X12_has (x0 : Int32) (x1 : Int32) (m : Mem) {z : Bool} (h : r_X12_has x0 x1 = z) : Mt yX12_has cX12_has 2 (some .boolean) 1 0 0 0 [vI x0, vI x1] m (oB z) m := by
  refine Mt.of (by decide) (Nat.le_of_ble_eq_true rfl) (by decide +kernel) (hhF_ne (by decide)) ?_
  show Xj RX12 cX12_has 2 (some .boolean) 1 0 0 0 0 0 0 [(0, vI x0), (1, vI x1)] [] m (oB z) m
  unfold r_X12_has at h
  refine xj_iload_n 0 dX12_has_0 rfl ?_
  refine xj_iload_n 1 dX12_has_1 rfl ?_
  refine xj_ishr dX12_has_2 ?_
  refine xj_iconst (z := 1) dX12_has_3 (by decide) ?_
  refine xj_iand dX12_has_4 ?_
  refine xj_iconst (z := 1) dX12_has_5 (by decide) ?_
  refine xj_icmp_ne (tgt := 13) dX12_has_6 (by decide) (fun c1 => ?_) (fun c1 => ?_)
  · rw [if_neg c1] at h
    refine xj_iconst (z := 0) dX12_has_13 (by decide) ?_
    subst h
    exact xj_ireturn dX12_has_14 rfl (by decide) (by decide)
  · rw [if_pos c1] at h
    refine xj_iconst (z := 1) dX12_has_9 (by decide) ?_
    refine xj_goto (tgt := 14) dX12_has_10 (by decide) ?_
    subst h
    exact xj_ireturn dX12_has_14 rfl (by decide) (by decide)
noncomputable def r_X12_courseBits_b27 (x1 : Int32) (x2 : Int32) (m : Mem) : Option ((Int32 × Int32 × Mem) ⊕ (Int32 × Mem)) :=
  if x2 = (-1) then (some (Sum.inr (x1, m))) else (if (r_X12_has x1 x2) = true then (some (Sum.inr (x1, m))) else (if inb (m 12 0 42) 12 = true then (if inb x2 12 = true then (some (Sum.inl ((x1 ||| (1 <<< (x2 &&& 31))), (m 57 0 x2.toNatClampNeg), (wr (wr m 58 0 ((m 12 0 42).toNatClampNeg) x2) 12 0 42 ((m 12 0 42) + 1))))) else none) else none))
set_option maxHeartbeats 4000000 in
set_option maxRecDepth 20000 in
theorem ok_X12_courseBits_b27 (x1 : Int32) (x2 : Int32) (m : Mem) {r : (Int32 × Int32 × Mem) ⊕ (Int32 × Mem)} (h : r_X12_courseBits_b27 x1 x2 m = some r) {o : Ou} {M' : Mem} (kb : ∀ (x1' : Int32) (x2' : Int32) (m'' : Mem), r = Sum.inl (x1', x2', m'') → Xj RX12 cX12_courseBits 3 (some .int) 2 21 0 0 0 0 27 [(0, vR 12 0), (1, vI x1'), (2, vI x2')] [] m'' o M') (ke : ∀ (x1' : Int32) (m'' : Mem), r = Sum.inr (x1', m'') → Xj RX12 cX12_courseBits 3 (some .int) 2 21 0 0 0 0 76 [(1, vI x1')] [] m'' o M') : Xj RX12 cX12_courseBits 3 (some .int) 2 21 0 0 0 0 27 [(0, vR 12 0), (1, vI x1), (2, vI x2)] [] m o M' := by
  unfold r_X12_courseBits_b27 at h
  refine xj_iload_n 2 dX12_courseBits_27 rfl ?_
  refine xj_iconst (z := (-1)) dX12_courseBits_28 (by decide) ?_
  refine xj_icmp_eq (tgt := 76) dX12_courseBits_29 (by decide) (fun c2 => ?_) (fun c2 => ?_)
  · rw [if_pos c2] at h
    cases h
    refine xj_pick (ls' := [(1, vI x1)]) [1] rfl ?_
    exact ke x1 m rfl
  · rw [if_neg c2] at h
    refine xj_iload_n 1 dX12_courseBits_32 rfl ?_
    refine xj_iload_n 2 dX12_courseBits_33 rfl ?_
    refine xc_Sb0 (st := []) (ok_X12_has x1 x2 m rfl) dX12_courseBits_34 cs_X12_282 rfl rfl (Nat.le_of_ble_eq_true rfl) (by decide) (by decide) (by decide) (by decide) ?_
    refine xj_if_ne (tgt := 76) dX12_courseBits_37 (by decide) (fun c3 => ?_) (fun c3 => ?_)
    · rw [if_pos (b2i_t c3)] at h
      cases h
      refine xj_pick (ls' := [(1, vI x1)]) [1] rfl ?_
      exact ke x1 m rfl
    · rw [if_neg (b2i_f c3)] at h
      refine xj_iload_n 1 dX12_courseBits_40 rfl ?_
      refine xj_iconst (z := 1) dX12_courseBits_41 (by decide) ?_
      refine xj_iload_n 2 dX12_courseBits_42 rfl ?_
      refine xj_ishl dX12_courseBits_43 ?_
      refine xj_ior dX12_courseBits_44 ?_
      refine xj_istore_n (ls' := [(1, vI (x1 ||| (1 <<< (x2 &&& 31)))), (0, vR 12 0), (2, vI x2)]) dX12_courseBits_45 rfl (by decide) rfl ?_
      refine xj_aload_n 1 dX12_courseBits_46 rfl ?_
      refine xg_getR (k' := 58) (i' := 0) dX12_courseBits_47 fl_X12_88 rfl ?_
      refine xj_aload_n 1 dX12_courseBits_50 rfl ?_
      refine xg_getI (x := (m 12 0 42)) dX12_courseBits_51 fl_X12_305 rfl rfl ?_
      refine xj_iload_n 2 dX12_courseBits_54 rfl ?_
      by_cases c4 : inb (m 12 0 42) 12 = true
      case neg => rw [if_neg c4] at h; cases h
      rw [if_pos c4] at h
      refine xg_iast (n := (m 12 0 42).toNatClampNeg) dX12_courseBits_55 rfl (by decide) (inb_in c4) rfl ?_
      refine xj_aload_n 1 dX12_courseBits_56 rfl ?_
      refine xj_dup dX12_courseBits_57 rfl ?_
      refine xg_getI (x := (m 12 0 42)) dX12_courseBits_58 fl_X12_305 rfl rfl ?_
      refine xj_iconst (z := 1) dX12_courseBits_61 (by decide) ?_
      refine xj_iadd dX12_courseBits_62 ?_
      refine xj_putI dX12_courseBits_63 fw_X12_305 rfl ?_
      refine xj_aload_n 1 dX12_courseBits_66 rfl ?_
      refine xg_getR (k' := 57) (i' := 0) dX12_courseBits_67 fl_X12_85 rfl ?_
      refine xj_iload_n 2 dX12_courseBits_70 rfl ?_
      by_cases c5 : inb x2 12 = true
      case neg => rw [if_neg c5] at h; cases h
      rw [if_pos c5] at h
      refine xg_iald (z := (m 57 0 x2.toNatClampNeg)) (n := x2.toNatClampNeg) dX12_courseBits_71 rfl (by decide) (inb_in c5) rfl rfl ?_
      refine xj_istore_n (ls' := [(2, vI (m 57 0 x2.toNatClampNeg)), (1, vI (x1 ||| (1 <<< (x2 &&& 31)))), (0, vR 12 0)]) dX12_courseBits_72 rfl (by decide) rfl ?_
      refine xj_goto (tgt := 27) dX12_courseBits_73 (by decide) ?_
      cases h
      refine xj_pick (ls' := [(0, vR 12 0), (1, vI (x1 ||| (1 <<< (x2 &&& 31)))), (2, vI (m 57 0 x2.toNatClampNeg))]) [2, 1, 0] rfl ?_
      exact kb (x1 ||| (1 <<< (x2 &&& 31))) (m 57 0 x2.toNatClampNeg) (wr (wr m 58 0 ((m 12 0 42).toNatClampNeg) x2) 12 0 42 ((m 12 0 42) + 1)) rfl
noncomputable def r_X12_courseBits_e76_h27 (x1 : Int32) (m : Mem) : Option (Int32 × Mem) :=
  some (x1, m)
set_option maxHeartbeats 4000000 in
set_option maxRecDepth 20000 in
theorem ok_X12_courseBits_e76_h27 (x1 : Int32) (m : Mem) {z : Int32} {m' : Mem} (h : r_X12_courseBits_e76_h27 x1 m = some (z, m')) : Xj RX12 cX12_courseBits 3 (some .int) 2 21 0 0 0 0 76 [(1, vI x1)] [] m (oI z) m' := by
  unfold r_X12_courseBits_e76_h27 at h
  refine xj_iload_n 0 dX12_courseBits_76 rfl ?_
  cases h
  exact xj_ireturn dX12_courseBits_77 rfl (by decide) (by decide)
noncomputable def r_X12_courseBits_l27 (x1 : Int32) (x2 : Int32) (m : Mem) : Option (Int32 × Mem) :=
  bd1 (loopO (fun s => r_X12_courseBits_b27 s.1 s.2.1 s.2.2) (x1, x2, m)) (fun e => r_X12_courseBits_e76_h27 e.1 e.2)
set_option maxHeartbeats 4000000 in
set_option maxRecDepth 20000 in
theorem ok_X12_courseBits_l27 (x1 : Int32) (x2 : Int32) (m : Mem) {z : Int32} {m' : Mem} (h : r_X12_courseBits_l27 x1 x2 m = some (z, m')) : Xj RX12 cX12_courseBits 3 (some .int) 2 21 0 0 0 0 27 [(0, vR 12 0), (1, vI x1), (2, vI x2)] [] m (oI z) m' := by
  unfold r_X12_courseBits_l27 at h
  obtain ⟨e, e1, h⟩ := bd1_some h
  refine loopO_ok (P := fun s : (Int32 × Int32 × Mem) => Xj RX12 cX12_courseBits 3 (some .int) 2 21 0 0 0 0 27 [(0, vR 12 0), (1, vI s.1), (2, vI s.2.1)] [] s.2.2 (oI z) m') (Q := fun e : (Int32 × Mem) => Xj RX12 cX12_courseBits 3 (some .int) 2 21 0 0 0 0 76 [(1, vI e.1)] [] e.2 (oI z) m') ?_ _ _ e1 ?_
  · intro s r9 h9 hi hx
    exact ok_X12_courseBits_b27 s.1 s.2.1 s.2.2 h9 (by rintro _ _ _ rfl; exact hi _ rfl) (by rintro _ _ rfl; exact hx _ rfl)
  · exact ok_X12_courseBits_e76_h27 e.1 e.2 h 
noncomputable def r_X12_courseBits_j21 (x1 : Int32) (s0 : Int32) (m : Mem) : Option (Int32 × Mem) :=
  r_X12_courseBits_l27 x1 s0 (wr m 12 0 42 0)
set_option maxHeartbeats 4000000 in
set_option maxRecDepth 20000 in
theorem ok_X12_courseBits_j21 (x1 : Int32) (s0 : Int32) (m : Mem) {z : Int32} {m' : Mem} (h : r_X12_courseBits_j21 x1 s0 m = some (z, m')) : Xj RX12 cX12_courseBits 3 (some .int) 2 21 0 0 0 0 21 [(0, vR 12 0), (1, vI x1)] [vI s0] m (oI z) m' := by
  unfold r_X12_courseBits_j21 at h
  refine xj_istore_n (ls' := [(2, vI s0), (0, vR 12 0), (1, vI x1)]) dX12_courseBits_21 rfl (by decide) rfl ?_
  refine xj_aload_n 1 dX12_courseBits_22 rfl ?_
  refine xj_iconst (z := 0) dX12_courseBits_23 (by decide) ?_
  refine xj_putI dX12_courseBits_24 fw_X12_305 rfl ?_
  refine xj_pick (ls' := [(0, vR 12 0), (1, vI x1), (2, vI s0)]) [1, 2, 0] rfl ?_
  exact ok_X12_courseBits_l27 x1 s0 (wr m 12 0 42 0) h 
noncomputable def r_X12_courseBits (m : Mem) : Option (Int32 × Mem) :=
  if (m 52 0 0) = 0 then (r_X12_courseBits_j21 0 (-1) m) else (r_X12_courseBits_j21 0 (m 52 0 3) m)
set_option maxHeartbeats 4000000 in
set_option maxRecDepth 20000 in
theorem ok_X12_courseBits (m : Mem) {z : Int32} {m' : Mem} (h : r_X12_courseBits m = some (z, m')) : Mt yX12_courseBits cX12_courseBits 3 (some .int) 2 21 0 0 [vR 12 0] m (oI z) m' := by
  refine Mt.of (by decide) (Nat.le_of_ble_eq_true rfl) (by decide +kernel) (hhF_ne (by decide)) ?_
  show Xj RX12 cX12_courseBits 3 (some .int) 2 21 0 0 0 0 0 [(0, vR 12 0)] [] m (oI z) m'
  unfold r_X12_courseBits at h
  refine xj_iconst (z := 0) dX12_courseBits_0 (by decide) ?_
  refine xj_istore_n (ls' := [(1, vI 0), (0, vR 12 0)]) dX12_courseBits_1 rfl (by decide) rfl ?_
  refine xj_aload_n 1 dX12_courseBits_2 rfl ?_
  refine xg_getR (k' := 52) (i' := 0) dX12_courseBits_3 fl_X12_23 rfl ?_
  refine xj_iconst (z := 0) dX12_courseBits_6 (by decide) ?_
  refine xg_iald (z := (m 52 0 0)) (n := 0) dX12_courseBits_7 rfl (by decide) (inb_in (by decide)) (by decide) rfl ?_
  refine xj_if_ne (tgt := 15) dX12_courseBits_8 (by decide) (fun c1 => ?_) (fun c1 => ?_)
  · rw [if_neg c1] at h
    refine xj_aload_n 1 dX12_courseBits_15 rfl ?_
    refine xg_getR (k' := 52) (i' := 0) dX12_courseBits_16 fl_X12_23 rfl ?_
    refine xj_iconst (z := 3) dX12_courseBits_19 (by decide) ?_
    refine xg_iald (z := (m 52 0 3)) (n := 3) dX12_courseBits_20 rfl (by decide) (inb_in (by decide)) (by decide) rfl ?_
    refine xj_pick (ls' := [(0, vR 12 0), (1, vI 0)]) [1, 0] rfl ?_
    exact ok_X12_courseBits_j21 0 (m 52 0 3) m h 
  · rw [if_pos c1] at h
    refine xj_iconst (z := (-1)) dX12_courseBits_11 (by decide) ?_
    refine xj_goto (tgt := 21) dX12_courseBits_12 (by decide) ?_
    refine xj_pick (ls' := [(0, vR 12 0), (1, vI 0)]) [1, 0] rfl ?_
    exact ok_X12_courseBits_j21 0 (-1) m h 
noncomputable def r_X12_courseOf (i1 : Nat) (m : Mem) : Option (Int32 × Mem) :=
  bd1 (r_X12_laysNext i1 m) fun m2 => (bd2 (r_X12_courseBits m2) fun z5 m4 => (some (z5, m4)))
set_option maxHeartbeats 4000000 in
set_option maxRecDepth 20000 in
theorem ok_X12_courseOf (i1 : Nat) (m : Mem) {z : Int32} {m' : Mem} (h : r_X12_courseOf i1 m = some (z, m')) : Mt yX12_courseOf cX12_courseOf 2 (some .int) 9 199 0 0 [vR 12 0, vR 60 i1] m (oI z) m' := by
  refine Mt.of (by decide) (Nat.le_of_ble_eq_true rfl) (by decide +kernel) (hhF_ne (by decide)) ?_
  show Xj RX12 cX12_courseOf 2 (some .int) 9 199 0 0 0 0 0 [(0, vR 12 0), (1, vR 60 i1)] [] m (oI z) m'
  unfold r_X12_courseOf at h
  refine xj_aload_n 0 dX12_courseOf_0 rfl ?_
  refine xj_aload_n 1 dX12_courseOf_1 rfl ?_
  obtain ⟨m2, e1, h⟩ := bd1_some h
  refine xc_Vv0 (st := []) (ok_X12_laysNext i1 m e1) dX12_courseOf_2 cv_X12_308 rfl rfl (Nat.le_of_ble_eq_true rfl) (by decide) (by decide) (by decide) (by decide) ?_
  refine xj_aload_n 0 dX12_courseOf_5 rfl ?_
  obtain ⟨z5, m4, e3, h⟩ := bd2_some h
  refine xc_Vi0 (st := []) (ok_X12_courseBits m2 e3) dX12_courseOf_6 cv_X12_312 rfl rfl (Nat.le_of_ble_eq_true rfl) (by decide) (by decide) (by decide) (by decide) ?_
  cases h
  exact xj_ireturn dX12_courseOf_9 rfl (by decide) (by decide)
noncomputable def r_X12_dayEnds_j102_c54 (i1 : Nat) (x2 : Int32) (x3 : Int32) (x4 : Int32) (x5 : Int32) (s0 : Int32) (s1 : Int32) (q2 : Nat) (m : Mem) : Option ((Int32 × Mem) ⊕ (Mem)) :=
  if inb s1 111 = true then (some (Sum.inl (x5 + 1, (wr m 60 q2 s1.toNatClampNeg s0)))) else none
set_option maxHeartbeats 4000000 in
set_option maxRecDepth 20000 in
theorem ok_X12_dayEnds_j102_c54 (i1 : Nat) (x2 : Int32) (x3 : Int32) (x4 : Int32) (x5 : Int32) (s0 : Int32) (s1 : Int32) (q2 : Nat) (m : Mem) {r : (Int32 × Mem) ⊕ (Mem)} (h : r_X12_dayEnds_j102_c54 i1 x2 x3 x4 x5 s0 s1 q2 m = some r) {o : Ou} {M' : Mem} (kb : ∀ (x5' : Int32) (m'' : Mem), r = Sum.inl (x5', m'') → Xj RX12 cX12_dayEnds 6 none 10 220 0 0 0 0 54 [(0, vR 12 0), (1, vR 60 i1), (2, vI x2), (3, vI x3), (4, vI x4), (5, vI x5')] [] m'' o M') (ke : ∀ (m'' : Mem), r = Sum.inr m'' → Xj RX12 cX12_dayEnds 6 none 10 220 0 0 0 0 109 [(0, vR 12 0), (1, vR 60 i1), (2, vI x2)] [] m'' o M') : Xj RX12 cX12_dayEnds 6 none 10 220 0 0 0 0 102 [(0, vR 12 0), (1, vR 60 i1), (2, vI x2), (3, vI x3), (4, vI x4), (5, vI x5)] [vI s0, vI s1, vR 60 q2] m o M' := by
  unfold r_X12_dayEnds_j102_c54 at h
  by_cases c13 : inb s1 111 = true
  case neg => rw [if_neg c13] at h; cases h
  rw [if_pos c13] at h
  refine xg_iast (n := s1.toNatClampNeg) dX12_dayEnds_102 rfl (by decide) (inb_in c13) rfl ?_
  refine xj_iinc (z := x5 + 1) (ls' := [(5, vI (x5 + 1)), (0, vR 12 0), (1, vR 60 i1), (2, vI x2), (3, vI x3), (4, vI x4)]) 5 dX12_dayEnds_103 rfl rfl (by decide) rfl ?_
  refine xj_goto (tgt := 54) dX12_dayEnds_106 (by decide) ?_
  cases h
  refine xj_pick (ls' := [(0, vR 12 0), (1, vR 60 i1), (2, vI x2), (3, vI x3), (4, vI x4), (5, vI (x5 + 1))]) [1, 2, 3, 4, 5, 0] rfl ?_
  exact kb (x5 + 1) (wr m 60 q2 s1.toNatClampNeg s0) rfl
noncomputable def r_X12_dayEnds_b54_c8 (i1 : Nat) (x2 : Int32) (x3 : Int32) (x4 : Int32) (x5 : Int32) (m : Mem) : Option ((Int32 × Mem) ⊕ (Mem)) :=
  if (m 52 0 2) ≤ x5 then (some (Sum.inr m)) else (if inb (72 + x5) 111 = true then (if (m 60 i1 ((72 + x5).toNatClampNeg)) = x3 then (r_X12_dayEnds_j102_c54 i1 x2 x3 x4 x5 x4 ((0 + (12 * x5)) + x3) i1 m) else (if inb ((0 + (12 * x5)) + x3) 111 = true then (r_X12_dayEnds_j102_c54 i1 x2 x3 x4 x5 (m 60 i1 (((0 + (12 * x5)) + x3).toNatClampNeg)) ((0 + (12 * x5)) + x3) i1 m) else none)) else none)
set_option maxHeartbeats 4000000 in
set_option maxRecDepth 20000 in
theorem ok_X12_dayEnds_b54_c8 (i1 : Nat) (x2 : Int32) (x3 : Int32) (x4 : Int32) (x5 : Int32) (m : Mem) {r : (Int32 × Mem) ⊕ (Mem)} (h : r_X12_dayEnds_b54_c8 i1 x2 x3 x4 x5 m = some r) {o : Ou} {M' : Mem} (kb : ∀ (x5' : Int32) (m'' : Mem), r = Sum.inl (x5', m'') → Xj RX12 cX12_dayEnds 6 none 10 220 0 0 0 0 54 [(0, vR 12 0), (1, vR 60 i1), (2, vI x2), (3, vI x3), (4, vI x4), (5, vI x5')] [] m'' o M') (ke : ∀ (m'' : Mem), r = Sum.inr m'' → Xj RX12 cX12_dayEnds 6 none 10 220 0 0 0 0 109 [(0, vR 12 0), (1, vR 60 i1), (2, vI x2)] [] m'' o M') : Xj RX12 cX12_dayEnds 6 none 10 220 0 0 0 0 54 [(0, vR 12 0), (1, vR 60 i1), (2, vI x2), (3, vI x3), (4, vI x4), (5, vI x5)] [] m o M' := by
  unfold r_X12_dayEnds_b54_c8 at h
  refine xj_iload 5 dX12_dayEnds_54 rfl ?_
  refine xj_aload_n 0 dX12_dayEnds_56 rfl ?_
  refine xg_getR (k' := 52) (i' := 0) dX12_dayEnds_57 fl_X12_23 rfl ?_
  refine xj_iconst (z := 2) dX12_dayEnds_60 (by decide) ?_
  refine xg_iald (z := (m 52 0 2)) (n := 2) dX12_dayEnds_61 rfl (by decide) (inb_in (by decide)) (by decide) rfl ?_
  refine xj_icmp_ge (tgt := 109) dX12_dayEnds_62 (by decide) (fun c10 => ?_) (fun c10 => ?_)
  · rw [if_pos c10] at h
    cases h
    refine xj_pick (ls' := [(0, vR 12 0), (1, vR 60 i1), (2, vI x2)]) [0, 1, 2] rfl ?_
    exact ke m rfl
  · rw [if_neg c10] at h
    refine xj_aload_n 1 dX12_dayEnds_65 rfl ?_
    refine xj_iconst (z := 0) dX12_dayEnds_66 (by decide) ?_
    refine xj_bipush (z := 12) dX12_dayEnds_67 (by decide) ?_
    refine xj_iload 5 dX12_dayEnds_69 rfl ?_
    refine xj_imul dX12_dayEnds_71 ?_
    refine xj_iadd dX12_dayEnds_72 ?_
    refine xj_iload_n 3 dX12_dayEnds_73 rfl ?_
    refine xj_iadd dX12_dayEnds_74 ?_
    refine xj_aload_n 1 dX12_dayEnds_75 rfl ?_
    refine xj_bipush (z := 72) dX12_dayEnds_76 (by decide) ?_
    refine xj_iload 5 dX12_dayEnds_78 rfl ?_
    refine xj_iadd dX12_dayEnds_80 ?_
    by_cases c11 : inb (72 + x5) 111 = true
    case neg => rw [if_neg c11] at h; cases h
    rw [if_pos c11] at h
    refine xg_iald (z := (m 60 i1 ((72 + x5).toNatClampNeg))) (n := (72 + x5).toNatClampNeg) dX12_dayEnds_81 rfl (by decide) (inb_in c11) rfl rfl ?_
    refine xj_iload_n 3 dX12_dayEnds_82 rfl ?_
    refine xj_icmp_ne (tgt := 91) dX12_dayEnds_83 (by decide) (fun c12 => ?_) (fun c12 => ?_)
    · rw [if_neg c12] at h
      refine xj_aload_n 1 dX12_dayEnds_91 rfl ?_
      refine xj_iconst (z := 0) dX12_dayEnds_92 (by decide) ?_
      refine xj_bipush (z := 12) dX12_dayEnds_93 (by decide) ?_
      refine xj_iload 5 dX12_dayEnds_95 rfl ?_
      refine xj_imul dX12_dayEnds_97 ?_
      refine xj_iadd dX12_dayEnds_98 ?_
      refine xj_iload_n 3 dX12_dayEnds_99 rfl ?_
      refine xj_iadd dX12_dayEnds_100 ?_
      by_cases c14 : inb ((0 + (12 * x5)) + x3) 111 = true
      case neg => rw [if_neg c14] at h; cases h
      rw [if_pos c14] at h
      refine xg_iald (z := (m 60 i1 (((0 + (12 * x5)) + x3).toNatClampNeg))) (n := ((0 + (12 * x5)) + x3).toNatClampNeg) dX12_dayEnds_101 rfl (by decide) (inb_in c14) rfl rfl ?_
      exact ok_X12_dayEnds_j102_c54 i1 x2 x3 x4 x5 (m 60 i1 (((0 + (12 * x5)) + x3).toNatClampNeg)) ((0 + (12 * x5)) + x3) i1 m h kb ke
    · rw [if_pos c12] at h
      refine xj_iload 4 dX12_dayEnds_86 rfl ?_
      refine xj_goto (tgt := 102) dX12_dayEnds_88 (by decide) ?_
      exact ok_X12_dayEnds_j102_c54 i1 x2 x3 x4 x5 x4 ((0 + (12 * x5)) + x3) i1 m h kb ke
noncomputable def r_X12_dayEnds_e109_h54_c8 (i1 : Nat) (x2 : Int32) (m : Mem) : Option ((Int32 × Mem) ⊕ (Mem)) :=
  some (Sum.inl (x2 + 1, m))
set_option maxHeartbeats 4000000 in
set_option maxRecDepth 20000 in
theorem ok_X12_dayEnds_e109_h54_c8 (i1 : Nat) (x2 : Int32) (m : Mem) {r : (Int32 × Mem) ⊕ (Mem)} (h : r_X12_dayEnds_e109_h54_c8 i1 x2 m = some r) {o : Ou} {M' : Mem} (kb : ∀ (x2' : Int32) (m'' : Mem), r = Sum.inl (x2', m'') → Xj RX12 cX12_dayEnds 6 none 10 220 0 0 0 0 8 [(0, vR 12 0), (1, vR 60 i1), (2, vI x2')] [] m'' o M') (ke : ∀ (m'' : Mem), r = Sum.inr m'' → Xj RX12 cX12_dayEnds 6 none 10 220 0 0 0 0 115 [(1, vR 60 i1)] [] m'' o M') : Xj RX12 cX12_dayEnds 6 none 10 220 0 0 0 0 109 [(0, vR 12 0), (1, vR 60 i1), (2, vI x2)] [] m o M' := by
  unfold r_X12_dayEnds_e109_h54_c8 at h
  refine xj_iinc (z := x2 + 1) (ls' := [(2, vI (x2 + 1)), (0, vR 12 0), (1, vR 60 i1)]) 2 dX12_dayEnds_109 rfl rfl (by decide) rfl ?_
  refine xj_goto (tgt := 8) dX12_dayEnds_112 (by decide) ?_
  cases h
  refine xj_pick (ls' := [(0, vR 12 0), (1, vR 60 i1), (2, vI (x2 + 1))]) [1, 2, 0] rfl ?_
  exact kb (x2 + 1) m rfl
noncomputable def r_X12_dayEnds_l54_c8 (i1 : Nat) (x2 : Int32) (x3 : Int32) (x4 : Int32) (x5 : Int32) (m : Mem) : Option ((Int32 × Mem) ⊕ (Mem)) :=
  bd1 (loopO (fun s => r_X12_dayEnds_b54_c8 i1 x2 x3 x4 s.1 s.2) (x5, m)) (fun e => r_X12_dayEnds_e109_h54_c8 i1 x2 e)
set_option maxHeartbeats 4000000 in
set_option maxRecDepth 20000 in
theorem ok_X12_dayEnds_l54_c8 (i1 : Nat) (x2 : Int32) (x3 : Int32) (x4 : Int32) (x5 : Int32) (m : Mem) {r : (Int32 × Mem) ⊕ (Mem)} (h : r_X12_dayEnds_l54_c8 i1 x2 x3 x4 x5 m = some r) {o : Ou} {M' : Mem} (kb : ∀ (x2' : Int32) (m'' : Mem), r = Sum.inl (x2', m'') → Xj RX12 cX12_dayEnds 6 none 10 220 0 0 0 0 8 [(0, vR 12 0), (1, vR 60 i1), (2, vI x2')] [] m'' o M') (ke : ∀ (m'' : Mem), r = Sum.inr m'' → Xj RX12 cX12_dayEnds 6 none 10 220 0 0 0 0 115 [(1, vR 60 i1)] [] m'' o M') : Xj RX12 cX12_dayEnds 6 none 10 220 0 0 0 0 54 [(0, vR 12 0), (1, vR 60 i1), (2, vI x2), (3, vI x3), (4, vI x4), (5, vI x5)] [] m o M' := by
  unfold r_X12_dayEnds_l54_c8 at h
  obtain ⟨e, e1, h⟩ := bd1_some h
  refine loopO_ok (P := fun s : (Int32 × Mem) => Xj RX12 cX12_dayEnds 6 none 10 220 0 0 0 0 54 [(0, vR 12 0), (1, vR 60 i1), (2, vI x2), (3, vI x3), (4, vI x4), (5, vI s.1)] [] s.2 o M') (Q := fun e : (Mem) => Xj RX12 cX12_dayEnds 6 none 10 220 0 0 0 0 109 [(0, vR 12 0), (1, vR 60 i1), (2, vI x2)] [] e o M') ?_ _ _ e1 ?_
  · intro s r9 h9 hi hx
    exact ok_X12_dayEnds_b54_c8 i1 x2 x3 x4 s.1 s.2 h9 (by rintro _ _ rfl; exact hi _ rfl) (by rintro _ rfl; exact hx _ rfl)
  · exact ok_X12_dayEnds_e109_h54_c8 i1 x2 e h kb ke
noncomputable def r_X12_dayEnds_b8 (i1 : Nat) (x2 : Int32) (m : Mem) : Option ((Int32 × Mem) ⊕ (Mem)) :=
  if (m 12 0 42) ≤ (x2 + 1) then (some (Sum.inr m)) else (if inb x2 12 = true then (if inb (x2 + 1) 12 = true then (bd1 (r_X12_between (m 58 0 x2.toNatClampNeg) (m 58 0 ((x2 + 1).toNatClampNeg)) m) fun z8 => (if inb (94 + z8) 111 = true then (r_X12_dayEnds_l54_c8 i1 x2 (m 58 0 x2.toNatClampNeg) (m 58 0 ((x2 + 1).toNatClampNeg)) 0 (wr m 60 i1 ((94 + z8).toNatClampNeg) ((m 60 i1 ((94 + z8).toNatClampNeg)) + 1))) else none)) else none) else none)
set_option maxHeartbeats 4000000 in
set_option maxRecDepth 20000 in
theorem ok_X12_dayEnds_b8 (i1 : Nat) (x2 : Int32) (m : Mem) {r : (Int32 × Mem) ⊕ (Mem)} (h : r_X12_dayEnds_b8 i1 x2 m = some r) {o : Ou} {M' : Mem} (kb : ∀ (x2' : Int32) (m'' : Mem), r = Sum.inl (x2', m'') → Xj RX12 cX12_dayEnds 6 none 10 220 0 0 0 0 8 [(0, vR 12 0), (1, vR 60 i1), (2, vI x2')] [] m'' o M') (ke : ∀ (m'' : Mem), r = Sum.inr m'' → Xj RX12 cX12_dayEnds 6 none 10 220 0 0 0 0 115 [(1, vR 60 i1)] [] m'' o M') : Xj RX12 cX12_dayEnds 6 none 10 220 0 0 0 0 8 [(0, vR 12 0), (1, vR 60 i1), (2, vI x2)] [] m o M' := by
  unfold r_X12_dayEnds_b8 at h
  refine xj_iload_n 2 dX12_dayEnds_8 rfl ?_
  refine xj_iconst (z := 1) dX12_dayEnds_9 (by decide) ?_
  refine xj_iadd dX12_dayEnds_10 ?_
  refine xj_aload_n 0 dX12_dayEnds_11 rfl ?_
  refine xg_getI (x := (m 12 0 42)) dX12_dayEnds_12 fl_X12_305 rfl rfl ?_
  refine xj_icmp_ge (tgt := 115) dX12_dayEnds_15 (by decide) (fun c4 => ?_) (fun c4 => ?_)
  · rw [if_pos c4] at h
    cases h
    refine xj_pick (ls' := [(1, vR 60 i1)]) [1] rfl ?_
    exact ke m rfl
  · rw [if_neg c4] at h
    refine xj_aload_n 0 dX12_dayEnds_18 rfl ?_
    refine xg_getR (k' := 58) (i' := 0) dX12_dayEnds_19 fl_X12_88 rfl ?_
    refine xj_iload_n 2 dX12_dayEnds_22 rfl ?_
    by_cases c5 : inb x2 12 = true
    case neg => rw [if_neg c5] at h; cases h
    rw [if_pos c5] at h
    refine xg_iald (z := (m 58 0 x2.toNatClampNeg)) (n := x2.toNatClampNeg) dX12_dayEnds_23 rfl (by decide) (inb_in c5) rfl rfl ?_
    refine xj_istore_n (ls' := [(3, vI (m 58 0 x2.toNatClampNeg)), (0, vR 12 0), (1, vR 60 i1), (2, vI x2)]) dX12_dayEnds_24 rfl (by decide) rfl ?_
    refine xj_aload_n 1 dX12_dayEnds_25 rfl ?_
    refine xg_getR (k' := 58) (i' := 0) dX12_dayEnds_26 fl_X12_88 rfl ?_
    refine xj_iload_n 3 dX12_dayEnds_29 rfl ?_
    refine xj_iconst (z := 1) dX12_dayEnds_30 (by decide) ?_
    refine xj_iadd dX12_dayEnds_31 ?_
    by_cases c6 : inb (x2 + 1) 12 = true
    case neg => rw [if_neg c6] at h; cases h
    rw [if_pos c6] at h
    refine xg_iald (z := (m 58 0 ((x2 + 1).toNatClampNeg))) (n := (x2 + 1).toNatClampNeg) dX12_dayEnds_32 rfl (by decide) (inb_in c6) rfl rfl ?_
    refine xj_istore (ls' := [(4, vI (m 58 0 ((x2 + 1).toNatClampNeg))), (3, vI (m 58 0 x2.toNatClampNeg)), (0, vR 12 0), (1, vR 60 i1), (2, vI x2)]) dX12_dayEnds_33 (by decide) rfl ?_
    refine xj_aload_n 3 dX12_dayEnds_35 rfl ?_
    refine xj_bipush (z := 94) dX12_dayEnds_36 (by decide) ?_
    refine xj_aload_n 2 dX12_dayEnds_38 rfl ?_
    refine xj_iload_n 1 dX12_dayEnds_39 rfl ?_
    refine xj_iload 0 dX12_dayEnds_40 rfl ?_
    obtain ⟨z8, e7, h⟩ := bd1_some h
    refine xc_Vi0 (st := [vI 94, vR 60 i1]) (ok_X12_between (m 58 0 x2.toNatClampNeg) (m 58 0 ((x2 + 1).toNatClampNeg)) m e7) dX12_dayEnds_42 cv_X12_267 rfl rfl (Nat.le_of_ble_eq_true rfl) (by decide) (by decide) (by decide) (by decide) ?_
    refine xj_iadd dX12_dayEnds_45 ?_
    refine xj_dup2 dX12_dayEnds_46 rfl rfl ?_
    by_cases c9 : inb (94 + z8) 111 = true
    case neg => rw [if_neg c9] at h; cases h
    rw [if_pos c9] at h
    refine xg_iald (z := (m 60 i1 ((94 + z8).toNatClampNeg))) (n := (94 + z8).toNatClampNeg) dX12_dayEnds_47 rfl (by decide) (inb_in c9) rfl rfl ?_
    refine xj_iconst (z := 1) dX12_dayEnds_48 (by decide) ?_
    refine xj_iadd dX12_dayEnds_49 ?_
    refine xg_iast (n := (94 + z8).toNatClampNeg) dX12_dayEnds_50 rfl (by decide) (inb_in c9) rfl ?_
    refine xj_iconst (z := 0) dX12_dayEnds_51 (by decide) ?_
    refine xj_istore (ls' := [(5, vI 0), (4, vI (m 58 0 ((x2 + 1).toNatClampNeg))), (3, vI (m 58 0 x2.toNatClampNeg)), (0, vR 12 0), (1, vR 60 i1), (2, vI x2)]) dX12_dayEnds_52 (by decide) rfl ?_
    refine xj_pick (ls' := [(0, vR 12 0), (1, vR 60 i1), (2, vI x2), (3, vI (m 58 0 x2.toNatClampNeg)), (4, vI (m 58 0 ((x2 + 1).toNatClampNeg))), (5, vI 0)]) [3, 4, 5, 2, 1, 0] rfl ?_
    exact ok_X12_dayEnds_l54_c8 i1 x2 (m 58 0 x2.toNatClampNeg) (m 58 0 ((x2 + 1).toNatClampNeg)) 0 (wr m 60 i1 ((94 + z8).toNatClampNeg) ((m 60 i1 ((94 + z8).toNatClampNeg)) + 1)) h kb ke
noncomputable def r_X12_dayEnds_e115_h8 (i1 : Nat) (m : Mem) : Option Mem :=
  some (wr m 60 i1 110 ((m 60 i1 110) + 1))
set_option maxHeartbeats 4000000 in
set_option maxRecDepth 20000 in
theorem ok_X12_dayEnds_e115_h8 (i1 : Nat) (m : Mem) {m' : Mem} (h : r_X12_dayEnds_e115_h8 i1 m = some m') : Xj RX12 cX12_dayEnds 6 none 10 220 0 0 0 0 115 [(1, vR 60 i1)] [] m oV m' := by
  unfold r_X12_dayEnds_e115_h8 at h
  refine xj_aload_n 0 dX12_dayEnds_115 rfl ?_
  refine xj_bipush (z := 110) dX12_dayEnds_116 (by decide) ?_
  refine xj_dup2 dX12_dayEnds_118 rfl rfl ?_
  refine xg_iald (z := (m 60 i1 110)) (n := 110) dX12_dayEnds_119 rfl (by decide) (inb_in (by decide)) (by decide) rfl ?_
  refine xj_iconst (z := 1) dX12_dayEnds_120 (by decide) ?_
  refine xj_iadd dX12_dayEnds_121 ?_
  refine xg_iast (n := 110) dX12_dayEnds_122 rfl (by decide) (inb_in (by decide)) (by decide) ?_
  cases h
  exact xj_return dX12_dayEnds_123 (by decide) (by decide)
noncomputable def r_X12_dayEnds_l8 (i1 : Nat) (x2 : Int32) (m : Mem) : Option Mem :=
  bd1 (loopO (fun s => r_X12_dayEnds_b8 i1 s.1 s.2) (x2, m)) (fun e => r_X12_dayEnds_e115_h8 i1 e)
set_option maxHeartbeats 4000000 in
set_option maxRecDepth 20000 in
theorem ok_X12_dayEnds_l8 (i1 : Nat) (x2 : Int32) (m : Mem) {m' : Mem} (h : r_X12_dayEnds_l8 i1 x2 m = some m') : Xj RX12 cX12_dayEnds 6 none 10 220 0 0 0 0 8 [(0, vR 12 0), (1, vR 60 i1), (2, vI x2)] [] m oV m' := by
  unfold r_X12_dayEnds_l8 at h
  obtain ⟨e, e1, h⟩ := bd1_some h
  refine loopO_ok (P := fun s : (Int32 × Mem) => Xj RX12 cX12_dayEnds 6 none 10 220 0 0 0 0 8 [(0, vR 12 0), (1, vR 60 i1), (2, vI s.1)] [] s.2 oV m') (Q := fun e : (Mem) => Xj RX12 cX12_dayEnds 6 none 10 220 0 0 0 0 115 [(1, vR 60 i1)] [] e oV m') ?_ _ _ e1 ?_
  · intro s r9 h9 hi hx
    exact ok_X12_dayEnds_b8 i1 s.1 s.2 h9 (by rintro _ _ rfl; exact hi _ rfl) (by rintro _ rfl; exact hx _ rfl)
  · exact ok_X12_dayEnds_e115_h8 i1 e h 
noncomputable def r_X12_dayEnds (i1 : Nat) (m : Mem) : Option Mem :=
  bd2 (r_X12_courseOf i1 m) fun z3 m2 => (r_X12_dayEnds_l8 i1 0 m2)
set_option maxHeartbeats 4000000 in
set_option maxRecDepth 20000 in
theorem ok_X12_dayEnds (i1 : Nat) (m : Mem) {m' : Mem} (h : r_X12_dayEnds i1 m = some m') : Mt yX12_dayEnds cX12_dayEnds 6 none 10 220 0 0 [vR 12 0, vR 60 i1] m oV m' := by
  refine Mt.of (by decide) (Nat.le_of_ble_eq_true rfl) (by decide +kernel) (hhF_ne (by decide)) ?_
  show Xj RX12 cX12_dayEnds 6 none 10 220 0 0 0 0 0 [(0, vR 12 0), (1, vR 60 i1)] [] m oV m'
  unfold r_X12_dayEnds at h
  refine xj_aload_n 0 dX12_dayEnds_0 rfl ?_
  refine xj_aload_n 1 dX12_dayEnds_1 rfl ?_
  obtain ⟨z3, m2, e1, h⟩ := bd2_some h
  refine xc_Vi0 (st := []) (ok_X12_courseOf i1 m e1) dX12_dayEnds_2 cv_X12_315 rfl rfl (Nat.le_of_ble_eq_true rfl) (by decide) (by decide) (by decide) (by decide) ?_
  refine xj_pop dX12_dayEnds_5 rfl ?_
  refine xj_iconst (z := 0) dX12_dayEnds_6 (by decide) ?_
  refine xj_istore_n (ls' := [(2, vI 0), (0, vR 12 0), (1, vR 60 i1)]) dX12_dayEnds_7 rfl (by decide) rfl ?_
  refine xj_pick (ls' := [(0, vR 12 0), (1, vR 60 i1), (2, vI 0)]) [1, 2, 0] rfl ?_
  exact ok_X12_dayEnds_l8 i1 0 m2 h 
noncomputable def r_X12_forgets_j19 (i0 : Nat) (x1 : Int32) (x2 : Int32) (s0 : Int32) (m : Mem) : Option (Bool × Mem) :=
  if inb ((0 + (12 * x1)) + x2) 111 = true then (if inb s0 2 = true then (some (decide (s0 = 1), (wr m 60 i0 (((0 + (12 * x1)) + x2).toNatClampNeg) (-1)))) else none) else none
set_option maxHeartbeats 4000000 in
set_option maxRecDepth 20000 in
theorem ok_X12_forgets_j19 (i0 : Nat) (x1 : Int32) (x2 : Int32) (s0 : Int32) (m : Mem) {z : Bool} {m' : Mem} (h : r_X12_forgets_j19 i0 x1 x2 s0 m = some (z, m')) : Xj RX12 cX12_forgets 4 (some .boolean) 1 0 0 0 0 0 19 [(0, vR 60 i0), (1, vI x1), (2, vI x2)] [vI s0] m (oB z) m' := by
  unfold r_X12_forgets_j19 at h
  refine xj_istore_n (ls' := [(3, vI s0), (0, vR 60 i0), (1, vI x1), (2, vI x2)]) dX12_forgets_19 rfl (by decide) rfl ?_
  refine xj_aload_n 1 dX12_forgets_20 rfl ?_
  refine xj_iconst (z := 0) dX12_forgets_21 (by decide) ?_
  refine xj_bipush (z := 12) dX12_forgets_22 (by decide) ?_
  refine xj_iload_n 2 dX12_forgets_24 rfl ?_
  refine xj_imul dX12_forgets_25 ?_
  refine xj_iadd dX12_forgets_26 ?_
  refine xj_iload_n 3 dX12_forgets_27 rfl ?_
  refine xj_iadd dX12_forgets_28 ?_
  refine xj_iconst (z := (-1)) dX12_forgets_29 (by decide) ?_
  by_cases c3 : inb ((0 + (12 * x1)) + x2) 111 = true
  case neg => rw [if_neg c3] at h; cases h
  rw [if_pos c3] at h
  refine xg_iast (n := ((0 + (12 * x1)) + x2).toNatClampNeg) dX12_forgets_30 rfl (by decide) (inb_in c3) rfl ?_
  refine xj_iload_n 0 dX12_forgets_31 rfl ?_
  by_cases c4 : inb s0 2 = true
  case neg => rw [if_neg c4] at h; cases h
  rw [if_pos c4] at h
  cases h
  exact xj_iretB dX12_forgets_32 c4 (by decide) (by decide)
noncomputable def r_X12_forgets (i0 : Nat) (x1 : Int32) (x2 : Int32) (m : Mem) : Option (Bool × Mem) :=
  if inb ((0 + (12 * x1)) + x2) 111 = true then (if (m 60 i0 (((0 + (12 * x1)) + x2).toNatClampNeg)) = (-1) then (r_X12_forgets_j19 i0 x1 x2 0 m) else (r_X12_forgets_j19 i0 x1 x2 1 m)) else none
set_option maxHeartbeats 4000000 in
set_option maxRecDepth 20000 in
theorem ok_X12_forgets (i0 : Nat) (x1 : Int32) (x2 : Int32) (m : Mem) {z : Bool} {m' : Mem} (h : r_X12_forgets i0 x1 x2 m = some (z, m')) : Mt yX12_forgets cX12_forgets 4 (some .boolean) 1 0 0 0 [vR 60 i0, vI x1, vI x2] m (oB z) m' := by
  refine Mt.of (by decide) (Nat.le_of_ble_eq_true rfl) (by decide +kernel) (hhF_ne (by decide)) ?_
  show Xj RX12 cX12_forgets 4 (some .boolean) 1 0 0 0 0 0 0 [(0, vR 60 i0), (1, vI x1), (2, vI x2)] [] m (oB z) m'
  unfold r_X12_forgets at h
  refine xj_aload_n 0 dX12_forgets_0 rfl ?_
  refine xj_iconst (z := 0) dX12_forgets_1 (by decide) ?_
  refine xj_bipush (z := 12) dX12_forgets_2 (by decide) ?_
  refine xj_iload_n 1 dX12_forgets_4 rfl ?_
  refine xj_imul dX12_forgets_5 ?_
  refine xj_iadd dX12_forgets_6 ?_
  refine xj_iload_n 2 dX12_forgets_7 rfl ?_
  refine xj_iadd dX12_forgets_8 ?_
  by_cases c1 : inb ((0 + (12 * x1)) + x2) 111 = true
  case neg => rw [if_neg c1] at h; cases h
  rw [if_pos c1] at h
  refine xg_iald (z := (m 60 i0 (((0 + (12 * x1)) + x2).toNatClampNeg))) (n := ((0 + (12 * x1)) + x2).toNatClampNeg) dX12_forgets_9 rfl (by decide) (inb_in c1) rfl rfl ?_
  refine xj_iconst (z := (-1)) dX12_forgets_10 (by decide) ?_
  refine xj_icmp_eq (tgt := 18) dX12_forgets_11 (by decide) (fun c2 => ?_) (fun c2 => ?_)
  · rw [if_pos c2] at h
    refine xj_iconst (z := 0) dX12_forgets_18 (by decide) ?_
    exact ok_X12_forgets_j19 i0 x1 x2 0 m h 
  · rw [if_neg c2] at h
    refine xj_iconst (z := 1) dX12_forgets_14 (by decide) ?_
    refine xj_goto (tgt := 19) dX12_forgets_15 (by decide) ?_
    exact ok_X12_forgets_j19 i0 x1 x2 1 m h 
noncomputable def r_X12_walks (i1 : Nat) (x2 : Int32) (x3 : Int32) (m : Mem) : Option (Bool × Mem) :=
  if inb (72 + x2) 111 = true then (bd1 (r_X12_between (m 60 i1 ((72 + x2).toNatClampNeg)) x3 m) fun z3 => (if z3 = (-1) then (some (false, m)) else (some (true, (wr m 60 i1 ((72 + x2).toNatClampNeg) x3))))) else none
set_option maxHeartbeats 4000000 in
set_option maxRecDepth 20000 in
theorem ok_X12_walks (i1 : Nat) (x2 : Int32) (x3 : Int32) (m : Mem) {z : Bool} {m' : Mem} (h : r_X12_walks i1 x2 x3 m = some (z, m')) : Mt yX12_walks cX12_walks 4 (some .boolean) 2 23 0 0 [vR 12 0, vR 60 i1, vI x2, vI x3] m (oB z) m' := by
  refine Mt.of (by decide) (Nat.le_of_ble_eq_true rfl) (by decide +kernel) (hhF_ne (by decide)) ?_
  show Xj RX12 cX12_walks 4 (some .boolean) 2 23 0 0 0 0 0 [(0, vR 12 0), (1, vR 60 i1), (2, vI x2), (3, vI x3)] [] m (oB z) m'
  unfold r_X12_walks at h
  refine xj_aload_n 0 dX12_walks_0 rfl ?_
  refine xj_aload_n 1 dX12_walks_1 rfl ?_
  refine xj_bipush (z := 72) dX12_walks_2 (by decide) ?_
  refine xj_iload_n 2 dX12_walks_4 rfl ?_
  refine xj_iadd dX12_walks_5 ?_
  by_cases c1 : inb (72 + x2) 111 = true
  case neg => rw [if_neg c1] at h; cases h
  rw [if_pos c1] at h
  refine xg_iald (z := (m 60 i1 ((72 + x2).toNatClampNeg))) (n := (72 + x2).toNatClampNeg) dX12_walks_6 rfl (by decide) (inb_in c1) rfl rfl ?_
  refine xj_iload_n 3 dX12_walks_7 rfl ?_
  obtain ⟨z3, e2, h⟩ := bd1_some h
  refine xc_Vi0 (st := []) (ok_X12_between (m 60 i1 ((72 + x2).toNatClampNeg)) x3 m e2) dX12_walks_8 cv_X12_267 rfl rfl (Nat.le_of_ble_eq_true rfl) (by decide) (by decide) (by decide) (by decide) ?_
  refine xj_iconst (z := (-1)) dX12_walks_11 (by decide) ?_
  refine xj_icmp_ne (tgt := 17) dX12_walks_12 (by decide) (fun c4 => ?_) (fun c4 => ?_)
  · rw [if_neg c4] at h
    refine xj_aload_n 1 dX12_walks_17 rfl ?_
    refine xj_bipush (z := 72) dX12_walks_18 (by decide) ?_
    refine xj_iload_n 2 dX12_walks_20 rfl ?_
    refine xj_iadd dX12_walks_21 ?_
    refine xj_iload_n 3 dX12_walks_22 rfl ?_
    refine xg_iast (n := (72 + x2).toNatClampNeg) dX12_walks_23 rfl (by decide) (inb_in c1) rfl ?_
    refine xj_iconst (z := 1) dX12_walks_24 (by decide) ?_
    cases h
    exact xj_ireturn dX12_walks_25 rfl (by decide) (by decide)
  · rw [if_pos c4] at h
    refine xj_iconst (z := 0) dX12_walks_15 (by decide) ?_
    cases h
    exact xj_ireturn dX12_walks_16 rfl (by decide) (by decide)
noncomputable def r_X12_does (i1 : Nat) (i2 : Nat) (m : Mem) : Option (Bool × Mem) :=
  if (m 81 i2 0) = 0 then (if inb ((0 + (12 * (m 81 i2 1))) + (m 81 i2 2)) 111 = true then (if (m 60 i1 (((0 + (12 * (m 81 i2 1))) + (m 81 i2 2)).toNatClampNeg)) = (m 81 i2 3) then (some (false, m)) else (some (true, (wr m 60 i1 (((0 + (12 * (m 81 i2 1))) + (m 81 i2 2)).toNatClampNeg) (m 81 i2 3))))) else none) else if (m 81 i2 0) = 1 then (bd2 (r_X12_forgets i1 (m 81 i2 1) (m 81 i2 2) m) fun z7 m6 => (some (z7, m6))) else if (m 81 i2 0) = 2 then (bd2 (r_X12_walks i1 (m 81 i2 1) (m 81 i2 2) m) fun z11 m10 => (some (z11, m10))) else if (m 81 i2 0) = 3 then (bd1 (r_X12_between (m 81 i2 2) (m 81 i2 3) m) fun z14 => (if inb (78 + z14) 111 = true then (if (m 60 i1 ((78 + z14).toNatClampNeg)) = 9 then (some (false, m)) else (bd1 (r_X12_between (m 81 i2 2) (m 81 i2 3) m) fun z18 => (if inb (78 + z18) 111 = true then (some (true, (wr m 60 i1 ((78 + z18).toNatClampNeg) ((m 60 i1 ((78 + z18).toNatClampNeg)) + 1)))) else none))) else none)) else (if (m 60 i1 110) < 500 then (bd1 (r_X12_dayEnds i1 m) fun m22 => (some (true, m22))) else (some (false, m)))
set_option maxHeartbeats 4000000 in
set_option maxRecDepth 20000 in
theorem ok_X12_does (i1 : Nat) (i2 : Nat) (m : Mem) {z : Bool} {m' : Mem} (h : r_X12_does i1 i2 m = some (z, m')) : Mt yX12_does cX12_does 6 (some .boolean) 11 245 0 0 [vR 12 0, vR 60 i1, vR 81 i2] m (oB z) m' := by
  refine Mt.of (by decide) (Nat.le_of_ble_eq_true rfl) (by decide +kernel) (hhF_ne (by decide)) ?_
  show Xj RX12 cX12_does 6 (some .boolean) 11 245 0 0 0 0 0 [(0, vR 12 0), (1, vR 60 i1), (2, vR 81 i2)] [] m (oB z) m'
  unfold r_X12_does at h
  refine xj_aload_n 2 dX12_does_0 rfl ?_
  refine xj_iconst (z := 1) dX12_does_1 (by decide) ?_
  refine xg_iald (z := (m 81 i2 1)) (n := 1) dX12_does_2 rfl (by decide) (inb_in (by decide)) (by decide) rfl ?_
  refine xj_istore_n (ls' := [(3, vI (m 81 i2 1)), (0, vR 12 0), (1, vR 60 i1), (2, vR 81 i2)]) dX12_does_3 rfl (by decide) rfl ?_
  refine xj_aload_n 3 dX12_does_4 rfl ?_
  refine xj_iconst (z := 2) dX12_does_5 (by decide) ?_
  refine xg_iald (z := (m 81 i2 2)) (n := 2) dX12_does_6 rfl (by decide) (inb_in (by decide)) (by decide) rfl ?_
  refine xj_istore (ls' := [(4, vI (m 81 i2 2)), (3, vI (m 81 i2 1)), (0, vR 12 0), (1, vR 60 i1), (2, vR 81 i2)]) dX12_does_7 (by decide) rfl ?_
  refine xj_aload_n 4 dX12_does_9 rfl ?_
  refine xj_iconst (z := 3) dX12_does_10 (by decide) ?_
  refine xg_iald (z := (m 81 i2 3)) (n := 3) dX12_does_11 rfl (by decide) (inb_in (by decide)) (by decide) rfl ?_
  refine xj_istore (ls' := [(5, vI (m 81 i2 3)), (4, vI (m 81 i2 2)), (3, vI (m 81 i2 1)), (0, vR 12 0), (1, vR 60 i1), (2, vR 81 i2)]) dX12_does_12 (by decide) rfl ?_
  refine xj_aload_n 5 dX12_does_14 rfl ?_
  refine xj_iconst (z := 0) dX12_does_15 (by decide) ?_
  refine xg_iald (z := (m 81 i2 0)) (n := 0) dX12_does_16 rfl (by decide) (inb_in (by decide)) (by decide) rfl ?_
  by_cases c1 : (m 81 i2 0) = 0
  · rw [if_pos c1] at h
    refine xj_tableIn (off := 31) (tgt := 48) dX12_does_17 (by rw [c1]; decide) (by rw [c1]; decide) (by rw [c1]; decide) (by decide) ?_
    refine xj_aload_n 4 dX12_does_48 rfl ?_
    refine xj_iconst (z := 0) dX12_does_49 (by decide) ?_
    refine xj_bipush (z := 12) dX12_does_50 (by decide) ?_
    refine xj_iload_n 2 dX12_does_52 rfl ?_
    refine xj_imul dX12_does_53 ?_
    refine xj_iadd dX12_does_54 ?_
    refine xj_iload 1 dX12_does_55 rfl ?_
    refine xj_iadd dX12_does_57 ?_
    by_cases c2 : inb ((0 + (12 * (m 81 i2 1))) + (m 81 i2 2)) 111 = true
    case neg => rw [if_neg c2] at h; cases h
    rw [if_pos c2] at h
    refine xg_iald (z := (m 60 i1 (((0 + (12 * (m 81 i2 1))) + (m 81 i2 2)).toNatClampNeg))) (n := ((0 + (12 * (m 81 i2 1))) + (m 81 i2 2)).toNatClampNeg) dX12_does_58 rfl (by decide) (inb_in c2) rfl rfl ?_
    refine xj_iload 0 dX12_does_59 rfl ?_
    refine xj_icmp_ne (tgt := 66) dX12_does_61 (by decide) (fun c3 => ?_) (fun c3 => ?_)
    · rw [if_neg c3] at h
      refine xj_aload_n 4 dX12_does_66 rfl ?_
      refine xj_iconst (z := 0) dX12_does_67 (by decide) ?_
      refine xj_bipush (z := 12) dX12_does_68 (by decide) ?_
      refine xj_iload_n 2 dX12_does_70 rfl ?_
      refine xj_imul dX12_does_71 ?_
      refine xj_iadd dX12_does_72 ?_
      refine xj_iload 1 dX12_does_73 rfl ?_
      refine xj_iadd dX12_does_75 ?_
      refine xj_iload 0 dX12_does_76 rfl ?_
      refine xg_iast (n := ((0 + (12 * (m 81 i2 1))) + (m 81 i2 2)).toNatClampNeg) dX12_does_78 rfl (by decide) (inb_in c2) rfl ?_
      refine xj_iconst (z := 1) dX12_does_79 (by decide) ?_
      cases h
      exact xj_ireturn dX12_does_80 rfl (by decide) (by decide)
    · rw [if_pos c3] at h
      refine xj_iconst (z := 0) dX12_does_64 (by decide) ?_
      cases h
      exact xj_ireturn dX12_does_65 rfl (by decide) (by decide)
  rw [if_neg c1] at h
  by_cases c4 : (m 81 i2 0) = 1
  · rw [if_pos c4] at h
    refine xj_tableIn (off := 64) (tgt := 81) dX12_does_17 (by rw [c4]; decide) (by rw [c4]; decide) (by rw [c4]; decide) (by decide) ?_
    refine xj_aload_n 4 dX12_does_81 rfl ?_
    refine xj_iload_n 2 dX12_does_82 rfl ?_
    refine xj_iload 1 dX12_does_83 rfl ?_
    obtain ⟨z7, m6, e5, h⟩ := bd2_some h
    refine xc_Sb0 (st := []) (ok_X12_forgets i1 (m 81 i2 1) (m 81 i2 2) m e5) dX12_does_85 cs_X12_319 rfl rfl (Nat.le_of_ble_eq_true rfl) (by decide) (by decide) (by decide) (by decide) ?_
    cases h
    exact xj_ireturn dX12_does_88 (nar_b2i _) (by decide) (by decide)
  rw [if_neg c4] at h
  by_cases c8 : (m 81 i2 0) = 2
  · rw [if_pos c8] at h
    refine xj_tableIn (off := 72) (tgt := 89) dX12_does_17 (by rw [c8]; decide) (by rw [c8]; decide) (by rw [c8]; decide) (by decide) ?_
    refine xj_aload_n 3 dX12_does_89 rfl ?_
    refine xj_aload_n 4 dX12_does_90 rfl ?_
    refine xj_iload_n 2 dX12_does_91 rfl ?_
    refine xj_iload 1 dX12_does_92 rfl ?_
    obtain ⟨z11, m10, e9, h⟩ := bd2_some h
    refine xc_Vb0 (st := []) (ok_X12_walks i1 (m 81 i2 1) (m 81 i2 2) m e9) dX12_does_94 cv_X12_323 rfl rfl (Nat.le_of_ble_eq_true rfl) (by decide) (by decide) (by decide) (by decide) ?_
    cases h
    exact xj_ireturn dX12_does_97 (nar_b2i _) (by decide) (by decide)
  rw [if_neg c8] at h
  by_cases c12 : (m 81 i2 0) = 3
  · rw [if_pos c12] at h
    refine xj_tableIn (off := 81) (tgt := 98) dX12_does_17 (by rw [c12]; decide) (by rw [c12]; decide) (by rw [c12]; decide) (by decide) ?_
    refine xj_aload_n 4 dX12_does_98 rfl ?_
    refine xj_bipush (z := 78) dX12_does_99 (by decide) ?_
    refine xj_aload_n 3 dX12_does_101 rfl ?_
    refine xj_iload 1 dX12_does_102 rfl ?_
    refine xj_iload 0 dX12_does_104 rfl ?_
    obtain ⟨z14, e13, h⟩ := bd1_some h
    refine xc_Vi0 (st := [vI 78, vR 60 i1]) (ok_X12_between (m 81 i2 2) (m 81 i2 3) m e13) dX12_does_106 cv_X12_267 rfl rfl (Nat.le_of_ble_eq_true rfl) (by decide) (by decide) (by decide) (by decide) ?_
    refine xj_iadd dX12_does_109 ?_
    by_cases c15 : inb (78 + z14) 111 = true
    case neg => rw [if_neg c15] at h; cases h
    rw [if_pos c15] at h
    refine xg_iald (z := (m 60 i1 ((78 + z14).toNatClampNeg))) (n := (78 + z14).toNatClampNeg) dX12_does_110 rfl (by decide) (inb_in c15) rfl rfl ?_
    refine xj_bipush (z := 9) dX12_does_111 (by decide) ?_
    refine xj_icmp_ne (tgt := 118) dX12_does_113 (by decide) (fun c16 => ?_) (fun c16 => ?_)
    · rw [if_neg c16] at h
      refine xj_aload_n 4 dX12_does_118 rfl ?_
      refine xj_bipush (z := 78) dX12_does_119 (by decide) ?_
      refine xj_aload_n 3 dX12_does_121 rfl ?_
      refine xj_iload 1 dX12_does_122 rfl ?_
      refine xj_iload 0 dX12_does_124 rfl ?_
      obtain ⟨z18, e17, h⟩ := bd1_some h
      refine xc_Vi0 (st := [vI 78, vR 60 i1]) (ok_X12_between (m 81 i2 2) (m 81 i2 3) m e17) dX12_does_126 cv_X12_267 rfl rfl (Nat.le_of_ble_eq_true rfl) (by decide) (by decide) (by decide) (by decide) ?_
      refine xj_iadd dX12_does_129 ?_
      refine xj_dup2 dX12_does_130 rfl rfl ?_
      by_cases c19 : inb (78 + z18) 111 = true
      case neg => rw [if_neg c19] at h; cases h
      rw [if_pos c19] at h
      refine xg_iald (z := (m 60 i1 ((78 + z18).toNatClampNeg))) (n := (78 + z18).toNatClampNeg) dX12_does_131 rfl (by decide) (inb_in c19) rfl rfl ?_
      refine xj_iconst (z := 1) dX12_does_132 (by decide) ?_
      refine xj_iadd dX12_does_133 ?_
      refine xg_iast (n := (78 + z18).toNatClampNeg) dX12_does_134 rfl (by decide) (inb_in c19) rfl ?_
      refine xj_iconst (z := 1) dX12_does_135 (by decide) ?_
      cases h
      exact xj_ireturn dX12_does_136 rfl (by decide) (by decide)
    · rw [if_pos c16] at h
      refine xj_iconst (z := 0) dX12_does_116 (by decide) ?_
      cases h
      exact xj_ireturn dX12_does_117 rfl (by decide) (by decide)
  rw [if_neg c12] at h
  refine xj_tableOut (tgt := 137) dX12_does_17 ?_ (by decide) ?_
  · have nc1 := lv_neT c1 (show (0 : Int32).toInt = 0 by decide)
    have nc4 := lv_neT c4 (show (1 : Int32).toInt = 1 by decide)
    have nc8 := lv_neT c8 (show (2 : Int32).toInt = 2 by decide)
    have nc12 := lv_neT c12 (show (3 : Int32).toInt = 3 by decide)
    omega
  refine xj_aload_n 4 dX12_does_137 rfl ?_
  refine xj_bipush (z := 110) dX12_does_138 (by decide) ?_
  refine xg_iald (z := (m 60 i1 110)) (n := 110) dX12_does_140 rfl (by decide) (inb_in (by decide)) (by decide) rfl ?_
  refine xj_sipush (z := 500) dX12_does_141 (by decide) ?_
  refine xj_icmp_lt (tgt := 149) dX12_does_144 (by decide) (fun c20 => ?_) (fun c20 => ?_)
  · rw [if_pos c20] at h
    refine xj_aload_n 3 dX12_does_149 rfl ?_
    refine xj_aload_n 4 dX12_does_150 rfl ?_
    obtain ⟨m22, e21, h⟩ := bd1_some h
    refine xc_Vv0 (st := []) (ok_X12_dayEnds i1 m e21) dX12_does_151 cv_X12_326 rfl rfl (Nat.le_of_ble_eq_true rfl) (by decide) (by decide) (by decide) (by decide) ?_
    refine xj_iconst (z := 1) dX12_does_154 (by decide) ?_
    cases h
    exact xj_ireturn dX12_does_155 rfl (by decide) (by decide)
  · rw [if_neg c20] at h
    refine xj_iconst (z := 0) dX12_does_147 (by decide) ?_
    cases h
    exact xj_ireturn dX12_does_148 rfl (by decide) (by decide)
/-! the methods that call each other: goe -/
def MG_goe (f0 l0 sel i : Nat) (as : List Int32) (m : Mem) (m' : Mem) : Prop := match sel, as with
  | 0, [x1, x2] => Mt yX12_goes cX12_goes 5 none f0 l0 0 0 [vR 12 0, vI x1, vI x2] m oV m'
  | _, _ => True
def RG_goe (f0 l0 : Nat) (rec : Nat → Nat → List Int32 → Mem → Option Mem) : Prop := ∀ (sel i : Nat) (as : List Int32) (m : Mem) (m' : Mem), rec sel i as m = some m' → MG_goe f0 l0 sel i as m m'
noncomputable def r_X12_goes_b42_c2 (rec : Nat → Nat → List Int32 → Mem → Option Mem) (x2 : Int32) (x3 : Int32) (x4 : Int32) (m : Mem) : Option ((Int32 × Mem) ⊕ (Mem)) :=
  if inb x3 80 = true then (if (m 81 x3.toNatClampNeg 1) ≤ x4 then (some (Sum.inr m)) else (if 200 ≤ (m 12 0 43) then (some (Sum.inr m)) else (bd1 (rec 0 0 [(x3 + 1), (m 81 x3.toNatClampNeg 4)] m) fun m9 => (some (Sum.inl (x4 + 1, m9)))))) else none
set_option maxHeartbeats 4000000 in
set_option maxRecDepth 20000 in
theorem ok_X12_goes_b42_c2 (rec : Nat → Nat → List Int32 → Mem → Option Mem) {f0 l0 f9 l9 : Nat} (hrec : RG_goe f0 l0 rec) (hf : f0 + 1 ≤ f9) (hf2 : 12 ≤ f9) (hl : l0 + 24 ≤ l9) (hl2 : 270 ≤ l9) (x2 : Int32) (x3 : Int32) (x4 : Int32) (m : Mem) {r : (Int32 × Mem) ⊕ (Mem)} (h : r_X12_goes_b42_c2 rec x2 x3 x4 m = some r) {o : Ou} {M' : Mem} (kb : ∀ (x4' : Int32) (m'' : Mem), r = Sum.inl (x4', m'') → Xj RX12 cX12_goes 5 none f9 l9 0 0 0 0 42 [(0, vR 12 0), (2, vI x2), (3, vI x3), (4, vI x4')] [] m'' o M') (ke : ∀ (m'' : Mem), r = Sum.inr m'' → Xj RX12 cX12_goes 5 none f9 l9 0 0 0 0 86 [(0, vR 12 0), (2, vI x2), (3, vI x3)] [] m'' o M') : Xj RX12 cX12_goes 5 none f9 l9 0 0 0 0 42 [(0, vR 12 0), (2, vI x2), (3, vI x3), (4, vI x4)] [] m o M' := by
  unfold r_X12_goes_b42_c2 at h
  refine xj_iload 3 dX12_goes_42 rfl ?_
  refine xj_aload_n 0 dX12_goes_44 rfl ?_
  refine xg_getR (k' := 82) (i' := 0) dX12_goes_45 fl_X12_70 rfl ?_
  refine xj_iload_n 2 dX12_goes_48 rfl ?_
  by_cases c5 : inb x3 80 = true
  case neg => rw [if_neg c5] at h; cases h
  rw [if_pos c5] at h
  refine xg_aald (k' := 81) (i' := x3.toNatClampNeg) (n := x3.toNatClampNeg) dX12_goes_49 rfl (by decide) (inb_in c5) rfl rfl ?_
  refine xj_iconst (z := 1) dX12_goes_50 (by decide) ?_
  refine xg_iald (z := (m 81 x3.toNatClampNeg 1)) (n := 1) dX12_goes_51 rfl (by decide) (inb_in (by decide)) (by decide) rfl ?_
  refine xj_icmp_ge (tgt := 86) dX12_goes_52 (by decide) (fun c6 => ?_) (fun c6 => ?_)
  · rw [if_pos c6] at h
    cases h
    refine xj_pick (ls' := [(0, vR 12 0), (2, vI x2), (3, vI x3)]) [0, 1, 2] rfl ?_
    exact ke m rfl
  · rw [if_neg c6] at h
    refine xj_aload_n 0 dX12_goes_55 rfl ?_
    refine xg_getI (x := (m 12 0 43)) dX12_goes_56 fl_X12_329 rfl rfl ?_
    refine xj_sipush (z := 200) dX12_goes_59 (by decide) ?_
    refine xj_icmp_ge (tgt := 86) dX12_goes_62 (by decide) (fun c7 => ?_) (fun c7 => ?_)
    · rw [if_pos c7] at h
      cases h
      refine xj_pick (ls' := [(0, vR 12 0), (2, vI x2), (3, vI x3)]) [0, 1, 2] rfl ?_
      exact ke m rfl
    · rw [if_neg c7] at h
      refine xj_aload_n 0 dX12_goes_65 rfl ?_
      refine xj_iload_n 2 dX12_goes_66 rfl ?_
      refine xj_iconst (z := 1) dX12_goes_67 (by decide) ?_
      refine xj_iadd dX12_goes_68 ?_
      refine xj_aload_n 0 dX12_goes_69 rfl ?_
      refine xg_getR (k' := 82) (i' := 0) dX12_goes_70 fl_X12_70 rfl ?_
      refine xj_iload_n 2 dX12_goes_73 rfl ?_
      refine xg_aald (k' := 81) (i' := x3.toNatClampNeg) (n := x3.toNatClampNeg) dX12_goes_74 rfl (by decide) (inb_in c5) rfl rfl ?_
      refine xj_iconst (z := 4) dX12_goes_75 (by decide) ?_
      refine xg_iald (z := (m 81 x3.toNatClampNeg 4)) (n := 4) dX12_goes_76 rfl (by decide) (inb_in (by decide)) (by decide) rfl ?_
      obtain ⟨m9, e8, h⟩ := bd1_some h
      refine xc_Vv0 (st := []) (hrec 0 0 [(x3 + 1), (m 81 x3.toNatClampNeg 4)] m _ e8) dX12_goes_77 cv_X12_332 rfl rfl (Nat.le_of_ble_eq_true rfl) (by omega) (by omega) (by decide) (by decide) ?_
      refine xj_iinc (z := x4 + 1) (ls' := [(4, vI (x4 + 1)), (0, vR 12 0), (2, vI x2), (3, vI x3)]) 3 dX12_goes_80 rfl rfl (by decide) rfl ?_
      refine xj_goto (tgt := 42) dX12_goes_83 (by decide) ?_
      cases h
      refine xj_pick (ls' := [(0, vR 12 0), (2, vI x2), (3, vI x3), (4, vI (x4 + 1))]) [1, 2, 3, 0] rfl ?_
      exact kb (x4 + 1) m9 rfl
noncomputable def r_X12_goes_j143_c2 (rec : Nat → Nat → List Int32 → Mem → Option Mem) (x2 : Int32) (x3 : Int32) (m : Mem) : Option ((Int32 × Mem) ⊕ (Mem)) :=
  if inb x3 80 = true then (some (Sum.inl ((m 81 x3.toNatClampNeg 4), m))) else none
set_option maxHeartbeats 4000000 in
set_option maxRecDepth 20000 in
theorem ok_X12_goes_j143_c2 (rec : Nat → Nat → List Int32 → Mem → Option Mem) {f0 l0 f9 l9 : Nat} (hrec : RG_goe f0 l0 rec) (hf : f0 + 1 ≤ f9) (hf2 : 12 ≤ f9) (hl : l0 + 24 ≤ l9) (hl2 : 270 ≤ l9) (x2 : Int32) (x3 : Int32) (m : Mem) {r : (Int32 × Mem) ⊕ (Mem)} (h : r_X12_goes_j143_c2 rec x2 x3 m = some r) {o : Ou} {M' : Mem} (kb : ∀ (x3' : Int32) (m'' : Mem), r = Sum.inl (x3', m'') → Xj RX12 cX12_goes 5 none f9 l9 0 0 0 0 2 [(0, vR 12 0), (2, vI x2), (3, vI x3')] [] m'' o M') (ke : ∀ (m'' : Mem), r = Sum.inr m'' → Xj RX12 cX12_goes 5 none f9 l9 0 0 0 0 155 [] [] m'' o M') : Xj RX12 cX12_goes 5 none f9 l9 0 0 0 0 143 [(0, vR 12 0), (2, vI x2), (3, vI x3)] [] m o M' := by
  unfold r_X12_goes_j143_c2 at h
  refine xj_aload_n 0 dX12_goes_143 rfl ?_
  refine xg_getR (k' := 82) (i' := 0) dX12_goes_144 fl_X12_70 rfl ?_
  refine xj_iload_n 2 dX12_goes_147 rfl ?_
  by_cases c10 : inb x3 80 = true
  case neg => rw [if_neg c10] at h; cases h
  rw [if_pos c10] at h
  refine xg_aald (k' := 81) (i' := x3.toNatClampNeg) (n := x3.toNatClampNeg) dX12_goes_148 rfl (by decide) (inb_in c10) rfl rfl ?_
  refine xj_iconst (z := 4) dX12_goes_149 (by decide) ?_
  refine xg_iald (z := (m 81 x3.toNatClampNeg 4)) (n := 4) dX12_goes_150 rfl (by decide) (inb_in (by decide)) (by decide) rfl ?_
  refine xj_istore_n (ls' := [(3, vI (m 81 x3.toNatClampNeg 4)), (0, vR 12 0), (2, vI x2)]) dX12_goes_151 rfl (by decide) rfl ?_
  refine xj_goto (tgt := 2) dX12_goes_152 (by decide) ?_
  cases h
  refine xj_pick (ls' := [(0, vR 12 0), (2, vI x2), (3, vI (m 81 x3.toNatClampNeg 4))]) [1, 2, 0] rfl ?_
  exact kb (m 81 x3.toNatClampNeg 4) m rfl
noncomputable def r_X12_goes_j86_c2 (rec : Nat → Nat → List Int32 → Mem → Option Mem) (x2 : Int32) (x3 : Int32) (m : Mem) : Option ((Int32 × Mem) ⊕ (Mem)) :=
  r_X12_goes_j143_c2 rec x2 x3 m
set_option maxHeartbeats 4000000 in
set_option maxRecDepth 20000 in
theorem ok_X12_goes_j86_c2 (rec : Nat → Nat → List Int32 → Mem → Option Mem) {f0 l0 f9 l9 : Nat} (hrec : RG_goe f0 l0 rec) (hf : f0 + 1 ≤ f9) (hf2 : 12 ≤ f9) (hl : l0 + 24 ≤ l9) (hl2 : 270 ≤ l9) (x2 : Int32) (x3 : Int32) (m : Mem) {r : (Int32 × Mem) ⊕ (Mem)} (h : r_X12_goes_j86_c2 rec x2 x3 m = some r) {o : Ou} {M' : Mem} (kb : ∀ (x3' : Int32) (m'' : Mem), r = Sum.inl (x3', m'') → Xj RX12 cX12_goes 5 none f9 l9 0 0 0 0 2 [(0, vR 12 0), (2, vI x2), (3, vI x3')] [] m'' o M') (ke : ∀ (m'' : Mem), r = Sum.inr m'' → Xj RX12 cX12_goes 5 none f9 l9 0 0 0 0 155 [] [] m'' o M') : Xj RX12 cX12_goes 5 none f9 l9 0 0 0 0 86 [(0, vR 12 0), (2, vI x2), (3, vI x3)] [] m o M' := by
  unfold r_X12_goes_j86_c2 at h
  refine xj_goto (tgt := 143) dX12_goes_86 (by decide) ?_
  exact ok_X12_goes_j143_c2 rec hrec hf hf2 hl hl2 x2 x3 m h kb ke
noncomputable def r_X12_goes_e86_h42_c2 (rec : Nat → Nat → List Int32 → Mem → Option Mem) (x2 : Int32) (x3 : Int32) (m : Mem) : Option ((Int32 × Mem) ⊕ (Mem)) :=
  r_X12_goes_j86_c2 rec x2 x3 m
set_option maxHeartbeats 4000000 in
set_option maxRecDepth 20000 in
theorem ok_X12_goes_e86_h42_c2 (rec : Nat → Nat → List Int32 → Mem → Option Mem) {f0 l0 f9 l9 : Nat} (hrec : RG_goe f0 l0 rec) (hf : f0 + 1 ≤ f9) (hf2 : 12 ≤ f9) (hl : l0 + 24 ≤ l9) (hl2 : 270 ≤ l9) (x2 : Int32) (x3 : Int32) (m : Mem) {r : (Int32 × Mem) ⊕ (Mem)} (h : r_X12_goes_e86_h42_c2 rec x2 x3 m = some r) {o : Ou} {M' : Mem} (kb : ∀ (x3' : Int32) (m'' : Mem), r = Sum.inl (x3', m'') → Xj RX12 cX12_goes 5 none f9 l9 0 0 0 0 2 [(0, vR 12 0), (2, vI x2), (3, vI x3')] [] m'' o M') (ke : ∀ (m'' : Mem), r = Sum.inr m'' → Xj RX12 cX12_goes 5 none f9 l9 0 0 0 0 155 [] [] m'' o M') : Xj RX12 cX12_goes 5 none f9 l9 0 0 0 0 86 [(0, vR 12 0), (2, vI x2), (3, vI x3)] [] m o M' := by
  unfold r_X12_goes_e86_h42_c2 at h
  exact ok_X12_goes_j86_c2 rec hrec hf hf2 hl hl2 x2 x3 m h kb ke
noncomputable def r_X12_goes_l42_c2 (rec : Nat → Nat → List Int32 → Mem → Option Mem) (x2 : Int32) (x3 : Int32) (x4 : Int32) (m : Mem) : Option ((Int32 × Mem) ⊕ (Mem)) :=
  bd1 (loopO (fun s => r_X12_goes_b42_c2 rec x2 x3 s.1 s.2) (x4, m)) (fun e => r_X12_goes_e86_h42_c2 rec x2 x3 e)
set_option maxHeartbeats 4000000 in
set_option maxRecDepth 20000 in
theorem ok_X12_goes_l42_c2 (rec : Nat → Nat → List Int32 → Mem → Option Mem) {f0 l0 f9 l9 : Nat} (hrec : RG_goe f0 l0 rec) (hf : f0 + 1 ≤ f9) (hf2 : 12 ≤ f9) (hl : l0 + 24 ≤ l9) (hl2 : 270 ≤ l9) (x2 : Int32) (x3 : Int32) (x4 : Int32) (m : Mem) {r : (Int32 × Mem) ⊕ (Mem)} (h : r_X12_goes_l42_c2 rec x2 x3 x4 m = some r) {o : Ou} {M' : Mem} (kb : ∀ (x3' : Int32) (m'' : Mem), r = Sum.inl (x3', m'') → Xj RX12 cX12_goes 5 none f9 l9 0 0 0 0 2 [(0, vR 12 0), (2, vI x2), (3, vI x3')] [] m'' o M') (ke : ∀ (m'' : Mem), r = Sum.inr m'' → Xj RX12 cX12_goes 5 none f9 l9 0 0 0 0 155 [] [] m'' o M') : Xj RX12 cX12_goes 5 none f9 l9 0 0 0 0 42 [(0, vR 12 0), (2, vI x2), (3, vI x3), (4, vI x4)] [] m o M' := by
  unfold r_X12_goes_l42_c2 at h
  obtain ⟨e, e1, h⟩ := bd1_some h
  refine loopO_ok (P := fun s : (Int32 × Mem) => Xj RX12 cX12_goes 5 none f9 l9 0 0 0 0 42 [(0, vR 12 0), (2, vI x2), (3, vI x3), (4, vI s.1)] [] s.2 o M') (Q := fun e : (Mem) => Xj RX12 cX12_goes 5 none f9 l9 0 0 0 0 86 [(0, vR 12 0), (2, vI x2), (3, vI x3)] [] e o M') ?_ _ _ e1 ?_
  · intro s r9 h9 hi hx
    exact ok_X12_goes_b42_c2 rec hrec hf hf2 hl hl2 x2 x3 s.1 s.2 h9 (by rintro _ _ rfl; exact hi _ rfl) (by rintro _ rfl; exact hx _ rfl)
  · exact ok_X12_goes_e86_h42_c2 rec hrec hf hf2 hl hl2 x2 x3 e h kb ke
noncomputable def r_X12_goes_j139_c2 (rec : Nat → Nat → List Int32 → Mem → Option Mem) (x2 : Int32) (x3 : Int32) (s0 : Int32) (s1 : Int32) (m : Mem) : Option ((Int32 × Mem) ⊕ (Mem)) :=
  r_X12_goes_j143_c2 rec x2 x3 (wr m 12 0 37 (s1 + s0))
set_option maxHeartbeats 4000000 in
set_option maxRecDepth 20000 in
theorem ok_X12_goes_j139_c2 (rec : Nat → Nat → List Int32 → Mem → Option Mem) {f0 l0 f9 l9 : Nat} (hrec : RG_goe f0 l0 rec) (hf : f0 + 1 ≤ f9) (hf2 : 12 ≤ f9) (hl : l0 + 24 ≤ l9) (hl2 : 270 ≤ l9) (x2 : Int32) (x3 : Int32) (s0 : Int32) (s1 : Int32) (m : Mem) {r : (Int32 × Mem) ⊕ (Mem)} (h : r_X12_goes_j139_c2 rec x2 x3 s0 s1 m = some r) {o : Ou} {M' : Mem} (kb : ∀ (x3' : Int32) (m'' : Mem), r = Sum.inl (x3', m'') → Xj RX12 cX12_goes 5 none f9 l9 0 0 0 0 2 [(0, vR 12 0), (2, vI x2), (3, vI x3')] [] m'' o M') (ke : ∀ (m'' : Mem), r = Sum.inr m'' → Xj RX12 cX12_goes 5 none f9 l9 0 0 0 0 155 [] [] m'' o M') : Xj RX12 cX12_goes 5 none f9 l9 0 0 0 0 139 [(0, vR 12 0), (2, vI x2), (3, vI x3)] [vI s0, vI s1, vR 12 0] m o M' := by
  unfold r_X12_goes_j139_c2 at h
  refine xj_iadd dX12_goes_139 ?_
  refine xj_putI dX12_goes_140 fw_X12_217 rfl ?_
  exact ok_X12_goes_j143_c2 rec hrec hf hf2 hl hl2 x2 x3 (wr m 12 0 37 (s1 + s0)) h kb ke
noncomputable def r_X12_goes_j120_c2 (rec : Nat → Nat → List Int32 → Mem → Option Mem) (x2 : Int32) (x3 : Int32) (x4 : Int32) (s0 : Int32) (s1 : Int32) (m : Mem) : Option ((Int32 × Mem) ⊕ (Mem)) :=
  if x4 = 0 then (r_X12_goes_j139_c2 rec x2 x3 1 (m 12 0 37) (wr m 12 0 44 (s1 + s0))) else (r_X12_goes_j139_c2 rec x2 x3 0 (m 12 0 37) (wr m 12 0 44 (s1 + s0)))
set_option maxHeartbeats 4000000 in
set_option maxRecDepth 20000 in
theorem ok_X12_goes_j120_c2 (rec : Nat → Nat → List Int32 → Mem → Option Mem) {f0 l0 f9 l9 : Nat} (hrec : RG_goe f0 l0 rec) (hf : f0 + 1 ≤ f9) (hf2 : 12 ≤ f9) (hl : l0 + 24 ≤ l9) (hl2 : 270 ≤ l9) (x2 : Int32) (x3 : Int32) (x4 : Int32) (s0 : Int32) (s1 : Int32) (m : Mem) {r : (Int32 × Mem) ⊕ (Mem)} (h : r_X12_goes_j120_c2 rec x2 x3 x4 s0 s1 m = some r) {o : Ou} {M' : Mem} (kb : ∀ (x3' : Int32) (m'' : Mem), r = Sum.inl (x3', m'') → Xj RX12 cX12_goes 5 none f9 l9 0 0 0 0 2 [(0, vR 12 0), (2, vI x2), (3, vI x3')] [] m'' o M') (ke : ∀ (m'' : Mem), r = Sum.inr m'' → Xj RX12 cX12_goes 5 none f9 l9 0 0 0 0 155 [] [] m'' o M') : Xj RX12 cX12_goes 5 none f9 l9 0 0 0 0 120 [(0, vR 12 0), (2, vI x2), (3, vI x3), (4, vI x4)] [vI s0, vI s1, vR 12 0] m o M' := by
  unfold r_X12_goes_j120_c2 at h
  refine xj_iadd dX12_goes_120 ?_
  refine xj_putI dX12_goes_121 fw_X12_339 rfl ?_
  refine xj_aload_n 0 dX12_goes_124 rfl ?_
  refine xj_dup dX12_goes_125 rfl ?_
  refine xg_getI (x := (m 12 0 37)) dX12_goes_126 fl_X12_217 rfl rfl ?_
  refine xj_iload 3 dX12_goes_129 rfl ?_
  refine xj_if_eq (tgt := 138) dX12_goes_131 (by decide) (fun c15 => ?_) (fun c15 => ?_)
  · rw [if_pos c15] at h
    refine xj_iconst (z := 1) dX12_goes_138 (by decide) ?_
    refine xj_pick (ls' := [(0, vR 12 0), (2, vI x2), (3, vI x3)]) [0, 1, 2] rfl ?_
    exact ok_X12_goes_j139_c2 rec hrec hf hf2 hl hl2 x2 x3 1 (m 12 0 37) (wr m 12 0 44 (s1 + s0)) h kb ke
  · rw [if_neg c15] at h
    refine xj_iconst (z := 0) dX12_goes_134 (by decide) ?_
    refine xj_goto (tgt := 139) dX12_goes_135 (by decide) ?_
    refine xj_pick (ls' := [(0, vR 12 0), (2, vI x2), (3, vI x3)]) [0, 1, 2] rfl ?_
    exact ok_X12_goes_j139_c2 rec hrec hf hf2 hl hl2 x2 x3 0 (m 12 0 37) (wr m 12 0 44 (s1 + s0)) h kb ke
noncomputable def r_X12_goes_b2 (rec : Nat → Nat → List Int32 → Mem → Option Mem) (x2 : Int32) (x3 : Int32) (m : Mem) : Option ((Int32 × Mem) ⊕ (Mem)) :=
  if x2 ≤ x3 then (some (Sum.inr m)) else (if 200 ≤ (m 12 0 43) then (some (Sum.inr m)) else (if inb x3 80 = true then (if (m 81 x3.toNatClampNeg 0) = 5 then (r_X12_goes_l42_c2 rec x2 x3 0 (wr m 12 0 43 ((m 12 0 43) + 1))) else (bd2 (r_X12_does 0 x3.toNatClampNeg (wr m 12 0 43 ((m 12 0 43) + 1))) fun z13 m12 => (if z13 = true then (r_X12_goes_j120_c2 rec x2 x3 (b2i z13) 1 (m12 12 0 44) m12) else (r_X12_goes_j120_c2 rec x2 x3 (b2i z13) 0 (m12 12 0 44) m12)))) else none))
set_option maxHeartbeats 4000000 in
set_option maxRecDepth 20000 in
theorem ok_X12_goes_b2 (rec : Nat → Nat → List Int32 → Mem → Option Mem) {f0 l0 f9 l9 : Nat} (hrec : RG_goe f0 l0 rec) (hf : f0 + 1 ≤ f9) (hf2 : 12 ≤ f9) (hl : l0 + 24 ≤ l9) (hl2 : 270 ≤ l9) (x2 : Int32) (x3 : Int32) (m : Mem) {r : (Int32 × Mem) ⊕ (Mem)} (h : r_X12_goes_b2 rec x2 x3 m = some r) {o : Ou} {M' : Mem} (kb : ∀ (x3' : Int32) (m'' : Mem), r = Sum.inl (x3', m'') → Xj RX12 cX12_goes 5 none f9 l9 0 0 0 0 2 [(0, vR 12 0), (2, vI x2), (3, vI x3')] [] m'' o M') (ke : ∀ (m'' : Mem), r = Sum.inr m'' → Xj RX12 cX12_goes 5 none f9 l9 0 0 0 0 155 [] [] m'' o M') : Xj RX12 cX12_goes 5 none f9 l9 0 0 0 0 2 [(0, vR 12 0), (2, vI x2), (3, vI x3)] [] m o M' := by
  unfold r_X12_goes_b2 at h
  refine xj_iload_n 2 dX12_goes_2 rfl ?_
  refine xj_iload_n 1 dX12_goes_3 rfl ?_
  refine xj_icmp_ge (tgt := 155) dX12_goes_4 (by decide) (fun c1 => ?_) (fun c1 => ?_)
  · rw [if_pos c1] at h
    cases h
    refine xj_pick (ls' := []) [] rfl ?_
    exact ke m rfl
  · rw [if_neg c1] at h
    refine xj_aload_n 0 dX12_goes_7 rfl ?_
    refine xg_getI (x := (m 12 0 43)) dX12_goes_8 fl_X12_329 rfl rfl ?_
    refine xj_sipush (z := 200) dX12_goes_11 (by decide) ?_
    refine xj_icmp_ge (tgt := 155) dX12_goes_14 (by decide) (fun c2 => ?_) (fun c2 => ?_)
    · rw [if_pos c2] at h
      cases h
      refine xj_pick (ls' := []) [] rfl ?_
      exact ke m rfl
    · rw [if_neg c2] at h
      refine xj_aload_n 0 dX12_goes_17 rfl ?_
      refine xj_dup dX12_goes_18 rfl ?_
      refine xg_getI (x := (m 12 0 43)) dX12_goes_19 fl_X12_329 rfl rfl ?_
      refine xj_iconst (z := 1) dX12_goes_22 (by decide) ?_
      refine xj_iadd dX12_goes_23 ?_
      refine xj_putI dX12_goes_24 fw_X12_329 rfl ?_
      refine xj_aload_n 0 dX12_goes_27 rfl ?_
      refine xg_getR (k' := 82) (i' := 0) dX12_goes_28 fl_X12_70 rfl ?_
      refine xj_iload_n 2 dX12_goes_31 rfl ?_
      by_cases c3 : inb x3 80 = true
      case neg => rw [if_neg c3] at h; cases h
      rw [if_pos c3] at h
      refine xg_aald (k' := 81) (i' := x3.toNatClampNeg) (n := x3.toNatClampNeg) dX12_goes_32 rfl (by decide) (inb_in c3) rfl rfl ?_
      refine xj_iconst (z := 0) dX12_goes_33 (by decide) ?_
      refine xg_iald (z := (m 81 x3.toNatClampNeg 0)) (n := 0) dX12_goes_34 rfl (by decide) (inb_in (by decide)) (by decide) rfl ?_
      refine xj_iconst (z := 5) dX12_goes_35 (by decide) ?_
      refine xj_icmp_ne (tgt := 89) dX12_goes_36 (by decide) (fun c4 => ?_) (fun c4 => ?_)
      · rw [if_neg c4] at h
        refine xj_aload_n 0 dX12_goes_89 rfl ?_
        refine xj_aload_n 0 dX12_goes_90 rfl ?_
        refine xg_getR (k' := 60) (i' := 0) dX12_goes_91 fl_X12_73 rfl ?_
        refine xj_aload_n 0 dX12_goes_94 rfl ?_
        refine xg_getR (k' := 82) (i' := 0) dX12_goes_95 fl_X12_70 rfl ?_
        refine xj_iload_n 2 dX12_goes_98 rfl ?_
        refine xg_aald (k' := 81) (i' := x3.toNatClampNeg) (n := x3.toNatClampNeg) dX12_goes_99 rfl (by decide) (inb_in c3) rfl rfl ?_
        obtain ⟨z13, m12, e11, h⟩ := bd2_some h
        refine xc_Vb0 (st := []) (ok_X12_does 0 x3.toNatClampNeg (wr m 12 0 43 ((m 12 0 43) + 1)) e11) dX12_goes_100 cv_X12_335 rfl rfl (Nat.le_of_ble_eq_true rfl) (by omega) (by omega) (by decide) (by decide) ?_
        refine xj_istore (ls' := [(4, vI (b2i z13)), (0, vR 12 0), (2, vI x2), (3, vI x3)]) dX12_goes_103 (by decide) rfl ?_
        refine xj_aload_n 1 dX12_goes_105 rfl ?_
        refine xj_dup dX12_goes_106 rfl ?_
        refine xg_getI (x := (m12 12 0 44)) dX12_goes_107 fl_X12_339 rfl rfl ?_
        refine xj_iload 0 dX12_goes_110 rfl ?_
        refine xj_if_eq (tgt := 119) dX12_goes_112 (by decide) (fun c14 => ?_) (fun c14 => ?_)
        · rw [if_neg (b2i_f c14)] at h
          refine xj_iconst (z := 0) dX12_goes_119 (by decide) ?_
          refine xj_pick (ls' := [(0, vR 12 0), (2, vI x2), (3, vI x3), (4, vI (b2i z13))]) [1, 2, 3, 0] rfl ?_
          exact ok_X12_goes_j120_c2 rec hrec hf hf2 hl hl2 x2 x3 (b2i z13) 0 (m12 12 0 44) m12 h kb ke
        · rw [if_pos (b2i_t c14)] at h
          refine xj_iconst (z := 1) dX12_goes_115 (by decide) ?_
          refine xj_goto (tgt := 120) dX12_goes_116 (by decide) ?_
          refine xj_pick (ls' := [(0, vR 12 0), (2, vI x2), (3, vI x3), (4, vI (b2i z13))]) [1, 2, 3, 0] rfl ?_
          exact ok_X12_goes_j120_c2 rec hrec hf hf2 hl hl2 x2 x3 (b2i z13) 1 (m12 12 0 44) m12 h kb ke
      · rw [if_pos c4] at h
        refine xj_iconst (z := 0) dX12_goes_39 (by decide) ?_
        refine xj_istore (ls' := [(4, vI 0), (0, vR 12 0), (2, vI x2), (3, vI x3)]) dX12_goes_40 (by decide) rfl ?_
        refine xj_pick (ls' := [(0, vR 12 0), (2, vI x2), (3, vI x3), (4, vI 0)]) [1, 2, 3, 0] rfl ?_
        exact ok_X12_goes_l42_c2 rec hrec hf hf2 hl hl2 x2 x3 0 (wr m 12 0 43 ((m 12 0 43) + 1)) h kb ke
noncomputable def r_X12_goes_e155_h2 (rec : Nat → Nat → List Int32 → Mem → Option Mem) (m : Mem) : Option Mem :=
  some m
set_option maxHeartbeats 4000000 in
set_option maxRecDepth 20000 in
theorem ok_X12_goes_e155_h2 (rec : Nat → Nat → List Int32 → Mem → Option Mem) {f0 l0 f9 l9 : Nat} (hrec : RG_goe f0 l0 rec) (hf : f0 + 1 ≤ f9) (hf2 : 12 ≤ f9) (hl : l0 + 24 ≤ l9) (hl2 : 270 ≤ l9) (m : Mem) {m' : Mem} (h : r_X12_goes_e155_h2 rec m = some m') : Xj RX12 cX12_goes 5 none f9 l9 0 0 0 0 155 [] [] m oV m' := by
  unfold r_X12_goes_e155_h2 at h
  cases h
  exact xj_return dX12_goes_155 (by decide) (by decide)
noncomputable def r_X12_goes_l2 (rec : Nat → Nat → List Int32 → Mem → Option Mem) (x2 : Int32) (x3 : Int32) (m : Mem) : Option Mem :=
  bd1 (loopO (fun s => r_X12_goes_b2 rec x2 s.1 s.2) (x3, m)) (fun e => r_X12_goes_e155_h2 rec e)
set_option maxHeartbeats 4000000 in
set_option maxRecDepth 20000 in
theorem ok_X12_goes_l2 (rec : Nat → Nat → List Int32 → Mem → Option Mem) {f0 l0 f9 l9 : Nat} (hrec : RG_goe f0 l0 rec) (hf : f0 + 1 ≤ f9) (hf2 : 12 ≤ f9) (hl : l0 + 24 ≤ l9) (hl2 : 270 ≤ l9) (x2 : Int32) (x3 : Int32) (m : Mem) {m' : Mem} (h : r_X12_goes_l2 rec x2 x3 m = some m') : Xj RX12 cX12_goes 5 none f9 l9 0 0 0 0 2 [(0, vR 12 0), (2, vI x2), (3, vI x3)] [] m oV m' := by
  unfold r_X12_goes_l2 at h
  obtain ⟨e, e1, h⟩ := bd1_some h
  refine loopO_ok (P := fun s : (Int32 × Mem) => Xj RX12 cX12_goes 5 none f9 l9 0 0 0 0 2 [(0, vR 12 0), (2, vI x2), (3, vI s.1)] [] s.2 oV m') (Q := fun e : (Mem) => Xj RX12 cX12_goes 5 none f9 l9 0 0 0 0 155 [] [] e oV m') ?_ _ _ e1 ?_
  · intro s r9 h9 hi hx
    exact ok_X12_goes_b2 rec hrec hf hf2 hl hl2 x2 s.1 s.2 h9 (by rintro _ _ rfl; exact hi _ rfl) (by rintro _ rfl; exact hx _ rfl)
  · exact ok_X12_goes_e155_h2 rec hrec hf hf2 hl hl2 e h 
noncomputable def r_X12_goes (rec : Nat → Nat → List Int32 → Mem → Option Mem) (x1 : Int32) (x2 : Int32) (m : Mem) : Option Mem :=
  r_X12_goes_l2 rec x2 x1 m
set_option maxHeartbeats 4000000 in
set_option maxRecDepth 20000 in
theorem ok_X12_goes (rec : Nat → Nat → List Int32 → Mem → Option Mem) {f0 l0 f9 l9 : Nat} (hrec : RG_goe f0 l0 rec) (hf : f0 + 1 ≤ f9) (hf2 : 12 ≤ f9) (hl : l0 + 24 ≤ l9) (hl2 : 270 ≤ l9) (x1 : Int32) (x2 : Int32) (m : Mem) {m' : Mem} (h : r_X12_goes rec x1 x2 m = some m') : Mt yX12_goes cX12_goes 5 none f9 l9 0 0 [vR 12 0, vI x1, vI x2] m oV m' := by
  refine Mt.of (by decide) (Nat.le_of_ble_eq_true rfl) (by decide +kernel) (hhF_ne (by decide)) ?_
  show Xj RX12 cX12_goes 5 none f9 l9 0 0 0 0 0 [(0, vR 12 0), (1, vI x1), (2, vI x2)] [] m oV m'
  unfold r_X12_goes at h
  refine xj_iload_n 1 dX12_goes_0 rfl ?_
  refine xj_istore_n (ls' := [(3, vI x1), (0, vR 12 0), (1, vI x1), (2, vI x2)]) dX12_goes_1 rfl (by decide) rfl ?_
  refine xj_pick (ls' := [(0, vR 12 0), (2, vI x2), (3, vI x1)]) [1, 3, 0] rfl ?_
  exact ok_X12_goes_l2 rec hrec hf hf2 hl hl2 x2 x1 m h 
noncomputable def rec_goe : Nat → Nat → Nat → List Int32 → Mem → Option Mem
  | 0 => fun _ _ _ _ => none
  | g + 1 => fun sel i as m => match sel, as with
    | 0, [x1, x2] => r_X12_goes (rec_goe g) x1 x2 m
    | _, _ => none
theorem ok_rec_goe : ∀ g : Nat, RG_goe (12 + g) (270 + g * 24) (rec_goe g)
  | 0 => fun _ _ _ _ _ h => nomatch h
  | g + 1 => fun sel i as m m' h => by
    have ih := ok_rec_goe g
    unfold rec_goe at h
    split at h
    · exact ok_X12_goes (rec_goe g) ih (by omega) (by omega) (by omega) (by omega) _ _ m h
    · cases h
noncomputable def r_X12_goes_t (x1 : Int32) (x2 : Int32) (m : Mem) : Option Mem := rec_goe 9 0 0 [x1, x2] m
theorem ok_X12_goes_t (x1 : Int32) (x2 : Int32) (m : Mem) {m' : Mem} (h : r_X12_goes_t x1 x2 m = some m') : Mt yX12_goes cX12_goes 5 none 21 486 0 0 [vR 12 0, vI x1, vI x2] m oV m' := ok_rec_goe 9 0 0 [x1, x2] m _ h
noncomputable def r_X12_copies_b2 (i0 : Nat) (i1 : Nat) (x2 : Int32) (m : Mem) : Option ((Int32 × Mem) ⊕ (Mem)) :=
  if 111 ≤ x2 then (some (Sum.inr m)) else (if inb x2 111 = true then (some (Sum.inl (x2 + 1, (wr m 60 i1 x2.toNatClampNeg (m 60 i0 x2.toNatClampNeg))))) else none)
set_option maxHeartbeats 4000000 in
set_option maxRecDepth 20000 in
theorem ok_X12_copies_b2 (i0 : Nat) (i1 : Nat) (x2 : Int32) (m : Mem) {r : (Int32 × Mem) ⊕ (Mem)} (h : r_X12_copies_b2 i0 i1 x2 m = some r) {o : Ou} {M' : Mem} (kb : ∀ (x2' : Int32) (m'' : Mem), r = Sum.inl (x2', m'') → Xj RX12 cX12_copies 3 none 1 0 0 0 0 0 2 [(0, vR 60 i0), (1, vR 60 i1), (2, vI x2')] [] m'' o M') (ke : ∀ (m'' : Mem), r = Sum.inr m'' → Xj RX12 cX12_copies 3 none 1 0 0 0 0 0 20 [] [] m'' o M') : Xj RX12 cX12_copies 3 none 1 0 0 0 0 0 2 [(0, vR 60 i0), (1, vR 60 i1), (2, vI x2)] [] m o M' := by
  unfold r_X12_copies_b2 at h
  refine xj_iload_n 2 dX12_copies_2 rfl ?_
  refine xj_bipush (z := 111) dX12_copies_3 (by decide) ?_
  refine xj_icmp_ge (tgt := 20) dX12_copies_5 (by decide) (fun c1 => ?_) (fun c1 => ?_)
  · rw [if_pos c1] at h
    cases h
    refine xj_pick (ls' := []) [] rfl ?_
    exact ke m rfl
  · rw [if_neg c1] at h
    refine xj_aload_n 1 dX12_copies_8 rfl ?_
    refine xj_iload_n 2 dX12_copies_9 rfl ?_
    refine xj_aload_n 0 dX12_copies_10 rfl ?_
    refine xj_iload_n 2 dX12_copies_11 rfl ?_
    by_cases c2 : inb x2 111 = true
    case neg => rw [if_neg c2] at h; cases h
    rw [if_pos c2] at h
    refine xg_iald (z := (m 60 i0 x2.toNatClampNeg)) (n := x2.toNatClampNeg) dX12_copies_12 rfl (by decide) (inb_in c2) rfl rfl ?_
    refine xg_iast (n := x2.toNatClampNeg) dX12_copies_13 rfl (by decide) (inb_in c2) rfl ?_
    refine xj_iinc (z := x2 + 1) (ls' := [(2, vI (x2 + 1)), (0, vR 60 i0), (1, vR 60 i1)]) 2 dX12_copies_14 rfl rfl (by decide) rfl ?_
    refine xj_goto (tgt := 2) dX12_copies_17 (by decide) ?_
    cases h
    refine xj_pick (ls' := [(0, vR 60 i0), (1, vR 60 i1), (2, vI (x2 + 1))]) [1, 2, 0] rfl ?_
    exact kb (x2 + 1) (wr m 60 i1 x2.toNatClampNeg (m 60 i0 x2.toNatClampNeg)) rfl
noncomputable def r_X12_copies_e20_h2 (m : Mem) : Option Mem :=
  some m
set_option maxHeartbeats 4000000 in
set_option maxRecDepth 20000 in
theorem ok_X12_copies_e20_h2 (m : Mem) {m' : Mem} (h : r_X12_copies_e20_h2 m = some m') : Xj RX12 cX12_copies 3 none 1 0 0 0 0 0 20 [] [] m oV m' := by
  unfold r_X12_copies_e20_h2 at h
  cases h
  exact xj_return dX12_copies_20 (by decide) (by decide)
noncomputable def r_X12_copies_l2 (i0 : Nat) (i1 : Nat) (x2 : Int32) (m : Mem) : Option Mem :=
  bd1 (loopO (fun s => r_X12_copies_b2 i0 i1 s.1 s.2) (x2, m)) (fun e => r_X12_copies_e20_h2 e)
set_option maxHeartbeats 4000000 in
set_option maxRecDepth 20000 in
theorem ok_X12_copies_l2 (i0 : Nat) (i1 : Nat) (x2 : Int32) (m : Mem) {m' : Mem} (h : r_X12_copies_l2 i0 i1 x2 m = some m') : Xj RX12 cX12_copies 3 none 1 0 0 0 0 0 2 [(0, vR 60 i0), (1, vR 60 i1), (2, vI x2)] [] m oV m' := by
  unfold r_X12_copies_l2 at h
  obtain ⟨e, e1, h⟩ := bd1_some h
  refine loopO_ok (P := fun s : (Int32 × Mem) => Xj RX12 cX12_copies 3 none 1 0 0 0 0 0 2 [(0, vR 60 i0), (1, vR 60 i1), (2, vI s.1)] [] s.2 oV m') (Q := fun e : (Mem) => Xj RX12 cX12_copies 3 none 1 0 0 0 0 0 20 [] [] e oV m') ?_ _ _ e1 ?_
  · intro s r9 h9 hi hx
    exact ok_X12_copies_b2 i0 i1 s.1 s.2 h9 (by rintro _ _ rfl; exact hi _ rfl) (by rintro _ rfl; exact hx _ rfl)
  · exact ok_X12_copies_e20_h2 e h 
noncomputable def r_X12_copies (i0 : Nat) (i1 : Nat) (m : Mem) : Option Mem :=
  r_X12_copies_l2 i0 i1 0 m
set_option maxHeartbeats 4000000 in
set_option maxRecDepth 20000 in
theorem ok_X12_copies (i0 : Nat) (i1 : Nat) (m : Mem) {m' : Mem} (h : r_X12_copies i0 i1 m = some m') : Mt yX12_copies cX12_copies 3 none 1 0 0 0 [vR 60 i0, vR 60 i1] m oV m' := by
  refine Mt.of (by decide) (Nat.le_of_ble_eq_true rfl) (by decide +kernel) (hhF_ne (by decide)) ?_
  show Xj RX12 cX12_copies 3 none 1 0 0 0 0 0 0 [(0, vR 60 i0), (1, vR 60 i1)] [] m oV m'
  unfold r_X12_copies at h
  refine xj_iconst (z := 0) dX12_copies_0 (by decide) ?_
  refine xj_istore_n (ls' := [(2, vI 0), (0, vR 60 i0), (1, vR 60 i1)]) dX12_copies_1 rfl (by decide) rfl ?_
  refine xj_pick (ls' := [(0, vR 60 i0), (1, vR 60 i1), (2, vI 0)]) [1, 2, 0] rfl ?_
  exact ok_X12_copies_l2 i0 i1 0 m h 
noncomputable def r_X12_draw (x1 : Int32) (m : Mem) : Option (Int32 × Mem) :=
  if x1 = 0 then none else (some ((remI (((((m 12 0 50) * 1103515245) + 12345) >>> (16 &&& 31)) &&& 32767) x1), (wr m 12 0 50 (((m 12 0 50) * 1103515245) + 12345))))
set_option maxHeartbeats 4000000 in
set_option maxRecDepth 20000 in
theorem ok_X12_draw (x1 : Int32) (m : Mem) {z : Int32} {m' : Mem} (h : r_X12_draw x1 m = some (z, m')) : Mt yX12_draw cX12_draw 2 (some .int) 1 0 0 0 [vR 12 0, vI x1] m (oI z) m' := by
  refine Mt.of (by decide) (Nat.le_of_ble_eq_true rfl) (by decide +kernel) (hhF_ne (by decide)) ?_
  show Xj RX12 cX12_draw 2 (some .int) 1 0 0 0 0 0 0 [(0, vR 12 0), (1, vI x1)] [] m (oI z) m'
  unfold r_X12_draw at h
  refine xj_aload_n 0 dX12_draw_0 rfl ?_
  refine xj_aload_n 0 dX12_draw_1 rfl ?_
  refine xg_getI (x := (m 12 0 50)) dX12_draw_2 fl_X12_405 rfl rfl ?_
  refine xj_ldcw (z := 1103515245) dX12_draw_5 wt_1978 ?_
  refine xj_imul dX12_draw_8 ?_
  refine xj_sipush (z := 12345) dX12_draw_9 (by decide) ?_
  refine xj_iadd dX12_draw_12 ?_
  refine xj_putI dX12_draw_13 fw_X12_405 rfl ?_
  refine xj_aload_n 0 dX12_draw_16 rfl ?_
  refine xg_getI (x := (((m 12 0 50) * 1103515245) + 12345)) dX12_draw_17 fl_X12_405 rfl rfl ?_
  refine xj_bipush (z := 16) dX12_draw_20 (by decide) ?_
  refine xj_ishr dX12_draw_22 ?_
  refine xj_sipush (z := 32767) dX12_draw_23 (by decide) ?_
  refine xj_iand dX12_draw_26 ?_
  refine xj_iload_n 1 dX12_draw_27 rfl ?_
  by_cases c1 : x1 = 0
  · rw [if_pos c1] at h; cases h
  rw [if_neg c1] at h
  refine xg_irem dX12_draw_28 c1 ?_
  cases h
  exact xj_ireturn dX12_draw_29 rfl (by decide) (by decide)
noncomputable def r_X12_yearBy_j118_c24 (x2 : Int32) (x3 : Int32) (x4 : Int32) (m : Mem) : Option ((Int32 × Mem) ⊕ (Mem)) :=
  bd1 (r_X12_dayEnds 1 m) fun m6 => (some (Sum.inl (x4 + 1, m6)))
set_option maxHeartbeats 4000000 in
set_option maxRecDepth 20000 in
theorem ok_X12_yearBy_j118_c24 (x2 : Int32) (x3 : Int32) (x4 : Int32) (m : Mem) {r : (Int32 × Mem) ⊕ (Mem)} (h : r_X12_yearBy_j118_c24 x2 x3 x4 m = some r) {o : Ou} {M' : Mem} (kb : ∀ (x4' : Int32) (m'' : Mem), r = Sum.inl (x4', m'') → Xj RX12 cX12_yearBy 6 none 11 245 0 0 0 0 24 [(0, vR 12 0), (2, vI x2), (3, vI x3), (4, vI x4')] [] m'' o M') (ke : ∀ (m'' : Mem), r = Sum.inr m'' → Xj RX12 cX12_yearBy 6 none 11 245 0 0 0 0 132 [] [] m'' o M') : Xj RX12 cX12_yearBy 6 none 11 245 0 0 0 0 118 [(0, vR 12 0), (2, vI x2), (3, vI x3), (4, vI x4)] [] m o M' := by
  unfold r_X12_yearBy_j118_c24 at h
  refine xj_aload_n 0 dX12_yearBy_118 rfl ?_
  refine xj_aload_n 0 dX12_yearBy_119 rfl ?_
  refine xg_getR (k' := 60) (i' := 1) dX12_yearBy_120 fl_X12_76 rfl ?_
  obtain ⟨m6, e5, h⟩ := bd1_some h
  refine xc_Vv0 (st := []) (ok_X12_dayEnds 1 m e5) dX12_yearBy_123 cv_X12_326 rfl rfl (Nat.le_of_ble_eq_true rfl) (by decide) (by decide) (by decide) (by decide) ?_
  refine xj_iinc (z := x4 + 1) (ls' := [(4, vI (x4 + 1)), (0, vR 12 0), (2, vI x2), (3, vI x3)]) 3 dX12_yearBy_126 rfl rfl (by decide) rfl ?_
  refine xj_goto (tgt := 24) dX12_yearBy_129 (by decide) ?_
  cases h
  refine xj_pick (ls' := [(0, vR 12 0), (2, vI x2), (3, vI x3), (4, vI (x4 + 1))]) [1, 2, 3, 0] rfl ?_
  exact kb (x4 + 1) m6 rfl
noncomputable def r_X12_yearBy_j84_c24 (x2 : Int32) (x3 : Int32) (x4 : Int32) (x5 : Int32) (s0 : Int32) (s1 : Int32) (m : Mem) : Option ((Int32 × Mem) ⊕ (Mem)) :=
  bd2 (r_X12_draw 16 (wr m 12 0 51 (s1 + s0))) fun z19 m18 => (if x3 ≤ z19 then (r_X12_yearBy_j118_c24 x2 x3 x4 m18) else (if inb (72 + x5) 111 = true then (bd2 (r_X12_forgets 1 x5 (m18 60 1 ((72 + x5).toNatClampNeg)) m18) fun z24 m23 => (r_X12_yearBy_j118_c24 x2 x3 x4 m23)) else none))
set_option maxHeartbeats 4000000 in
set_option maxRecDepth 20000 in
theorem ok_X12_yearBy_j84_c24 (x2 : Int32) (x3 : Int32) (x4 : Int32) (x5 : Int32) (s0 : Int32) (s1 : Int32) (m : Mem) {r : (Int32 × Mem) ⊕ (Mem)} (h : r_X12_yearBy_j84_c24 x2 x3 x4 x5 s0 s1 m = some r) {o : Ou} {M' : Mem} (kb : ∀ (x4' : Int32) (m'' : Mem), r = Sum.inl (x4', m'') → Xj RX12 cX12_yearBy 6 none 11 245 0 0 0 0 24 [(0, vR 12 0), (2, vI x2), (3, vI x3), (4, vI x4')] [] m'' o M') (ke : ∀ (m'' : Mem), r = Sum.inr m'' → Xj RX12 cX12_yearBy 6 none 11 245 0 0 0 0 132 [] [] m'' o M') : Xj RX12 cX12_yearBy 6 none 11 245 0 0 0 0 84 [(0, vR 12 0), (2, vI x2), (3, vI x3), (4, vI x4), (5, vI x5)] [vI s0, vI s1, vR 12 0] m o M' := by
  unfold r_X12_yearBy_j84_c24 at h
  refine xj_iadd dX12_yearBy_84 ?_
  refine xj_putI dX12_yearBy_85 fw_X12_409 rfl ?_
  refine xj_aload_n 0 dX12_yearBy_88 rfl ?_
  refine xj_bipush (z := 16) dX12_yearBy_89 (by decide) ?_
  obtain ⟨z19, m18, e17, h⟩ := bd2_some h
  refine xc_Vi0 (st := []) (ok_X12_draw 16 (wr m 12 0 51 (s1 + s0)) e17) dX12_yearBy_91 cv_X12_412 rfl rfl (Nat.le_of_ble_eq_true rfl) (by decide) (by decide) (by decide) (by decide) ?_
  refine xj_iload_n 2 dX12_yearBy_94 rfl ?_
  refine xj_icmp_ge (tgt := 118) dX12_yearBy_95 (by decide) (fun c20 => ?_) (fun c20 => ?_)
  · rw [if_pos c20] at h
    refine xj_pick (ls' := [(0, vR 12 0), (2, vI x2), (3, vI x3), (4, vI x4)]) [0, 1, 2, 3] rfl ?_
    exact ok_X12_yearBy_j118_c24 x2 x3 x4 m18 h kb ke
  · rw [if_neg c20] at h
    refine xj_aload_n 0 dX12_yearBy_98 rfl ?_
    refine xg_getR (k' := 60) (i' := 1) dX12_yearBy_99 fl_X12_76 rfl ?_
    refine xj_iload 4 dX12_yearBy_102 rfl ?_
    refine xj_aload_n 0 dX12_yearBy_104 rfl ?_
    refine xg_getR (k' := 60) (i' := 1) dX12_yearBy_105 fl_X12_76 rfl ?_
    refine xj_bipush (z := 72) dX12_yearBy_108 (by decide) ?_
    refine xj_iload 4 dX12_yearBy_110 rfl ?_
    refine xj_iadd dX12_yearBy_112 ?_
    by_cases c21 : inb (72 + x5) 111 = true
    case neg => rw [if_neg c21] at h; cases h
    rw [if_pos c21] at h
    refine xg_iald (z := (m18 60 1 ((72 + x5).toNatClampNeg))) (n := (72 + x5).toNatClampNeg) dX12_yearBy_113 rfl (by decide) (inb_in c21) rfl rfl ?_
    obtain ⟨z24, m23, e22, h⟩ := bd2_some h
    refine xc_Sb0 (st := []) (ok_X12_forgets 1 x5 (m18 60 1 ((72 + x5).toNatClampNeg)) m18 e22) dX12_yearBy_114 cs_X12_319 rfl rfl (Nat.le_of_ble_eq_true rfl) (by decide) (by decide) (by decide) (by decide) ?_
    refine xj_pop dX12_yearBy_117 rfl ?_
    refine xj_pick (ls' := [(0, vR 12 0), (2, vI x2), (3, vI x3), (4, vI x4)]) [0, 1, 2, 3] rfl ?_
    exact ok_X12_yearBy_j118_c24 x2 x3 x4 m23 h kb ke
noncomputable def r_X12_yearBy_b24 (x2 : Int32) (x3 : Int32) (x4 : Int32) (m : Mem) : Option ((Int32 × Mem) ⊕ (Mem)) :=
  if x2 ≤ x4 then (some (Sum.inr m)) else (if (m 52 0 2) ≤ 0 then (r_X12_yearBy_j118_c24 x2 x3 x4 m) else (bd2 (r_X12_draw (m 52 0 2) m) fun z9 m8 => (bd2 (r_X12_draw (m8 52 0 0) m8) fun z12 m11 => (bd2 (r_X12_walks 1 z9 z12 m11) fun z15 m14 => (if z15 = true then (r_X12_yearBy_j84_c24 x2 x3 x4 z9 1 (m8 12 0 51) m14) else (r_X12_yearBy_j84_c24 x2 x3 x4 z9 0 (m8 12 0 51) m14))))))
set_option maxHeartbeats 4000000 in
set_option maxRecDepth 20000 in
theorem ok_X12_yearBy_b24 (x2 : Int32) (x3 : Int32) (x4 : Int32) (m : Mem) {r : (Int32 × Mem) ⊕ (Mem)} (h : r_X12_yearBy_b24 x2 x3 x4 m = some r) {o : Ou} {M' : Mem} (kb : ∀ (x4' : Int32) (m'' : Mem), r = Sum.inl (x4', m'') → Xj RX12 cX12_yearBy 6 none 11 245 0 0 0 0 24 [(0, vR 12 0), (2, vI x2), (3, vI x3), (4, vI x4')] [] m'' o M') (ke : ∀ (m'' : Mem), r = Sum.inr m'' → Xj RX12 cX12_yearBy 6 none 11 245 0 0 0 0 132 [] [] m'' o M') : Xj RX12 cX12_yearBy 6 none 11 245 0 0 0 0 24 [(0, vR 12 0), (2, vI x2), (3, vI x3), (4, vI x4)] [] m o M' := by
  unfold r_X12_yearBy_b24 at h
  refine xj_iload 3 dX12_yearBy_24 rfl ?_
  refine xj_iload_n 1 dX12_yearBy_26 rfl ?_
  refine xj_icmp_ge (tgt := 132) dX12_yearBy_27 (by decide) (fun c3 => ?_) (fun c3 => ?_)
  · rw [if_pos c3] at h
    cases h
    refine xj_pick (ls' := []) [] rfl ?_
    exact ke m rfl
  · rw [if_neg c3] at h
    refine xj_aload_n 0 dX12_yearBy_30 rfl ?_
    refine xg_getR (k' := 52) (i' := 0) dX12_yearBy_31 fl_X12_23 rfl ?_
    refine xj_iconst (z := 2) dX12_yearBy_34 (by decide) ?_
    refine xg_iald (z := (m 52 0 2)) (n := 2) dX12_yearBy_35 rfl (by decide) (inb_in (by decide)) (by decide) rfl ?_
    refine xj_if_le (tgt := 118) dX12_yearBy_36 (by decide) (fun c4 => ?_) (fun c4 => ?_)
    · rw [if_pos c4] at h
      exact ok_X12_yearBy_j118_c24 x2 x3 x4 m h kb ke
    · rw [if_neg c4] at h
      refine xj_aload_n 0 dX12_yearBy_39 rfl ?_
      refine xj_aload_n 0 dX12_yearBy_40 rfl ?_
      refine xg_getR (k' := 52) (i' := 0) dX12_yearBy_41 fl_X12_23 rfl ?_
      refine xj_iconst (z := 2) dX12_yearBy_44 (by decide) ?_
      refine xg_iald (z := (m 52 0 2)) (n := 2) dX12_yearBy_45 rfl (by decide) (inb_in (by decide)) (by decide) rfl ?_
      obtain ⟨z9, m8, e7, h⟩ := bd2_some h
      refine xc_Vi0 (st := []) (ok_X12_draw (m 52 0 2) m e7) dX12_yearBy_46 cv_X12_412 rfl rfl (Nat.le_of_ble_eq_true rfl) (by decide) (by decide) (by decide) (by decide) ?_
      refine xj_istore (ls' := [(5, vI z9), (0, vR 12 0), (2, vI x2), (3, vI x3), (4, vI x4)]) dX12_yearBy_49 (by decide) rfl ?_
      refine xj_aload_n 1 dX12_yearBy_51 rfl ?_
      refine xj_dup dX12_yearBy_52 rfl ?_
      refine xg_getI (x := (m8 12 0 51)) dX12_yearBy_53 fl_X12_409 rfl rfl ?_
      refine xj_aload_n 1 dX12_yearBy_56 rfl ?_
      refine xj_aload_n 1 dX12_yearBy_57 rfl ?_
      refine xg_getR (k' := 60) (i' := 1) dX12_yearBy_58 fl_X12_76 rfl ?_
      refine xj_iload 0 dX12_yearBy_61 rfl ?_
      refine xj_aload_n 1 dX12_yearBy_63 rfl ?_
      refine xj_aload_n 1 dX12_yearBy_64 rfl ?_
      refine xg_getR (k' := 52) (i' := 0) dX12_yearBy_65 fl_X12_23 rfl ?_
      refine xj_iconst (z := 0) dX12_yearBy_68 (by decide) ?_
      refine xg_iald (z := (m8 52 0 0)) (n := 0) dX12_yearBy_69 rfl (by decide) (inb_in (by decide)) (by decide) rfl ?_
      obtain ⟨z12, m11, e10, h⟩ := bd2_some h
      refine xc_Vi0 (st := [vI z9, vR 60 1, vR 12 0, vI (m8 12 0 51), vR 12 0]) (ok_X12_draw (m8 52 0 0) m8 e10) dX12_yearBy_70 cv_X12_412 rfl rfl (Nat.le_of_ble_eq_true rfl) (by decide) (by decide) (by decide) (by decide) ?_
      obtain ⟨z15, m14, e13, h⟩ := bd2_some h
      refine xc_Vb0 (st := [vI (m8 12 0 51), vR 12 0]) (ok_X12_walks 1 z9 z12 m11 e13) dX12_yearBy_73 cv_X12_323 rfl rfl (Nat.le_of_ble_eq_true rfl) (by decide) (by decide) (by decide) (by decide) ?_
      refine xj_if_eq (tgt := 83) dX12_yearBy_76 (by decide) (fun c16 => ?_) (fun c16 => ?_)
      · rw [if_neg (b2i_f c16)] at h
        refine xj_iconst (z := 0) dX12_yearBy_83 (by decide) ?_
        refine xj_pick (ls' := [(0, vR 12 0), (2, vI x2), (3, vI x3), (4, vI x4), (5, vI z9)]) [1, 2, 3, 4, 0] rfl ?_
        exact ok_X12_yearBy_j84_c24 x2 x3 x4 z9 0 (m8 12 0 51) m14 h kb ke
      · rw [if_pos (b2i_t c16)] at h
        refine xj_iconst (z := 1) dX12_yearBy_79 (by decide) ?_
        refine xj_goto (tgt := 84) dX12_yearBy_80 (by decide) ?_
        refine xj_pick (ls' := [(0, vR 12 0), (2, vI x2), (3, vI x3), (4, vI x4), (5, vI z9)]) [1, 2, 3, 4, 0] rfl ?_
        exact ok_X12_yearBy_j84_c24 x2 x3 x4 z9 1 (m8 12 0 51) m14 h kb ke
noncomputable def r_X12_yearBy_e132_h24 (m : Mem) : Option Mem :=
  some m
set_option maxHeartbeats 4000000 in
set_option maxRecDepth 20000 in
theorem ok_X12_yearBy_e132_h24 (m : Mem) {m' : Mem} (h : r_X12_yearBy_e132_h24 m = some m') : Xj RX12 cX12_yearBy 6 none 11 245 0 0 0 0 132 [] [] m oV m' := by
  unfold r_X12_yearBy_e132_h24 at h
  cases h
  exact xj_return dX12_yearBy_132 (by decide) (by decide)
noncomputable def r_X12_yearBy_l24 (x2 : Int32) (x3 : Int32) (x4 : Int32) (m : Mem) : Option Mem :=
  bd1 (loopO (fun s => r_X12_yearBy_b24 x2 x3 s.1 s.2) (x4, m)) (fun e => r_X12_yearBy_e132_h24 e)
set_option maxHeartbeats 4000000 in
set_option maxRecDepth 20000 in
theorem ok_X12_yearBy_l24 (x2 : Int32) (x3 : Int32) (x4 : Int32) (m : Mem) {m' : Mem} (h : r_X12_yearBy_l24 x2 x3 x4 m = some m') : Xj RX12 cX12_yearBy 6 none 11 245 0 0 0 0 24 [(0, vR 12 0), (2, vI x2), (3, vI x3), (4, vI x4)] [] m oV m' := by
  unfold r_X12_yearBy_l24 at h
  obtain ⟨e, e1, h⟩ := bd1_some h
  refine loopO_ok (P := fun s : (Int32 × Mem) => Xj RX12 cX12_yearBy 6 none 11 245 0 0 0 0 24 [(0, vR 12 0), (2, vI x2), (3, vI x3), (4, vI s.1)] [] s.2 oV m') (Q := fun e : (Mem) => Xj RX12 cX12_yearBy 6 none 11 245 0 0 0 0 132 [] [] e oV m') ?_ _ _ e1 ?_
  · intro s r9 h9 hi hx
    exact ok_X12_yearBy_b24 x2 x3 s.1 s.2 h9 (by rintro _ _ rfl; exact hi _ rfl) (by rintro _ rfl; exact hx _ rfl)
  · exact ok_X12_yearBy_e132_h24 e h 
noncomputable def r_X12_yearBy (x1 : Int32) (x2 : Int32) (x3 : Int32) (m : Mem) : Option Mem :=
  bd1 (r_X12_copies 0 1 m) fun m2 => (r_X12_yearBy_l24 x2 x3 0 (wr (wr m2 12 0 50 x1) 12 0 51 0))
set_option maxHeartbeats 4000000 in
set_option maxRecDepth 20000 in
theorem ok_X12_yearBy (x1 : Int32) (x2 : Int32) (x3 : Int32) (m : Mem) {m' : Mem} (h : r_X12_yearBy x1 x2 x3 m = some m') : Mt yX12_yearBy cX12_yearBy 6 none 11 245 0 0 [vR 12 0, vI x1, vI x2, vI x3] m oV m' := by
  refine Mt.of (by decide) (Nat.le_of_ble_eq_true rfl) (by decide +kernel) (hhF_ne (by decide)) ?_
  show Xj RX12 cX12_yearBy 6 none 11 245 0 0 0 0 0 [(0, vR 12 0), (1, vI x1), (2, vI x2), (3, vI x3)] [] m oV m'
  unfold r_X12_yearBy at h
  refine xj_aload_n 0 dX12_yearBy_0 rfl ?_
  refine xg_getR (k' := 60) (i' := 0) dX12_yearBy_1 fl_X12_73 rfl ?_
  refine xj_aload_n 0 dX12_yearBy_4 rfl ?_
  refine xg_getR (k' := 60) (i' := 1) dX12_yearBy_5 fl_X12_76 rfl ?_
  obtain ⟨m2, e1, h⟩ := bd1_some h
  refine xc_Sv0 (st := []) (ok_X12_copies 0 1 m e1) dX12_yearBy_8 cs_X12_342 rfl rfl (Nat.le_of_ble_eq_true rfl) (by decide) (by decide) (by decide) (by decide) ?_
  refine xj_aload_n 0 dX12_yearBy_11 rfl ?_
  refine xj_iload_n 1 dX12_yearBy_12 rfl ?_
  refine xj_putI dX12_yearBy_13 fw_X12_405 rfl ?_
  refine xj_aload_n 0 dX12_yearBy_16 rfl ?_
  refine xj_iconst (z := 0) dX12_yearBy_17 (by decide) ?_
  refine xj_putI dX12_yearBy_18 fw_X12_409 rfl ?_
  refine xj_iconst (z := 0) dX12_yearBy_21 (by decide) ?_
  refine xj_istore (ls' := [(4, vI 0), (0, vR 12 0), (1, vI x1), (2, vI x2), (3, vI x3)]) dX12_yearBy_22 (by decide) rfl ?_
  refine xj_pick (ls' := [(0, vR 12 0), (2, vI x2), (3, vI x3), (4, vI 0)]) [1, 3, 4, 0] rfl ?_
  exact ok_X12_yearBy_l24 x2 x3 0 (wr (wr m2 12 0 50 x1) 12 0 51 0) h 
noncomputable def r_X12_laysFar_j56_c14 (x1 : Int32) (x2 : Int32) (s0 : Int32) (s1 : Int32) (q2 : Nat) (m : Mem) : Option ((Int32 × Mem) ⊕ (Mem)) :=
  if inb s1 12 = true then (some (Sum.inl (x2 + 1, (wr m 89 q2 s1.toNatClampNeg s0)))) else none
set_option maxHeartbeats 4000000 in
set_option maxRecDepth 20000 in
theorem ok_X12_laysFar_j56_c14 (x1 : Int32) (x2 : Int32) (s0 : Int32) (s1 : Int32) (q2 : Nat) (m : Mem) {r : (Int32 × Mem) ⊕ (Mem)} (h : r_X12_laysFar_j56_c14 x1 x2 s0 s1 q2 m = some r) {o : Ou} {M' : Mem} (kb : ∀ (x2' : Int32) (m'' : Mem), r = Sum.inl (x2', m'') → Xj RX12 cX12_laysFar 4 none 2 23 0 0 0 0 14 [(0, vR 12 0), (1, vI x1), (2, vI x2')] [] m'' o M') (ke : ∀ (m'' : Mem), r = Sum.inr m'' → Xj RX12 cX12_laysFar 4 none 2 23 0 0 0 0 63 [(0, vR 12 0), (1, vI x1)] [] m'' o M') : Xj RX12 cX12_laysFar 4 none 2 23 0 0 0 0 56 [(0, vR 12 0), (1, vI x1), (2, vI x2)] [vI s0, vI s1, vR 89 q2] m o M' := by
  unfold r_X12_laysFar_j56_c14 at h
  by_cases c5 : inb s1 12 = true
  case neg => rw [if_neg c5] at h; cases h
  rw [if_pos c5] at h
  refine xg_iast (n := s1.toNatClampNeg) dX12_laysFar_56 rfl (by decide) (inb_in c5) rfl ?_
  refine xj_iinc (z := x2 + 1) (ls' := [(2, vI (x2 + 1)), (0, vR 12 0), (1, vI x1)]) 2 dX12_laysFar_57 rfl rfl (by decide) rfl ?_
  refine xj_goto (tgt := 14) dX12_laysFar_60 (by decide) ?_
  cases h
  refine xj_pick (ls' := [(0, vR 12 0), (1, vI x1), (2, vI (x2 + 1))]) [1, 2, 0] rfl ?_
  exact kb (x2 + 1) (wr m 89 q2 s1.toNatClampNeg s0) rfl
noncomputable def r_X12_laysFar_b14_c2 (x1 : Int32) (x2 : Int32) (m : Mem) : Option ((Int32 × Mem) ⊕ (Mem)) :=
  if (m 52 0 0) ≤ x2 then (some (Sum.inr m)) else (if inb x1 12 = true then (if x1 = x2 then (r_X12_laysFar_j56_c14 x1 x2 0 x2 x1.toNatClampNeg m) else (bd1 (r_X12_between x1 x2 m) fun z7 => (if z7 = (-1) then (r_X12_laysFar_j56_c14 x1 x2 99 x2 x1.toNatClampNeg m) else (r_X12_laysFar_j56_c14 x1 x2 1 x2 x1.toNatClampNeg m)))) else none)
set_option maxHeartbeats 4000000 in
set_option maxRecDepth 20000 in
theorem ok_X12_laysFar_b14_c2 (x1 : Int32) (x2 : Int32) (m : Mem) {r : (Int32 × Mem) ⊕ (Mem)} (h : r_X12_laysFar_b14_c2 x1 x2 m = some r) {o : Ou} {M' : Mem} (kb : ∀ (x2' : Int32) (m'' : Mem), r = Sum.inl (x2', m'') → Xj RX12 cX12_laysFar 4 none 2 23 0 0 0 0 14 [(0, vR 12 0), (1, vI x1), (2, vI x2')] [] m'' o M') (ke : ∀ (m'' : Mem), r = Sum.inr m'' → Xj RX12 cX12_laysFar 4 none 2 23 0 0 0 0 63 [(0, vR 12 0), (1, vI x1)] [] m'' o M') : Xj RX12 cX12_laysFar 4 none 2 23 0 0 0 0 14 [(0, vR 12 0), (1, vI x1), (2, vI x2)] [] m o M' := by
  unfold r_X12_laysFar_b14_c2 at h
  refine xj_iload_n 2 dX12_laysFar_14 rfl ?_
  refine xj_aload_n 0 dX12_laysFar_15 rfl ?_
  refine xg_getR (k' := 52) (i' := 0) dX12_laysFar_16 fl_X12_23 rfl ?_
  refine xj_iconst (z := 0) dX12_laysFar_19 (by decide) ?_
  refine xg_iald (z := (m 52 0 0)) (n := 0) dX12_laysFar_20 rfl (by decide) (inb_in (by decide)) (by decide) rfl ?_
  refine xj_icmp_ge (tgt := 63) dX12_laysFar_21 (by decide) (fun c2 => ?_) (fun c2 => ?_)
  · rw [if_pos c2] at h
    cases h
    refine xj_pick (ls' := [(0, vR 12 0), (1, vI x1)]) [0, 1] rfl ?_
    exact ke m rfl
  · rw [if_neg c2] at h
    refine xj_aload_n 0 dX12_laysFar_24 rfl ?_
    refine xg_getR (k' := 90) (i' := 0) dX12_laysFar_25 fl_X12_100 rfl ?_
    refine xj_iload_n 1 dX12_laysFar_28 rfl ?_
    by_cases c3 : inb x1 12 = true
    case neg => rw [if_neg c3] at h; cases h
    rw [if_pos c3] at h
    refine xg_aald (k' := 89) (i' := x1.toNatClampNeg) (n := x1.toNatClampNeg) dX12_laysFar_29 rfl (by decide) (inb_in c3) rfl rfl ?_
    refine xj_iload_n 2 dX12_laysFar_30 rfl ?_
    refine xj_iload_n 1 dX12_laysFar_31 rfl ?_
    refine xj_iload_n 2 dX12_laysFar_32 rfl ?_
    refine xj_icmp_ne (tgt := 40) dX12_laysFar_33 (by decide) (fun c4 => ?_) (fun c4 => ?_)
    · rw [if_neg c4] at h
      refine xj_aload_n 0 dX12_laysFar_40 rfl ?_
      refine xj_iload_n 1 dX12_laysFar_41 rfl ?_
      refine xj_iload_n 2 dX12_laysFar_42 rfl ?_
      obtain ⟨z7, e6, h⟩ := bd1_some h
      refine xc_Vi0 (st := [vI x2, vR 89 x1.toNatClampNeg]) (ok_X12_between x1 x2 m e6) dX12_laysFar_43 cv_X12_267 rfl rfl (Nat.le_of_ble_eq_true rfl) (by decide) (by decide) (by decide) (by decide) ?_
      refine xj_iconst (z := (-1)) dX12_laysFar_46 (by decide) ?_
      refine xj_icmp_ne (tgt := 55) dX12_laysFar_47 (by decide) (fun c8 => ?_) (fun c8 => ?_)
      · rw [if_neg c8] at h
        refine xj_iconst (z := 1) dX12_laysFar_55 (by decide) ?_
        exact ok_X12_laysFar_j56_c14 x1 x2 1 x2 x1.toNatClampNeg m h kb ke
      · rw [if_pos c8] at h
        refine xj_bipush (z := 99) dX12_laysFar_50 (by decide) ?_
        refine xj_goto (tgt := 56) dX12_laysFar_52 (by decide) ?_
        exact ok_X12_laysFar_j56_c14 x1 x2 99 x2 x1.toNatClampNeg m h kb ke
    · rw [if_pos c4] at h
      refine xj_iconst (z := 0) dX12_laysFar_36 (by decide) ?_
      refine xj_goto (tgt := 56) dX12_laysFar_37 (by decide) ?_
      exact ok_X12_laysFar_j56_c14 x1 x2 0 x2 x1.toNatClampNeg m h kb ke
noncomputable def r_X12_laysFar_e63_h14_c2 (x1 : Int32) (m : Mem) : Option ((Int32 × Mem) ⊕ (Mem)) :=
  some (Sum.inl (x1 + 1, m))
set_option maxHeartbeats 4000000 in
set_option maxRecDepth 20000 in
theorem ok_X12_laysFar_e63_h14_c2 (x1 : Int32) (m : Mem) {r : (Int32 × Mem) ⊕ (Mem)} (h : r_X12_laysFar_e63_h14_c2 x1 m = some r) {o : Ou} {M' : Mem} (kb : ∀ (x1' : Int32) (m'' : Mem), r = Sum.inl (x1', m'') → Xj RX12 cX12_laysFar 4 none 2 23 0 0 0 0 2 [(0, vR 12 0), (1, vI x1')] [] m'' o M') (ke : ∀ (m'' : Mem), r = Sum.inr m'' → Xj RX12 cX12_laysFar 4 none 2 23 0 0 0 0 69 [(0, vR 12 0)] [] m'' o M') : Xj RX12 cX12_laysFar 4 none 2 23 0 0 0 0 63 [(0, vR 12 0), (1, vI x1)] [] m o M' := by
  unfold r_X12_laysFar_e63_h14_c2 at h
  refine xj_iinc (z := x1 + 1) (ls' := [(1, vI (x1 + 1)), (0, vR 12 0)]) 1 dX12_laysFar_63 rfl rfl (by decide) rfl ?_
  refine xj_goto (tgt := 2) dX12_laysFar_66 (by decide) ?_
  cases h
  refine xj_pick (ls' := [(0, vR 12 0), (1, vI (x1 + 1))]) [1, 0] rfl ?_
  exact kb (x1 + 1) m rfl
noncomputable def r_X12_laysFar_l14_c2 (x1 : Int32) (x2 : Int32) (m : Mem) : Option ((Int32 × Mem) ⊕ (Mem)) :=
  bd1 (loopO (fun s => r_X12_laysFar_b14_c2 x1 s.1 s.2) (x2, m)) (fun e => r_X12_laysFar_e63_h14_c2 x1 e)
set_option maxHeartbeats 4000000 in
set_option maxRecDepth 20000 in
theorem ok_X12_laysFar_l14_c2 (x1 : Int32) (x2 : Int32) (m : Mem) {r : (Int32 × Mem) ⊕ (Mem)} (h : r_X12_laysFar_l14_c2 x1 x2 m = some r) {o : Ou} {M' : Mem} (kb : ∀ (x1' : Int32) (m'' : Mem), r = Sum.inl (x1', m'') → Xj RX12 cX12_laysFar 4 none 2 23 0 0 0 0 2 [(0, vR 12 0), (1, vI x1')] [] m'' o M') (ke : ∀ (m'' : Mem), r = Sum.inr m'' → Xj RX12 cX12_laysFar 4 none 2 23 0 0 0 0 69 [(0, vR 12 0)] [] m'' o M') : Xj RX12 cX12_laysFar 4 none 2 23 0 0 0 0 14 [(0, vR 12 0), (1, vI x1), (2, vI x2)] [] m o M' := by
  unfold r_X12_laysFar_l14_c2 at h
  obtain ⟨e, e1, h⟩ := bd1_some h
  refine loopO_ok (P := fun s : (Int32 × Mem) => Xj RX12 cX12_laysFar 4 none 2 23 0 0 0 0 14 [(0, vR 12 0), (1, vI x1), (2, vI s.1)] [] s.2 o M') (Q := fun e : (Mem) => Xj RX12 cX12_laysFar 4 none 2 23 0 0 0 0 63 [(0, vR 12 0), (1, vI x1)] [] e o M') ?_ _ _ e1 ?_
  · intro s r9 h9 hi hx
    exact ok_X12_laysFar_b14_c2 x1 s.1 s.2 h9 (by rintro _ _ rfl; exact hi _ rfl) (by rintro _ rfl; exact hx _ rfl)
  · exact ok_X12_laysFar_e63_h14_c2 x1 e h kb ke
noncomputable def r_X12_laysFar_b2 (x1 : Int32) (m : Mem) : Option ((Int32 × Mem) ⊕ (Mem)) :=
  if (m 52 0 0) ≤ x1 then (some (Sum.inr m)) else (r_X12_laysFar_l14_c2 x1 0 m)
set_option maxHeartbeats 4000000 in
set_option maxRecDepth 20000 in
theorem ok_X12_laysFar_b2 (x1 : Int32) (m : Mem) {r : (Int32 × Mem) ⊕ (Mem)} (h : r_X12_laysFar_b2 x1 m = some r) {o : Ou} {M' : Mem} (kb : ∀ (x1' : Int32) (m'' : Mem), r = Sum.inl (x1', m'') → Xj RX12 cX12_laysFar 4 none 2 23 0 0 0 0 2 [(0, vR 12 0), (1, vI x1')] [] m'' o M') (ke : ∀ (m'' : Mem), r = Sum.inr m'' → Xj RX12 cX12_laysFar 4 none 2 23 0 0 0 0 69 [(0, vR 12 0)] [] m'' o M') : Xj RX12 cX12_laysFar 4 none 2 23 0 0 0 0 2 [(0, vR 12 0), (1, vI x1)] [] m o M' := by
  unfold r_X12_laysFar_b2 at h
  refine xj_iload_n 1 dX12_laysFar_2 rfl ?_
  refine xj_aload_n 0 dX12_laysFar_3 rfl ?_
  refine xg_getR (k' := 52) (i' := 0) dX12_laysFar_4 fl_X12_23 rfl ?_
  refine xj_iconst (z := 0) dX12_laysFar_7 (by decide) ?_
  refine xg_iald (z := (m 52 0 0)) (n := 0) dX12_laysFar_8 rfl (by decide) (inb_in (by decide)) (by decide) rfl ?_
  refine xj_icmp_ge (tgt := 69) dX12_laysFar_9 (by decide) (fun c1 => ?_) (fun c1 => ?_)
  · rw [if_pos c1] at h
    cases h
    refine xj_pick (ls' := [(0, vR 12 0)]) [0] rfl ?_
    exact ke m rfl
  · rw [if_neg c1] at h
    refine xj_iconst (z := 0) dX12_laysFar_12 (by decide) ?_
    refine xj_istore_n (ls' := [(2, vI 0), (0, vR 12 0), (1, vI x1)]) dX12_laysFar_13 rfl (by decide) rfl ?_
    refine xj_pick (ls' := [(0, vR 12 0), (1, vI x1), (2, vI 0)]) [1, 2, 0] rfl ?_
    exact ok_X12_laysFar_l14_c2 x1 0 m h kb ke
noncomputable def r_X12_laysFar_b95_c83 (x1 : Int32) (x2 : Int32) (x3 : Int32) (m : Mem) : Option ((Int32 × Mem) ⊕ (Mem)) :=
  if (m 52 0 0) ≤ x3 then (some (Sum.inr m)) else (if inb x2 12 = true then (if inb x3 12 = true then (if inb x1 12 = true then (some (Sum.inl (x3 + 1, (wr m 89 x2.toNatClampNeg x3.toNatClampNeg (r_X12_less (m 89 x2.toNatClampNeg x3.toNatClampNeg) ((m 89 x2.toNatClampNeg x1.toNatClampNeg) + (m 89 x1.toNatClampNeg x3.toNatClampNeg))))))) else none) else none) else none)
set_option maxHeartbeats 4000000 in
set_option maxRecDepth 20000 in
theorem ok_X12_laysFar_b95_c83 (x1 : Int32) (x2 : Int32) (x3 : Int32) (m : Mem) {r : (Int32 × Mem) ⊕ (Mem)} (h : r_X12_laysFar_b95_c83 x1 x2 x3 m = some r) {o : Ou} {M' : Mem} (kb : ∀ (x3' : Int32) (m'' : Mem), r = Sum.inl (x3', m'') → Xj RX12 cX12_laysFar 4 none 2 23 0 0 0 0 95 [(0, vR 12 0), (1, vI x1), (2, vI x2), (3, vI x3')] [] m'' o M') (ke : ∀ (m'' : Mem), r = Sum.inr m'' → Xj RX12 cX12_laysFar 4 none 2 23 0 0 0 0 147 [(0, vR 12 0), (1, vI x1), (2, vI x2)] [] m'' o M') : Xj RX12 cX12_laysFar 4 none 2 23 0 0 0 0 95 [(0, vR 12 0), (1, vI x1), (2, vI x2), (3, vI x3)] [] m o M' := by
  unfold r_X12_laysFar_b95_c83 at h
  refine xj_iload_n 3 dX12_laysFar_95 rfl ?_
  refine xj_aload_n 0 dX12_laysFar_96 rfl ?_
  refine xg_getR (k' := 52) (i' := 0) dX12_laysFar_97 fl_X12_23 rfl ?_
  refine xj_iconst (z := 0) dX12_laysFar_100 (by decide) ?_
  refine xg_iald (z := (m 52 0 0)) (n := 0) dX12_laysFar_101 rfl (by decide) (inb_in (by decide)) (by decide) rfl ?_
  refine xj_icmp_ge (tgt := 147) dX12_laysFar_102 (by decide) (fun c11 => ?_) (fun c11 => ?_)
  · rw [if_pos c11] at h
    cases h
    refine xj_pick (ls' := [(0, vR 12 0), (1, vI x1), (2, vI x2)]) [0, 1, 2] rfl ?_
    exact ke m rfl
  · rw [if_neg c11] at h
    refine xj_aload_n 0 dX12_laysFar_105 rfl ?_
    refine xg_getR (k' := 90) (i' := 0) dX12_laysFar_106 fl_X12_100 rfl ?_
    refine xj_iload_n 2 dX12_laysFar_109 rfl ?_
    by_cases c12 : inb x2 12 = true
    case neg => rw [if_neg c12] at h; cases h
    rw [if_pos c12] at h
    refine xg_aald (k' := 89) (i' := x2.toNatClampNeg) (n := x2.toNatClampNeg) dX12_laysFar_110 rfl (by decide) (inb_in c12) rfl rfl ?_
    refine xj_iload_n 3 dX12_laysFar_111 rfl ?_
    refine xj_aload_n 0 dX12_laysFar_112 rfl ?_
    refine xg_getR (k' := 90) (i' := 0) dX12_laysFar_113 fl_X12_100 rfl ?_
    refine xj_iload_n 2 dX12_laysFar_116 rfl ?_
    refine xg_aald (k' := 89) (i' := x2.toNatClampNeg) (n := x2.toNatClampNeg) dX12_laysFar_117 rfl (by decide) (inb_in c12) rfl rfl ?_
    refine xj_iload_n 3 dX12_laysFar_118 rfl ?_
    by_cases c13 : inb x3 12 = true
    case neg => rw [if_neg c13] at h; cases h
    rw [if_pos c13] at h
    refine xg_iald (z := (m 89 x2.toNatClampNeg x3.toNatClampNeg)) (n := x3.toNatClampNeg) dX12_laysFar_119 rfl (by decide) (inb_in c13) rfl rfl ?_
    refine xj_aload_n 0 dX12_laysFar_120 rfl ?_
    refine xg_getR (k' := 90) (i' := 0) dX12_laysFar_121 fl_X12_100 rfl ?_
    refine xj_iload_n 2 dX12_laysFar_124 rfl ?_
    refine xg_aald (k' := 89) (i' := x2.toNatClampNeg) (n := x2.toNatClampNeg) dX12_laysFar_125 rfl (by decide) (inb_in c12) rfl rfl ?_
    refine xj_iload_n 1 dX12_laysFar_126 rfl ?_
    by_cases c14 : inb x1 12 = true
    case neg => rw [if_neg c14] at h; cases h
    rw [if_pos c14] at h
    refine xg_iald (z := (m 89 x2.toNatClampNeg x1.toNatClampNeg)) (n := x1.toNatClampNeg) dX12_laysFar_127 rfl (by decide) (inb_in c14) rfl rfl ?_
    refine xj_aload_n 0 dX12_laysFar_128 rfl ?_
    refine xg_getR (k' := 90) (i' := 0) dX12_laysFar_129 fl_X12_100 rfl ?_
    refine xj_iload_n 1 dX12_laysFar_132 rfl ?_
    refine xg_aald (k' := 89) (i' := x1.toNatClampNeg) (n := x1.toNatClampNeg) dX12_laysFar_133 rfl (by decide) (inb_in c14) rfl rfl ?_
    refine xj_iload_n 3 dX12_laysFar_134 rfl ?_
    refine xg_iald (z := (m 89 x1.toNatClampNeg x3.toNatClampNeg)) (n := x3.toNatClampNeg) dX12_laysFar_135 rfl (by decide) (inb_in c13) rfl rfl ?_
    refine xj_iadd dX12_laysFar_136 ?_
    refine xc_Si0 (st := [vI x3, vR 89 x2.toNatClampNeg]) (ok_X12_less (m 89 x2.toNatClampNeg x3.toNatClampNeg) ((m 89 x2.toNatClampNeg x1.toNatClampNeg) + (m 89 x1.toNatClampNeg x3.toNatClampNeg)) m rfl) dX12_laysFar_137 cs_X12_254 rfl rfl (Nat.le_of_ble_eq_true rfl) (by decide) (by decide) (by decide) (by decide) ?_
    refine xg_iast (n := x3.toNatClampNeg) dX12_laysFar_140 rfl (by decide) (inb_in c13) rfl ?_
    refine xj_iinc (z := x3 + 1) (ls' := [(3, vI (x3 + 1)), (0, vR 12 0), (1, vI x1), (2, vI x2)]) 3 dX12_laysFar_141 rfl rfl (by decide) rfl ?_
    refine xj_goto (tgt := 95) dX12_laysFar_144 (by decide) ?_
    cases h
    refine xj_pick (ls' := [(0, vR 12 0), (1, vI x1), (2, vI x2), (3, vI (x3 + 1))]) [1, 2, 3, 0] rfl ?_
    exact kb (x3 + 1) (wr m 89 x2.toNatClampNeg x3.toNatClampNeg (r_X12_less (m 89 x2.toNatClampNeg x3.toNatClampNeg) ((m 89 x2.toNatClampNeg x1.toNatClampNeg) + (m 89 x1.toNatClampNeg x3.toNatClampNeg)))) rfl
noncomputable def r_X12_laysFar_e147_h95_c83 (x1 : Int32) (x2 : Int32) (m : Mem) : Option ((Int32 × Mem) ⊕ (Mem)) :=
  some (Sum.inl (x2 + 1, m))
set_option maxHeartbeats 4000000 in
set_option maxRecDepth 20000 in
theorem ok_X12_laysFar_e147_h95_c83 (x1 : Int32) (x2 : Int32) (m : Mem) {r : (Int32 × Mem) ⊕ (Mem)} (h : r_X12_laysFar_e147_h95_c83 x1 x2 m = some r) {o : Ou} {M' : Mem} (kb : ∀ (x2' : Int32) (m'' : Mem), r = Sum.inl (x2', m'') → Xj RX12 cX12_laysFar 4 none 2 23 0 0 0 0 83 [(0, vR 12 0), (1, vI x1), (2, vI x2')] [] m'' o M') (ke : ∀ (m'' : Mem), r = Sum.inr m'' → Xj RX12 cX12_laysFar 4 none 2 23 0 0 0 0 153 [(0, vR 12 0), (1, vI x1)] [] m'' o M') : Xj RX12 cX12_laysFar 4 none 2 23 0 0 0 0 147 [(0, vR 12 0), (1, vI x1), (2, vI x2)] [] m o M' := by
  unfold r_X12_laysFar_e147_h95_c83 at h
  refine xj_iinc (z := x2 + 1) (ls' := [(2, vI (x2 + 1)), (0, vR 12 0), (1, vI x1)]) 2 dX12_laysFar_147 rfl rfl (by decide) rfl ?_
  refine xj_goto (tgt := 83) dX12_laysFar_150 (by decide) ?_
  cases h
  refine xj_pick (ls' := [(0, vR 12 0), (1, vI x1), (2, vI (x2 + 1))]) [1, 2, 0] rfl ?_
  exact kb (x2 + 1) m rfl
noncomputable def r_X12_laysFar_l95_c83 (x1 : Int32) (x2 : Int32) (x3 : Int32) (m : Mem) : Option ((Int32 × Mem) ⊕ (Mem)) :=
  bd1 (loopO (fun s => r_X12_laysFar_b95_c83 x1 x2 s.1 s.2) (x3, m)) (fun e => r_X12_laysFar_e147_h95_c83 x1 x2 e)
set_option maxHeartbeats 4000000 in
set_option maxRecDepth 20000 in
theorem ok_X12_laysFar_l95_c83 (x1 : Int32) (x2 : Int32) (x3 : Int32) (m : Mem) {r : (Int32 × Mem) ⊕ (Mem)} (h : r_X12_laysFar_l95_c83 x1 x2 x3 m = some r) {o : Ou} {M' : Mem} (kb : ∀ (x2' : Int32) (m'' : Mem), r = Sum.inl (x2', m'') → Xj RX12 cX12_laysFar 4 none 2 23 0 0 0 0 83 [(0, vR 12 0), (1, vI x1), (2, vI x2')] [] m'' o M') (ke : ∀ (m'' : Mem), r = Sum.inr m'' → Xj RX12 cX12_laysFar 4 none 2 23 0 0 0 0 153 [(0, vR 12 0), (1, vI x1)] [] m'' o M') : Xj RX12 cX12_laysFar 4 none 2 23 0 0 0 0 95 [(0, vR 12 0), (1, vI x1), (2, vI x2), (3, vI x3)] [] m o M' := by
  unfold r_X12_laysFar_l95_c83 at h
  obtain ⟨e, e1, h⟩ := bd1_some h
  refine loopO_ok (P := fun s : (Int32 × Mem) => Xj RX12 cX12_laysFar 4 none 2 23 0 0 0 0 95 [(0, vR 12 0), (1, vI x1), (2, vI x2), (3, vI s.1)] [] s.2 o M') (Q := fun e : (Mem) => Xj RX12 cX12_laysFar 4 none 2 23 0 0 0 0 147 [(0, vR 12 0), (1, vI x1), (2, vI x2)] [] e o M') ?_ _ _ e1 ?_
  · intro s r9 h9 hi hx
    exact ok_X12_laysFar_b95_c83 x1 x2 s.1 s.2 h9 (by rintro _ _ rfl; exact hi _ rfl) (by rintro _ rfl; exact hx _ rfl)
  · exact ok_X12_laysFar_e147_h95_c83 x1 x2 e h kb ke
noncomputable def r_X12_laysFar_b83_c71 (x1 : Int32) (x2 : Int32) (m : Mem) : Option ((Int32 × Mem) ⊕ (Mem)) :=
  if (m 52 0 0) ≤ x2 then (some (Sum.inr m)) else (r_X12_laysFar_l95_c83 x1 x2 0 m)
set_option maxHeartbeats 4000000 in
set_option maxRecDepth 20000 in
theorem ok_X12_laysFar_b83_c71 (x1 : Int32) (x2 : Int32) (m : Mem) {r : (Int32 × Mem) ⊕ (Mem)} (h : r_X12_laysFar_b83_c71 x1 x2 m = some r) {o : Ou} {M' : Mem} (kb : ∀ (x2' : Int32) (m'' : Mem), r = Sum.inl (x2', m'') → Xj RX12 cX12_laysFar 4 none 2 23 0 0 0 0 83 [(0, vR 12 0), (1, vI x1), (2, vI x2')] [] m'' o M') (ke : ∀ (m'' : Mem), r = Sum.inr m'' → Xj RX12 cX12_laysFar 4 none 2 23 0 0 0 0 153 [(0, vR 12 0), (1, vI x1)] [] m'' o M') : Xj RX12 cX12_laysFar 4 none 2 23 0 0 0 0 83 [(0, vR 12 0), (1, vI x1), (2, vI x2)] [] m o M' := by
  unfold r_X12_laysFar_b83_c71 at h
  refine xj_iload_n 2 dX12_laysFar_83 rfl ?_
  refine xj_aload_n 0 dX12_laysFar_84 rfl ?_
  refine xg_getR (k' := 52) (i' := 0) dX12_laysFar_85 fl_X12_23 rfl ?_
  refine xj_iconst (z := 0) dX12_laysFar_88 (by decide) ?_
  refine xg_iald (z := (m 52 0 0)) (n := 0) dX12_laysFar_89 rfl (by decide) (inb_in (by decide)) (by decide) rfl ?_
  refine xj_icmp_ge (tgt := 153) dX12_laysFar_90 (by decide) (fun c10 => ?_) (fun c10 => ?_)
  · rw [if_pos c10] at h
    cases h
    refine xj_pick (ls' := [(0, vR 12 0), (1, vI x1)]) [0, 1] rfl ?_
    exact ke m rfl
  · rw [if_neg c10] at h
    refine xj_iconst (z := 0) dX12_laysFar_93 (by decide) ?_
    refine xj_istore_n (ls' := [(3, vI 0), (0, vR 12 0), (1, vI x1), (2, vI x2)]) dX12_laysFar_94 rfl (by decide) rfl ?_
    refine xj_pick (ls' := [(0, vR 12 0), (1, vI x1), (2, vI x2), (3, vI 0)]) [1, 2, 3, 0] rfl ?_
    exact ok_X12_laysFar_l95_c83 x1 x2 0 m h kb ke
noncomputable def r_X12_laysFar_e153_h83_c71 (x1 : Int32) (m : Mem) : Option ((Int32 × Mem) ⊕ (Mem)) :=
  some (Sum.inl (x1 + 1, m))
set_option maxHeartbeats 4000000 in
set_option maxRecDepth 20000 in
theorem ok_X12_laysFar_e153_h83_c71 (x1 : Int32) (m : Mem) {r : (Int32 × Mem) ⊕ (Mem)} (h : r_X12_laysFar_e153_h83_c71 x1 m = some r) {o : Ou} {M' : Mem} (kb : ∀ (x1' : Int32) (m'' : Mem), r = Sum.inl (x1', m'') → Xj RX12 cX12_laysFar 4 none 2 23 0 0 0 0 71 [(0, vR 12 0), (1, vI x1')] [] m'' o M') (ke : ∀ (m'' : Mem), r = Sum.inr m'' → Xj RX12 cX12_laysFar 4 none 2 23 0 0 0 0 159 [] [] m'' o M') : Xj RX12 cX12_laysFar 4 none 2 23 0 0 0 0 153 [(0, vR 12 0), (1, vI x1)] [] m o M' := by
  unfold r_X12_laysFar_e153_h83_c71 at h
  refine xj_iinc (z := x1 + 1) (ls' := [(1, vI (x1 + 1)), (0, vR 12 0)]) 1 dX12_laysFar_153 rfl rfl (by decide) rfl ?_
  refine xj_goto (tgt := 71) dX12_laysFar_156 (by decide) ?_
  cases h
  refine xj_pick (ls' := [(0, vR 12 0), (1, vI (x1 + 1))]) [1, 0] rfl ?_
  exact kb (x1 + 1) m rfl
noncomputable def r_X12_laysFar_l83_c71 (x1 : Int32) (x2 : Int32) (m : Mem) : Option ((Int32 × Mem) ⊕ (Mem)) :=
  bd1 (loopO (fun s => r_X12_laysFar_b83_c71 x1 s.1 s.2) (x2, m)) (fun e => r_X12_laysFar_e153_h83_c71 x1 e)
set_option maxHeartbeats 4000000 in
set_option maxRecDepth 20000 in
theorem ok_X12_laysFar_l83_c71 (x1 : Int32) (x2 : Int32) (m : Mem) {r : (Int32 × Mem) ⊕ (Mem)} (h : r_X12_laysFar_l83_c71 x1 x2 m = some r) {o : Ou} {M' : Mem} (kb : ∀ (x1' : Int32) (m'' : Mem), r = Sum.inl (x1', m'') → Xj RX12 cX12_laysFar 4 none 2 23 0 0 0 0 71 [(0, vR 12 0), (1, vI x1')] [] m'' o M') (ke : ∀ (m'' : Mem), r = Sum.inr m'' → Xj RX12 cX12_laysFar 4 none 2 23 0 0 0 0 159 [] [] m'' o M') : Xj RX12 cX12_laysFar 4 none 2 23 0 0 0 0 83 [(0, vR 12 0), (1, vI x1), (2, vI x2)] [] m o M' := by
  unfold r_X12_laysFar_l83_c71 at h
  obtain ⟨e, e1, h⟩ := bd1_some h
  refine loopO_ok (P := fun s : (Int32 × Mem) => Xj RX12 cX12_laysFar 4 none 2 23 0 0 0 0 83 [(0, vR 12 0), (1, vI x1), (2, vI s.1)] [] s.2 o M') (Q := fun e : (Mem) => Xj RX12 cX12_laysFar 4 none 2 23 0 0 0 0 153 [(0, vR 12 0), (1, vI x1)] [] e o M') ?_ _ _ e1 ?_
  · intro s r9 h9 hi hx
    exact ok_X12_laysFar_b83_c71 x1 s.1 s.2 h9 (by rintro _ _ rfl; exact hi _ rfl) (by rintro _ rfl; exact hx _ rfl)
  · exact ok_X12_laysFar_e153_h83_c71 x1 e h kb ke
noncomputable def r_X12_laysFar_b71 (x1 : Int32) (m : Mem) : Option ((Int32 × Mem) ⊕ (Mem)) :=
  if (m 52 0 0) ≤ x1 then (some (Sum.inr m)) else (r_X12_laysFar_l83_c71 x1 0 m)
set_option maxHeartbeats 4000000 in
set_option maxRecDepth 20000 in
theorem ok_X12_laysFar_b71 (x1 : Int32) (m : Mem) {r : (Int32 × Mem) ⊕ (Mem)} (h : r_X12_laysFar_b71 x1 m = some r) {o : Ou} {M' : Mem} (kb : ∀ (x1' : Int32) (m'' : Mem), r = Sum.inl (x1', m'') → Xj RX12 cX12_laysFar 4 none 2 23 0 0 0 0 71 [(0, vR 12 0), (1, vI x1')] [] m'' o M') (ke : ∀ (m'' : Mem), r = Sum.inr m'' → Xj RX12 cX12_laysFar 4 none 2 23 0 0 0 0 159 [] [] m'' o M') : Xj RX12 cX12_laysFar 4 none 2 23 0 0 0 0 71 [(0, vR 12 0), (1, vI x1)] [] m o M' := by
  unfold r_X12_laysFar_b71 at h
  refine xj_iload_n 1 dX12_laysFar_71 rfl ?_
  refine xj_aload_n 0 dX12_laysFar_72 rfl ?_
  refine xg_getR (k' := 52) (i' := 0) dX12_laysFar_73 fl_X12_23 rfl ?_
  refine xj_iconst (z := 0) dX12_laysFar_76 (by decide) ?_
  refine xg_iald (z := (m 52 0 0)) (n := 0) dX12_laysFar_77 rfl (by decide) (inb_in (by decide)) (by decide) rfl ?_
  refine xj_icmp_ge (tgt := 159) dX12_laysFar_78 (by decide) (fun c9 => ?_) (fun c9 => ?_)
  · rw [if_pos c9] at h
    cases h
    refine xj_pick (ls' := []) [] rfl ?_
    exact ke m rfl
  · rw [if_neg c9] at h
    refine xj_iconst (z := 0) dX12_laysFar_81 (by decide) ?_
    refine xj_istore_n (ls' := [(2, vI 0), (0, vR 12 0), (1, vI x1)]) dX12_laysFar_82 rfl (by decide) rfl ?_
    refine xj_pick (ls' := [(0, vR 12 0), (1, vI x1), (2, vI 0)]) [1, 2, 0] rfl ?_
    exact ok_X12_laysFar_l83_c71 x1 0 m h kb ke
noncomputable def r_X12_laysFar_e159_h71 (m : Mem) : Option Mem :=
  some m
set_option maxHeartbeats 4000000 in
set_option maxRecDepth 20000 in
theorem ok_X12_laysFar_e159_h71 (m : Mem) {m' : Mem} (h : r_X12_laysFar_e159_h71 m = some m') : Xj RX12 cX12_laysFar 4 none 2 23 0 0 0 0 159 [] [] m oV m' := by
  unfold r_X12_laysFar_e159_h71 at h
  cases h
  exact xj_return dX12_laysFar_159 (by decide) (by decide)
noncomputable def r_X12_laysFar_l71 (x1 : Int32) (m : Mem) : Option Mem :=
  bd1 (loopO (fun s => r_X12_laysFar_b71 s.1 s.2) (x1, m)) (fun e => r_X12_laysFar_e159_h71 e)
set_option maxHeartbeats 4000000 in
set_option maxRecDepth 20000 in
theorem ok_X12_laysFar_l71 (x1 : Int32) (m : Mem) {m' : Mem} (h : r_X12_laysFar_l71 x1 m = some m') : Xj RX12 cX12_laysFar 4 none 2 23 0 0 0 0 71 [(0, vR 12 0), (1, vI x1)] [] m oV m' := by
  unfold r_X12_laysFar_l71 at h
  obtain ⟨e, e1, h⟩ := bd1_some h
  refine loopO_ok (P := fun s : (Int32 × Mem) => Xj RX12 cX12_laysFar 4 none 2 23 0 0 0 0 71 [(0, vR 12 0), (1, vI s.1)] [] s.2 oV m') (Q := fun e : (Mem) => Xj RX12 cX12_laysFar 4 none 2 23 0 0 0 0 159 [] [] e oV m') ?_ _ _ e1 ?_
  · intro s r9 h9 hi hx
    exact ok_X12_laysFar_b71 s.1 s.2 h9 (by rintro _ _ rfl; exact hi _ rfl) (by rintro _ rfl; exact hx _ rfl)
  · exact ok_X12_laysFar_e159_h71 e h 
noncomputable def r_X12_laysFar_e69_h2 (m : Mem) : Option Mem :=
  r_X12_laysFar_l71 0 m
set_option maxHeartbeats 4000000 in
set_option maxRecDepth 20000 in
theorem ok_X12_laysFar_e69_h2 (m : Mem) {m' : Mem} (h : r_X12_laysFar_e69_h2 m = some m') : Xj RX12 cX12_laysFar 4 none 2 23 0 0 0 0 69 [(0, vR 12 0)] [] m oV m' := by
  unfold r_X12_laysFar_e69_h2 at h
  refine xj_iconst (z := 0) dX12_laysFar_69 (by decide) ?_
  refine xj_istore_n (ls' := [(1, vI 0), (0, vR 12 0)]) dX12_laysFar_70 rfl (by decide) rfl ?_
  refine xj_pick (ls' := [(0, vR 12 0), (1, vI 0)]) [1, 0] rfl ?_
  exact ok_X12_laysFar_l71 0 m h 
noncomputable def r_X12_laysFar_l2 (x1 : Int32) (m : Mem) : Option Mem :=
  bd1 (loopO (fun s => r_X12_laysFar_b2 s.1 s.2) (x1, m)) (fun e => r_X12_laysFar_e69_h2 e)
set_option maxHeartbeats 4000000 in
set_option maxRecDepth 20000 in
theorem ok_X12_laysFar_l2 (x1 : Int32) (m : Mem) {m' : Mem} (h : r_X12_laysFar_l2 x1 m = some m') : Xj RX12 cX12_laysFar 4 none 2 23 0 0 0 0 2 [(0, vR 12 0), (1, vI x1)] [] m oV m' := by
  unfold r_X12_laysFar_l2 at h
  obtain ⟨e, e1, h⟩ := bd1_some h
  refine loopO_ok (P := fun s : (Int32 × Mem) => Xj RX12 cX12_laysFar 4 none 2 23 0 0 0 0 2 [(0, vR 12 0), (1, vI s.1)] [] s.2 oV m') (Q := fun e : (Mem) => Xj RX12 cX12_laysFar 4 none 2 23 0 0 0 0 69 [(0, vR 12 0)] [] e oV m') ?_ _ _ e1 ?_
  · intro s r9 h9 hi hx
    exact ok_X12_laysFar_b2 s.1 s.2 h9 (by rintro _ _ rfl; exact hi _ rfl) (by rintro _ rfl; exact hx _ rfl)
  · exact ok_X12_laysFar_e69_h2 e h 
noncomputable def r_X12_laysFar (m : Mem) : Option Mem :=
  r_X12_laysFar_l2 0 m
set_option maxHeartbeats 4000000 in
set_option maxRecDepth 20000 in
theorem ok_X12_laysFar (m : Mem) {m' : Mem} (h : r_X12_laysFar m = some m') : Mt yX12_laysFar cX12_laysFar 4 none 2 23 0 0 [vR 12 0] m oV m' := by
  refine Mt.of (by decide) (Nat.le_of_ble_eq_true rfl) (by decide +kernel) (hhF_ne (by decide)) ?_
  show Xj RX12 cX12_laysFar 4 none 2 23 0 0 0 0 0 [(0, vR 12 0)] [] m oV m'
  unfold r_X12_laysFar at h
  refine xj_iconst (z := 0) dX12_laysFar_0 (by decide) ?_
  refine xj_istore_n (ls' := [(1, vI 0), (0, vR 12 0)]) dX12_laysFar_1 rfl (by decide) rfl ?_
  refine xj_pick (ls' := [(0, vR 12 0), (1, vI 0)]) [1, 0] rfl ?_
  exact ok_X12_laysFar_l2 0 m h 
noncomputable def r_X12_ledTo_j115_c9 (x1 : Int32) (x2 : Int32) (x3 : Int32) (x4 : Int32) (x5 : Int32) (x6 : Int32) (m : Mem) : Option ((Int32 × Int32 × Int32 × Mem) ⊕ (Int32 × Mem)) :=
  some (Sum.inl (x4, x5, x6 + 1, m))
set_option maxHeartbeats 4000000 in
set_option maxRecDepth 20000 in
theorem ok_X12_ledTo_j115_c9 (x1 : Int32) (x2 : Int32) (x3 : Int32) (x4 : Int32) (x5 : Int32) (x6 : Int32) (m : Mem) {r : (Int32 × Int32 × Int32 × Mem) ⊕ (Int32 × Mem)} (h : r_X12_ledTo_j115_c9 x1 x2 x3 x4 x5 x6 m = some r) {o : Ou} {M' : Mem} (kb : ∀ (x4' : Int32) (x5' : Int32) (x6' : Int32) (m'' : Mem), r = Sum.inl (x4', x5', x6', m'') → Xj RX12 cX12_ledTo 10 (some .int) 6 126 0 0 0 0 9 [(0, vR 12 0), (1, vI x1), (2, vI x2), (3, vI x3), (4, vI x4'), (5, vI x5'), (6, vI x6')] [] m'' o M') (ke : ∀ (x4' : Int32) (m'' : Mem), r = Sum.inr (x4', m'') → Xj RX12 cX12_ledTo 10 (some .int) 6 126 0 0 0 0 121 [(4, vI x4')] [] m'' o M') : Xj RX12 cX12_ledTo 10 (some .int) 6 126 0 0 0 0 115 [(0, vR 12 0), (1, vI x1), (2, vI x2), (3, vI x3), (4, vI x4), (5, vI x5), (6, vI x6)] [] m o M' := by
  unfold r_X12_ledTo_j115_c9 at h
  refine xj_iinc (z := x6 + 1) (ls' := [(6, vI (x6 + 1)), (0, vR 12 0), (1, vI x1), (2, vI x2), (3, vI x3), (4, vI x4), (5, vI x5)]) 6 dX12_ledTo_115 rfl rfl (by decide) rfl ?_
  refine xj_goto (tgt := 9) dX12_ledTo_118 (by decide) ?_
  cases h
  refine xj_pick (ls' := [(0, vR 12 0), (1, vI x1), (2, vI x2), (3, vI x3), (4, vI x4), (5, vI x5), (6, vI (x6 + 1))]) [1, 2, 3, 4, 5, 6, 0] rfl ?_
  exact kb x4 x5 (x6 + 1) m rfl
noncomputable def r_X12_ledTo_j65_c9 (x1 : Int32) (x2 : Int32) (x3 : Int32) (x4 : Int32) (x5 : Int32) (x6 : Int32) (x7 : Int32) (s0 : Int32) (s1 : Int32) (m : Mem) : Option ((Int32 × Int32 × Int32 × Mem) ⊕ (Int32 × Mem)) :=
  bd2 (r_X12_drawWith 0 x7 (m 52 0 3) x6 (s1 + s0) ((2 * x3) - (s1 + s0)) 0 m) fun z9 m8 => (if x5 < z9 then (r_X12_ledTo_j115_c9 x1 x2 x3 x6 z9 x6 m8) else (r_X12_ledTo_j115_c9 x1 x2 x3 x4 x5 x6 m8))
set_option maxHeartbeats 4000000 in
set_option maxRecDepth 20000 in
theorem ok_X12_ledTo_j65_c9 (x1 : Int32) (x2 : Int32) (x3 : Int32) (x4 : Int32) (x5 : Int32) (x6 : Int32) (x7 : Int32) (s0 : Int32) (s1 : Int32) (m : Mem) {r : (Int32 × Int32 × Int32 × Mem) ⊕ (Int32 × Mem)} (h : r_X12_ledTo_j65_c9 x1 x2 x3 x4 x5 x6 x7 s0 s1 m = some r) {o : Ou} {M' : Mem} (kb : ∀ (x4' : Int32) (x5' : Int32) (x6' : Int32) (m'' : Mem), r = Sum.inl (x4', x5', x6', m'') → Xj RX12 cX12_ledTo 10 (some .int) 6 126 0 0 0 0 9 [(0, vR 12 0), (1, vI x1), (2, vI x2), (3, vI x3), (4, vI x4'), (5, vI x5'), (6, vI x6')] [] m'' o M') (ke : ∀ (x4' : Int32) (m'' : Mem), r = Sum.inr (x4', m'') → Xj RX12 cX12_ledTo 10 (some .int) 6 126 0 0 0 0 121 [(4, vI x4')] [] m'' o M') : Xj RX12 cX12_ledTo 10 (some .int) 6 126 0 0 0 0 65 [(0, vR 12 0), (1, vI x1), (2, vI x2), (3, vI x3), (4, vI x4), (5, vI x5), (6, vI x6), (7, vI x7)] [vI s0, vI s1] m o M' := by
  unfold r_X12_ledTo_j65_c9 at h
  refine xj_iadd dX12_ledTo_65 ?_
  refine xj_istore (ls' := [(8, vI (s1 + s0)), (0, vR 12 0), (1, vI x1), (2, vI x2), (3, vI x3), (4, vI x4), (5, vI x5), (6, vI x6), (7, vI x7)]) dX12_ledTo_66 (by decide) rfl ?_
  refine xj_aload_n 1 dX12_ledTo_68 rfl ?_
  refine xj_aload_n 1 dX12_ledTo_69 rfl ?_
  refine xg_getR (k' := 60) (i' := 0) dX12_ledTo_70 fl_X12_73 rfl ?_
  refine xj_iload 8 dX12_ledTo_73 rfl ?_
  refine xj_aload_n 1 dX12_ledTo_75 rfl ?_
  refine xg_getR (k' := 52) (i' := 0) dX12_ledTo_76 fl_X12_23 rfl ?_
  refine xj_iconst (z := 3) dX12_ledTo_79 (by decide) ?_
  refine xg_iald (z := (m 52 0 3)) (n := 3) dX12_ledTo_80 rfl (by decide) (inb_in (by decide)) (by decide) rfl ?_
  refine xj_iload 7 dX12_ledTo_81 rfl ?_
  refine xj_iload 0 dX12_ledTo_83 rfl ?_
  refine xj_iconst (z := 2) dX12_ledTo_85 (by decide) ?_
  refine xj_iload_n 4 dX12_ledTo_86 rfl ?_
  refine xj_imul dX12_ledTo_87 ?_
  refine xj_iload 0 dX12_ledTo_88 rfl ?_
  refine xj_isub dX12_ledTo_90 ?_
  refine xj_iconst (z := 0) dX12_ledTo_91 (by decide) ?_
  obtain ⟨z9, m8, e7, h⟩ := bd2_some h
  refine xc_Vi0 (st := []) (ok_X12_drawWith 0 x7 (m 52 0 3) x6 (s1 + s0) ((2 * x3) - (s1 + s0)) 0 m e7) dX12_ledTo_92 cv_X12_293 rfl rfl (Nat.le_of_ble_eq_true rfl) (by decide) (by decide) (by decide) (by decide) ?_
  refine xj_istore (ls' := [(9, vI z9), (8, vI (s1 + s0)), (0, vR 12 0), (1, vI x1), (2, vI x2), (3, vI x3), (4, vI x4), (5, vI x5), (6, vI x6), (7, vI x7)]) dX12_ledTo_95 (by decide) rfl ?_
  refine xj_iload 0 dX12_ledTo_97 rfl ?_
  refine xj_iload 7 dX12_ledTo_99 rfl ?_
  refine xj_icmp_gt (tgt := 107) dX12_ledTo_101 (by decide) (fun c10 => ?_) (fun c10 => ?_)
  · rw [if_pos c10] at h
    refine xj_iload 8 dX12_ledTo_107 rfl ?_
    refine xj_istore (ls' := [(4, vI x6), (9, vI z9), (8, vI (s1 + s0)), (0, vR 12 0), (1, vI x1), (2, vI x2), (3, vI x3), (5, vI x5), (6, vI x6), (7, vI x7)]) dX12_ledTo_109 (by decide) rfl ?_
    refine xj_iload 1 dX12_ledTo_111 rfl ?_
    refine xj_istore (ls' := [(5, vI z9), (4, vI x6), (9, vI z9), (8, vI (s1 + s0)), (0, vR 12 0), (1, vI x1), (2, vI x2), (3, vI x3), (6, vI x6), (7, vI x7)]) dX12_ledTo_113 (by decide) rfl ?_
    refine xj_pick (ls' := [(0, vR 12 0), (1, vI x1), (2, vI x2), (3, vI x3), (4, vI x6), (5, vI z9), (6, vI x6)]) [4, 5, 6, 7, 1, 0, 8] rfl ?_
    exact ok_X12_ledTo_j115_c9 x1 x2 x3 x6 z9 x6 m8 h kb ke
  · rw [if_neg c10] at h
    refine xj_goto (tgt := 115) dX12_ledTo_104 (by decide) ?_
    refine xj_pick (ls' := [(0, vR 12 0), (1, vI x1), (2, vI x2), (3, vI x3), (4, vI x4), (5, vI x5), (6, vI x6)]) [2, 3, 4, 5, 6, 7, 8] rfl ?_
    exact ok_X12_ledTo_j115_c9 x1 x2 x3 x4 x5 x6 m8 h kb ke
noncomputable def r_X12_ledTo_j54_c9 (x1 : Int32) (x2 : Int32) (x3 : Int32) (x4 : Int32) (x5 : Int32) (x6 : Int32) (x7 : Int32) (s0 : Int32) (m : Mem) : Option ((Int32 × Int32 × Int32 × Mem) ⊕ (Int32 × Mem)) :=
  if x2 = x6 then (r_X12_ledTo_j65_c9 x1 x2 x3 x4 x5 x6 x7 x3 s0 m) else (r_X12_ledTo_j65_c9 x1 x2 x3 x4 x5 x6 x7 0 s0 m)
set_option maxHeartbeats 4000000 in
set_option maxRecDepth 20000 in
theorem ok_X12_ledTo_j54_c9 (x1 : Int32) (x2 : Int32) (x3 : Int32) (x4 : Int32) (x5 : Int32) (x6 : Int32) (x7 : Int32) (s0 : Int32) (m : Mem) {r : (Int32 × Int32 × Int32 × Mem) ⊕ (Int32 × Mem)} (h : r_X12_ledTo_j54_c9 x1 x2 x3 x4 x5 x6 x7 s0 m = some r) {o : Ou} {M' : Mem} (kb : ∀ (x4' : Int32) (x5' : Int32) (x6' : Int32) (m'' : Mem), r = Sum.inl (x4', x5', x6', m'') → Xj RX12 cX12_ledTo 10 (some .int) 6 126 0 0 0 0 9 [(0, vR 12 0), (1, vI x1), (2, vI x2), (3, vI x3), (4, vI x4'), (5, vI x5'), (6, vI x6')] [] m'' o M') (ke : ∀ (x4' : Int32) (m'' : Mem), r = Sum.inr (x4', m'') → Xj RX12 cX12_ledTo 10 (some .int) 6 126 0 0 0 0 121 [(4, vI x4')] [] m'' o M') : Xj RX12 cX12_ledTo 10 (some .int) 6 126 0 0 0 0 54 [(0, vR 12 0), (1, vI x1), (2, vI x2), (3, vI x3), (4, vI x4), (5, vI x5), (6, vI x6), (7, vI x7)] [vI s0] m o M' := by
  unfold r_X12_ledTo_j54_c9 at h
  refine xj_iload_n 2 dX12_ledTo_54 rfl ?_
  refine xj_iload 6 dX12_ledTo_55 rfl ?_
  refine xj_icmp_ne (tgt := 64) dX12_ledTo_57 (by decide) (fun c6 => ?_) (fun c6 => ?_)
  · rw [if_neg c6] at h
    refine xj_iconst (z := 0) dX12_ledTo_64 (by decide) ?_
    exact ok_X12_ledTo_j65_c9 x1 x2 x3 x4 x5 x6 x7 0 s0 m h kb ke
  · rw [if_pos c6] at h
    refine xj_iload_n 3 dX12_ledTo_60 rfl ?_
    refine xj_goto (tgt := 65) dX12_ledTo_61 (by decide) ?_
    exact ok_X12_ledTo_j65_c9 x1 x2 x3 x4 x5 x6 x7 x3 s0 m h kb ke
noncomputable def r_X12_ledTo_b9 (x1 : Int32) (x2 : Int32) (x3 : Int32) (x4 : Int32) (x5 : Int32) (x6 : Int32) (m : Mem) : Option ((Int32 × Int32 × Int32 × Mem) ⊕ (Int32 × Mem)) :=
  if (m 52 0 0) ≤ x6 then (some (Sum.inr (x4, m))) else (bd1 (r_X12_between (m 52 0 3) x6 m) fun z3 => (if z3 = (-1) then (r_X12_ledTo_j115_c9 x1 x2 x3 x4 x5 x6 m) else (if x1 = x6 then (r_X12_ledTo_j54_c9 x1 x2 x3 x4 x5 x6 z3 x3 m) else (r_X12_ledTo_j54_c9 x1 x2 x3 x4 x5 x6 z3 0 m))))
set_option maxHeartbeats 4000000 in
set_option maxRecDepth 20000 in
theorem ok_X12_ledTo_b9 (x1 : Int32) (x2 : Int32) (x3 : Int32) (x4 : Int32) (x5 : Int32) (x6 : Int32) (m : Mem) {r : (Int32 × Int32 × Int32 × Mem) ⊕ (Int32 × Mem)} (h : r_X12_ledTo_b9 x1 x2 x3 x4 x5 x6 m = some r) {o : Ou} {M' : Mem} (kb : ∀ (x4' : Int32) (x5' : Int32) (x6' : Int32) (m'' : Mem), r = Sum.inl (x4', x5', x6', m'') → Xj RX12 cX12_ledTo 10 (some .int) 6 126 0 0 0 0 9 [(0, vR 12 0), (1, vI x1), (2, vI x2), (3, vI x3), (4, vI x4'), (5, vI x5'), (6, vI x6')] [] m'' o M') (ke : ∀ (x4' : Int32) (m'' : Mem), r = Sum.inr (x4', m'') → Xj RX12 cX12_ledTo 10 (some .int) 6 126 0 0 0 0 121 [(4, vI x4')] [] m'' o M') : Xj RX12 cX12_ledTo 10 (some .int) 6 126 0 0 0 0 9 [(0, vR 12 0), (1, vI x1), (2, vI x2), (3, vI x3), (4, vI x4), (5, vI x5), (6, vI x6)] [] m o M' := by
  unfold r_X12_ledTo_b9 at h
  refine xj_iload 6 dX12_ledTo_9 rfl ?_
  refine xj_aload_n 0 dX12_ledTo_11 rfl ?_
  refine xg_getR (k' := 52) (i' := 0) dX12_ledTo_12 fl_X12_23 rfl ?_
  refine xj_iconst (z := 0) dX12_ledTo_15 (by decide) ?_
  refine xg_iald (z := (m 52 0 0)) (n := 0) dX12_ledTo_16 rfl (by decide) (inb_in (by decide)) (by decide) rfl ?_
  refine xj_icmp_ge (tgt := 121) dX12_ledTo_17 (by decide) (fun c1 => ?_) (fun c1 => ?_)
  · rw [if_pos c1] at h
    cases h
    refine xj_pick (ls' := [(4, vI x4)]) [4] rfl ?_
    exact ke x4 m rfl
  · rw [if_neg c1] at h
    refine xj_aload_n 0 dX12_ledTo_20 rfl ?_
    refine xj_aload_n 0 dX12_ledTo_21 rfl ?_
    refine xg_getR (k' := 52) (i' := 0) dX12_ledTo_22 fl_X12_23 rfl ?_
    refine xj_iconst (z := 3) dX12_ledTo_25 (by decide) ?_
    refine xg_iald (z := (m 52 0 3)) (n := 3) dX12_ledTo_26 rfl (by decide) (inb_in (by decide)) (by decide) rfl ?_
    refine xj_iload 6 dX12_ledTo_27 rfl ?_
    obtain ⟨z3, e2, h⟩ := bd1_some h
    refine xc_Vi0 (st := []) (ok_X12_between (m 52 0 3) x6 m e2) dX12_ledTo_29 cv_X12_267 rfl rfl (Nat.le_of_ble_eq_true rfl) (by decide) (by decide) (by decide) (by decide) ?_
    refine xj_istore (ls' := [(7, vI z3), (0, vR 12 0), (1, vI x1), (2, vI x2), (3, vI x3), (4, vI x4), (5, vI x5), (6, vI x6)]) dX12_ledTo_32 (by decide) rfl ?_
    refine xj_iload 0 dX12_ledTo_34 rfl ?_
    refine xj_iconst (z := (-1)) dX12_ledTo_36 (by decide) ?_
    refine xj_icmp_ne (tgt := 43) dX12_ledTo_37 (by decide) (fun c4 => ?_) (fun c4 => ?_)
    · rw [if_neg c4] at h
      refine xj_iload_n 2 dX12_ledTo_43 rfl ?_
      refine xj_iload 7 dX12_ledTo_44 rfl ?_
      refine xj_icmp_ne (tgt := 53) dX12_ledTo_46 (by decide) (fun c5 => ?_) (fun c5 => ?_)
      · rw [if_neg c5] at h
        refine xj_iconst (z := 0) dX12_ledTo_53 (by decide) ?_
        refine xj_pick (ls' := [(0, vR 12 0), (1, vI x1), (2, vI x2), (3, vI x3), (4, vI x4), (5, vI x5), (6, vI x6), (7, vI z3)]) [1, 2, 3, 4, 5, 6, 7, 0] rfl ?_
        exact ok_X12_ledTo_j54_c9 x1 x2 x3 x4 x5 x6 z3 0 m h kb ke
      · rw [if_pos c5] at h
        refine xj_iload_n 4 dX12_ledTo_49 rfl ?_
        refine xj_goto (tgt := 54) dX12_ledTo_50 (by decide) ?_
        refine xj_pick (ls' := [(0, vR 12 0), (1, vI x1), (2, vI x2), (3, vI x3), (4, vI x4), (5, vI x5), (6, vI x6), (7, vI z3)]) [1, 2, 3, 4, 5, 6, 7, 0] rfl ?_
        exact ok_X12_ledTo_j54_c9 x1 x2 x3 x4 x5 x6 z3 x3 m h kb ke
    · rw [if_pos c4] at h
      refine xj_goto (tgt := 115) dX12_ledTo_40 (by decide) ?_
      refine xj_pick (ls' := [(0, vR 12 0), (1, vI x1), (2, vI x2), (3, vI x3), (4, vI x4), (5, vI x5), (6, vI x6)]) [1, 2, 3, 4, 5, 6, 7] rfl ?_
      exact ok_X12_ledTo_j115_c9 x1 x2 x3 x4 x5 x6 m h kb ke
noncomputable def r_X12_ledTo_e121_h9 (x4 : Int32) (m : Mem) : Option (Int32 × Mem) :=
  some (x4, m)
set_option maxHeartbeats 4000000 in
set_option maxRecDepth 20000 in
theorem ok_X12_ledTo_e121_h9 (x4 : Int32) (m : Mem) {z : Int32} {m' : Mem} (h : r_X12_ledTo_e121_h9 x4 m = some (z, m')) : Xj RX12 cX12_ledTo 10 (some .int) 6 126 0 0 0 0 121 [(4, vI x4)] [] m (oI z) m' := by
  unfold r_X12_ledTo_e121_h9 at h
  refine xj_iload 0 dX12_ledTo_121 rfl ?_
  cases h
  exact xj_ireturn dX12_ledTo_123 rfl (by decide) (by decide)
noncomputable def r_X12_ledTo_l9 (x1 : Int32) (x2 : Int32) (x3 : Int32) (x4 : Int32) (x5 : Int32) (x6 : Int32) (m : Mem) : Option (Int32 × Mem) :=
  bd1 (loopO (fun s => r_X12_ledTo_b9 x1 x2 x3 s.1 s.2.1 s.2.2.1 s.2.2.2) (x4, x5, x6, m)) (fun e => r_X12_ledTo_e121_h9 e.1 e.2)
set_option maxHeartbeats 4000000 in
set_option maxRecDepth 20000 in
theorem ok_X12_ledTo_l9 (x1 : Int32) (x2 : Int32) (x3 : Int32) (x4 : Int32) (x5 : Int32) (x6 : Int32) (m : Mem) {z : Int32} {m' : Mem} (h : r_X12_ledTo_l9 x1 x2 x3 x4 x5 x6 m = some (z, m')) : Xj RX12 cX12_ledTo 10 (some .int) 6 126 0 0 0 0 9 [(0, vR 12 0), (1, vI x1), (2, vI x2), (3, vI x3), (4, vI x4), (5, vI x5), (6, vI x6)] [] m (oI z) m' := by
  unfold r_X12_ledTo_l9 at h
  obtain ⟨e, e1, h⟩ := bd1_some h
  refine loopO_ok (P := fun s : (Int32 × Int32 × Int32 × Mem) => Xj RX12 cX12_ledTo 10 (some .int) 6 126 0 0 0 0 9 [(0, vR 12 0), (1, vI x1), (2, vI x2), (3, vI x3), (4, vI s.1), (5, vI s.2.1), (6, vI s.2.2.1)] [] s.2.2.2 (oI z) m') (Q := fun e : (Int32 × Mem) => Xj RX12 cX12_ledTo 10 (some .int) 6 126 0 0 0 0 121 [(4, vI e.1)] [] e.2 (oI z) m') ?_ _ _ e1 ?_
  · intro s r9 h9 hi hx
    exact ok_X12_ledTo_b9 x1 x2 x3 s.1 s.2.1 s.2.2.1 s.2.2.2 h9 (by rintro _ _ _ _ rfl; exact hi _ rfl) (by rintro _ _ rfl; exact hx _ rfl)
  · exact ok_X12_ledTo_e121_h9 e.1 e.2 h 
noncomputable def r_X12_ledTo (x1 : Int32) (x2 : Int32) (x3 : Int32) (m : Mem) : Option (Int32 × Mem) :=
  r_X12_ledTo_l9 x1 x2 x3 (-1) 0 0 m
set_option maxHeartbeats 4000000 in
set_option maxRecDepth 20000 in
theorem ok_X12_ledTo (x1 : Int32) (x2 : Int32) (x3 : Int32) (m : Mem) {z : Int32} {m' : Mem} (h : r_X12_ledTo x1 x2 x3 m = some (z, m')) : Mt yX12_ledTo cX12_ledTo 10 (some .int) 6 126 0 0 [vR 12 0, vI x1, vI x2, vI x3] m (oI z) m' := by
  refine Mt.of (by decide) (Nat.le_of_ble_eq_true rfl) (by decide +kernel) (hhF_ne (by decide)) ?_
  show Xj RX12 cX12_ledTo 10 (some .int) 6 126 0 0 0 0 0 [(0, vR 12 0), (1, vI x1), (2, vI x2), (3, vI x3)] [] m (oI z) m'
  unfold r_X12_ledTo at h
  refine xj_iconst (z := (-1)) dX12_ledTo_0 (by decide) ?_
  refine xj_istore (ls' := [(4, vI (-1)), (0, vR 12 0), (1, vI x1), (2, vI x2), (3, vI x3)]) dX12_ledTo_1 (by decide) rfl ?_
  refine xj_iconst (z := 0) dX12_ledTo_3 (by decide) ?_
  refine xj_istore (ls' := [(5, vI 0), (4, vI (-1)), (0, vR 12 0), (1, vI x1), (2, vI x2), (3, vI x3)]) dX12_ledTo_4 (by decide) rfl ?_
  refine xj_iconst (z := 0) dX12_ledTo_6 (by decide) ?_
  refine xj_istore (ls' := [(6, vI 0), (5, vI 0), (4, vI (-1)), (0, vR 12 0), (1, vI x1), (2, vI x2), (3, vI x3)]) dX12_ledTo_7 (by decide) rfl ?_
  refine xj_pick (ls' := [(0, vR 12 0), (1, vI x1), (2, vI x2), (3, vI x3), (4, vI (-1)), (5, vI 0), (6, vI 0)]) [3, 4, 5, 6, 2, 1, 0] rfl ?_
  exact ok_X12_ledTo_l9 x1 x2 x3 (-1) 0 0 m h 
noncomputable def r_X12_silences_b25_c13 (x1 : Int32) (x2 : Int32) (x3 : Int32) (m : Mem) : Option ((Int32 × Mem) ⊕ (Mem)) :=
  if 12 ≤ x3 then (some (Sum.inr m)) else (if (r_X12_has x1 x2) = true then (if inb ((0 + (12 * x2)) + x3) 111 = true then (some (Sum.inl (x3 + 1, (wr m 60 1 (((0 + (12 * x2)) + x3).toNatClampNeg) (-1))))) else none) else (some (Sum.inr m)))
set_option maxHeartbeats 4000000 in
set_option maxRecDepth 20000 in
theorem ok_X12_silences_b25_c13 (x1 : Int32) (x2 : Int32) (x3 : Int32) (m : Mem) {r : (Int32 × Mem) ⊕ (Mem)} (h : r_X12_silences_b25_c13 x1 x2 x3 m = some r) {o : Ou} {M' : Mem} (kb : ∀ (x3' : Int32) (m'' : Mem), r = Sum.inl (x3', m'') → Xj RX12 cX12_silences 4 none 2 22 0 0 0 0 25 [(0, vR 12 0), (1, vI x1), (2, vI x2), (3, vI x3')] [] m'' o M') (ke : ∀ (m'' : Mem), r = Sum.inr m'' → Xj RX12 cX12_silences 4 none 2 22 0 0 0 0 59 [(0, vR 12 0), (1, vI x1), (2, vI x2)] [] m'' o M') : Xj RX12 cX12_silences 4 none 2 22 0 0 0 0 25 [(0, vR 12 0), (1, vI x1), (2, vI x2), (3, vI x3)] [] m o M' := by
  unfold r_X12_silences_b25_c13 at h
  refine xj_iload_n 3 dX12_silences_25 rfl ?_
  refine xj_bipush (z := 12) dX12_silences_26 (by decide) ?_
  refine xj_icmp_ge (tgt := 59) dX12_silences_28 (by decide) (fun c4 => ?_) (fun c4 => ?_)
  · rw [if_pos c4] at h
    cases h
    refine xj_pick (ls' := [(0, vR 12 0), (1, vI x1), (2, vI x2)]) [0, 1, 2] rfl ?_
    exact ke m rfl
  · rw [if_neg c4] at h
    refine xj_iload_n 1 dX12_silences_31 rfl ?_
    refine xj_iload_n 2 dX12_silences_32 rfl ?_
    refine xc_Sb0 (st := []) (ok_X12_has x1 x2 m rfl) dX12_silences_33 cs_X12_282 rfl rfl (Nat.le_of_ble_eq_true rfl) (by decide) (by decide) (by decide) (by decide) ?_
    refine xj_if_eq (tgt := 59) dX12_silences_36 (by decide) (fun c5 => ?_) (fun c5 => ?_)
    · rw [if_neg (b2i_f c5)] at h
      cases h
      refine xj_pick (ls' := [(0, vR 12 0), (1, vI x1), (2, vI x2)]) [0, 1, 2] rfl ?_
      exact ke m rfl
    · rw [if_pos (b2i_t c5)] at h
      refine xj_aload_n 0 dX12_silences_39 rfl ?_
      refine xg_getR (k' := 60) (i' := 1) dX12_silences_40 fl_X12_76 rfl ?_
      refine xj_iconst (z := 0) dX12_silences_43 (by decide) ?_
      refine xj_bipush (z := 12) dX12_silences_44 (by decide) ?_
      refine xj_iload_n 2 dX12_silences_46 rfl ?_
      refine xj_imul dX12_silences_47 ?_
      refine xj_iadd dX12_silences_48 ?_
      refine xj_iload_n 3 dX12_silences_49 rfl ?_
      refine xj_iadd dX12_silences_50 ?_
      refine xj_iconst (z := (-1)) dX12_silences_51 (by decide) ?_
      by_cases c6 : inb ((0 + (12 * x2)) + x3) 111 = true
      case neg => rw [if_neg c6] at h; cases h
      rw [if_pos c6] at h
      refine xg_iast (n := ((0 + (12 * x2)) + x3).toNatClampNeg) dX12_silences_52 rfl (by decide) (inb_in c6) rfl ?_
      refine xj_iinc (z := x3 + 1) (ls' := [(3, vI (x3 + 1)), (0, vR 12 0), (1, vI x1), (2, vI x2)]) 3 dX12_silences_53 rfl rfl (by decide) rfl ?_
      refine xj_goto (tgt := 25) dX12_silences_56 (by decide) ?_
      cases h
      refine xj_pick (ls' := [(0, vR 12 0), (1, vI x1), (2, vI x2), (3, vI (x3 + 1))]) [1, 2, 3, 0] rfl ?_
      exact kb (x3 + 1) (wr m 60 1 (((0 + (12 * x2)) + x3).toNatClampNeg) (-1)) rfl
noncomputable def r_X12_silences_j59_c13 (x1 : Int32) (x2 : Int32) (m : Mem) : Option ((Int32 × Mem) ⊕ (Mem)) :=
  some (Sum.inl (x2 + 1, m))
set_option maxHeartbeats 4000000 in
set_option maxRecDepth 20000 in
theorem ok_X12_silences_j59_c13 (x1 : Int32) (x2 : Int32) (m : Mem) {r : (Int32 × Mem) ⊕ (Mem)} (h : r_X12_silences_j59_c13 x1 x2 m = some r) {o : Ou} {M' : Mem} (kb : ∀ (x2' : Int32) (m'' : Mem), r = Sum.inl (x2', m'') → Xj RX12 cX12_silences 4 none 2 22 0 0 0 0 13 [(0, vR 12 0), (1, vI x1), (2, vI x2')] [] m'' o M') (ke : ∀ (m'' : Mem), r = Sum.inr m'' → Xj RX12 cX12_silences 4 none 2 22 0 0 0 0 65 [] [] m'' o M') : Xj RX12 cX12_silences 4 none 2 22 0 0 0 0 59 [(0, vR 12 0), (1, vI x1), (2, vI x2)] [] m o M' := by
  unfold r_X12_silences_j59_c13 at h
  refine xj_iinc (z := x2 + 1) (ls' := [(2, vI (x2 + 1)), (0, vR 12 0), (1, vI x1)]) 2 dX12_silences_59 rfl rfl (by decide) rfl ?_
  refine xj_goto (tgt := 13) dX12_silences_62 (by decide) ?_
  cases h
  refine xj_pick (ls' := [(0, vR 12 0), (1, vI x1), (2, vI (x2 + 1))]) [1, 2, 0] rfl ?_
  exact kb (x2 + 1) m rfl
noncomputable def r_X12_silences_e59_h25_c13 (x1 : Int32) (x2 : Int32) (m : Mem) : Option ((Int32 × Mem) ⊕ (Mem)) :=
  r_X12_silences_j59_c13 x1 x2 m
set_option maxHeartbeats 4000000 in
set_option maxRecDepth 20000 in
theorem ok_X12_silences_e59_h25_c13 (x1 : Int32) (x2 : Int32) (m : Mem) {r : (Int32 × Mem) ⊕ (Mem)} (h : r_X12_silences_e59_h25_c13 x1 x2 m = some r) {o : Ou} {M' : Mem} (kb : ∀ (x2' : Int32) (m'' : Mem), r = Sum.inl (x2', m'') → Xj RX12 cX12_silences 4 none 2 22 0 0 0 0 13 [(0, vR 12 0), (1, vI x1), (2, vI x2')] [] m'' o M') (ke : ∀ (m'' : Mem), r = Sum.inr m'' → Xj RX12 cX12_silences 4 none 2 22 0 0 0 0 65 [] [] m'' o M') : Xj RX12 cX12_silences 4 none 2 22 0 0 0 0 59 [(0, vR 12 0), (1, vI x1), (2, vI x2)] [] m o M' := by
  unfold r_X12_silences_e59_h25_c13 at h
  exact ok_X12_silences_j59_c13 x1 x2 m h kb ke
noncomputable def r_X12_silences_l25_c13 (x1 : Int32) (x2 : Int32) (x3 : Int32) (m : Mem) : Option ((Int32 × Mem) ⊕ (Mem)) :=
  bd1 (loopO (fun s => r_X12_silences_b25_c13 x1 x2 s.1 s.2) (x3, m)) (fun e => r_X12_silences_e59_h25_c13 x1 x2 e)
set_option maxHeartbeats 4000000 in
set_option maxRecDepth 20000 in
theorem ok_X12_silences_l25_c13 (x1 : Int32) (x2 : Int32) (x3 : Int32) (m : Mem) {r : (Int32 × Mem) ⊕ (Mem)} (h : r_X12_silences_l25_c13 x1 x2 x3 m = some r) {o : Ou} {M' : Mem} (kb : ∀ (x2' : Int32) (m'' : Mem), r = Sum.inl (x2', m'') → Xj RX12 cX12_silences 4 none 2 22 0 0 0 0 13 [(0, vR 12 0), (1, vI x1), (2, vI x2')] [] m'' o M') (ke : ∀ (m'' : Mem), r = Sum.inr m'' → Xj RX12 cX12_silences 4 none 2 22 0 0 0 0 65 [] [] m'' o M') : Xj RX12 cX12_silences 4 none 2 22 0 0 0 0 25 [(0, vR 12 0), (1, vI x1), (2, vI x2), (3, vI x3)] [] m o M' := by
  unfold r_X12_silences_l25_c13 at h
  obtain ⟨e, e1, h⟩ := bd1_some h
  refine loopO_ok (P := fun s : (Int32 × Mem) => Xj RX12 cX12_silences 4 none 2 22 0 0 0 0 25 [(0, vR 12 0), (1, vI x1), (2, vI x2), (3, vI s.1)] [] s.2 o M') (Q := fun e : (Mem) => Xj RX12 cX12_silences 4 none 2 22 0 0 0 0 59 [(0, vR 12 0), (1, vI x1), (2, vI x2)] [] e o M') ?_ _ _ e1 ?_
  · intro s r9 h9 hi hx
    exact ok_X12_silences_b25_c13 x1 x2 s.1 s.2 h9 (by rintro _ _ rfl; exact hi _ rfl) (by rintro _ rfl; exact hx _ rfl)
  · exact ok_X12_silences_e59_h25_c13 x1 x2 e h kb ke
noncomputable def r_X12_silences_b13 (x1 : Int32) (x2 : Int32) (m : Mem) : Option ((Int32 × Mem) ⊕ (Mem)) :=
  if (m 52 0 2) ≤ x2 then (some (Sum.inr m)) else (r_X12_silences_l25_c13 x1 x2 0 m)
set_option maxHeartbeats 4000000 in
set_option maxRecDepth 20000 in
theorem ok_X12_silences_b13 (x1 : Int32) (x2 : Int32) (m : Mem) {r : (Int32 × Mem) ⊕ (Mem)} (h : r_X12_silences_b13 x1 x2 m = some r) {o : Ou} {M' : Mem} (kb : ∀ (x2' : Int32) (m'' : Mem), r = Sum.inl (x2', m'') → Xj RX12 cX12_silences 4 none 2 22 0 0 0 0 13 [(0, vR 12 0), (1, vI x1), (2, vI x2')] [] m'' o M') (ke : ∀ (m'' : Mem), r = Sum.inr m'' → Xj RX12 cX12_silences 4 none 2 22 0 0 0 0 65 [] [] m'' o M') : Xj RX12 cX12_silences 4 none 2 22 0 0 0 0 13 [(0, vR 12 0), (1, vI x1), (2, vI x2)] [] m o M' := by
  unfold r_X12_silences_b13 at h
  refine xj_iload_n 2 dX12_silences_13 rfl ?_
  refine xj_aload_n 0 dX12_silences_14 rfl ?_
  refine xg_getR (k' := 52) (i' := 0) dX12_silences_15 fl_X12_23 rfl ?_
  refine xj_iconst (z := 2) dX12_silences_18 (by decide) ?_
  refine xg_iald (z := (m 52 0 2)) (n := 2) dX12_silences_19 rfl (by decide) (inb_in (by decide)) (by decide) rfl ?_
  refine xj_icmp_ge (tgt := 65) dX12_silences_20 (by decide) (fun c3 => ?_) (fun c3 => ?_)
  · rw [if_pos c3] at h
    cases h
    refine xj_pick (ls' := []) [] rfl ?_
    exact ke m rfl
  · rw [if_neg c3] at h
    refine xj_iconst (z := 0) dX12_silences_23 (by decide) ?_
    refine xj_istore_n (ls' := [(3, vI 0), (0, vR 12 0), (1, vI x1), (2, vI x2)]) dX12_silences_24 rfl (by decide) rfl ?_
    refine xj_pick (ls' := [(0, vR 12 0), (1, vI x1), (2, vI x2), (3, vI 0)]) [1, 2, 3, 0] rfl ?_
    exact ok_X12_silences_l25_c13 x1 x2 0 m h kb ke
noncomputable def r_X12_silences_e65_h13 (m : Mem) : Option Mem :=
  some m
set_option maxHeartbeats 4000000 in
set_option maxRecDepth 20000 in
theorem ok_X12_silences_e65_h13 (m : Mem) {m' : Mem} (h : r_X12_silences_e65_h13 m = some m') : Xj RX12 cX12_silences 4 none 2 22 0 0 0 0 65 [] [] m oV m' := by
  unfold r_X12_silences_e65_h13 at h
  cases h
  exact xj_return dX12_silences_65 (by decide) (by decide)
noncomputable def r_X12_silences_l13 (x1 : Int32) (x2 : Int32) (m : Mem) : Option Mem :=
  bd1 (loopO (fun s => r_X12_silences_b13 x1 s.1 s.2) (x2, m)) (fun e => r_X12_silences_e65_h13 e)
set_option maxHeartbeats 4000000 in
set_option maxRecDepth 20000 in
theorem ok_X12_silences_l13 (x1 : Int32) (x2 : Int32) (m : Mem) {m' : Mem} (h : r_X12_silences_l13 x1 x2 m = some m') : Xj RX12 cX12_silences 4 none 2 22 0 0 0 0 13 [(0, vR 12 0), (1, vI x1), (2, vI x2)] [] m oV m' := by
  unfold r_X12_silences_l13 at h
  obtain ⟨e, e1, h⟩ := bd1_some h
  refine loopO_ok (P := fun s : (Int32 × Mem) => Xj RX12 cX12_silences 4 none 2 22 0 0 0 0 13 [(0, vR 12 0), (1, vI x1), (2, vI s.1)] [] s.2 oV m') (Q := fun e : (Mem) => Xj RX12 cX12_silences 4 none 2 22 0 0 0 0 65 [] [] e oV m') ?_ _ _ e1 ?_
  · intro s r9 h9 hi hx
    exact ok_X12_silences_b13 x1 s.1 s.2 h9 (by rintro _ _ rfl; exact hi _ rfl) (by rintro _ rfl; exact hx _ rfl)
  · exact ok_X12_silences_e65_h13 e h 
noncomputable def r_X12_silences (x1 : Int32) (m : Mem) : Option Mem :=
  bd1 (r_X12_copies 0 1 m) fun m2 => (r_X12_silences_l13 x1 0 m2)
set_option maxHeartbeats 4000000 in
set_option maxRecDepth 20000 in
theorem ok_X12_silences (x1 : Int32) (m : Mem) {m' : Mem} (h : r_X12_silences x1 m = some m') : Mt yX12_silences cX12_silences 4 none 2 22 0 0 [vR 12 0, vI x1] m oV m' := by
  refine Mt.of (by decide) (Nat.le_of_ble_eq_true rfl) (by decide +kernel) (hhF_ne (by decide)) ?_
  show Xj RX12 cX12_silences 4 none 2 22 0 0 0 0 0 [(0, vR 12 0), (1, vI x1)] [] m oV m'
  unfold r_X12_silences at h
  refine xj_aload_n 0 dX12_silences_0 rfl ?_
  refine xg_getR (k' := 60) (i' := 0) dX12_silences_1 fl_X12_73 rfl ?_
  refine xj_aload_n 0 dX12_silences_4 rfl ?_
  refine xg_getR (k' := 60) (i' := 1) dX12_silences_5 fl_X12_76 rfl ?_
  obtain ⟨m2, e1, h⟩ := bd1_some h
  refine xc_Sv0 (st := []) (ok_X12_copies 0 1 m e1) dX12_silences_8 cs_X12_342 rfl rfl (Nat.le_of_ble_eq_true rfl) (by decide) (by decide) (by decide) (by decide) ?_
  refine xj_iconst (z := 0) dX12_silences_11 (by decide) ?_
  refine xj_istore_n (ls' := [(2, vI 0), (0, vR 12 0), (1, vI x1)]) dX12_silences_12 rfl (by decide) rfl ?_
  refine xj_pick (ls' := [(0, vR 12 0), (1, vI x1), (2, vI 0)]) [1, 2, 0] rfl ?_
  exact ok_X12_silences_l13 x1 0 m2 h 
noncomputable def r_X12_isForgotten_b7 (x2 : Int32) (m : Mem) : Option ((Int32 × Mem) ⊕ ((Mem) ⊕ (Bool × Mem))) :=
  if (m 12 0 35) ≤ x2 then (some (Sum.inr (Sum.inl m))) else (if inb x2 12 = true then (bd2 (r_X12_nextOf 1 (m 77 x2.toNatClampNeg 0) m) fun z7 m6 => (if z7 = (m6 77 x2.toNatClampNeg 1) then (some (Sum.inl (x2 + 1, m6))) else (some (Sum.inr (Sum.inr (false, m6)))))) else none)
set_option maxHeartbeats 4000000 in
set_option maxRecDepth 20000 in
theorem ok_X12_isForgotten_b7 (x2 : Int32) (m : Mem) {r : (Int32 × Mem) ⊕ ((Mem) ⊕ (Bool × Mem))} (h : r_X12_isForgotten_b7 x2 m = some r) {o : Ou} {M' : Mem} (kb : ∀ (x2' : Int32) (m'' : Mem), r = Sum.inl (x2', m'') → Xj RX12 cX12_isForgotten 3 (some .boolean) 8 177 0 0 0 0 7 [(0, vR 12 0), (2, vI x2')] [] m'' o M') (ke : ∀ (m'' : Mem), r = Sum.inr (Sum.inl m'') → Xj RX12 cX12_isForgotten 3 (some .boolean) 8 177 0 0 0 0 50 [] [] m'' o M') (kr : ∀ (z : Bool) (m' : Mem), r = Sum.inr (Sum.inr (z, m')) → o = (oB z) ∧ M' = m') : Xj RX12 cX12_isForgotten 3 (some .boolean) 8 177 0 0 0 0 7 [(0, vR 12 0), (2, vI x2)] [] m o M' := by
  unfold r_X12_isForgotten_b7 at h
  refine xj_iload_n 1 dX12_isForgotten_7 rfl ?_
  refine xj_aload_n 0 dX12_isForgotten_8 rfl ?_
  refine xg_getI (x := (m 12 0 35)) dX12_isForgotten_9 fl_X12_211 rfl rfl ?_
  refine xj_icmp_ge (tgt := 50) dX12_isForgotten_12 (by decide) (fun c3 => ?_) (fun c3 => ?_)
  · rw [if_pos c3] at h
    cases h
    refine xj_pick (ls' := []) [] rfl ?_
    exact ke m rfl
  · rw [if_neg c3] at h
    refine xj_aload_n 0 dX12_isForgotten_15 rfl ?_
    refine xj_aload_n 0 dX12_isForgotten_16 rfl ?_
    refine xg_getR (k' := 60) (i' := 1) dX12_isForgotten_17 fl_X12_76 rfl ?_
    refine xj_aload_n 0 dX12_isForgotten_20 rfl ?_
    refine xg_getR (k' := 78) (i' := 0) dX12_isForgotten_21 fl_X12_58 rfl ?_
    refine xj_iload_n 1 dX12_isForgotten_24 rfl ?_
    by_cases c4 : inb x2 12 = true
    case neg => rw [if_neg c4] at h; cases h
    rw [if_pos c4] at h
    refine xg_aald (k' := 77) (i' := x2.toNatClampNeg) (n := x2.toNatClampNeg) dX12_isForgotten_25 rfl (by decide) (inb_in c4) rfl rfl ?_
    refine xj_iconst (z := 0) dX12_isForgotten_26 (by decide) ?_
    refine xg_iald (z := (m 77 x2.toNatClampNeg 0)) (n := 0) dX12_isForgotten_27 rfl (by decide) (inb_in (by decide)) (by decide) rfl ?_
    obtain ⟨z7, m6, e5, h⟩ := bd2_some h
    refine xc_Vi0 (st := []) (ok_X12_nextOf 1 (m 77 x2.toNatClampNeg 0) m e5) dX12_isForgotten_28 cv_X12_301 rfl rfl (Nat.le_of_ble_eq_true rfl) (by decide) (by decide) (by decide) (by decide) ?_
    refine xj_aload_n 0 dX12_isForgotten_31 rfl ?_
    refine xg_getR (k' := 78) (i' := 0) dX12_isForgotten_32 fl_X12_58 rfl ?_
    refine xj_iload_n 1 dX12_isForgotten_35 rfl ?_
    refine xg_aald (k' := 77) (i' := x2.toNatClampNeg) (n := x2.toNatClampNeg) dX12_isForgotten_36 rfl (by decide) (inb_in c4) rfl rfl ?_
    refine xj_iconst (z := 1) dX12_isForgotten_37 (by decide) ?_
    refine xg_iald (z := (m6 77 x2.toNatClampNeg 1)) (n := 1) dX12_isForgotten_38 rfl (by decide) (inb_in (by decide)) (by decide) rfl ?_
    refine xj_icmp_eq (tgt := 44) dX12_isForgotten_39 (by decide) (fun c8 => ?_) (fun c8 => ?_)
    · rw [if_pos c8] at h
      refine xj_iinc (z := x2 + 1) (ls' := [(2, vI (x2 + 1)), (0, vR 12 0)]) 1 dX12_isForgotten_44 rfl rfl (by decide) rfl ?_
      refine xj_goto (tgt := 7) dX12_isForgotten_47 (by decide) ?_
      cases h
      refine xj_pick (ls' := [(0, vR 12 0), (2, vI (x2 + 1))]) [1, 0] rfl ?_
      exact kb (x2 + 1) m6 rfl
    · rw [if_neg c8] at h
      refine xj_iconst (z := 0) dX12_isForgotten_42 (by decide) ?_
      cases h
      obtain ⟨rfl, rfl⟩ := kr _ _ rfl
      exact xj_ireturn dX12_isForgotten_43 rfl (by decide) (by decide)
noncomputable def r_X12_isForgotten_e50_h7 (m : Mem) : Option (Bool × Mem) :=
  some (true, m)
set_option maxHeartbeats 4000000 in
set_option maxRecDepth 20000 in
theorem ok_X12_isForgotten_e50_h7 (m : Mem) {z : Bool} {m' : Mem} (h : r_X12_isForgotten_e50_h7 m = some (z, m')) : Xj RX12 cX12_isForgotten 3 (some .boolean) 8 177 0 0 0 0 50 [] [] m (oB z) m' := by
  unfold r_X12_isForgotten_e50_h7 at h
  refine xj_iconst (z := 1) dX12_isForgotten_50 (by decide) ?_
  cases h
  exact xj_ireturn dX12_isForgotten_51 rfl (by decide) (by decide)
noncomputable def r_X12_isForgotten_l7 (x2 : Int32) (m : Mem) : Option (Bool × Mem) :=
  bdS (loopO (fun s => r_X12_isForgotten_b7 s.1 s.2) (x2, m)) (fun e => r_X12_isForgotten_e50_h7 e) (fun q => some q)
set_option maxHeartbeats 4000000 in
set_option maxRecDepth 20000 in
theorem ok_X12_isForgotten_l7 (x2 : Int32) (m : Mem) {z : Bool} {m' : Mem} (h : r_X12_isForgotten_l7 x2 m = some (z, m')) : Xj RX12 cX12_isForgotten 3 (some .boolean) 8 177 0 0 0 0 7 [(0, vR 12 0), (2, vI x2)] [] m (oB z) m' := by
  unfold r_X12_isForgotten_l7 at h
  rcases bdS_some h with ⟨e, e1, h⟩ | ⟨q, e1, h⟩
  · refine loopO_ok (P := fun s : (Int32 × Mem) => Xj RX12 cX12_isForgotten 3 (some .boolean) 8 177 0 0 0 0 7 [(0, vR 12 0), (2, vI s.1)] [] s.2 (oB z) m') (Q := Sum.elim (fun e : (Mem) => Xj RX12 cX12_isForgotten 3 (some .boolean) 8 177 0 0 0 0 50 [] [] e (oB z) m') (fun q : (Bool × Mem) => (oB z) = (oB q.1) ∧ m' = q.2)) ?_ _ _ e1 ?_
    · intro s r9 h9 hi hx
      exact ok_X12_isForgotten_b7 s.1 s.2 h9 (by rintro _ _ rfl; exact hi _ rfl) (by rintro _ rfl; exact hx _ rfl) (by rintro _ _ rfl; exact hx _ rfl)
    · exact ok_X12_isForgotten_e50_h7 e h 
  · refine loopO_ok (P := fun s : (Int32 × Mem) => Xj RX12 cX12_isForgotten 3 (some .boolean) 8 177 0 0 0 0 7 [(0, vR 12 0), (2, vI s.1)] [] s.2 (oB z) m') (Q := Sum.elim (fun e : (Mem) => Xj RX12 cX12_isForgotten 3 (some .boolean) 8 177 0 0 0 0 50 [] [] e (oB z) m') (fun q : (Bool × Mem) => (oB z) = (oB q.1) ∧ m' = q.2)) ?_ _ _ e1 ?_
    · intro s r9 h9 hi hx
      exact ok_X12_isForgotten_b7 s.1 s.2 h9 (by rintro _ _ rfl; exact hi _ rfl) (by rintro _ rfl; exact hx _ rfl) (by rintro _ _ rfl; exact hx _ rfl)
    · cases h; exact ⟨rfl, rfl⟩
noncomputable def r_X12_isForgotten (x1 : Int32) (m : Mem) : Option (Bool × Mem) :=
  bd1 (r_X12_silences x1 m) fun m2 => (r_X12_isForgotten_l7 0 m2)
set_option maxHeartbeats 4000000 in
set_option maxRecDepth 20000 in
theorem ok_X12_isForgotten (x1 : Int32) (m : Mem) {z : Bool} {m' : Mem} (h : r_X12_isForgotten x1 m = some (z, m')) : Mt yX12_isForgotten cX12_isForgotten 3 (some .boolean) 8 177 0 0 [vR 12 0, vI x1] m (oB z) m' := by
  refine Mt.of (by decide) (Nat.le_of_ble_eq_true rfl) (by decide +kernel) (hhF_ne (by decide)) ?_
  show Xj RX12 cX12_isForgotten 3 (some .boolean) 8 177 0 0 0 0 0 [(0, vR 12 0), (1, vI x1)] [] m (oB z) m'
  unfold r_X12_isForgotten at h
  refine xj_aload_n 0 dX12_isForgotten_0 rfl ?_
  refine xj_iload_n 1 dX12_isForgotten_1 rfl ?_
  obtain ⟨m2, e1, h⟩ := bd1_some h
  refine xc_Vv0 (st := []) (ok_X12_silences x1 m e1) dX12_isForgotten_2 cv_X12_378 rfl rfl (Nat.le_of_ble_eq_true rfl) (by decide) (by decide) (by decide) (by decide) ?_
  refine xj_iconst (z := 0) dX12_isForgotten_5 (by decide) ?_
  refine xj_istore_n (ls' := [(2, vI 0), (0, vR 12 0), (1, vI x1)]) dX12_isForgotten_6 rfl (by decide) rfl ?_
  refine xj_pick (ls' := [(0, vR 12 0), (2, vI 0)]) [1, 0] rfl ?_
  exact ok_X12_isForgotten_l7 0 m2 h 
noncomputable def r_X12_laysTells_j136_c19 (x1 : Int32) (x2 : Int32) (x3 : Int32) (m : Mem) : Option ((Int32 × Mem) ⊕ (Mem)) :=
  some (Sum.inl (x3 + 1, m))
set_option maxHeartbeats 4000000 in
set_option maxRecDepth 20000 in
theorem ok_X12_laysTells_j136_c19 (x1 : Int32) (x2 : Int32) (x3 : Int32) (m : Mem) {r : (Int32 × Mem) ⊕ (Mem)} (h : r_X12_laysTells_j136_c19 x1 x2 x3 m = some r) {o : Ou} {M' : Mem} (kb : ∀ (x3' : Int32) (m'' : Mem), r = Sum.inl (x3', m'') → Xj RX12 cX12_laysTells 4 none 8 177 0 0 0 0 19 [(0, vR 12 0), (1, vI x1), (2, vI x2), (3, vI x3')] [] m'' o M') (ke : ∀ (m'' : Mem), r = Sum.inr m'' → Xj RX12 cX12_laysTells 4 none 8 177 0 0 0 0 142 [(0, vR 12 0), (1, vI x1), (2, vI x2)] [] m'' o M') : Xj RX12 cX12_laysTells 4 none 8 177 0 0 0 0 136 [(0, vR 12 0), (1, vI x1), (2, vI x2), (3, vI x3)] [] m o M' := by
  unfold r_X12_laysTells_j136_c19 at h
  refine xj_iinc (z := x3 + 1) (ls' := [(3, vI (x3 + 1)), (0, vR 12 0), (1, vI x1), (2, vI x2)]) 3 dX12_laysTells_136 rfl rfl (by decide) rfl ?_
  refine xj_goto (tgt := 19) dX12_laysTells_139 (by decide) ?_
  cases h
  refine xj_pick (ls' := [(0, vR 12 0), (1, vI x1), (2, vI x2), (3, vI (x3 + 1))]) [1, 2, 3, 0] rfl ?_
  exact kb (x3 + 1) m rfl
noncomputable def r_X12_laysTells_b19_c7 (x1 : Int32) (x2 : Int32) (x3 : Int32) (m : Mem) : Option ((Int32 × Mem) ⊕ (Mem)) :=
  if (m 52 0 0) ≤ x3 then (some (Sum.inr m)) else (bd1 (r_X12_between x2 x3 m) fun z4 => (if z4 = (-1) then (r_X12_laysTells_j136_c19 x1 x2 x3 m) else (if inb ((0 + (12 * x1)) + x2) 111 = true then (if (m 60 0 (((0 + (12 * x1)) + x2).toNatClampNeg)) = x3 then (r_X12_laysTells_j136_c19 x1 x2 x3 m) else (bd1 (r_X12_copies 0 1 m) fun m9 => (if inb (m9 12 0 47) 32 = true then (bd2 (r_X12_nextOf 1 x2 (wr (wr (wr m9 60 1 (((0 + (12 * x1)) + x2).toNatClampNeg) x3) 85 ((m9 12 0 47).toNatClampNeg) 0 x2) 85 ((m9 12 0 47).toNatClampNeg) 1 x3)) fun z13 m12 => (r_X12_laysTells_j136_c19 x1 x2 x3 (wr (wr m12 59 0 ((m9 12 0 47).toNatClampNeg) z13) 12 0 47 ((m12 12 0 47) + 1)))) else none))) else none)))
set_option maxHeartbeats 4000000 in
set_option maxRecDepth 20000 in
theorem ok_X12_laysTells_b19_c7 (x1 : Int32) (x2 : Int32) (x3 : Int32) (m : Mem) {r : (Int32 × Mem) ⊕ (Mem)} (h : r_X12_laysTells_b19_c7 x1 x2 x3 m = some r) {o : Ou} {M' : Mem} (kb : ∀ (x3' : Int32) (m'' : Mem), r = Sum.inl (x3', m'') → Xj RX12 cX12_laysTells 4 none 8 177 0 0 0 0 19 [(0, vR 12 0), (1, vI x1), (2, vI x2), (3, vI x3')] [] m'' o M') (ke : ∀ (m'' : Mem), r = Sum.inr m'' → Xj RX12 cX12_laysTells 4 none 8 177 0 0 0 0 142 [(0, vR 12 0), (1, vI x1), (2, vI x2)] [] m'' o M') : Xj RX12 cX12_laysTells 4 none 8 177 0 0 0 0 19 [(0, vR 12 0), (1, vI x1), (2, vI x2), (3, vI x3)] [] m o M' := by
  unfold r_X12_laysTells_b19_c7 at h
  refine xj_iload_n 3 dX12_laysTells_19 rfl ?_
  refine xj_aload_n 0 dX12_laysTells_20 rfl ?_
  refine xg_getR (k' := 52) (i' := 0) dX12_laysTells_21 fl_X12_23 rfl ?_
  refine xj_iconst (z := 0) dX12_laysTells_24 (by decide) ?_
  refine xg_iald (z := (m 52 0 0)) (n := 0) dX12_laysTells_25 rfl (by decide) (inb_in (by decide)) (by decide) rfl ?_
  refine xj_icmp_ge (tgt := 142) dX12_laysTells_26 (by decide) (fun c2 => ?_) (fun c2 => ?_)
  · rw [if_pos c2] at h
    cases h
    refine xj_pick (ls' := [(0, vR 12 0), (1, vI x1), (2, vI x2)]) [0, 1, 2] rfl ?_
    exact ke m rfl
  · rw [if_neg c2] at h
    refine xj_aload_n 0 dX12_laysTells_29 rfl ?_
    refine xj_iload_n 2 dX12_laysTells_30 rfl ?_
    refine xj_iload_n 3 dX12_laysTells_31 rfl ?_
    obtain ⟨z4, e3, h⟩ := bd1_some h
    refine xc_Vi0 (st := []) (ok_X12_between x2 x3 m e3) dX12_laysTells_32 cv_X12_267 rfl rfl (Nat.le_of_ble_eq_true rfl) (by decide) (by decide) (by decide) (by decide) ?_
    refine xj_iconst (z := (-1)) dX12_laysTells_35 (by decide) ?_
    refine xj_icmp_eq (tgt := 136) dX12_laysTells_36 (by decide) (fun c5 => ?_) (fun c5 => ?_)
    · rw [if_pos c5] at h
      exact ok_X12_laysTells_j136_c19 x1 x2 x3 m h kb ke
    · rw [if_neg c5] at h
      refine xj_aload_n 0 dX12_laysTells_39 rfl ?_
      refine xg_getR (k' := 60) (i' := 0) dX12_laysTells_40 fl_X12_73 rfl ?_
      refine xj_iconst (z := 0) dX12_laysTells_43 (by decide) ?_
      refine xj_bipush (z := 12) dX12_laysTells_44 (by decide) ?_
      refine xj_iload_n 1 dX12_laysTells_46 rfl ?_
      refine xj_imul dX12_laysTells_47 ?_
      refine xj_iadd dX12_laysTells_48 ?_
      refine xj_iload_n 2 dX12_laysTells_49 rfl ?_
      refine xj_iadd dX12_laysTells_50 ?_
      by_cases c6 : inb ((0 + (12 * x1)) + x2) 111 = true
      case neg => rw [if_neg c6] at h; cases h
      rw [if_pos c6] at h
      refine xg_iald (z := (m 60 0 (((0 + (12 * x1)) + x2).toNatClampNeg))) (n := ((0 + (12 * x1)) + x2).toNatClampNeg) dX12_laysTells_51 rfl (by decide) (inb_in c6) rfl rfl ?_
      refine xj_iload_n 3 dX12_laysTells_52 rfl ?_
      refine xj_icmp_ne (tgt := 59) dX12_laysTells_53 (by decide) (fun c7 => ?_) (fun c7 => ?_)
      · rw [if_neg c7] at h
        refine xj_aload_n 0 dX12_laysTells_59 rfl ?_
        refine xg_getR (k' := 60) (i' := 0) dX12_laysTells_60 fl_X12_73 rfl ?_
        refine xj_aload_n 0 dX12_laysTells_63 rfl ?_
        refine xg_getR (k' := 60) (i' := 1) dX12_laysTells_64 fl_X12_76 rfl ?_
        obtain ⟨m9, e8, h⟩ := bd1_some h
        refine xc_Sv0 (st := []) (ok_X12_copies 0 1 m e8) dX12_laysTells_67 cs_X12_342 rfl rfl (Nat.le_of_ble_eq_true rfl) (by decide) (by decide) (by decide) (by decide) ?_
        refine xj_aload_n 0 dX12_laysTells_70 rfl ?_
        refine xg_getR (k' := 60) (i' := 1) dX12_laysTells_71 fl_X12_76 rfl ?_
        refine xj_iconst (z := 0) dX12_laysTells_74 (by decide) ?_
        refine xj_bipush (z := 12) dX12_laysTells_75 (by decide) ?_
        refine xj_iload_n 1 dX12_laysTells_77 rfl ?_
        refine xj_imul dX12_laysTells_78 ?_
        refine xj_iadd dX12_laysTells_79 ?_
        refine xj_iload_n 2 dX12_laysTells_80 rfl ?_
        refine xj_iadd dX12_laysTells_81 ?_
        refine xj_iload_n 3 dX12_laysTells_82 rfl ?_
        refine xg_iast (n := ((0 + (12 * x1)) + x2).toNatClampNeg) dX12_laysTells_83 rfl (by decide) (inb_in c6) rfl ?_
        refine xj_aload_n 0 dX12_laysTells_84 rfl ?_
        refine xg_getR (k' := 86) (i' := 0) dX12_laysTells_85 fl_X12_91 rfl ?_
        refine xj_aload_n 0 dX12_laysTells_88 rfl ?_
        refine xg_getI (x := (m9 12 0 47)) dX12_laysTells_89 fl_X12_369 rfl rfl ?_
        by_cases c10 : inb (m9 12 0 47) 32 = true
        case neg => rw [if_neg c10] at h; cases h
        rw [if_pos c10] at h
        refine xg_aald (k' := 85) (i' := ((m9 12 0 47).toNatClampNeg)) (n := (m9 12 0 47).toNatClampNeg) dX12_laysTells_92 rfl (by decide) (inb_in c10) rfl rfl ?_
        refine xj_iconst (z := 0) dX12_laysTells_93 (by decide) ?_
        refine xj_iload_n 2 dX12_laysTells_94 rfl ?_
        refine xg_iast (n := 0) dX12_laysTells_95 rfl (by decide) (inb_in (by decide)) (by decide) ?_
        refine xj_aload_n 0 dX12_laysTells_96 rfl ?_
        refine xg_getR (k' := 86) (i' := 0) dX12_laysTells_97 fl_X12_91 rfl ?_
        refine xj_aload_n 0 dX12_laysTells_100 rfl ?_
        refine xg_getI (x := (m9 12 0 47)) dX12_laysTells_101 fl_X12_369 rfl rfl ?_
        refine xg_aald (k' := 85) (i' := ((m9 12 0 47).toNatClampNeg)) (n := (m9 12 0 47).toNatClampNeg) dX12_laysTells_104 rfl (by decide) (inb_in c10) rfl rfl ?_
        refine xj_iconst (z := 1) dX12_laysTells_105 (by decide) ?_
        refine xj_iload_n 3 dX12_laysTells_106 rfl ?_
        refine xg_iast (n := 1) dX12_laysTells_107 rfl (by decide) (inb_in (by decide)) (by decide) ?_
        refine xj_aload_n 0 dX12_laysTells_108 rfl ?_
        refine xg_getR (k' := 59) (i' := 0) dX12_laysTells_109 fl_X12_94 rfl ?_
        refine xj_aload_n 0 dX12_laysTells_112 rfl ?_
        refine xg_getI (x := (m9 12 0 47)) dX12_laysTells_113 fl_X12_369 rfl rfl ?_
        refine xj_aload_n 0 dX12_laysTells_116 rfl ?_
        refine xj_aload_n 0 dX12_laysTells_117 rfl ?_
        refine xg_getR (k' := 60) (i' := 1) dX12_laysTells_118 fl_X12_76 rfl ?_
        refine xj_iload_n 2 dX12_laysTells_121 rfl ?_
        obtain ⟨z13, m12, e11, h⟩ := bd2_some h
        refine xc_Vi0 (st := [vI (m9 12 0 47), vR 59 0]) (ok_X12_nextOf 1 x2 (wr (wr (wr m9 60 1 (((0 + (12 * x1)) + x2).toNatClampNeg) x3) 85 ((m9 12 0 47).toNatClampNeg) 0 x2) 85 ((m9 12 0 47).toNatClampNeg) 1 x3) e11) dX12_laysTells_122 cv_X12_301 rfl rfl (Nat.le_of_ble_eq_true rfl) (by decide) (by decide) (by decide) (by decide) ?_
        refine xg_iast (n := (m9 12 0 47).toNatClampNeg) dX12_laysTells_125 rfl (by decide) (inb_in c10) rfl ?_
        refine xj_aload_n 0 dX12_laysTells_126 rfl ?_
        refine xj_dup dX12_laysTells_127 rfl ?_
        refine xg_getI (x := (m12 12 0 47)) dX12_laysTells_128 fl_X12_369 rfl rfl ?_
        refine xj_iconst (z := 1) dX12_laysTells_131 (by decide) ?_
        refine xj_iadd dX12_laysTells_132 ?_
        refine xj_putI dX12_laysTells_133 fw_X12_369 rfl ?_
        exact ok_X12_laysTells_j136_c19 x1 x2 x3 (wr (wr m12 59 0 ((m9 12 0 47).toNatClampNeg) z13) 12 0 47 ((m12 12 0 47) + 1)) h kb ke
      · rw [if_pos c7] at h
        refine xj_goto (tgt := 136) dX12_laysTells_56 (by decide) ?_
        exact ok_X12_laysTells_j136_c19 x1 x2 x3 m h kb ke
noncomputable def r_X12_laysTells_e142_h19_c7 (x1 : Int32) (x2 : Int32) (m : Mem) : Option ((Int32 × Mem) ⊕ (Mem)) :=
  some (Sum.inl (x2 + 1, m))
set_option maxHeartbeats 4000000 in
set_option maxRecDepth 20000 in
theorem ok_X12_laysTells_e142_h19_c7 (x1 : Int32) (x2 : Int32) (m : Mem) {r : (Int32 × Mem) ⊕ (Mem)} (h : r_X12_laysTells_e142_h19_c7 x1 x2 m = some r) {o : Ou} {M' : Mem} (kb : ∀ (x2' : Int32) (m'' : Mem), r = Sum.inl (x2', m'') → Xj RX12 cX12_laysTells 4 none 8 177 0 0 0 0 7 [(0, vR 12 0), (1, vI x1), (2, vI x2')] [] m'' o M') (ke : ∀ (m'' : Mem), r = Sum.inr m'' → Xj RX12 cX12_laysTells 4 none 8 177 0 0 0 0 148 [] [] m'' o M') : Xj RX12 cX12_laysTells 4 none 8 177 0 0 0 0 142 [(0, vR 12 0), (1, vI x1), (2, vI x2)] [] m o M' := by
  unfold r_X12_laysTells_e142_h19_c7 at h
  refine xj_iinc (z := x2 + 1) (ls' := [(2, vI (x2 + 1)), (0, vR 12 0), (1, vI x1)]) 2 dX12_laysTells_142 rfl rfl (by decide) rfl ?_
  refine xj_goto (tgt := 7) dX12_laysTells_145 (by decide) ?_
  cases h
  refine xj_pick (ls' := [(0, vR 12 0), (1, vI x1), (2, vI (x2 + 1))]) [1, 2, 0] rfl ?_
  exact kb (x2 + 1) m rfl
noncomputable def r_X12_laysTells_l19_c7 (x1 : Int32) (x2 : Int32) (x3 : Int32) (m : Mem) : Option ((Int32 × Mem) ⊕ (Mem)) :=
  bd1 (loopO (fun s => r_X12_laysTells_b19_c7 x1 x2 s.1 s.2) (x3, m)) (fun e => r_X12_laysTells_e142_h19_c7 x1 x2 e)
set_option maxHeartbeats 4000000 in
set_option maxRecDepth 20000 in
theorem ok_X12_laysTells_l19_c7 (x1 : Int32) (x2 : Int32) (x3 : Int32) (m : Mem) {r : (Int32 × Mem) ⊕ (Mem)} (h : r_X12_laysTells_l19_c7 x1 x2 x3 m = some r) {o : Ou} {M' : Mem} (kb : ∀ (x2' : Int32) (m'' : Mem), r = Sum.inl (x2', m'') → Xj RX12 cX12_laysTells 4 none 8 177 0 0 0 0 7 [(0, vR 12 0), (1, vI x1), (2, vI x2')] [] m'' o M') (ke : ∀ (m'' : Mem), r = Sum.inr m'' → Xj RX12 cX12_laysTells 4 none 8 177 0 0 0 0 148 [] [] m'' o M') : Xj RX12 cX12_laysTells 4 none 8 177 0 0 0 0 19 [(0, vR 12 0), (1, vI x1), (2, vI x2), (3, vI x3)] [] m o M' := by
  unfold r_X12_laysTells_l19_c7 at h
  obtain ⟨e, e1, h⟩ := bd1_some h
  refine loopO_ok (P := fun s : (Int32 × Mem) => Xj RX12 cX12_laysTells 4 none 8 177 0 0 0 0 19 [(0, vR 12 0), (1, vI x1), (2, vI x2), (3, vI s.1)] [] s.2 o M') (Q := fun e : (Mem) => Xj RX12 cX12_laysTells 4 none 8 177 0 0 0 0 142 [(0, vR 12 0), (1, vI x1), (2, vI x2)] [] e o M') ?_ _ _ e1 ?_
  · intro s r9 h9 hi hx
    exact ok_X12_laysTells_b19_c7 x1 x2 s.1 s.2 h9 (by rintro _ _ rfl; exact hi _ rfl) (by rintro _ rfl; exact hx _ rfl)
  · exact ok_X12_laysTells_e142_h19_c7 x1 x2 e h kb ke
noncomputable def r_X12_laysTells_b7 (x1 : Int32) (x2 : Int32) (m : Mem) : Option ((Int32 × Mem) ⊕ (Mem)) :=
  if (m 52 0 0) ≤ x2 then (some (Sum.inr m)) else (r_X12_laysTells_l19_c7 x1 x2 0 m)
set_option maxHeartbeats 4000000 in
set_option maxRecDepth 20000 in
theorem ok_X12_laysTells_b7 (x1 : Int32) (x2 : Int32) (m : Mem) {r : (Int32 × Mem) ⊕ (Mem)} (h : r_X12_laysTells_b7 x1 x2 m = some r) {o : Ou} {M' : Mem} (kb : ∀ (x2' : Int32) (m'' : Mem), r = Sum.inl (x2', m'') → Xj RX12 cX12_laysTells 4 none 8 177 0 0 0 0 7 [(0, vR 12 0), (1, vI x1), (2, vI x2')] [] m'' o M') (ke : ∀ (m'' : Mem), r = Sum.inr m'' → Xj RX12 cX12_laysTells 4 none 8 177 0 0 0 0 148 [] [] m'' o M') : Xj RX12 cX12_laysTells 4 none 8 177 0 0 0 0 7 [(0, vR 12 0), (1, vI x1), (2, vI x2)] [] m o M' := by
  unfold r_X12_laysTells_b7 at h
  refine xj_iload_n 2 dX12_laysTells_7 rfl ?_
  refine xj_aload_n 0 dX12_laysTells_8 rfl ?_
  refine xg_getR (k' := 52) (i' := 0) dX12_laysTells_9 fl_X12_23 rfl ?_
  refine xj_iconst (z := 0) dX12_laysTells_12 (by decide) ?_
  refine xg_iald (z := (m 52 0 0)) (n := 0) dX12_laysTells_13 rfl (by decide) (inb_in (by decide)) (by decide) rfl ?_
  refine xj_icmp_ge (tgt := 148) dX12_laysTells_14 (by decide) (fun c1 => ?_) (fun c1 => ?_)
  · rw [if_pos c1] at h
    cases h
    refine xj_pick (ls' := []) [] rfl ?_
    exact ke m rfl
  · rw [if_neg c1] at h
    refine xj_iconst (z := 0) dX12_laysTells_17 (by decide) ?_
    refine xj_istore_n (ls' := [(3, vI 0), (0, vR 12 0), (1, vI x1), (2, vI x2)]) dX12_laysTells_18 rfl (by decide) rfl ?_
    refine xj_pick (ls' := [(0, vR 12 0), (1, vI x1), (2, vI x2), (3, vI 0)]) [1, 2, 3, 0] rfl ?_
    exact ok_X12_laysTells_l19_c7 x1 x2 0 m h kb ke
noncomputable def r_X12_laysTells_e148_h7 (m : Mem) : Option Mem :=
  some m
set_option maxHeartbeats 4000000 in
set_option maxRecDepth 20000 in
theorem ok_X12_laysTells_e148_h7 (m : Mem) {m' : Mem} (h : r_X12_laysTells_e148_h7 m = some m') : Xj RX12 cX12_laysTells 4 none 8 177 0 0 0 0 148 [] [] m oV m' := by
  unfold r_X12_laysTells_e148_h7 at h
  cases h
  exact xj_return dX12_laysTells_148 (by decide) (by decide)
noncomputable def r_X12_laysTells_l7 (x1 : Int32) (x2 : Int32) (m : Mem) : Option Mem :=
  bd1 (loopO (fun s => r_X12_laysTells_b7 x1 s.1 s.2) (x2, m)) (fun e => r_X12_laysTells_e148_h7 e)
set_option maxHeartbeats 4000000 in
set_option maxRecDepth 20000 in
theorem ok_X12_laysTells_l7 (x1 : Int32) (x2 : Int32) (m : Mem) {m' : Mem} (h : r_X12_laysTells_l7 x1 x2 m = some m') : Xj RX12 cX12_laysTells 4 none 8 177 0 0 0 0 7 [(0, vR 12 0), (1, vI x1), (2, vI x2)] [] m oV m' := by
  unfold r_X12_laysTells_l7 at h
  obtain ⟨e, e1, h⟩ := bd1_some h
  refine loopO_ok (P := fun s : (Int32 × Mem) => Xj RX12 cX12_laysTells 4 none 8 177 0 0 0 0 7 [(0, vR 12 0), (1, vI x1), (2, vI s.1)] [] s.2 oV m') (Q := fun e : (Mem) => Xj RX12 cX12_laysTells 4 none 8 177 0 0 0 0 148 [] [] e oV m') ?_ _ _ e1 ?_
  · intro s r9 h9 hi hx
    exact ok_X12_laysTells_b7 x1 s.1 s.2 h9 (by rintro _ _ rfl; exact hi _ rfl) (by rintro _ rfl; exact hx _ rfl)
  · exact ok_X12_laysTells_e148_h7 e h 
noncomputable def r_X12_laysTells (x1 : Int32) (m : Mem) : Option Mem :=
  r_X12_laysTells_l7 x1 0 (wr m 12 0 47 0)
set_option maxHeartbeats 4000000 in
set_option maxRecDepth 20000 in
theorem ok_X12_laysTells (x1 : Int32) (m : Mem) {m' : Mem} (h : r_X12_laysTells x1 m = some m') : Mt yX12_laysTells cX12_laysTells 4 none 8 177 0 0 [vR 12 0, vI x1] m oV m' := by
  refine Mt.of (by decide) (Nat.le_of_ble_eq_true rfl) (by decide +kernel) (hhF_ne (by decide)) ?_
  show Xj RX12 cX12_laysTells 4 none 8 177 0 0 0 0 0 [(0, vR 12 0), (1, vI x1)] [] m oV m'
  unfold r_X12_laysTells at h
  refine xj_aload_n 0 dX12_laysTells_0 rfl ?_
  refine xj_iconst (z := 0) dX12_laysTells_1 (by decide) ?_
  refine xj_putI dX12_laysTells_2 fw_X12_369 rfl ?_
  refine xj_iconst (z := 0) dX12_laysTells_5 (by decide) ?_
  refine xj_istore_n (ls' := [(2, vI 0), (0, vR 12 0), (1, vI x1)]) dX12_laysTells_6 rfl (by decide) rfl ?_
  refine xj_pick (ls' := [(0, vR 12 0), (1, vI x1), (2, vI 0)]) [1, 2, 0] rfl ?_
  exact ok_X12_laysTells_l7 x1 0 (wr m 12 0 47 0) h 
