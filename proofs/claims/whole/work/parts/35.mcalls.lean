theorem dX12_ones_0 : decode cX12_ones 0 = .ok (.iconst 0, 1) := by decide +kernel
theorem dX12_ones_1 : decode cX12_ones 1 = .ok (.istore_n 1, 1) := by decide +kernel
theorem dX12_ones_2 : decode cX12_ones 2 = .ok (.iconst 0, 1) := by decide +kernel
theorem dX12_ones_3 : decode cX12_ones 3 = .ok (.istore_n 2, 1) := by decide +kernel
theorem dX12_ones_4 : decode cX12_ones 4 = .ok (.iload_n 2, 1) := by decide +kernel
theorem dX12_ones_5 : decode cX12_ones 5 = .ok (.bipush 12, 2) := by decide +kernel
theorem dX12_ones_7 : decode cX12_ones 7 = .ok (.if_icmp .ge 17, 3) := by decide +kernel
theorem dX12_ones_10 : decode cX12_ones 10 = .ok (.iload_n 1, 1) := by decide +kernel
theorem dX12_ones_11 : decode cX12_ones 11 = .ok (.iload_n 0, 1) := by decide +kernel
theorem dX12_ones_12 : decode cX12_ones 12 = .ok (.iload_n 2, 1) := by decide +kernel
theorem dX12_ones_13 : decode cX12_ones 13 = .ok (.ishr, 1) := by decide +kernel
theorem dX12_ones_14 : decode cX12_ones 14 = .ok (.iconst 1, 1) := by decide +kernel
theorem dX12_ones_15 : decode cX12_ones 15 = .ok (.iand, 1) := by decide +kernel
theorem dX12_ones_16 : decode cX12_ones 16 = .ok (.iadd, 1) := by decide +kernel
theorem dX12_ones_17 : decode cX12_ones 17 = .ok (.istore_n 1, 1) := by decide +kernel
theorem dX12_ones_18 : decode cX12_ones 18 = .ok (.iinc 2 1, 3) := by decide +kernel
theorem dX12_ones_21 : decode cX12_ones 21 = .ok (.goto (-17), 3) := by decide +kernel
theorem dX12_ones_24 : decode cX12_ones 24 = .ok (.iload_n 1, 1) := by decide +kernel
theorem dX12_ones_25 : decode cX12_ones 25 = .ok (.ireturn, 1) := by decide +kernel
theorem dX12_person_0 : decode cX12_person 0 = .ok (.aload_n 0, 1) := by decide +kernel
theorem dX12_person_1 : decode cX12_person 1 = .ok (.iconst 0, 1) := by decide +kernel
theorem dX12_person_2 : decode cX12_person 2 = .ok (.putfield 109, 3) := by decide +kernel
theorem dX12_person_5 : decode cX12_person 5 = .ok (.aload_n 0, 1) := by decide +kernel
theorem dX12_person_6 : decode cX12_person 6 = .ok (.aload_n 0, 1) := by decide +kernel
theorem dX12_person_7 : decode cX12_person 7 = .ok (.iload_n 1, 1) := by decide +kernel
theorem dX12_person_8 : decode cX12_person 8 = .ok (.invokevirtual 358, 3) := by decide +kernel
theorem dX12_person_11 : decode cX12_person 11 = .ok (.ifCond .ne 7, 3) := by decide +kernel
theorem dX12_person_14 : decode cX12_person 14 = .ok (.iconst 1, 1) := by decide +kernel
theorem dX12_person_15 : decode cX12_person 15 = .ok (.goto 4, 3) := by decide +kernel
theorem dX12_person_18 : decode cX12_person 18 = .ok (.iconst 0, 1) := by decide +kernel
theorem dX12_person_19 : decode cX12_person 19 = .ok (.iconst 1, 1) := by decide +kernel
theorem dX12_person_20 : decode cX12_person 20 = .ok (.iconst 0, 1) := by decide +kernel
theorem dX12_person_21 : decode cX12_person 21 = .ok (.invokevirtual 191, 3) := by decide +kernel
theorem dX12_person_24 : decode cX12_person 24 = .ok (.ifCond .ne 26, 3) := by decide +kernel
theorem dX12_person_27 : decode cX12_person 27 = .ok (.aload_n 0, 1) := by decide +kernel
theorem dX12_person_28 : decode cX12_person 28 = .ok (.iload_n 2, 1) := by decide +kernel
theorem dX12_person_29 : decode cX12_person 29 = .ok (.iconst 0, 1) := by decide +kernel
theorem dX12_person_30 : decode cX12_person 30 = .ok (.iconst 3, 1) := by decide +kernel
theorem dX12_person_31 : decode cX12_person 31 = .ok (.invokestatic 143, 3) := by decide +kernel
theorem dX12_person_34 : decode cX12_person 34 = .ok (.ifCond .ne 7, 3) := by decide +kernel
theorem dX12_person_37 : decode cX12_person 37 = .ok (.iconst 1, 1) := by decide +kernel
theorem dX12_person_38 : decode cX12_person 38 = .ok (.goto 4, 3) := by decide +kernel
theorem dX12_person_41 : decode cX12_person 41 = .ok (.iconst 0, 1) := by decide +kernel
theorem dX12_person_42 : decode cX12_person 42 = .ok (.iconst 2, 1) := by decide +kernel
theorem dX12_person_43 : decode cX12_person 43 = .ok (.iconst 1, 1) := by decide +kernel
theorem dX12_person_44 : decode cX12_person 44 = .ok (.invokevirtual 191, 3) := by decide +kernel
theorem dX12_person_47 : decode cX12_person 47 = .ok (.ifCond .eq 5, 3) := by decide +kernel
theorem dX12_person_50 : decode cX12_person 50 = .ok (.iconst 0, 1) := by decide +kernel
theorem dX12_person_51 : decode cX12_person 51 = .ok (.ireturn, 1) := by decide +kernel
theorem dX12_person_52 : decode cX12_person 52 = .ok (.iconst 0, 1) := by decide +kernel
theorem dX12_person_53 : decode cX12_person 53 = .ok (.istore_n 3, 1) := by decide +kernel
theorem dX12_person_54 : decode cX12_person 54 = .ok (.iconst 0, 1) := by decide +kernel
theorem dX12_person_55 : decode cX12_person 55 = .ok (.istore 4, 2) := by decide +kernel
theorem dX12_person_57 : decode cX12_person 57 = .ok (.iconst 0, 1) := by decide +kernel
theorem dX12_person_58 : decode cX12_person 58 = .ok (.istore 5, 2) := by decide +kernel
theorem dX12_person_60 : decode cX12_person 60 = .ok (.iload 5, 2) := by decide +kernel
theorem dX12_person_62 : decode cX12_person 62 = .ok (.aload_n 0, 1) := by decide +kernel
theorem dX12_person_63 : decode cX12_person 63 = .ok (.getfield 23, 3) := by decide +kernel
theorem dX12_person_66 : decode cX12_person 66 = .ok (.iconst 0, 1) := by decide +kernel
theorem dX12_person_67 : decode cX12_person 67 = .ok (.iaload, 1) := by decide +kernel
theorem dX12_person_68 : decode cX12_person 68 = .ok (.if_icmp .ge 70, 3) := by decide +kernel
theorem dX12_person_71 : decode cX12_person 71 = .ok (.aload_n 0, 1) := by decide +kernel
theorem dX12_person_72 : decode cX12_person 72 = .ok (.getfield 73, 3) := by decide +kernel
theorem dX12_person_75 : decode cX12_person 75 = .ok (.iconst 0, 1) := by decide +kernel
theorem dX12_person_76 : decode cX12_person 76 = .ok (.bipush 12, 2) := by decide +kernel
theorem dX12_person_78 : decode cX12_person 78 = .ok (.iload_n 1, 1) := by decide +kernel
theorem dX12_person_79 : decode cX12_person 79 = .ok (.imul, 1) := by decide +kernel
theorem dX12_person_80 : decode cX12_person 80 = .ok (.iadd, 1) := by decide +kernel
theorem dX12_person_81 : decode cX12_person 81 = .ok (.iload 5, 2) := by decide +kernel
theorem dX12_person_83 : decode cX12_person 83 = .ok (.iadd, 1) := by decide +kernel
theorem dX12_person_84 : decode cX12_person 84 = .ok (.iaload, 1) := by decide +kernel
theorem dX12_person_85 : decode cX12_person 85 = .ok (.istore 6, 2) := by decide +kernel
theorem dX12_person_87 : decode cX12_person 87 = .ok (.iload_n 3, 1) := by decide +kernel
theorem dX12_person_88 : decode cX12_person 88 = .ok (.iload 6, 2) := by decide +kernel
theorem dX12_person_90 : decode cX12_person 90 = .ok (.iconst (-1), 1) := by decide +kernel
theorem dX12_person_91 : decode cX12_person 91 = .ok (.if_icmp .ne 7, 3) := by decide +kernel
theorem dX12_person_94 : decode cX12_person 94 = .ok (.iconst 0, 1) := by decide +kernel
theorem dX12_person_95 : decode cX12_person 95 = .ok (.goto 4, 3) := by decide +kernel
theorem dX12_person_98 : decode cX12_person 98 = .ok (.iconst 1, 1) := by decide +kernel
theorem dX12_person_99 : decode cX12_person 99 = .ok (.iadd, 1) := by decide +kernel
theorem dX12_person_100 : decode cX12_person 100 = .ok (.istore_n 3, 1) := by decide +kernel
theorem dX12_person_101 : decode cX12_person 101 = .ok (.iload 4, 2) := by decide +kernel
theorem dX12_person_103 : decode cX12_person 103 = .ok (.iload 6, 2) := by decide +kernel
theorem dX12_person_105 : decode cX12_person 105 = .ok (.iconst (-1), 1) := by decide +kernel
theorem dX12_person_106 : decode cX12_person 106 = .ok (.if_icmp .eq 22, 3) := by decide +kernel
theorem dX12_person_109 : decode cX12_person 109 = .ok (.iload 6, 2) := by decide +kernel
theorem dX12_person_111 : decode cX12_person 111 = .ok (.aload_n 0, 1) := by decide +kernel
theorem dX12_person_112 : decode cX12_person 112 = .ok (.aload_n 0, 1) := by decide +kernel
theorem dX12_person_113 : decode cX12_person 113 = .ok (.getfield 73, 3) := by decide +kernel
theorem dX12_person_116 : decode cX12_person 116 = .ok (.iload 5, 2) := by decide +kernel
theorem dX12_person_118 : decode cX12_person 118 = .ok (.invokevirtual 301, 3) := by decide +kernel
theorem dX12_person_121 : decode cX12_person 121 = .ok (.if_icmp .ne 7, 3) := by decide +kernel
theorem dX12_person_124 : decode cX12_person 124 = .ok (.iconst 1, 1) := by decide +kernel
theorem dX12_person_125 : decode cX12_person 125 = .ok (.goto 4, 3) := by decide +kernel
theorem dX12_person_128 : decode cX12_person 128 = .ok (.iconst 0, 1) := by decide +kernel
theorem dX12_person_129 : decode cX12_person 129 = .ok (.iadd, 1) := by decide +kernel
theorem dX12_person_130 : decode cX12_person 130 = .ok (.istore 4, 2) := by decide +kernel
theorem dX12_person_132 : decode cX12_person 132 = .ok (.iinc 5 1, 3) := by decide +kernel
theorem dX12_person_135 : decode cX12_person 135 = .ok (.goto (-75), 3) := by decide +kernel
theorem dX12_person_138 : decode cX12_person 138 = .ok (.iload_n 2, 1) := by decide +kernel
theorem dX12_person_139 : decode cX12_person 139 = .ok (.ifCond .ne 14, 3) := by decide +kernel
theorem dX12_person_142 : decode cX12_person 142 = .ok (.aload_n 0, 1) := by decide +kernel
theorem dX12_person_143 : decode cX12_person 143 = .ok (.getfield 43, 3) := by decide +kernel
theorem dX12_person_146 : decode cX12_person 146 = .ok (.iload_n 1, 1) := by decide +kernel
theorem dX12_person_147 : decode cX12_person 147 = .ok (.aaload, 1) := by decide +kernel
theorem dX12_person_148 : decode cX12_person 148 = .ok (.iconst 0, 1) := by decide +kernel
theorem dX12_person_149 : decode cX12_person 149 = .ok (.iaload, 1) := by decide +kernel
theorem dX12_person_150 : decode cX12_person 150 = .ok (.goto 31, 3) := by decide +kernel
theorem dX12_person_153 : decode cX12_person 153 = .ok (.iload_n 2, 1) := by decide +kernel
theorem dX12_person_154 : decode cX12_person 154 = .ok (.iconst 1, 1) := by decide +kernel
theorem dX12_person_155 : decode cX12_person 155 = .ok (.if_icmp .ne 15, 3) := by decide +kernel
theorem dX12_person_158 : decode cX12_person 158 = .ok (.aload_n 0, 1) := by decide +kernel
theorem dX12_person_159 : decode cX12_person 159 = .ok (.getfield 73, 3) := by decide +kernel
theorem dX12_person_162 : decode cX12_person 162 = .ok (.bipush 72, 2) := by decide +kernel
theorem dX12_person_164 : decode cX12_person 164 = .ok (.iload_n 1, 1) := by decide +kernel
theorem dX12_person_165 : decode cX12_person 165 = .ok (.iadd, 1) := by decide +kernel
theorem dX12_person_166 : decode cX12_person 166 = .ok (.iaload, 1) := by decide +kernel
theorem dX12_person_167 : decode cX12_person 167 = .ok (.goto 14, 3) := by decide +kernel
theorem dX12_person_170 : decode cX12_person 170 = .ok (.iload_n 2, 1) := by decide +kernel
theorem dX12_person_171 : decode cX12_person 171 = .ok (.iconst 2, 1) := by decide +kernel
theorem dX12_person_172 : decode cX12_person 172 = .ok (.if_icmp .ne 7, 3) := by decide +kernel
theorem dX12_person_175 : decode cX12_person 175 = .ok (.iload_n 3, 1) := by decide +kernel
theorem dX12_person_176 : decode cX12_person 176 = .ok (.goto 5, 3) := by decide +kernel
theorem dX12_person_179 : decode cX12_person 179 = .ok (.iload 4, 2) := by decide +kernel
theorem dX12_person_181 : decode cX12_person 181 = .ok (.ireturn, 1) := by decide +kernel
theorem dX12_place_0 : decode cX12_place 0 = .ok (.aload_n 0, 1) := by decide +kernel
theorem dX12_place_1 : decode cX12_place 1 = .ok (.iconst 0, 1) := by decide +kernel
theorem dX12_place_2 : decode cX12_place 2 = .ok (.putfield 109, 3) := by decide +kernel
theorem dX12_place_5 : decode cX12_place 5 = .ok (.aload_n 0, 1) := by decide +kernel
theorem dX12_place_6 : decode cX12_place 6 = .ok (.aload_n 0, 1) := by decide +kernel
theorem dX12_place_7 : decode cX12_place 7 = .ok (.iload_n 1, 1) := by decide +kernel
theorem dX12_place_8 : decode cX12_place 8 = .ok (.invokevirtual 352, 3) := by decide +kernel
theorem dX12_place_11 : decode cX12_place 11 = .ok (.ifCond .ne 7, 3) := by decide +kernel
theorem dX12_place_14 : decode cX12_place 14 = .ok (.iconst 1, 1) := by decide +kernel
theorem dX12_place_15 : decode cX12_place 15 = .ok (.goto 4, 3) := by decide +kernel
theorem dX12_place_18 : decode cX12_place 18 = .ok (.iconst 0, 1) := by decide +kernel
theorem dX12_place_19 : decode cX12_place 19 = .ok (.iconst 1, 1) := by decide +kernel
theorem dX12_place_20 : decode cX12_place 20 = .ok (.iconst 0, 1) := by decide +kernel
theorem dX12_place_21 : decode cX12_place 21 = .ok (.invokevirtual 191, 3) := by decide +kernel
theorem dX12_place_24 : decode cX12_place 24 = .ok (.ifCond .ne 26, 3) := by decide +kernel
theorem dX12_place_27 : decode cX12_place 27 = .ok (.aload_n 0, 1) := by decide +kernel
theorem dX12_place_28 : decode cX12_place 28 = .ok (.iload_n 2, 1) := by decide +kernel
theorem dX12_place_29 : decode cX12_place 29 = .ok (.iconst 0, 1) := by decide +kernel
theorem dX12_place_30 : decode cX12_place 30 = .ok (.iconst 4, 1) := by decide +kernel
theorem dX12_place_31 : decode cX12_place 31 = .ok (.invokestatic 143, 3) := by decide +kernel
theorem dX12_place_34 : decode cX12_place 34 = .ok (.ifCond .ne 7, 3) := by decide +kernel
theorem dX12_place_37 : decode cX12_place 37 = .ok (.iconst 1, 1) := by decide +kernel
theorem dX12_place_38 : decode cX12_place 38 = .ok (.goto 4, 3) := by decide +kernel
theorem dX12_place_41 : decode cX12_place 41 = .ok (.iconst 0, 1) := by decide +kernel
theorem dX12_place_42 : decode cX12_place 42 = .ok (.iconst 2, 1) := by decide +kernel
theorem dX12_place_43 : decode cX12_place 43 = .ok (.iconst 1, 1) := by decide +kernel
theorem dX12_place_44 : decode cX12_place 44 = .ok (.invokevirtual 191, 3) := by decide +kernel
theorem dX12_place_47 : decode cX12_place 47 = .ok (.ifCond .eq 5, 3) := by decide +kernel
theorem dX12_place_50 : decode cX12_place 50 = .ok (.iconst 0, 1) := by decide +kernel
theorem dX12_place_51 : decode cX12_place 51 = .ok (.ireturn, 1) := by decide +kernel
theorem dX12_place_52 : decode cX12_place 52 = .ok (.iconst 0, 1) := by decide +kernel
theorem dX12_place_53 : decode cX12_place 53 = .ok (.istore_n 3, 1) := by decide +kernel
theorem dX12_place_54 : decode cX12_place 54 = .ok (.iconst (-1), 1) := by decide +kernel
theorem dX12_place_55 : decode cX12_place 55 = .ok (.istore 4, 2) := by decide +kernel
theorem dX12_place_57 : decode cX12_place 57 = .ok (.iconst 0, 1) := by decide +kernel
theorem dX12_place_58 : decode cX12_place 58 = .ok (.istore 5, 2) := by decide +kernel
theorem dX12_place_60 : decode cX12_place 60 = .ok (.iload 5, 2) := by decide +kernel
theorem dX12_place_62 : decode cX12_place 62 = .ok (.aload_n 0, 1) := by decide +kernel
theorem dX12_place_63 : decode cX12_place 63 = .ok (.getfield 23, 3) := by decide +kernel
theorem dX12_place_66 : decode cX12_place 66 = .ok (.iconst 2, 1) := by decide +kernel
theorem dX12_place_67 : decode cX12_place 67 = .ok (.iaload, 1) := by decide +kernel
theorem dX12_place_68 : decode cX12_place 68 = .ok (.if_icmp .ge 34, 3) := by decide +kernel
theorem dX12_place_71 : decode cX12_place 71 = .ok (.iload_n 3, 1) := by decide +kernel
theorem dX12_place_72 : decode cX12_place 72 = .ok (.aload_n 0, 1) := by decide +kernel
theorem dX12_place_73 : decode cX12_place 73 = .ok (.getfield 73, 3) := by decide +kernel
theorem dX12_place_76 : decode cX12_place 76 = .ok (.bipush 72, 2) := by decide +kernel
theorem dX12_place_78 : decode cX12_place 78 = .ok (.iload 5, 2) := by decide +kernel
theorem dX12_place_80 : decode cX12_place 80 = .ok (.iadd, 1) := by decide +kernel
theorem dX12_place_81 : decode cX12_place 81 = .ok (.iaload, 1) := by decide +kernel
theorem dX12_place_82 : decode cX12_place 82 = .ok (.iload_n 1, 1) := by decide +kernel
theorem dX12_place_83 : decode cX12_place 83 = .ok (.if_icmp .ne 10, 3) := by decide +kernel
theorem dX12_place_86 : decode cX12_place 86 = .ok (.iconst 1, 1) := by decide +kernel
theorem dX12_place_87 : decode cX12_place 87 = .ok (.iload 5, 2) := by decide +kernel
theorem dX12_place_89 : decode cX12_place 89 = .ok (.ishl, 1) := by decide +kernel
theorem dX12_place_90 : decode cX12_place 90 = .ok (.goto 4, 3) := by decide +kernel
theorem dX12_place_93 : decode cX12_place 93 = .ok (.iconst 0, 1) := by decide +kernel
theorem dX12_place_94 : decode cX12_place 94 = .ok (.ior, 1) := by decide +kernel
theorem dX12_place_95 : decode cX12_place 95 = .ok (.istore_n 3, 1) := by decide +kernel
theorem dX12_place_96 : decode cX12_place 96 = .ok (.iinc 5 1, 3) := by decide +kernel
theorem dX12_place_99 : decode cX12_place 99 = .ok (.goto (-39), 3) := by decide +kernel
theorem dX12_place_102 : decode cX12_place 102 = .ok (.aload_n 0, 1) := by decide +kernel
theorem dX12_place_103 : decode cX12_place 103 = .ok (.aload_n 0, 1) := by decide +kernel
theorem dX12_place_104 : decode cX12_place 104 = .ok (.getfield 73, 3) := by decide +kernel
theorem dX12_place_107 : decode cX12_place 107 = .ok (.invokevirtual 315, 3) := by decide +kernel
theorem dX12_place_110 : decode cX12_place 110 = .ok (.pop, 1) := by decide +kernel
theorem dX12_place_111 : decode cX12_place 111 = .ok (.iconst 0, 1) := by decide +kernel
theorem dX12_place_112 : decode cX12_place 112 = .ok (.istore 5, 2) := by decide +kernel
theorem dX12_place_114 : decode cX12_place 114 = .ok (.iload 5, 2) := by decide +kernel
theorem dX12_place_116 : decode cX12_place 116 = .ok (.aload_n 0, 1) := by decide +kernel
theorem dX12_place_117 : decode cX12_place 117 = .ok (.getfield 305, 3) := by decide +kernel
theorem dX12_place_120 : decode cX12_place 120 = .ok (.if_icmp .ge 29, 3) := by decide +kernel
theorem dX12_place_123 : decode cX12_place 123 = .ok (.aload_n 0, 1) := by decide +kernel
theorem dX12_place_124 : decode cX12_place 124 = .ok (.getfield 88, 3) := by decide +kernel
theorem dX12_place_127 : decode cX12_place 127 = .ok (.iload 5, 2) := by decide +kernel
theorem dX12_place_129 : decode cX12_place 129 = .ok (.iaload, 1) := by decide +kernel
theorem dX12_place_130 : decode cX12_place 130 = .ok (.iload_n 1, 1) := by decide +kernel
theorem dX12_place_131 : decode cX12_place 131 = .ok (.if_icmp .ne 8, 3) := by decide +kernel
theorem dX12_place_134 : decode cX12_place 134 = .ok (.iload 5, 2) := by decide +kernel
theorem dX12_place_136 : decode cX12_place 136 = .ok (.goto 5, 3) := by decide +kernel
theorem dX12_place_139 : decode cX12_place 139 = .ok (.iload 4, 2) := by decide +kernel
theorem dX12_place_141 : decode cX12_place 141 = .ok (.istore 4, 2) := by decide +kernel
theorem dX12_place_143 : decode cX12_place 143 = .ok (.iinc 5 1, 3) := by decide +kernel
theorem dX12_place_146 : decode cX12_place 146 = .ok (.goto (-32), 3) := by decide +kernel
theorem dX12_place_149 : decode cX12_place 149 = .ok (.iload_n 2, 1) := by decide +kernel
theorem dX12_place_150 : decode cX12_place 150 = .ok (.tableswitch 52 0 3 #[30, 37, 43, 45], 30) := by decide +kernel
theorem dX12_place_180 : decode cX12_place 180 = .ok (.aload_n 0, 1) := by decide +kernel
theorem dX12_place_181 : decode cX12_place 181 = .ok (.getfield 29, 3) := by decide +kernel
theorem dX12_place_184 : decode cX12_place 184 = .ok (.iload_n 1, 1) := by decide +kernel
theorem dX12_place_185 : decode cX12_place 185 = .ok (.iaload, 1) := by decide +kernel
theorem dX12_place_186 : decode cX12_place 186 = .ok (.ireturn, 1) := by decide +kernel
theorem dX12_place_187 : decode cX12_place 187 = .ok (.aload_n 0, 1) := by decide +kernel
theorem dX12_place_188 : decode cX12_place 188 = .ok (.iload_n 1, 1) := by decide +kernel
theorem dX12_place_189 : decode cX12_place 189 = .ok (.invokevirtual 355, 3) := by decide +kernel
theorem dX12_place_192 : decode cX12_place 192 = .ok (.ireturn, 1) := by decide +kernel
theorem dX12_place_193 : decode cX12_place 193 = .ok (.iload_n 3, 1) := by decide +kernel
theorem dX12_place_194 : decode cX12_place 194 = .ok (.ireturn, 1) := by decide +kernel
theorem dX12_place_195 : decode cX12_place 195 = .ok (.aload_n 0, 1) := by decide +kernel
theorem dX12_place_196 : decode cX12_place 196 = .ok (.getfield 85, 3) := by decide +kernel
theorem dX12_place_199 : decode cX12_place 199 = .ok (.iload_n 1, 1) := by decide +kernel
theorem dX12_place_200 : decode cX12_place 200 = .ok (.iaload, 1) := by decide +kernel
theorem dX12_place_201 : decode cX12_place 201 = .ok (.ireturn, 1) := by decide +kernel
theorem dX12_place_202 : decode cX12_place 202 = .ok (.iload 4, 2) := by decide +kernel
theorem dX12_place_204 : decode cX12_place 204 = .ok (.ireturn, 1) := by decide +kernel
theorem dX12_pull_0 : decode cX12_pull 0 = .ok (.aload_n 0, 1) := by decide +kernel
theorem dX12_pull_1 : decode cX12_pull 1 = .ok (.iconst 0, 1) := by decide +kernel
theorem dX12_pull_2 : decode cX12_pull 2 = .ok (.putfield 109, 3) := by decide +kernel
theorem dX12_pull_5 : decode cX12_pull 5 = .ok (.aload_n 0, 1) := by decide +kernel
theorem dX12_pull_6 : decode cX12_pull 6 = .ok (.aload_n 0, 1) := by decide +kernel
theorem dX12_pull_7 : decode cX12_pull 7 = .ok (.iload_n 1, 1) := by decide +kernel
theorem dX12_pull_8 : decode cX12_pull 8 = .ok (.invokevirtual 352, 3) := by decide +kernel
theorem dX12_pull_11 : decode cX12_pull 11 = .ok (.ifCond .eq 11, 3) := by decide +kernel
theorem dX12_pull_14 : decode cX12_pull 14 = .ok (.aload_n 0, 1) := by decide +kernel
theorem dX12_pull_15 : decode cX12_pull 15 = .ok (.iload_n 2, 1) := by decide +kernel
theorem dX12_pull_16 : decode cX12_pull 16 = .ok (.invokevirtual 352, 3) := by decide +kernel
theorem dX12_pull_19 : decode cX12_pull 19 = .ok (.ifCond .ne 7, 3) := by decide +kernel
theorem dX12_pull_22 : decode cX12_pull 22 = .ok (.iconst 1, 1) := by decide +kernel
theorem dX12_pull_23 : decode cX12_pull 23 = .ok (.goto 4, 3) := by decide +kernel
theorem dX12_pull_26 : decode cX12_pull 26 = .ok (.iconst 0, 1) := by decide +kernel
theorem dX12_pull_27 : decode cX12_pull 27 = .ok (.iconst 1, 1) := by decide +kernel
theorem dX12_pull_28 : decode cX12_pull 28 = .ok (.iconst 0, 1) := by decide +kernel
theorem dX12_pull_29 : decode cX12_pull 29 = .ok (.invokevirtual 191, 3) := by decide +kernel
theorem dX12_pull_32 : decode cX12_pull 32 = .ok (.ifCond .eq 5, 3) := by decide +kernel
theorem dX12_pull_35 : decode cX12_pull 35 = .ok (.iconst 0, 1) := by decide +kernel
theorem dX12_pull_36 : decode cX12_pull 36 = .ok (.ireturn, 1) := by decide +kernel
theorem dX12_pull_37 : decode cX12_pull 37 = .ok (.aload_n 0, 1) := by decide +kernel
theorem dX12_pull_38 : decode cX12_pull 38 = .ok (.iload_n 1, 1) := by decide +kernel
theorem dX12_pull_39 : decode cX12_pull 39 = .ok (.iload_n 2, 1) := by decide +kernel
theorem dX12_pull_40 : decode cX12_pull 40 = .ok (.invokevirtual 267, 3) := by decide +kernel
theorem dX12_pull_43 : decode cX12_pull 43 = .ok (.istore_n 3, 1) := by decide +kernel
theorem dX12_pull_44 : decode cX12_pull 44 = .ok (.iload_n 3, 1) := by decide +kernel
theorem dX12_pull_45 : decode cX12_pull 45 = .ok (.iconst (-1), 1) := by decide +kernel
theorem dX12_pull_46 : decode cX12_pull 46 = .ok (.if_icmp .ne 8, 3) := by decide +kernel
theorem dX12_pull_49 : decode cX12_pull 49 = .ok (.bipush (-100), 2) := by decide +kernel
theorem dX12_pull_51 : decode cX12_pull 51 = .ok (.goto 17, 3) := by decide +kernel
theorem dX12_pull_54 : decode cX12_pull 54 = .ok (.aload_n 0, 1) := by decide +kernel
theorem dX12_pull_55 : decode cX12_pull 55 = .ok (.aload_n 0, 1) := by decide +kernel
theorem dX12_pull_56 : decode cX12_pull 56 = .ok (.getfield 73, 3) := by decide +kernel
theorem dX12_pull_59 : decode cX12_pull 59 = .ok (.iload_n 3, 1) := by decide +kernel
theorem dX12_pull_60 : decode cX12_pull 60 = .ok (.iload_n 1, 1) := by decide +kernel
theorem dX12_pull_61 : decode cX12_pull 61 = .ok (.iload_n 2, 1) := by decide +kernel
theorem dX12_pull_62 : decode cX12_pull 62 = .ok (.iconst 0, 1) := by decide +kernel
theorem dX12_pull_63 : decode cX12_pull 63 = .ok (.iconst 0, 1) := by decide +kernel
theorem dX12_pull_64 : decode cX12_pull 64 = .ok (.iconst 0, 1) := by decide +kernel
theorem dX12_pull_65 : decode cX12_pull 65 = .ok (.invokevirtual 293, 3) := by decide +kernel
theorem dX12_pull_68 : decode cX12_pull 68 = .ok (.ireturn, 1) := by decide +kernel
theorem dX12_restore_0 : decode cX12_restore 0 = .ok (.aload_n 0, 1) := by decide +kernel
theorem dX12_restore_1 : decode cX12_restore 1 = .ok (.iconst 0, 1) := by decide +kernel
theorem dX12_restore_2 : decode cX12_restore 2 = .ok (.putfield 109, 3) := by decide +kernel
theorem dX12_restore_5 : decode cX12_restore 5 = .ok (.aload_n 0, 1) := by decide +kernel
theorem dX12_restore_6 : decode cX12_restore 6 = .ok (.getfield 220, 3) := by decide +kernel
theorem dX12_restore_9 : decode cX12_restore 9 = .ok (.ifCond .ne 5, 3) := by decide +kernel
theorem dX12_restore_12 : decode cX12_restore 12 = .ok (.iconst (-1), 1) := by decide +kernel
theorem dX12_restore_13 : decode cX12_restore 13 = .ok (.ireturn, 1) := by decide +kernel
theorem dX12_restore_14 : decode cX12_restore 14 = .ok (.aload_n 0, 1) := by decide +kernel
theorem dX12_restore_15 : decode cX12_restore 15 = .ok (.dup, 1) := by decide +kernel
theorem dX12_restore_16 : decode cX12_restore 16 = .ok (.getfield 220, 3) := by decide +kernel
theorem dX12_restore_19 : decode cX12_restore 19 = .ok (.iconst 1, 1) := by decide +kernel
theorem dX12_restore_20 : decode cX12_restore 20 = .ok (.isub, 1) := by decide +kernel
theorem dX12_restore_21 : decode cX12_restore 21 = .ok (.putfield 220, 3) := by decide +kernel
theorem dX12_restore_24 : decode cX12_restore 24 = .ok (.aload_n 0, 1) := by decide +kernel
theorem dX12_restore_25 : decode cX12_restore 25 = .ok (.aload_n 0, 1) := by decide +kernel
theorem dX12_restore_26 : decode cX12_restore 26 = .ok (.getfield 82, 3) := by decide +kernel
theorem dX12_restore_29 : decode cX12_restore 29 = .ok (.aload_n 0, 1) := by decide +kernel
theorem dX12_restore_30 : decode cX12_restore 30 = .ok (.getfield 220, 3) := by decide +kernel
theorem dX12_restore_33 : decode cX12_restore 33 = .ok (.aaload, 1) := by decide +kernel
theorem dX12_restore_34 : decode cX12_restore 34 = .ok (.iconst 1, 1) := by decide +kernel
theorem dX12_restore_35 : decode cX12_restore 35 = .ok (.invokevirtual 429, 3) := by decide +kernel
theorem dX12_restore_38 : decode cX12_restore 38 = .ok (.aload_n 0, 1) := by decide +kernel
theorem dX12_restore_39 : decode cX12_restore 39 = .ok (.iconst 0, 1) := by decide +kernel
theorem dX12_restore_40 : decode cX12_restore 40 = .ok (.putfield 217, 3) := by decide +kernel
theorem dX12_restore_43 : decode cX12_restore 43 = .ok (.aload_n 0, 1) := by decide +kernel
theorem dX12_restore_44 : decode cX12_restore 44 = .ok (.getfield 220, 3) := by decide +kernel
theorem dX12_restore_47 : decode cX12_restore 47 = .ok (.ireturn, 1) := by decide +kernel
theorem dX12_right_0 : decode cX12_right 0 = .ok (.aload_n 0, 1) := by decide +kernel
theorem dX12_right_1 : decode cX12_right 1 = .ok (.iconst 0, 1) := by decide +kernel
theorem dX12_right_2 : decode cX12_right 2 = .ok (.putfield 109, 3) := by decide +kernel
theorem dX12_right_5 : decode cX12_right 5 = .ok (.aload_n 0, 1) := by decide +kernel
theorem dX12_right_6 : decode cX12_right 6 = .ok (.aload_n 0, 1) := by decide +kernel
theorem dX12_right_7 : decode cX12_right 7 = .ok (.iload_n 1, 1) := by decide +kernel
theorem dX12_right_8 : decode cX12_right 8 = .ok (.invokevirtual 352, 3) := by decide +kernel
theorem dX12_right_11 : decode cX12_right 11 = .ok (.ifCond .ne 7, 3) := by decide +kernel
theorem dX12_right_14 : decode cX12_right 14 = .ok (.iconst 1, 1) := by decide +kernel
theorem dX12_right_15 : decode cX12_right 15 = .ok (.goto 4, 3) := by decide +kernel
theorem dX12_right_18 : decode cX12_right 18 = .ok (.iconst 0, 1) := by decide +kernel
theorem dX12_right_19 : decode cX12_right 19 = .ok (.iconst 1, 1) := by decide +kernel
theorem dX12_right_20 : decode cX12_right 20 = .ok (.iconst 0, 1) := by decide +kernel
theorem dX12_right_21 : decode cX12_right 21 = .ok (.invokevirtual 191, 3) := by decide +kernel
theorem dX12_right_24 : decode cX12_right 24 = .ok (.ifCond .ne 26, 3) := by decide +kernel
theorem dX12_right_27 : decode cX12_right 27 = .ok (.aload_n 0, 1) := by decide +kernel
theorem dX12_right_28 : decode cX12_right 28 = .ok (.iload_n 2, 1) := by decide +kernel
theorem dX12_right_29 : decode cX12_right 29 = .ok (.iconst 0, 1) := by decide +kernel
theorem dX12_right_30 : decode cX12_right 30 = .ok (.iconst 1, 1) := by decide +kernel
theorem dX12_right_31 : decode cX12_right 31 = .ok (.invokestatic 143, 3) := by decide +kernel
theorem dX12_right_34 : decode cX12_right 34 = .ok (.ifCond .ne 7, 3) := by decide +kernel
theorem dX12_right_37 : decode cX12_right 37 = .ok (.iconst 1, 1) := by decide +kernel
theorem dX12_right_38 : decode cX12_right 38 = .ok (.goto 4, 3) := by decide +kernel
theorem dX12_right_41 : decode cX12_right 41 = .ok (.iconst 0, 1) := by decide +kernel
theorem dX12_right_42 : decode cX12_right 42 = .ok (.iconst 2, 1) := by decide +kernel
theorem dX12_right_43 : decode cX12_right 43 = .ok (.iconst 1, 1) := by decide +kernel
theorem dX12_right_44 : decode cX12_right 44 = .ok (.invokevirtual 191, 3) := by decide +kernel
theorem dX12_right_47 : decode cX12_right 47 = .ok (.ifCond .eq 5, 3) := by decide +kernel
theorem dX12_right_50 : decode cX12_right 50 = .ok (.iconst 0, 1) := by decide +kernel
theorem dX12_right_51 : decode cX12_right 51 = .ok (.ireturn, 1) := by decide +kernel
theorem dX12_right_52 : decode cX12_right 52 = .ok (.iconst 0, 1) := by decide +kernel
theorem dX12_right_53 : decode cX12_right 53 = .ok (.istore_n 3, 1) := by decide +kernel
theorem dX12_right_54 : decode cX12_right 54 = .ok (.aload_n 0, 1) := by decide +kernel
theorem dX12_right_55 : decode cX12_right 55 = .ok (.aload_n 0, 1) := by decide +kernel
theorem dX12_right_56 : decode cX12_right 56 = .ok (.getfield 73, 3) := by decide +kernel
theorem dX12_right_59 : decode cX12_right 59 = .ok (.iload_n 1, 1) := by decide +kernel
theorem dX12_right_60 : decode cX12_right 60 = .ok (.invokevirtual 301, 3) := by decide +kernel
theorem dX12_right_63 : decode cX12_right 63 = .ok (.istore 4, 2) := by decide +kernel
theorem dX12_right_65 : decode cX12_right 65 = .ok (.iconst 0, 1) := by decide +kernel
theorem dX12_right_66 : decode cX12_right 66 = .ok (.istore 5, 2) := by decide +kernel
theorem dX12_right_68 : decode cX12_right 68 = .ok (.iload 5, 2) := by decide +kernel
theorem dX12_right_70 : decode cX12_right 70 = .ok (.aload_n 0, 1) := by decide +kernel
theorem dX12_right_71 : decode cX12_right 71 = .ok (.getfield 23, 3) := by decide +kernel
theorem dX12_right_74 : decode cX12_right 74 = .ok (.iconst 2, 1) := by decide +kernel
theorem dX12_right_75 : decode cX12_right 75 = .ok (.iaload, 1) := by decide +kernel
theorem dX12_right_76 : decode cX12_right 76 = .ok (.if_icmp .ge 66, 3) := by decide +kernel
theorem dX12_right_79 : decode cX12_right 79 = .ok (.aload_n 0, 1) := by decide +kernel
theorem dX12_right_80 : decode cX12_right 80 = .ok (.getfield 73, 3) := by decide +kernel
theorem dX12_right_83 : decode cX12_right 83 = .ok (.iconst 0, 1) := by decide +kernel
theorem dX12_right_84 : decode cX12_right 84 = .ok (.bipush 12, 2) := by decide +kernel
theorem dX12_right_86 : decode cX12_right 86 = .ok (.iload 5, 2) := by decide +kernel
theorem dX12_right_88 : decode cX12_right 88 = .ok (.imul, 1) := by decide +kernel
theorem dX12_right_89 : decode cX12_right 89 = .ok (.iadd, 1) := by decide +kernel
theorem dX12_right_90 : decode cX12_right 90 = .ok (.iload_n 1, 1) := by decide +kernel
theorem dX12_right_91 : decode cX12_right 91 = .ok (.iadd, 1) := by decide +kernel
theorem dX12_right_92 : decode cX12_right 92 = .ok (.iaload, 1) := by decide +kernel
theorem dX12_right_93 : decode cX12_right 93 = .ok (.istore 6, 2) := by decide +kernel
theorem dX12_right_95 : decode cX12_right 95 = .ok (.iload_n 3, 1) := by decide +kernel
theorem dX12_right_96 : decode cX12_right 96 = .ok (.iload 6, 2) := by decide +kernel
theorem dX12_right_98 : decode cX12_right 98 = .ok (.iconst (-1), 1) := by decide +kernel
theorem dX12_right_99 : decode cX12_right 99 = .ok (.if_icmp .eq 34, 3) := by decide +kernel
theorem dX12_right_102 : decode cX12_right 102 = .ok (.iload 6, 2) := by decide +kernel
theorem dX12_right_104 : decode cX12_right 104 = .ok (.iload 4, 2) := by decide +kernel
theorem dX12_right_106 : decode cX12_right 106 = .ok (.if_icmp .ne 7, 3) := by decide +kernel
theorem dX12_right_109 : decode cX12_right 109 = .ok (.iconst 1, 1) := by decide +kernel
theorem dX12_right_110 : decode cX12_right 110 = .ok (.goto 4, 3) := by decide +kernel
theorem dX12_right_113 : decode cX12_right 113 = .ok (.iconst 0, 1) := by decide +kernel
theorem dX12_right_114 : decode cX12_right 114 = .ok (.iload_n 2, 1) := by decide +kernel
theorem dX12_right_115 : decode cX12_right 115 = .ok (.ifCond .ne 7, 3) := by decide +kernel
theorem dX12_right_118 : decode cX12_right 118 = .ok (.iconst 1, 1) := by decide +kernel
theorem dX12_right_119 : decode cX12_right 119 = .ok (.goto 4, 3) := by decide +kernel
theorem dX12_right_122 : decode cX12_right 122 = .ok (.iconst 0, 1) := by decide +kernel
theorem dX12_right_123 : decode cX12_right 123 = .ok (.if_icmp .ne 10, 3) := by decide +kernel
theorem dX12_right_126 : decode cX12_right 126 = .ok (.iconst 1, 1) := by decide +kernel
theorem dX12_right_127 : decode cX12_right 127 = .ok (.iload 5, 2) := by decide +kernel
theorem dX12_right_129 : decode cX12_right 129 = .ok (.ishl, 1) := by decide +kernel
theorem dX12_right_130 : decode cX12_right 130 = .ok (.goto 4, 3) := by decide +kernel
theorem dX12_right_133 : decode cX12_right 133 = .ok (.iconst 0, 1) := by decide +kernel
theorem dX12_right_134 : decode cX12_right 134 = .ok (.ior, 1) := by decide +kernel
theorem dX12_right_135 : decode cX12_right 135 = .ok (.istore_n 3, 1) := by decide +kernel
theorem dX12_right_136 : decode cX12_right 136 = .ok (.iinc 5 1, 3) := by decide +kernel
theorem dX12_right_139 : decode cX12_right 139 = .ok (.goto (-71), 3) := by decide +kernel
theorem dX12_right_142 : decode cX12_right 142 = .ok (.iload_n 3, 1) := by decide +kernel
theorem dX12_right_143 : decode cX12_right 143 = .ok (.ireturn, 1) := by decide +kernel
theorem dX12_seen_0 : decode cX12_seen 0 = .ok (.aload_n 0, 1) := by decide +kernel
theorem dX12_seen_1 : decode cX12_seen 1 = .ok (.iconst 0, 1) := by decide +kernel
theorem dX12_seen_2 : decode cX12_seen 2 = .ok (.putfield 109, 3) := by decide +kernel
theorem dX12_seen_5 : decode cX12_seen 5 = .ok (.aload_n 0, 1) := by decide +kernel
theorem dX12_seen_6 : decode cX12_seen 6 = .ok (.iload_n 1, 1) := by decide +kernel
theorem dX12_seen_7 : decode cX12_seen 7 = .ok (.iconst 0, 1) := by decide +kernel
theorem dX12_seen_8 : decode cX12_seen 8 = .ok (.bipush 12, 2) := by decide +kernel
theorem dX12_seen_10 : decode cX12_seen 10 = .ok (.invokestatic 143, 3) := by decide +kernel
theorem dX12_seen_13 : decode cX12_seen 13 = .ok (.ifCond .eq 22, 3) := by decide +kernel
theorem dX12_seen_16 : decode cX12_seen 16 = .ok (.iload_n 2, 1) := by decide +kernel
theorem dX12_seen_17 : decode cX12_seen 17 = .ok (.iconst 0, 1) := by decide +kernel
theorem dX12_seen_18 : decode cX12_seen 18 = .ok (.bipush 16, 2) := by decide +kernel
theorem dX12_seen_20 : decode cX12_seen 20 = .ok (.invokestatic 143, 3) := by decide +kernel
theorem dX12_seen_23 : decode cX12_seen 23 = .ok (.ifCond .eq 12, 3) := by decide +kernel
theorem dX12_seen_26 : decode cX12_seen 26 = .ok (.iload_n 3, 1) := by decide +kernel
theorem dX12_seen_27 : decode cX12_seen 27 = .ok (.iconst 0, 1) := by decide +kernel
theorem dX12_seen_28 : decode cX12_seen 28 = .ok (.iconst 1, 1) := by decide +kernel
theorem dX12_seen_29 : decode cX12_seen 29 = .ok (.invokestatic 143, 3) := by decide +kernel
theorem dX12_seen_32 : decode cX12_seen 32 = .ok (.ifCond .ne 7, 3) := by decide +kernel
theorem dX12_seen_35 : decode cX12_seen 35 = .ok (.iconst 1, 1) := by decide +kernel
theorem dX12_seen_36 : decode cX12_seen 36 = .ok (.goto 4, 3) := by decide +kernel
theorem dX12_seen_39 : decode cX12_seen 39 = .ok (.iconst 0, 1) := by decide +kernel
theorem dX12_seen_40 : decode cX12_seen 40 = .ok (.iconst 1, 1) := by decide +kernel
theorem dX12_seen_41 : decode cX12_seen 41 = .ok (.iconst 1, 1) := by decide +kernel
theorem dX12_seen_42 : decode cX12_seen 42 = .ok (.invokevirtual 191, 3) := by decide +kernel
theorem dX12_seen_45 : decode cX12_seen 45 = .ok (.ifCond .eq 5, 3) := by decide +kernel
theorem dX12_seen_48 : decode cX12_seen 48 = .ok (.lconst 0, 1) := by decide +kernel
theorem dX12_seen_49 : decode cX12_seen 49 = .ok (.lreturn, 1) := by decide +kernel
theorem dX12_seen_50 : decode cX12_seen 50 = .ok (.lconst 1, 1) := by decide +kernel
theorem dX12_seen_51 : decode cX12_seen 51 = .ok (.lstore 4, 2) := by decide +kernel
theorem dX12_seen_53 : decode cX12_seen 53 = .ok (.lconst 0, 1) := by decide +kernel
theorem dX12_seen_54 : decode cX12_seen 54 = .ok (.lstore 6, 2) := by decide +kernel
theorem dX12_seen_56 : decode cX12_seen 56 = .ok (.lconst 1, 1) := by decide +kernel
theorem dX12_seen_57 : decode cX12_seen 57 = .ok (.iconst 4, 1) := by decide +kernel
theorem dX12_seen_58 : decode cX12_seen 58 = .ok (.iload_n 1, 1) := by decide +kernel
theorem dX12_seen_59 : decode cX12_seen 59 = .ok (.imul, 1) := by decide +kernel
theorem dX12_seen_60 : decode cX12_seen 60 = .ok (.lshl, 1) := by decide +kernel
theorem dX12_seen_61 : decode cX12_seen 61 = .ok (.lstore 8, 2) := by decide +kernel
theorem dX12_seen_63 : decode cX12_seen 63 = .ok (.iconst 0, 1) := by decide +kernel
theorem dX12_seen_64 : decode cX12_seen 64 = .ok (.istore 10, 2) := by decide +kernel
theorem dX12_seen_66 : decode cX12_seen 66 = .ok (.iload 10, 2) := by decide +kernel
theorem dX12_seen_68 : decode cX12_seen 68 = .ok (.iload_n 1, 1) := by decide +kernel
theorem dX12_seen_69 : decode cX12_seen 69 = .ok (.if_icmp .ge 35, 3) := by decide +kernel
theorem dX12_seen_72 : decode cX12_seen 72 = .ok (.lload 6, 2) := by decide +kernel
theorem dX12_seen_74 : decode cX12_seen 74 = .ok (.bipush 16, 2) := by decide +kernel
theorem dX12_seen_76 : decode cX12_seen 76 = .ok (.iload_n 2, 1) := by decide +kernel
theorem dX12_seen_77 : decode cX12_seen 77 = .ok (.isub, 1) := by decide +kernel
theorem dX12_seen_78 : decode cX12_seen 78 = .ok (.i2l, 1) := by decide +kernel
theorem dX12_seen_79 : decode cX12_seen 79 = .ok (.lmul, 1) := by decide +kernel
theorem dX12_seen_80 : decode cX12_seen 80 = .ok (.lload 4, 2) := by decide +kernel
theorem dX12_seen_82 : decode cX12_seen 82 = .ok (.iload_n 2, 1) := by decide +kernel
theorem dX12_seen_83 : decode cX12_seen 83 = .ok (.i2l, 1) := by decide +kernel
theorem dX12_seen_84 : decode cX12_seen 84 = .ok (.lmul, 1) := by decide +kernel
theorem dX12_seen_85 : decode cX12_seen 85 = .ok (.ladd, 1) := by decide +kernel
theorem dX12_seen_86 : decode cX12_seen 86 = .ok (.lstore 6, 2) := by decide +kernel
theorem dX12_seen_88 : decode cX12_seen 88 = .ok (.lload 4, 2) := by decide +kernel
theorem dX12_seen_90 : decode cX12_seen 90 = .ok (.bipush 16, 2) := by decide +kernel
theorem dX12_seen_92 : decode cX12_seen 92 = .ok (.iload_n 2, 1) := by decide +kernel
theorem dX12_seen_93 : decode cX12_seen 93 = .ok (.isub, 1) := by decide +kernel
theorem dX12_seen_94 : decode cX12_seen 94 = .ok (.i2l, 1) := by decide +kernel
theorem dX12_seen_95 : decode cX12_seen 95 = .ok (.lmul, 1) := by decide +kernel
theorem dX12_seen_96 : decode cX12_seen 96 = .ok (.lstore 4, 2) := by decide +kernel
theorem dX12_seen_98 : decode cX12_seen 98 = .ok (.iinc 10 1, 3) := by decide +kernel
theorem dX12_seen_101 : decode cX12_seen 101 = .ok (.goto (-35), 3) := by decide +kernel
theorem dX12_seen_104 : decode cX12_seen 104 = .ok (.lload 8, 2) := by decide +kernel
theorem dX12_seen_106 : decode cX12_seen 106 = .ok (.lload 4, 2) := by decide +kernel
theorem dX12_seen_108 : decode cX12_seen 108 = .ok (.lsub, 1) := by decide +kernel
theorem dX12_seen_109 : decode cX12_seen 109 = .ok (.lload 6, 2) := by decide +kernel
theorem dX12_seen_111 : decode cX12_seen 111 = .ok (.lsub, 1) := by decide +kernel
theorem dX12_seen_112 : decode cX12_seen 112 = .ok (.lstore 10, 2) := by decide +kernel
theorem dX12_seen_114 : decode cX12_seen 114 = .ok (.lload 8, 2) := by decide +kernel
theorem dX12_seen_116 : decode cX12_seen 116 = .ok (.lstore 12, 2) := by decide +kernel
theorem dX12_seen_118 : decode cX12_seen 118 = .ok (.lload 10, 2) := by decide +kernel
theorem dX12_seen_120 : decode cX12_seen 120 = .ok (.lstore 14, 2) := by decide +kernel
theorem dX12_seen_122 : decode cX12_seen 122 = .ok (.lload 14, 2) := by decide +kernel
theorem dX12_seen_124 : decode cX12_seen 124 = .ok (.lconst 0, 1) := by decide +kernel
theorem dX12_seen_125 : decode cX12_seen 125 = .ok (.lcmp, 1) := by decide +kernel
theorem dX12_seen_126 : decode cX12_seen 126 = .ok (.ifCond .eq 21, 3) := by decide +kernel
theorem dX12_seen_129 : decode cX12_seen 129 = .ok (.lload 12, 2) := by decide +kernel
theorem dX12_seen_131 : decode cX12_seen 131 = .ok (.lload 14, 2) := by decide +kernel
theorem dX12_seen_133 : decode cX12_seen 133 = .ok (.lrem, 1) := by decide +kernel
theorem dX12_seen_134 : decode cX12_seen 134 = .ok (.lstore 16, 2) := by decide +kernel
theorem dX12_seen_136 : decode cX12_seen 136 = .ok (.lload 14, 2) := by decide +kernel
theorem dX12_seen_138 : decode cX12_seen 138 = .ok (.lstore 12, 2) := by decide +kernel
theorem dX12_seen_140 : decode cX12_seen 140 = .ok (.lload 16, 2) := by decide +kernel
theorem dX12_seen_142 : decode cX12_seen 142 = .ok (.lstore 14, 2) := by decide +kernel
theorem dX12_seen_144 : decode cX12_seen 144 = .ok (.goto (-22), 3) := by decide +kernel
theorem dX12_seen_147 : decode cX12_seen 147 = .ok (.iload_n 3, 1) := by decide +kernel
theorem dX12_seen_148 : decode cX12_seen 148 = .ok (.ifCond .ne 11, 3) := by decide +kernel
theorem dX12_seen_151 : decode cX12_seen 151 = .ok (.lload 10, 2) := by decide +kernel
theorem dX12_seen_153 : decode cX12_seen 153 = .ok (.lload 12, 2) := by decide +kernel
theorem dX12_seen_155 : decode cX12_seen 155 = .ok (.ldiv, 1) := by decide +kernel
theorem dX12_seen_156 : decode cX12_seen 156 = .ok (.goto 8, 3) := by decide +kernel
theorem dX12_seen_159 : decode cX12_seen 159 = .ok (.lload 8, 2) := by decide +kernel
theorem dX12_seen_161 : decode cX12_seen 161 = .ok (.lload 12, 2) := by decide +kernel
theorem dX12_seen_163 : decode cX12_seen 163 = .ok (.ldiv, 1) := by decide +kernel
theorem dX12_seen_164 : decode cX12_seen 164 = .ok (.lreturn, 1) := by decide +kernel
theorem dX12_share_0 : decode cX12_share 0 = .ok (.aload_n 0, 1) := by decide +kernel
theorem dX12_share_1 : decode cX12_share 1 = .ok (.iconst 0, 1) := by decide +kernel
theorem dX12_share_2 : decode cX12_share 2 = .ok (.putfield 109, 3) := by decide +kernel
theorem dX12_share_5 : decode cX12_share 5 = .ok (.aload_n 0, 1) := by decide +kernel
theorem dX12_share_6 : decode cX12_share 6 = .ok (.aload_n 0, 1) := by decide +kernel
theorem dX12_share_7 : decode cX12_share 7 = .ok (.iload_n 1, 1) := by decide +kernel
theorem dX12_share_8 : decode cX12_share 8 = .ok (.invokevirtual 358, 3) := by decide +kernel
theorem dX12_share_11 : decode cX12_share 11 = .ok (.ifCond .ne 7, 3) := by decide +kernel
theorem dX12_share_14 : decode cX12_share 14 = .ok (.iconst 1, 1) := by decide +kernel
theorem dX12_share_15 : decode cX12_share 15 = .ok (.goto 4, 3) := by decide +kernel
theorem dX12_share_18 : decode cX12_share 18 = .ok (.iconst 0, 1) := by decide +kernel
theorem dX12_share_19 : decode cX12_share 19 = .ok (.iconst 1, 1) := by decide +kernel
theorem dX12_share_20 : decode cX12_share 20 = .ok (.iconst 0, 1) := by decide +kernel
theorem dX12_share_21 : decode cX12_share 21 = .ok (.invokevirtual 191, 3) := by decide +kernel
theorem dX12_share_24 : decode cX12_share 24 = .ok (.ifCond .ne 45, 3) := by decide +kernel
theorem dX12_share_27 : decode cX12_share 27 = .ok (.aload_n 0, 1) := by decide +kernel
theorem dX12_share_28 : decode cX12_share 28 = .ok (.iload_n 2, 1) := by decide +kernel
theorem dX12_share_29 : decode cX12_share 29 = .ok (.iconst 0, 1) := by decide +kernel
theorem dX12_share_30 : decode cX12_share 30 = .ok (.iconst 1, 1) := by decide +kernel
theorem dX12_share_31 : decode cX12_share 31 = .ok (.aload_n 0, 1) := by decide +kernel
theorem dX12_share_32 : decode cX12_share 32 = .ok (.getfield 23, 3) := by decide +kernel
theorem dX12_share_35 : decode cX12_share 35 = .ok (.iconst 2, 1) := by decide +kernel
theorem dX12_share_36 : decode cX12_share 36 = .ok (.iaload, 1) := by decide +kernel
theorem dX12_share_37 : decode cX12_share 37 = .ok (.ishl, 1) := by decide +kernel
theorem dX12_share_38 : decode cX12_share 38 = .ok (.iconst 1, 1) := by decide +kernel
theorem dX12_share_39 : decode cX12_share 39 = .ok (.isub, 1) := by decide +kernel
theorem dX12_share_40 : decode cX12_share 40 = .ok (.invokestatic 143, 3) := by decide +kernel
theorem dX12_share_43 : decode cX12_share 43 = .ok (.ifCond .eq 13, 3) := by decide +kernel
theorem dX12_share_46 : decode cX12_share 46 = .ok (.iload_n 3, 1) := by decide +kernel
theorem dX12_share_47 : decode cX12_share 47 = .ok (.iconst 0, 1) := by decide +kernel
theorem dX12_share_48 : decode cX12_share 48 = .ok (.bipush 99, 2) := by decide +kernel
theorem dX12_share_50 : decode cX12_share 50 = .ok (.invokestatic 143, 3) := by decide +kernel
theorem dX12_share_53 : decode cX12_share 53 = .ok (.ifCond .ne 7, 3) := by decide +kernel
theorem dX12_share_56 : decode cX12_share 56 = .ok (.iconst 1, 1) := by decide +kernel
theorem dX12_share_57 : decode cX12_share 57 = .ok (.goto 4, 3) := by decide +kernel
theorem dX12_share_60 : decode cX12_share 60 = .ok (.iconst 0, 1) := by decide +kernel
theorem dX12_share_61 : decode cX12_share 61 = .ok (.iconst 2, 1) := by decide +kernel
theorem dX12_share_62 : decode cX12_share 62 = .ok (.iconst 1, 1) := by decide +kernel
theorem dX12_share_63 : decode cX12_share 63 = .ok (.invokevirtual 191, 3) := by decide +kernel
theorem dX12_share_66 : decode cX12_share 66 = .ok (.ifCond .eq 5, 3) := by decide +kernel
theorem dX12_share_69 : decode cX12_share 69 = .ok (.iconst 0, 1) := by decide +kernel
theorem dX12_share_70 : decode cX12_share 70 = .ok (.ireturn, 1) := by decide +kernel
theorem dX12_share_71 : decode cX12_share 71 = .ok (.iconst 0, 1) := by decide +kernel
theorem dX12_share_72 : decode cX12_share 72 = .ok (.istore 4, 2) := by decide +kernel
theorem dX12_share_74 : decode cX12_share 74 = .ok (.iload 4, 2) := by decide +kernel
theorem dX12_share_76 : decode cX12_share 76 = .ok (.bipush 9, 2) := by decide +kernel
theorem dX12_share_78 : decode cX12_share 78 = .ok (.if_icmp .ge 22, 3) := by decide +kernel
theorem dX12_share_81 : decode cX12_share 81 = .ok (.aload_n 0, 1) := by decide +kernel
theorem dX12_share_82 : decode cX12_share 82 = .ok (.iload_n 2, 1) := by decide +kernel
theorem dX12_share_83 : decode cX12_share 83 = .ok (.iload 4, 2) := by decide +kernel
theorem dX12_share_85 : decode cX12_share 85 = .ok (.iconst 1, 1) := by decide +kernel
theorem dX12_share_86 : decode cX12_share 86 = .ok (.iadd, 1) := by decide +kernel
theorem dX12_share_87 : decode cX12_share 87 = .ok (.invokevirtual 402, 3) := by decide +kernel
theorem dX12_share_90 : decode cX12_share 90 = .ok (.iload_n 3, 1) := by decide +kernel
theorem dX12_share_91 : decode cX12_share 91 = .ok (.if_icmp .gt 9, 3) := by decide +kernel
theorem dX12_share_94 : decode cX12_share 94 = .ok (.iinc 4 1, 3) := by decide +kernel
theorem dX12_share_97 : decode cX12_share 97 = .ok (.goto (-23), 3) := by decide +kernel
theorem dX12_share_100 : decode cX12_share 100 = .ok (.iload_n 2, 1) := by decide +kernel
theorem dX12_share_101 : decode cX12_share 101 = .ok (.iload_n 1, 1) := by decide +kernel
theorem dX12_share_102 : decode cX12_share 102 = .ok (.invokestatic 282, 3) := by decide +kernel
theorem dX12_share_105 : decode cX12_share 105 = .ok (.ifCond .eq 19, 3) := by decide +kernel
theorem dX12_share_108 : decode cX12_share 108 = .ok (.iload 4, 2) := by decide +kernel
theorem dX12_share_110 : decode cX12_share 110 = .ok (.aload_n 0, 1) := by decide +kernel
theorem dX12_share_111 : decode cX12_share 111 = .ok (.getfield 43, 3) := by decide +kernel
theorem dX12_share_114 : decode cX12_share 114 = .ok (.iload_n 1, 1) := by decide +kernel
theorem dX12_share_115 : decode cX12_share 115 = .ok (.aaload, 1) := by decide +kernel
theorem dX12_share_116 : decode cX12_share 116 = .ok (.iconst 0, 1) := by decide +kernel
theorem dX12_share_117 : decode cX12_share 117 = .ok (.iaload, 1) := by decide +kernel
theorem dX12_share_118 : decode cX12_share 118 = .ok (.invokestatic 254, 3) := by decide +kernel
theorem dX12_share_121 : decode cX12_share 121 = .ok (.goto 4, 3) := by decide +kernel
theorem dX12_share_124 : decode cX12_share 124 = .ok (.iconst 0, 1) := by decide +kernel
theorem dX12_share_125 : decode cX12_share 125 = .ok (.ireturn, 1) := by decide +kernel
theorem dX12_sight_0 : decode cX12_sight 0 = .ok (.aload_n 0, 1) := by decide +kernel
theorem dX12_sight_1 : decode cX12_sight 1 = .ok (.iconst 0, 1) := by decide +kernel
theorem dX12_sight_2 : decode cX12_sight 2 = .ok (.putfield 109, 3) := by decide +kernel
theorem dX12_sight_5 : decode cX12_sight 5 = .ok (.aload_n 0, 1) := by decide +kernel
theorem dX12_sight_6 : decode cX12_sight 6 = .ok (.aload_n 0, 1) := by decide +kernel
theorem dX12_sight_7 : decode cX12_sight 7 = .ok (.getfield 73, 3) := by decide +kernel
theorem dX12_sight_10 : decode cX12_sight 10 = .ok (.invokevirtual 315, 3) := by decide +kernel
theorem dX12_sight_13 : decode cX12_sight 13 = .ok (.istore_n 1, 1) := by decide +kernel
theorem dX12_sight_14 : decode cX12_sight 14 = .ok (.iconst 1, 1) := by decide +kernel
theorem dX12_sight_15 : decode cX12_sight 15 = .ok (.aload_n 0, 1) := by decide +kernel
theorem dX12_sight_16 : decode cX12_sight 16 = .ok (.getfield 23, 3) := by decide +kernel
theorem dX12_sight_19 : decode cX12_sight 19 = .ok (.iconst 0, 1) := by decide +kernel
theorem dX12_sight_20 : decode cX12_sight 20 = .ok (.iaload, 1) := by decide +kernel
theorem dX12_sight_21 : decode cX12_sight 21 = .ok (.ishl, 1) := by decide +kernel
theorem dX12_sight_22 : decode cX12_sight 22 = .ok (.iconst 1, 1) := by decide +kernel
theorem dX12_sight_23 : decode cX12_sight 23 = .ok (.isub, 1) := by decide +kernel
theorem dX12_sight_24 : decode cX12_sight 24 = .ok (.istore_n 2, 1) := by decide +kernel
theorem dX12_sight_25 : decode cX12_sight 25 = .ok (.iload_n 2, 1) := by decide +kernel
theorem dX12_sight_26 : decode cX12_sight 26 = .ok (.istore_n 3, 1) := by decide +kernel
theorem dX12_sight_27 : decode cX12_sight 27 = .ok (.iload_n 3, 1) := by decide +kernel
theorem dX12_sight_28 : decode cX12_sight 28 = .ok (.ifCond .lt 85, 3) := by decide +kernel
theorem dX12_sight_31 : decode cX12_sight 31 = .ok (.iload_n 3, 1) := by decide +kernel
theorem dX12_sight_32 : decode cX12_sight 32 = .ok (.invokestatic 381, 3) := by decide +kernel
theorem dX12_sight_35 : decode cX12_sight 35 = .ok (.iload_n 2, 1) := by decide +kernel
theorem dX12_sight_36 : decode cX12_sight 36 = .ok (.invokestatic 381, 3) := by decide +kernel
theorem dX12_sight_39 : decode cX12_sight 39 = .ok (.if_icmp .le 6, 3) := by decide +kernel
theorem dX12_sight_42 : decode cX12_sight 42 = .ok (.goto 65, 3) := by decide +kernel
theorem dX12_sight_45 : decode cX12_sight 45 = .ok (.iload_n 3, 1) := by decide +kernel
theorem dX12_sight_46 : decode cX12_sight 46 = .ok (.istore 4, 2) := by decide +kernel
theorem dX12_sight_48 : decode cX12_sight 48 = .ok (.iconst 0, 1) := by decide +kernel
theorem dX12_sight_49 : decode cX12_sight 49 = .ok (.istore 5, 2) := by decide +kernel
theorem dX12_sight_51 : decode cX12_sight 51 = .ok (.iload 5, 2) := by decide +kernel
theorem dX12_sight_53 : decode cX12_sight 53 = .ok (.aload_n 0, 1) := by decide +kernel
theorem dX12_sight_54 : decode cX12_sight 54 = .ok (.getfield 23, 3) := by decide +kernel
theorem dX12_sight_57 : decode cX12_sight 57 = .ok (.iconst 0, 1) := by decide +kernel
theorem dX12_sight_58 : decode cX12_sight 58 = .ok (.iaload, 1) := by decide +kernel
theorem dX12_sight_59 : decode cX12_sight 59 = .ok (.if_icmp .ge 33, 3) := by decide +kernel
theorem dX12_sight_62 : decode cX12_sight 62 = .ok (.iload 4, 2) := by decide +kernel
theorem dX12_sight_64 : decode cX12_sight 64 = .ok (.iload_n 3, 1) := by decide +kernel
theorem dX12_sight_65 : decode cX12_sight 65 = .ok (.iload 5, 2) := by decide +kernel
theorem dX12_sight_67 : decode cX12_sight 67 = .ok (.invokestatic 282, 3) := by decide +kernel
theorem dX12_sight_70 : decode cX12_sight 70 = .ok (.ifCond .eq 12, 3) := by decide +kernel
theorem dX12_sight_73 : decode cX12_sight 73 = .ok (.aload_n 0, 1) := by decide +kernel
theorem dX12_sight_74 : decode cX12_sight 74 = .ok (.iload 5, 2) := by decide +kernel
theorem dX12_sight_76 : decode cX12_sight 76 = .ok (.invokevirtual 355, 3) := by decide +kernel
theorem dX12_sight_79 : decode cX12_sight 79 = .ok (.goto 4, 3) := by decide +kernel
theorem dX12_sight_82 : decode cX12_sight 82 = .ok (.iconst 0, 1) := by decide +kernel
theorem dX12_sight_83 : decode cX12_sight 83 = .ok (.ior, 1) := by decide +kernel
theorem dX12_sight_84 : decode cX12_sight 84 = .ok (.istore 4, 2) := by decide +kernel
theorem dX12_sight_86 : decode cX12_sight 86 = .ok (.iinc 5 1, 3) := by decide +kernel
theorem dX12_sight_89 : decode cX12_sight 89 = .ok (.goto (-38), 3) := by decide +kernel
theorem dX12_sight_92 : decode cX12_sight 92 = .ok (.iload_n 1, 1) := by decide +kernel
theorem dX12_sight_93 : decode cX12_sight 93 = .ok (.iload 4, 2) := by decide +kernel
theorem dX12_sight_95 : decode cX12_sight 95 = .ok (.iconst (-1), 1) := by decide +kernel
theorem dX12_sight_96 : decode cX12_sight 96 = .ok (.ixor, 1) := by decide +kernel
theorem dX12_sight_97 : decode cX12_sight 97 = .ok (.iand, 1) := by decide +kernel
theorem dX12_sight_98 : decode cX12_sight 98 = .ok (.ifCond .ne 7, 3) := by decide +kernel
theorem dX12_sight_101 : decode cX12_sight 101 = .ok (.iload_n 3, 1) := by decide +kernel
theorem dX12_sight_102 : decode cX12_sight 102 = .ok (.goto 4, 3) := by decide +kernel
theorem dX12_sight_105 : decode cX12_sight 105 = .ok (.iload_n 2, 1) := by decide +kernel
theorem dX12_sight_106 : decode cX12_sight 106 = .ok (.istore_n 2, 1) := by decide +kernel
theorem dX12_sight_107 : decode cX12_sight 107 = .ok (.iinc 3 (-1), 3) := by decide +kernel
theorem dX12_sight_110 : decode cX12_sight 110 = .ok (.goto (-83), 3) := by decide +kernel
theorem dX12_sight_113 : decode cX12_sight 113 = .ok (.iload_n 2, 1) := by decide +kernel
theorem dX12_sight_114 : decode cX12_sight 114 = .ok (.ireturn, 1) := by decide +kernel
theorem dX12_silence_0 : decode cX12_silence 0 = .ok (.aload_n 0, 1) := by decide +kernel
theorem dX12_silence_1 : decode cX12_silence 1 = .ok (.iconst 0, 1) := by decide +kernel
theorem dX12_silence_2 : decode cX12_silence 2 = .ok (.putfield 109, 3) := by decide +kernel
theorem dX12_silence_5 : decode cX12_silence 5 = .ok (.aload_n 0, 1) := by decide +kernel
theorem dX12_silence_6 : decode cX12_silence 6 = .ok (.aload_n 0, 1) := by decide +kernel
theorem dX12_silence_7 : decode cX12_silence 7 = .ok (.iload_n 1, 1) := by decide +kernel
theorem dX12_silence_8 : decode cX12_silence 8 = .ok (.invokevirtual 352, 3) := by decide +kernel
theorem dX12_silence_11 : decode cX12_silence 11 = .ok (.ifCond .ne 7, 3) := by decide +kernel
theorem dX12_silence_14 : decode cX12_silence 14 = .ok (.iconst 1, 1) := by decide +kernel
theorem dX12_silence_15 : decode cX12_silence 15 = .ok (.goto 4, 3) := by decide +kernel
theorem dX12_silence_18 : decode cX12_silence 18 = .ok (.iconst 0, 1) := by decide +kernel
theorem dX12_silence_19 : decode cX12_silence 19 = .ok (.iconst 1, 1) := by decide +kernel
theorem dX12_silence_20 : decode cX12_silence 20 = .ok (.iconst 0, 1) := by decide +kernel
theorem dX12_silence_21 : decode cX12_silence 21 = .ok (.invokevirtual 191, 3) := by decide +kernel
theorem dX12_silence_24 : decode cX12_silence 24 = .ok (.ifCond .eq 5, 3) := by decide +kernel
theorem dX12_silence_27 : decode cX12_silence 27 = .ok (.iconst 0, 1) := by decide +kernel
theorem dX12_silence_28 : decode cX12_silence 28 = .ok (.ireturn, 1) := by decide +kernel
theorem dX12_silence_29 : decode cX12_silence 29 = .ok (.iconst (-1), 1) := by decide +kernel
theorem dX12_silence_30 : decode cX12_silence 30 = .ok (.istore_n 2, 1) := by decide +kernel
theorem dX12_silence_31 : decode cX12_silence 31 = .ok (.iconst 1, 1) := by decide +kernel
theorem dX12_silence_32 : decode cX12_silence 32 = .ok (.aload_n 0, 1) := by decide +kernel
theorem dX12_silence_33 : decode cX12_silence 33 = .ok (.getfield 23, 3) := by decide +kernel
theorem dX12_silence_36 : decode cX12_silence 36 = .ok (.iconst 2, 1) := by decide +kernel
theorem dX12_silence_37 : decode cX12_silence 37 = .ok (.iaload, 1) := by decide +kernel
theorem dX12_silence_38 : decode cX12_silence 38 = .ok (.ishl, 1) := by decide +kernel
theorem dX12_silence_39 : decode cX12_silence 39 = .ok (.iconst 1, 1) := by decide +kernel
theorem dX12_silence_40 : decode cX12_silence 40 = .ok (.isub, 1) := by decide +kernel
theorem dX12_silence_41 : decode cX12_silence 41 = .ok (.istore_n 3, 1) := by decide +kernel
theorem dX12_silence_42 : decode cX12_silence 42 = .ok (.iload_n 3, 1) := by decide +kernel
theorem dX12_silence_43 : decode cX12_silence 43 = .ok (.ifCond .lt 51, 3) := by decide +kernel
theorem dX12_silence_46 : decode cX12_silence 46 = .ok (.aload_n 0, 1) := by decide +kernel
theorem dX12_silence_47 : decode cX12_silence 47 = .ok (.iload_n 3, 1) := by decide +kernel
theorem dX12_silence_48 : decode cX12_silence 48 = .ok (.invokevirtual 378, 3) := by decide +kernel
theorem dX12_silence_51 : decode cX12_silence 51 = .ok (.aload_n 0, 1) := by decide +kernel
theorem dX12_silence_52 : decode cX12_silence 52 = .ok (.aload_n 0, 1) := by decide +kernel
theorem dX12_silence_53 : decode cX12_silence 53 = .ok (.getfield 76, 3) := by decide +kernel
theorem dX12_silence_56 : decode cX12_silence 56 = .ok (.invokevirtual 315, 3) := by decide +kernel
theorem dX12_silence_59 : decode cX12_silence 59 = .ok (.iload_n 1, 1) := by decide +kernel
theorem dX12_silence_60 : decode cX12_silence 60 = .ok (.invokestatic 282, 3) := by decide +kernel
theorem dX12_silence_63 : decode cX12_silence 63 = .ok (.ifCond .eq 23, 3) := by decide +kernel
theorem dX12_silence_66 : decode cX12_silence 66 = .ok (.iload_n 2, 1) := by decide +kernel
theorem dX12_silence_67 : decode cX12_silence 67 = .ok (.iconst (-1), 1) := by decide +kernel
theorem dX12_silence_68 : decode cX12_silence 68 = .ok (.if_icmp .eq 14, 3) := by decide +kernel
theorem dX12_silence_71 : decode cX12_silence 71 = .ok (.iload_n 3, 1) := by decide +kernel
theorem dX12_silence_72 : decode cX12_silence 72 = .ok (.invokestatic 381, 3) := by decide +kernel
theorem dX12_silence_75 : decode cX12_silence 75 = .ok (.iload_n 2, 1) := by decide +kernel
theorem dX12_silence_76 : decode cX12_silence 76 = .ok (.invokestatic 381, 3) := by decide +kernel
theorem dX12_silence_79 : decode cX12_silence 79 = .ok (.if_icmp .gt 7, 3) := by decide +kernel
theorem dX12_silence_82 : decode cX12_silence 82 = .ok (.iload_n 3, 1) := by decide +kernel
theorem dX12_silence_83 : decode cX12_silence 83 = .ok (.goto 4, 3) := by decide +kernel
theorem dX12_silence_86 : decode cX12_silence 86 = .ok (.iload_n 2, 1) := by decide +kernel
theorem dX12_silence_87 : decode cX12_silence 87 = .ok (.istore_n 2, 1) := by decide +kernel
theorem dX12_silence_88 : decode cX12_silence 88 = .ok (.iinc 3 (-1), 3) := by decide +kernel
theorem dX12_silence_91 : decode cX12_silence 91 = .ok (.goto (-49), 3) := by decide +kernel
theorem dX12_silence_94 : decode cX12_silence 94 = .ok (.iload_n 2, 1) := by decide +kernel
theorem dX12_silence_95 : decode cX12_silence 95 = .ok (.ireturn, 1) := by decide +kernel
theorem dX12_span_0 : decode cX12_span 0 = .ok (.aload_n 0, 1) := by decide +kernel
theorem dX12_span_1 : decode cX12_span 1 = .ok (.iconst 0, 1) := by decide +kernel
theorem dX12_span_2 : decode cX12_span 2 = .ok (.putfield 109, 3) := by decide +kernel
theorem dX12_span_5 : decode cX12_span 5 = .ok (.aload_n 0, 1) := by decide +kernel
theorem dX12_span_6 : decode cX12_span 6 = .ok (.iload_n 2, 1) := by decide +kernel
theorem dX12_span_7 : decode cX12_span 7 = .ok (.iconst 1, 1) := by decide +kernel
theorem dX12_span_8 : decode cX12_span 8 = .ok (.bipush 20, 2) := by decide +kernel
theorem dX12_span_10 : decode cX12_span 10 = .ok (.invokestatic 143, 3) := by decide +kernel
theorem dX12_span_13 : decode cX12_span 13 = .ok (.ifCond .eq 31, 3) := by decide +kernel
theorem dX12_span_16 : decode cX12_span 16 = .ok (.iload_n 3, 1) := by decide +kernel
theorem dX12_span_17 : decode cX12_span 17 = .ok (.iload 4, 2) := by decide +kernel
theorem dX12_span_19 : decode cX12_span 19 = .ok (.invokestatic 415, 3) := by decide +kernel
theorem dX12_span_22 : decode cX12_span 22 = .ok (.ifCond .eq 22, 3) := by decide +kernel
theorem dX12_span_25 : decode cX12_span 25 = .ok (.iload 5, 2) := by decide +kernel
theorem dX12_span_27 : decode cX12_span 27 = .ok (.iconst 0, 1) := by decide +kernel
theorem dX12_span_28 : decode cX12_span 28 = .ok (.iconst 2, 1) := by decide +kernel
theorem dX12_span_29 : decode cX12_span 29 = .ok (.invokestatic 143, 3) := by decide +kernel
theorem dX12_span_32 : decode cX12_span 32 = .ok (.ifCond .eq 12, 3) := by decide +kernel
theorem dX12_span_35 : decode cX12_span 35 = .ok (.aload_n 0, 1) := by decide +kernel
theorem dX12_span_36 : decode cX12_span 36 = .ok (.iload 6, 2) := by decide +kernel
theorem dX12_span_38 : decode cX12_span 38 = .ok (.invokevirtual 352, 3) := by decide +kernel
theorem dX12_span_41 : decode cX12_span 41 = .ok (.ifCond .ne 7, 3) := by decide +kernel
theorem dX12_span_44 : decode cX12_span 44 = .ok (.iconst 1, 1) := by decide +kernel
theorem dX12_span_45 : decode cX12_span 45 = .ok (.goto 4, 3) := by decide +kernel
theorem dX12_span_48 : decode cX12_span 48 = .ok (.iconst 0, 1) := by decide +kernel
theorem dX12_span_49 : decode cX12_span 49 = .ok (.iconst 1, 1) := by decide +kernel
theorem dX12_span_50 : decode cX12_span 50 = .ok (.iconst 1, 1) := by decide +kernel
theorem dX12_span_51 : decode cX12_span 51 = .ok (.invokevirtual 191, 3) := by decide +kernel
theorem dX12_span_54 : decode cX12_span 54 = .ok (.ifCond .eq 5, 3) := by decide +kernel
theorem dX12_span_57 : decode cX12_span 57 = .ok (.iconst 0, 1) := by decide +kernel
theorem dX12_span_58 : decode cX12_span 58 = .ok (.ireturn, 1) := by decide +kernel
theorem dX12_span_59 : decode cX12_span 59 = .ok (.iconst (-1), 1) := by decide +kernel
theorem dX12_span_60 : decode cX12_span 60 = .ok (.istore 7, 2) := by decide +kernel
theorem dX12_span_62 : decode cX12_span 62 = .ok (.iconst 0, 1) := by decide +kernel
theorem dX12_span_63 : decode cX12_span 63 = .ok (.istore 8, 2) := by decide +kernel
theorem dX12_span_65 : decode cX12_span 65 = .ok (.iconst 0, 1) := by decide +kernel
theorem dX12_span_66 : decode cX12_span 66 = .ok (.istore 9, 2) := by decide +kernel
theorem dX12_span_68 : decode cX12_span 68 = .ok (.iconst 0, 1) := by decide +kernel
theorem dX12_span_69 : decode cX12_span 69 = .ok (.istore 10, 2) := by decide +kernel
theorem dX12_span_71 : decode cX12_span 71 = .ok (.iload 10, 2) := by decide +kernel
theorem dX12_span_73 : decode cX12_span 73 = .ok (.iload_n 2, 1) := by decide +kernel
theorem dX12_span_74 : decode cX12_span 74 = .ok (.if_icmp .ge 86, 3) := by decide +kernel
theorem dX12_span_77 : decode cX12_span 77 = .ok (.aload_n 0, 1) := by decide +kernel
theorem dX12_span_78 : decode cX12_span 78 = .ok (.iload_n 1, 1) := by decide +kernel
theorem dX12_span_79 : decode cX12_span 79 = .ok (.iload 10, 2) := by decide +kernel
theorem dX12_span_81 : decode cX12_span 81 = .ok (.iadd, 1) := by decide +kernel
theorem dX12_span_82 : decode cX12_span 82 = .ok (.iload_n 3, 1) := by decide +kernel
theorem dX12_span_83 : decode cX12_span 83 = .ok (.iload 4, 2) := by decide +kernel
theorem dX12_span_85 : decode cX12_span 85 = .ok (.invokevirtual 418, 3) := by decide +kernel
theorem dX12_span_88 : decode cX12_span 88 = .ok (.aload_n 0, 1) := by decide +kernel
theorem dX12_span_89 : decode cX12_span 89 = .ok (.aload_n 0, 1) := by decide +kernel
theorem dX12_span_90 : decode cX12_span 90 = .ok (.getfield 76, 3) := by decide +kernel
theorem dX12_span_93 : decode cX12_span 93 = .ok (.invokevirtual 315, 3) := by decide +kernel
theorem dX12_span_96 : decode cX12_span 96 = .ok (.istore 11, 2) := by decide +kernel
theorem dX12_span_98 : decode cX12_span 98 = .ok (.iload 11, 2) := by decide +kernel
theorem dX12_span_100 : decode cX12_span 100 = .ok (.invokestatic 381, 3) := by decide +kernel
theorem dX12_span_103 : decode cX12_span 103 = .ok (.istore 12, 2) := by decide +kernel
theorem dX12_span_105 : decode cX12_span 105 = .ok (.iload 7, 2) := by decide +kernel
theorem dX12_span_107 : decode cX12_span 107 = .ok (.iconst (-1), 1) := by decide +kernel
theorem dX12_span_108 : decode cX12_span 108 = .ok (.if_icmp .ne 8, 3) := by decide +kernel
theorem dX12_span_111 : decode cX12_span 111 = .ok (.iload 12, 2) := by decide +kernel
theorem dX12_span_113 : decode cX12_span 113 = .ok (.goto 10, 3) := by decide +kernel
theorem dX12_span_116 : decode cX12_span 116 = .ok (.iload 7, 2) := by decide +kernel
theorem dX12_span_118 : decode cX12_span 118 = .ok (.iload 12, 2) := by decide +kernel
theorem dX12_span_120 : decode cX12_span 120 = .ok (.invokestatic 254, 3) := by decide +kernel
theorem dX12_span_123 : decode cX12_span 123 = .ok (.istore 7, 2) := by decide +kernel
theorem dX12_span_125 : decode cX12_span 125 = .ok (.iload 8, 2) := by decide +kernel
theorem dX12_span_127 : decode cX12_span 127 = .ok (.iload 12, 2) := by decide +kernel
theorem dX12_span_129 : decode cX12_span 129 = .ok (.invokestatic 257, 3) := by decide +kernel
theorem dX12_span_132 : decode cX12_span 132 = .ok (.istore 8, 2) := by decide +kernel
theorem dX12_span_134 : decode cX12_span 134 = .ok (.iload 9, 2) := by decide +kernel
theorem dX12_span_136 : decode cX12_span 136 = .ok (.iload 11, 2) := by decide +kernel
theorem dX12_span_138 : decode cX12_span 138 = .ok (.iload 6, 2) := by decide +kernel
theorem dX12_span_140 : decode cX12_span 140 = .ok (.invokestatic 282, 3) := by decide +kernel
theorem dX12_span_143 : decode cX12_span 143 = .ok (.ifCond .eq 7, 3) := by decide +kernel
theorem dX12_span_146 : decode cX12_span 146 = .ok (.iconst 1, 1) := by decide +kernel
theorem dX12_span_147 : decode cX12_span 147 = .ok (.goto 4, 3) := by decide +kernel
theorem dX12_span_150 : decode cX12_span 150 = .ok (.iconst 0, 1) := by decide +kernel
theorem dX12_span_151 : decode cX12_span 151 = .ok (.iadd, 1) := by decide +kernel
theorem dX12_span_152 : decode cX12_span 152 = .ok (.istore 9, 2) := by decide +kernel
theorem dX12_span_154 : decode cX12_span 154 = .ok (.iinc 10 1, 3) := by decide +kernel
theorem dX12_span_157 : decode cX12_span 157 = .ok (.goto (-86), 3) := by decide +kernel
theorem dX12_span_160 : decode cX12_span 160 = .ok (.iload 5, 2) := by decide +kernel
theorem dX12_span_162 : decode cX12_span 162 = .ok (.ifCond .ne 8, 3) := by decide +kernel
theorem dX12_span_165 : decode cX12_span 165 = .ok (.iload 7, 2) := by decide +kernel
theorem dX12_span_167 : decode cX12_span 167 = .ok (.goto 16, 3) := by decide +kernel
theorem dX12_span_170 : decode cX12_span 170 = .ok (.iload 5, 2) := by decide +kernel
theorem dX12_span_172 : decode cX12_span 172 = .ok (.iconst 1, 1) := by decide +kernel
theorem dX12_span_173 : decode cX12_span 173 = .ok (.if_icmp .ne 8, 3) := by decide +kernel
theorem dX12_span_176 : decode cX12_span 176 = .ok (.iload 8, 2) := by decide +kernel
theorem dX12_span_178 : decode cX12_span 178 = .ok (.goto 5, 3) := by decide +kernel
theorem dX12_span_181 : decode cX12_span 181 = .ok (.iload 9, 2) := by decide +kernel
theorem dX12_span_183 : decode cX12_span 183 = .ok (.ireturn, 1) := by decide +kernel
theorem dX12_status_0 : decode cX12_status 0 = .ok (.aload_n 0, 1) := by decide +kernel
theorem dX12_status_1 : decode cX12_status 1 = .ok (.iconst 0, 1) := by decide +kernel
theorem dX12_status_2 : decode cX12_status 2 = .ok (.putfield 109, 3) := by decide +kernel
theorem dX12_status_5 : decode cX12_status 5 = .ok (.iload_n 1, 1) := by decide +kernel
theorem dX12_status_6 : decode cX12_status 6 = .ok (.iconst 0, 1) := by decide +kernel
theorem dX12_status_7 : decode cX12_status 7 = .ok (.iconst 1, 1) := by decide +kernel
theorem dX12_status_8 : decode cX12_status 8 = .ok (.invokestatic 143, 3) := by decide +kernel
theorem dX12_status_11 : decode cX12_status 11 = .ok (.ifCond .eq 12, 3) := by decide +kernel
theorem dX12_status_14 : decode cX12_status 14 = .ok (.aload_n 0, 1) := by decide +kernel
theorem dX12_status_15 : decode cX12_status 15 = .ok (.getfield 17, 3) := by decide +kernel
theorem dX12_status_18 : decode cX12_status 18 = .ok (.iload_n 1, 1) := by decide +kernel
theorem dX12_status_19 : decode cX12_status 19 = .ok (.iaload, 1) := by decide +kernel
theorem dX12_status_20 : decode cX12_status 20 = .ok (.goto 4, 3) := by decide +kernel
theorem dX12_status_23 : decode cX12_status 23 = .ok (.iconst (-1), 1) := by decide +kernel
theorem dX12_status_24 : decode cX12_status 24 = .ok (.ireturn, 1) := by decide +kernel
theorem dX12_stays_0 : decode cX12_stays 0 = .ok (.aload_n 0, 1) := by decide +kernel
theorem dX12_stays_1 : decode cX12_stays 1 = .ok (.iconst 0, 1) := by decide +kernel
theorem dX12_stays_2 : decode cX12_stays 2 = .ok (.putfield 109, 3) := by decide +kernel
theorem dX12_stays_5 : decode cX12_stays 5 = .ok (.ldc2_w 363, 3) := by decide +kernel
theorem dX12_stays_8 : decode cX12_stays 8 = .ok (.lstore_n 1, 1) := by decide +kernel
theorem dX12_stays_9 : decode cX12_stays 9 = .ok (.iconst 0, 1) := by decide +kernel
theorem dX12_stays_10 : decode cX12_stays 10 = .ok (.istore_n 3, 1) := by decide +kernel
theorem dX12_stays_11 : decode cX12_stays 11 = .ok (.aload_n 0, 1) := by decide +kernel
theorem dX12_stays_12 : decode cX12_stays 12 = .ok (.getfield 73, 3) := by decide +kernel
theorem dX12_stays_15 : decode cX12_stays 15 = .ok (.aload_n 0, 1) := by decide +kernel
theorem dX12_stays_16 : decode cX12_stays 16 = .ok (.getfield 76, 3) := by decide +kernel
theorem dX12_stays_19 : decode cX12_stays 19 = .ok (.invokestatic 342, 3) := by decide +kernel
theorem dX12_stays_22 : decode cX12_stays 22 = .ok (.iconst 0, 1) := by decide +kernel
theorem dX12_stays_23 : decode cX12_stays 23 = .ok (.istore 4, 2) := by decide +kernel
theorem dX12_stays_25 : decode cX12_stays 25 = .ok (.iload 4, 2) := by decide +kernel
theorem dX12_stays_27 : decode cX12_stays 27 = .ok (.bipush 80, 2) := by decide +kernel
theorem dX12_stays_29 : decode cX12_stays 29 = .ok (.if_icmp .gt 55, 3) := by decide +kernel
theorem dX12_stays_32 : decode cX12_stays 32 = .ok (.aload_n 0, 1) := by decide +kernel
theorem dX12_stays_33 : decode cX12_stays 33 = .ok (.aload_n 0, 1) := by decide +kernel
theorem dX12_stays_34 : decode cX12_stays 34 = .ok (.getfield 76, 3) := by decide +kernel
theorem dX12_stays_37 : decode cX12_stays 37 = .ok (.invokevirtual 365, 3) := by decide +kernel
theorem dX12_stays_40 : decode cX12_stays 40 = .ok (.lstore 5, 2) := by decide +kernel
theorem dX12_stays_42 : decode cX12_stays 42 = .ok (.lload 5, 2) := by decide +kernel
theorem dX12_stays_44 : decode cX12_stays 44 = .ok (.lload_n 1, 1) := by decide +kernel
theorem dX12_stays_45 : decode cX12_stays 45 = .ok (.lcmp, 1) := by decide +kernel
theorem dX12_stays_46 : decode cX12_stays 46 = .ok (.ifCond .ne 7, 3) := by decide +kernel
theorem dX12_stays_49 : decode cX12_stays 49 = .ok (.iload_n 3, 1) := by decide +kernel
theorem dX12_stays_50 : decode cX12_stays 50 = .ok (.goto 5, 3) := by decide +kernel
theorem dX12_stays_53 : decode cX12_stays 53 = .ok (.iload 4, 2) := by decide +kernel
theorem dX12_stays_55 : decode cX12_stays 55 = .ok (.istore_n 3, 1) := by decide +kernel
theorem dX12_stays_56 : decode cX12_stays 56 = .ok (.lload 5, 2) := by decide +kernel
theorem dX12_stays_58 : decode cX12_stays 58 = .ok (.lstore_n 1, 1) := by decide +kernel
theorem dX12_stays_59 : decode cX12_stays 59 = .ok (.iload 4, 2) := by decide +kernel
theorem dX12_stays_61 : decode cX12_stays 61 = .ok (.iload_n 3, 1) := by decide +kernel
theorem dX12_stays_62 : decode cX12_stays 62 = .ok (.isub, 1) := by decide +kernel
theorem dX12_stays_63 : decode cX12_stays 63 = .ok (.bipush 20, 2) := by decide +kernel
theorem dX12_stays_65 : decode cX12_stays 65 = .ok (.if_icmp .ne 5, 3) := by decide +kernel
theorem dX12_stays_68 : decode cX12_stays 68 = .ok (.iload_n 3, 1) := by decide +kernel
theorem dX12_stays_69 : decode cX12_stays 69 = .ok (.ireturn, 1) := by decide +kernel
theorem dX12_stays_70 : decode cX12_stays 70 = .ok (.aload_n 0, 1) := by decide +kernel
theorem dX12_stays_71 : decode cX12_stays 71 = .ok (.aload_n 0, 1) := by decide +kernel
theorem dX12_stays_72 : decode cX12_stays 72 = .ok (.getfield 76, 3) := by decide +kernel
theorem dX12_stays_75 : decode cX12_stays 75 = .ok (.invokevirtual 326, 3) := by decide +kernel
theorem dX12_stays_78 : decode cX12_stays 78 = .ok (.iinc 4 1, 3) := by decide +kernel
theorem dX12_stays_81 : decode cX12_stays 81 = .ok (.goto (-56), 3) := by decide +kernel
theorem dX12_stays_84 : decode cX12_stays 84 = .ok (.iconst (-1), 1) := by decide +kernel
theorem dX12_stays_85 : decode cX12_stays 85 = .ok (.ireturn, 1) := by decide +kernel
theorem dX12_tellings_0 : decode cX12_tellings 0 = .ok (.aload_n 0, 1) := by decide +kernel
theorem dX12_tellings_1 : decode cX12_tellings 1 = .ok (.iconst 0, 1) := by decide +kernel
theorem dX12_tellings_2 : decode cX12_tellings 2 = .ok (.putfield 109, 3) := by decide +kernel
theorem dX12_tellings_5 : decode cX12_tellings 5 = .ok (.aload_n 0, 1) := by decide +kernel
theorem dX12_tellings_6 : decode cX12_tellings 6 = .ok (.aload_n 0, 1) := by decide +kernel
theorem dX12_tellings_7 : decode cX12_tellings 7 = .ok (.iload_n 1, 1) := by decide +kernel
theorem dX12_tellings_8 : decode cX12_tellings 8 = .ok (.invokevirtual 358, 3) := by decide +kernel
theorem dX12_tellings_11 : decode cX12_tellings 11 = .ok (.ifCond .eq 11, 3) := by decide +kernel
theorem dX12_tellings_14 : decode cX12_tellings 14 = .ok (.aload_n 0, 1) := by decide +kernel
theorem dX12_tellings_15 : decode cX12_tellings 15 = .ok (.iload_n 2, 1) := by decide +kernel
theorem dX12_tellings_16 : decode cX12_tellings 16 = .ok (.invokevirtual 352, 3) := by decide +kernel
theorem dX12_tellings_19 : decode cX12_tellings 19 = .ok (.ifCond .ne 7, 3) := by decide +kernel
theorem dX12_tellings_22 : decode cX12_tellings 22 = .ok (.iconst 1, 1) := by decide +kernel
theorem dX12_tellings_23 : decode cX12_tellings 23 = .ok (.goto 4, 3) := by decide +kernel
theorem dX12_tellings_26 : decode cX12_tellings 26 = .ok (.iconst 0, 1) := by decide +kernel
theorem dX12_tellings_27 : decode cX12_tellings 27 = .ok (.iconst 1, 1) := by decide +kernel
theorem dX12_tellings_28 : decode cX12_tellings 28 = .ok (.iconst 0, 1) := by decide +kernel
theorem dX12_tellings_29 : decode cX12_tellings 29 = .ok (.invokevirtual 191, 3) := by decide +kernel
theorem dX12_tellings_32 : decode cX12_tellings 32 = .ok (.ifCond .ne 26, 3) := by decide +kernel
theorem dX12_tellings_35 : decode cX12_tellings 35 = .ok (.aload_n 0, 1) := by decide +kernel
theorem dX12_tellings_36 : decode cX12_tellings 36 = .ok (.iload_n 3, 1) := by decide +kernel
theorem dX12_tellings_37 : decode cX12_tellings 37 = .ok (.iconst 0, 1) := by decide +kernel
theorem dX12_tellings_38 : decode cX12_tellings 38 = .ok (.iconst 1, 1) := by decide +kernel
theorem dX12_tellings_39 : decode cX12_tellings 39 = .ok (.invokestatic 143, 3) := by decide +kernel
theorem dX12_tellings_42 : decode cX12_tellings 42 = .ok (.ifCond .ne 7, 3) := by decide +kernel
theorem dX12_tellings_45 : decode cX12_tellings 45 = .ok (.iconst 1, 1) := by decide +kernel
theorem dX12_tellings_46 : decode cX12_tellings 46 = .ok (.goto 4, 3) := by decide +kernel
theorem dX12_tellings_49 : decode cX12_tellings 49 = .ok (.iconst 0, 1) := by decide +kernel
theorem dX12_tellings_50 : decode cX12_tellings 50 = .ok (.iconst 2, 1) := by decide +kernel
theorem dX12_tellings_51 : decode cX12_tellings 51 = .ok (.iconst 1, 1) := by decide +kernel
theorem dX12_tellings_52 : decode cX12_tellings 52 = .ok (.invokevirtual 191, 3) := by decide +kernel
theorem dX12_tellings_55 : decode cX12_tellings 55 = .ok (.ifCond .eq 5, 3) := by decide +kernel
theorem dX12_tellings_58 : decode cX12_tellings 58 = .ok (.iconst 0, 1) := by decide +kernel
theorem dX12_tellings_59 : decode cX12_tellings 59 = .ok (.ireturn, 1) := by decide +kernel
theorem dX12_tellings_60 : decode cX12_tellings 60 = .ok (.aload_n 0, 1) := by decide +kernel
theorem dX12_tellings_61 : decode cX12_tellings 61 = .ok (.aload_n 0, 1) := by decide +kernel
theorem dX12_tellings_62 : decode cX12_tellings 62 = .ok (.getfield 73, 3) := by decide +kernel
theorem dX12_tellings_65 : decode cX12_tellings 65 = .ok (.invokevirtual 315, 3) := by decide +kernel
theorem dX12_tellings_68 : decode cX12_tellings 68 = .ok (.iload_n 2, 1) := by decide +kernel
theorem dX12_tellings_69 : decode cX12_tellings 69 = .ok (.invokestatic 282, 3) := by decide +kernel
theorem dX12_tellings_72 : decode cX12_tellings 72 = .ok (.ifCond .eq 13, 3) := by decide +kernel
theorem dX12_tellings_75 : decode cX12_tellings 75 = .ok (.iload_n 3, 1) := by decide +kernel
theorem dX12_tellings_76 : decode cX12_tellings 76 = .ok (.ifCond .ne 7, 3) := by decide +kernel
theorem dX12_tellings_79 : decode cX12_tellings 79 = .ok (.iconst 0, 1) := by decide +kernel
theorem dX12_tellings_80 : decode cX12_tellings 80 = .ok (.goto 4, 3) := by decide +kernel
theorem dX12_tellings_83 : decode cX12_tellings 83 = .ok (.iconst (-1), 1) := by decide +kernel
theorem dX12_tellings_84 : decode cX12_tellings 84 = .ok (.ireturn, 1) := by decide +kernel
theorem dX12_tellings_85 : decode cX12_tellings 85 = .ok (.aload_n 0, 1) := by decide +kernel
theorem dX12_tellings_86 : decode cX12_tellings 86 = .ok (.iload_n 1, 1) := by decide +kernel
theorem dX12_tellings_87 : decode cX12_tellings 87 = .ok (.invokevirtual 372, 3) := by decide +kernel
theorem dX12_tellings_90 : decode cX12_tellings 90 = .ok (.iconst 1, 1) := by decide +kernel
theorem dX12_tellings_91 : decode cX12_tellings 91 = .ok (.istore 4, 2) := by decide +kernel
theorem dX12_tellings_93 : decode cX12_tellings 93 = .ok (.iload 4, 2) := by decide +kernel
theorem dX12_tellings_95 : decode cX12_tellings 95 = .ok (.iconst 3, 1) := by decide +kernel
theorem dX12_tellings_96 : decode cX12_tellings 96 = .ok (.if_icmp .ge 113, 3) := by decide +kernel
theorem dX12_tellings_99 : decode cX12_tellings 99 = .ok (.iconst 0, 1) := by decide +kernel
theorem dX12_tellings_100 : decode cX12_tellings 100 = .ok (.istore 5, 2) := by decide +kernel
theorem dX12_tellings_102 : decode cX12_tellings 102 = .ok (.iload 5, 2) := by decide +kernel
theorem dX12_tellings_104 : decode cX12_tellings 104 = .ok (.aload_n 0, 1) := by decide +kernel
theorem dX12_tellings_105 : decode cX12_tellings 105 = .ok (.getfield 369, 3) := by decide +kernel
theorem dX12_tellings_108 : decode cX12_tellings 108 = .ok (.if_icmp .ge 95, 3) := by decide +kernel
theorem dX12_tellings_111 : decode cX12_tellings 111 = .ok (.iload 4, 2) := by decide +kernel
theorem dX12_tellings_113 : decode cX12_tellings 113 = .ok (.iconst 1, 1) := by decide +kernel
theorem dX12_tellings_114 : decode cX12_tellings 114 = .ok (.if_icmp .ne 8, 3) := by decide +kernel
theorem dX12_tellings_117 : decode cX12_tellings 117 = .ok (.iload 5, 2) := by decide +kernel
theorem dX12_tellings_119 : decode cX12_tellings 119 = .ok (.goto 4, 3) := by decide +kernel
theorem dX12_tellings_122 : decode cX12_tellings 122 = .ok (.iconst 0, 1) := by decide +kernel
theorem dX12_tellings_123 : decode cX12_tellings 123 = .ok (.istore 6, 2) := by decide +kernel
theorem dX12_tellings_125 : decode cX12_tellings 125 = .ok (.iload 6, 2) := by decide +kernel
theorem dX12_tellings_127 : decode cX12_tellings 127 = .ok (.iload 4, 2) := by decide +kernel
theorem dX12_tellings_129 : decode cX12_tellings 129 = .ok (.iconst 1, 1) := by decide +kernel
theorem dX12_tellings_130 : decode cX12_tellings 130 = .ok (.if_icmp .ne 10, 3) := by decide +kernel
theorem dX12_tellings_133 : decode cX12_tellings 133 = .ok (.iload 5, 2) := by decide +kernel
theorem dX12_tellings_135 : decode cX12_tellings 135 = .ok (.iconst 1, 1) := by decide +kernel
theorem dX12_tellings_136 : decode cX12_tellings 136 = .ok (.iadd, 1) := by decide +kernel
theorem dX12_tellings_137 : decode cX12_tellings 137 = .ok (.goto 7, 3) := by decide +kernel
theorem dX12_tellings_140 : decode cX12_tellings 140 = .ok (.aload_n 0, 1) := by decide +kernel
theorem dX12_tellings_141 : decode cX12_tellings 141 = .ok (.getfield 369, 3) := by decide +kernel
theorem dX12_tellings_144 : decode cX12_tellings 144 = .ok (.if_icmp .ge 53, 3) := by decide +kernel
theorem dX12_tellings_147 : decode cX12_tellings 147 = .ok (.aload_n 0, 1) := by decide +kernel
theorem dX12_tellings_148 : decode cX12_tellings 148 = .ok (.iload 5, 2) := by decide +kernel
theorem dX12_tellings_150 : decode cX12_tellings 150 = .ok (.iload 6, 2) := by decide +kernel
theorem dX12_tellings_152 : decode cX12_tellings 152 = .ok (.iload_n 2, 1) := by decide +kernel
theorem dX12_tellings_153 : decode cX12_tellings 153 = .ok (.invokevirtual 375, 3) := by decide +kernel
theorem dX12_tellings_156 : decode cX12_tellings 156 = .ok (.ifCond .eq 35, 3) := by decide +kernel
theorem dX12_tellings_159 : decode cX12_tellings 159 = .ok (.iload_n 3, 1) := by decide +kernel
theorem dX12_tellings_160 : decode cX12_tellings 160 = .ok (.ifCond .ne 8, 3) := by decide +kernel
theorem dX12_tellings_163 : decode cX12_tellings 163 = .ok (.iload 4, 2) := by decide +kernel
theorem dX12_tellings_165 : decode cX12_tellings 165 = .ok (.goto 25, 3) := by decide +kernel
theorem dX12_tellings_168 : decode cX12_tellings 168 = .ok (.bipush 100, 2) := by decide +kernel
theorem dX12_tellings_170 : decode cX12_tellings 170 = .ok (.aload_n 0, 1) := by decide +kernel
theorem dX12_tellings_171 : decode cX12_tellings 171 = .ok (.getfield 91, 3) := by decide +kernel
theorem dX12_tellings_174 : decode cX12_tellings 174 = .ok (.iload 5, 2) := by decide +kernel
theorem dX12_tellings_176 : decode cX12_tellings 176 = .ok (.aaload, 1) := by decide +kernel
theorem dX12_tellings_177 : decode cX12_tellings 177 = .ok (.iconst 0, 1) := by decide +kernel
theorem dX12_tellings_178 : decode cX12_tellings 178 = .ok (.iaload, 1) := by decide +kernel
theorem dX12_tellings_179 : decode cX12_tellings 179 = .ok (.imul, 1) := by decide +kernel
theorem dX12_tellings_180 : decode cX12_tellings 180 = .ok (.aload_n 0, 1) := by decide +kernel
theorem dX12_tellings_181 : decode cX12_tellings 181 = .ok (.getfield 91, 3) := by decide +kernel
theorem dX12_tellings_184 : decode cX12_tellings 184 = .ok (.iload 5, 2) := by decide +kernel
theorem dX12_tellings_186 : decode cX12_tellings 186 = .ok (.aaload, 1) := by decide +kernel
theorem dX12_tellings_187 : decode cX12_tellings 187 = .ok (.iconst 1, 1) := by decide +kernel
theorem dX12_tellings_188 : decode cX12_tellings 188 = .ok (.iaload, 1) := by decide +kernel
theorem dX12_tellings_189 : decode cX12_tellings 189 = .ok (.iadd, 1) := by decide +kernel
theorem dX12_tellings_190 : decode cX12_tellings 190 = .ok (.ireturn, 1) := by decide +kernel
theorem dX12_tellings_191 : decode cX12_tellings 191 = .ok (.iinc 6 1, 3) := by decide +kernel
theorem dX12_tellings_194 : decode cX12_tellings 194 = .ok (.goto (-69), 3) := by decide +kernel
theorem dX12_tellings_197 : decode cX12_tellings 197 = .ok (.iinc 5 1, 3) := by decide +kernel
theorem dX12_tellings_200 : decode cX12_tellings 200 = .ok (.goto (-98), 3) := by decide +kernel
theorem dX12_tellings_203 : decode cX12_tellings 203 = .ok (.iinc 4 1, 3) := by decide +kernel
theorem dX12_tellings_206 : decode cX12_tellings 206 = .ok (.goto (-113), 3) := by decide +kernel
theorem dX12_tellings_209 : decode cX12_tellings 209 = .ok (.iconst (-1), 1) := by decide +kernel
theorem dX12_tellings_210 : decode cX12_tellings 210 = .ok (.ireturn, 1) := by decide +kernel
noncomputable def r_X12_ones_b4 (x0 : Int32) (x1 : Int32) (x2 : Int32) : Option ((Int32 × Int32) ⊕ (Int32)) :=
  if 12 ≤ x2 then (some (Sum.inr x1)) else (some (Sum.inl ((x1 + ((x0 >>> (x2 &&& 31)) &&& 1)), x2 + 1)))
set_option maxHeartbeats 4000000 in
set_option maxRecDepth 20000 in
theorem ok_X12_ones_b4 (x0 : Int32) (x1 : Int32) (x2 : Int32) (m : Mem) {r : (Int32 × Int32) ⊕ (Int32)} (h : r_X12_ones_b4 x0 x1 x2 = some r) {o : Ou} {M' : Mem} (kb : ∀ (x1' : Int32) (x2' : Int32), r = Sum.inl (x1', x2') → Xj RX12 cX12_ones 3 (some .int) 1 0 0 0 0 0 4 [(0, vI x0), (1, vI x1'), (2, vI x2')] [] m o M') (ke : ∀ (x1' : Int32), r = Sum.inr x1' → Xj RX12 cX12_ones 3 (some .int) 1 0 0 0 0 0 24 [(1, vI x1')] [] m o M') : Xj RX12 cX12_ones 3 (some .int) 1 0 0 0 0 0 4 [(0, vI x0), (1, vI x1), (2, vI x2)] [] m o M' := by
  unfold r_X12_ones_b4 at h
  refine xj_iload_n 2 dX12_ones_4 rfl ?_
  refine xj_bipush (z := 12) dX12_ones_5 (by decide) ?_
  refine xj_icmp_ge (tgt := 24) dX12_ones_7 (by decide) (fun c1 => ?_) (fun c1 => ?_)
  · rw [if_pos c1] at h
    cases h
    refine xj_pick (ls' := [(1, vI x1)]) [1] rfl ?_
    exact ke x1 rfl
  · rw [if_neg c1] at h
    refine xj_iload_n 1 dX12_ones_10 rfl ?_
    refine xj_iload_n 0 dX12_ones_11 rfl ?_
    refine xj_iload_n 2 dX12_ones_12 rfl ?_
    refine xj_ishr dX12_ones_13 ?_
    refine xj_iconst (z := 1) dX12_ones_14 (by decide) ?_
    refine xj_iand dX12_ones_15 ?_
    refine xj_iadd dX12_ones_16 ?_
    refine xj_istore_n (ls' := [(1, vI (x1 + ((x0 >>> (x2 &&& 31)) &&& 1))), (0, vI x0), (2, vI x2)]) dX12_ones_17 rfl (by decide) rfl ?_
    refine xj_iinc (z := x2 + 1) (ls' := [(2, vI (x2 + 1)), (1, vI (x1 + ((x0 >>> (x2 &&& 31)) &&& 1))), (0, vI x0)]) 2 dX12_ones_18 rfl rfl (by decide) rfl ?_
    refine xj_goto (tgt := 4) dX12_ones_21 (by decide) ?_
    cases h
    refine xj_pick (ls' := [(0, vI x0), (1, vI (x1 + ((x0 >>> (x2 &&& 31)) &&& 1))), (2, vI (x2 + 1))]) [2, 1, 0] rfl ?_
    exact kb (x1 + ((x0 >>> (x2 &&& 31)) &&& 1)) (x2 + 1) rfl
noncomputable def r_X12_ones_e24_h4 (x1 : Int32) : Option Int32 :=
  some x1
set_option maxHeartbeats 4000000 in
set_option maxRecDepth 20000 in
theorem ok_X12_ones_e24_h4 (x1 : Int32) (m : Mem) {z : Int32} (h : r_X12_ones_e24_h4 x1 = some z) : Xj RX12 cX12_ones 3 (some .int) 1 0 0 0 0 0 24 [(1, vI x1)] [] m (oI z) m := by
  unfold r_X12_ones_e24_h4 at h
  refine xj_iload_n 0 dX12_ones_24 rfl ?_
  cases h
  exact xj_ireturn dX12_ones_25 rfl (by decide) (by decide)
noncomputable def r_X12_ones_l4 (x0 : Int32) (x1 : Int32) (x2 : Int32) : Option Int32 :=
  bd1 (loopO (fun s => r_X12_ones_b4 x0 s.1 s.2) (x1, x2)) (fun e => r_X12_ones_e24_h4 e)
set_option maxHeartbeats 4000000 in
set_option maxRecDepth 20000 in
theorem ok_X12_ones_l4 (x0 : Int32) (x1 : Int32) (x2 : Int32) (m : Mem) {z : Int32} (h : r_X12_ones_l4 x0 x1 x2 = some z) : Xj RX12 cX12_ones 3 (some .int) 1 0 0 0 0 0 4 [(0, vI x0), (1, vI x1), (2, vI x2)] [] m (oI z) m := by
  unfold r_X12_ones_l4 at h
  obtain ⟨e, e1, h⟩ := bd1_some h
  refine loopO_ok (P := fun s : (Int32 × Int32) => Xj RX12 cX12_ones 3 (some .int) 1 0 0 0 0 0 4 [(0, vI x0), (1, vI s.1), (2, vI s.2)] [] m (oI z) m) (Q := fun e : (Int32) => Xj RX12 cX12_ones 3 (some .int) 1 0 0 0 0 0 24 [(1, vI e)] [] m (oI z) m) ?_ _ _ e1 ?_
  · intro s r9 h9 hi hx
    exact ok_X12_ones_b4 x0 s.1 s.2 m h9 (by rintro _ _ rfl; exact hi _ rfl) (by rintro _ rfl; exact hx _ rfl)
  · exact ok_X12_ones_e24_h4 e m h 
noncomputable def r_X12_ones (x0 : Int32) : Option Int32 :=
  r_X12_ones_l4 x0 0 0
set_option maxHeartbeats 4000000 in
set_option maxRecDepth 20000 in
theorem ok_X12_ones (x0 : Int32) (m : Mem) {z : Int32} (h : r_X12_ones x0 = some z) : Mt yX12_ones cX12_ones 3 (some .int) 1 0 0 0 [vI x0] m (oI z) m := by
  refine Mt.of (by decide) (Nat.le_of_ble_eq_true rfl) (by decide +kernel) (hhF_ne (by decide)) ?_
  show Xj RX12 cX12_ones 3 (some .int) 1 0 0 0 0 0 0 [(0, vI x0)] [] m (oI z) m
  unfold r_X12_ones at h
  refine xj_iconst (z := 0) dX12_ones_0 (by decide) ?_
  refine xj_istore_n (ls' := [(1, vI 0), (0, vI x0)]) dX12_ones_1 rfl (by decide) rfl ?_
  refine xj_iconst (z := 0) dX12_ones_2 (by decide) ?_
  refine xj_istore_n (ls' := [(2, vI 0), (1, vI 0), (0, vI x0)]) dX12_ones_3 rfl (by decide) rfl ?_
  refine xj_pick (ls' := [(0, vI x0), (1, vI 0), (2, vI 0)]) [2, 1, 0] rfl ?_
  exact ok_X12_ones_l4 x0 0 0 m h 
noncomputable def r_X12_person_j129_c60 (x1 : Int32) (x2 : Int32) (x3 : Int32) (x5 : Int32) (s0 : Int32) (s1 : Int32) (m : Mem) : Option ((Int32 × Int32 × Int32 × Mem) ⊕ (Int32 × Int32 × Mem)) :=
  some (Sum.inl (x3, (s1 + s0), x5 + 1, m))
set_option maxHeartbeats 4000000 in
set_option maxRecDepth 20000 in
theorem ok_X12_person_j129_c60 (x1 : Int32) (x2 : Int32) (x3 : Int32) (x5 : Int32) (s0 : Int32) (s1 : Int32) (m : Mem) {r : (Int32 × Int32 × Int32 × Mem) ⊕ (Int32 × Int32 × Mem)} (h : r_X12_person_j129_c60 x1 x2 x3 x5 s0 s1 m = some r) {o : Ou} {M' : Mem} (kb : ∀ (x3' : Int32) (x4' : Int32) (x5' : Int32) (m'' : Mem), r = Sum.inl (x3', x4', x5', m'') → Xj RX12 cX12_person 7 (some .int) 8 177 0 0 0 0 60 [(0, vR 12 0), (1, vI x1), (2, vI x2), (3, vI x3'), (4, vI x4'), (5, vI x5')] [] m'' o M') (ke : ∀ (x3' : Int32) (x4' : Int32) (m'' : Mem), r = Sum.inr (x3', x4', m'') → Xj RX12 cX12_person 7 (some .int) 8 177 0 0 0 0 138 [(0, vR 12 0), (1, vI x1), (2, vI x2), (3, vI x3'), (4, vI x4')] [] m'' o M') : Xj RX12 cX12_person 7 (some .int) 8 177 0 0 0 0 129 [(0, vR 12 0), (1, vI x1), (2, vI x2), (3, vI x3), (5, vI x5)] [vI s0, vI s1] m o M' := by
  unfold r_X12_person_j129_c60 at h
  refine xj_iadd dX12_person_129 ?_
  refine xj_istore (ls' := [(4, vI (s1 + s0)), (0, vR 12 0), (1, vI x1), (2, vI x2), (3, vI x3), (5, vI x5)]) dX12_person_130 (by decide) rfl ?_
  refine xj_iinc (z := x5 + 1) (ls' := [(5, vI (x5 + 1)), (4, vI (s1 + s0)), (0, vR 12 0), (1, vI x1), (2, vI x2), (3, vI x3)]) 5 dX12_person_132 rfl rfl (by decide) rfl ?_
  refine xj_goto (tgt := 60) dX12_person_135 (by decide) ?_
  cases h
  refine xj_pick (ls' := [(0, vR 12 0), (1, vI x1), (2, vI x2), (3, vI x3), (4, vI (s1 + s0)), (5, vI (x5 + 1))]) [2, 3, 4, 5, 1, 0] rfl ?_
  exact kb x3 (s1 + s0) (x5 + 1) m rfl
noncomputable def r_X12_person_j128_c60 (x1 : Int32) (x2 : Int32) (x3 : Int32) (x5 : Int32) (s0 : Int32) (m : Mem) : Option ((Int32 × Int32 × Int32 × Mem) ⊕ (Int32 × Int32 × Mem)) :=
  r_X12_person_j129_c60 x1 x2 x3 x5 0 s0 m
set_option maxHeartbeats 4000000 in
set_option maxRecDepth 20000 in
theorem ok_X12_person_j128_c60 (x1 : Int32) (x2 : Int32) (x3 : Int32) (x5 : Int32) (s0 : Int32) (m : Mem) {r : (Int32 × Int32 × Int32 × Mem) ⊕ (Int32 × Int32 × Mem)} (h : r_X12_person_j128_c60 x1 x2 x3 x5 s0 m = some r) {o : Ou} {M' : Mem} (kb : ∀ (x3' : Int32) (x4' : Int32) (x5' : Int32) (m'' : Mem), r = Sum.inl (x3', x4', x5', m'') → Xj RX12 cX12_person 7 (some .int) 8 177 0 0 0 0 60 [(0, vR 12 0), (1, vI x1), (2, vI x2), (3, vI x3'), (4, vI x4'), (5, vI x5')] [] m'' o M') (ke : ∀ (x3' : Int32) (x4' : Int32) (m'' : Mem), r = Sum.inr (x3', x4', m'') → Xj RX12 cX12_person 7 (some .int) 8 177 0 0 0 0 138 [(0, vR 12 0), (1, vI x1), (2, vI x2), (3, vI x3'), (4, vI x4')] [] m'' o M') : Xj RX12 cX12_person 7 (some .int) 8 177 0 0 0 0 128 [(0, vR 12 0), (1, vI x1), (2, vI x2), (3, vI x3), (5, vI x5)] [vI s0] m o M' := by
  unfold r_X12_person_j128_c60 at h
  refine xj_iconst (z := 0) dX12_person_128 (by decide) ?_
  exact ok_X12_person_j129_c60 x1 x2 x3 x5 0 s0 m h kb ke
noncomputable def r_X12_person_j99_c60 (x1 : Int32) (x2 : Int32) (x4 : Int32) (x5 : Int32) (x6 : Int32) (s0 : Int32) (s1 : Int32) (m : Mem) : Option ((Int32 × Int32 × Int32 × Mem) ⊕ (Int32 × Int32 × Mem)) :=
  if x6 = (-1) then (r_X12_person_j128_c60 x1 x2 (s1 + s0) x5 x4 m) else (bd2 (r_X12_nextOf 0 x5 m) fun z19 m18 => (if x6 = z19 then (r_X12_person_j129_c60 x1 x2 (s1 + s0) x5 1 x4 m18) else (r_X12_person_j128_c60 x1 x2 (s1 + s0) x5 x4 m18)))
set_option maxHeartbeats 4000000 in
set_option maxRecDepth 20000 in
theorem ok_X12_person_j99_c60 (x1 : Int32) (x2 : Int32) (x4 : Int32) (x5 : Int32) (x6 : Int32) (s0 : Int32) (s1 : Int32) (m : Mem) {r : (Int32 × Int32 × Int32 × Mem) ⊕ (Int32 × Int32 × Mem)} (h : r_X12_person_j99_c60 x1 x2 x4 x5 x6 s0 s1 m = some r) {o : Ou} {M' : Mem} (kb : ∀ (x3' : Int32) (x4' : Int32) (x5' : Int32) (m'' : Mem), r = Sum.inl (x3', x4', x5', m'') → Xj RX12 cX12_person 7 (some .int) 8 177 0 0 0 0 60 [(0, vR 12 0), (1, vI x1), (2, vI x2), (3, vI x3'), (4, vI x4'), (5, vI x5')] [] m'' o M') (ke : ∀ (x3' : Int32) (x4' : Int32) (m'' : Mem), r = Sum.inr (x3', x4', m'') → Xj RX12 cX12_person 7 (some .int) 8 177 0 0 0 0 138 [(0, vR 12 0), (1, vI x1), (2, vI x2), (3, vI x3'), (4, vI x4')] [] m'' o M') : Xj RX12 cX12_person 7 (some .int) 8 177 0 0 0 0 99 [(0, vR 12 0), (1, vI x1), (2, vI x2), (4, vI x4), (5, vI x5), (6, vI x6)] [vI s0, vI s1] m o M' := by
  unfold r_X12_person_j99_c60 at h
  refine xj_iadd dX12_person_99 ?_
  refine xj_istore_n (ls' := [(3, vI (s1 + s0)), (0, vR 12 0), (1, vI x1), (2, vI x2), (4, vI x4), (5, vI x5), (6, vI x6)]) dX12_person_100 rfl (by decide) rfl ?_
  refine xj_iload 4 dX12_person_101 rfl ?_
  refine xj_iload 6 dX12_person_103 rfl ?_
  refine xj_iconst (z := (-1)) dX12_person_105 (by decide) ?_
  refine xj_icmp_eq (tgt := 128) dX12_person_106 (by decide) (fun c16 => ?_) (fun c16 => ?_)
  · rw [if_pos c16] at h
    refine xj_pick (ls' := [(0, vR 12 0), (1, vI x1), (2, vI x2), (3, vI (s1 + s0)), (5, vI x5)]) [1, 2, 3, 0, 5] rfl ?_
    exact ok_X12_person_j128_c60 x1 x2 (s1 + s0) x5 x4 m h kb ke
  · rw [if_neg c16] at h
    refine xj_iload 6 dX12_person_109 rfl ?_
    refine xj_aload_n 1 dX12_person_111 rfl ?_
    refine xj_aload_n 1 dX12_person_112 rfl ?_
    refine xg_getR (k' := 60) (i' := 0) dX12_person_113 fl_X12_73 rfl ?_
    refine xj_iload 5 dX12_person_116 rfl ?_
    obtain ⟨z19, m18, e17, h⟩ := bd2_some h
    refine xc_Vi0 (st := [vI x6, vI x4]) (ok_X12_nextOf 0 x5 m e17) dX12_person_118 cv_X12_301 rfl rfl (Nat.le_of_ble_eq_true rfl) (by decide) (by decide) (by decide) (by decide) ?_
    refine xj_icmp_ne (tgt := 128) dX12_person_121 (by decide) (fun c20 => ?_) (fun c20 => ?_)
    · rw [if_neg c20] at h
      refine xj_pick (ls' := [(0, vR 12 0), (1, vI x1), (2, vI x2), (3, vI (s1 + s0)), (5, vI x5)]) [1, 2, 3, 0, 5] rfl ?_
      exact ok_X12_person_j128_c60 x1 x2 (s1 + s0) x5 x4 m18 h kb ke
    · rw [if_pos c20] at h
      refine xj_iconst (z := 1) dX12_person_124 (by decide) ?_
      refine xj_goto (tgt := 129) dX12_person_125 (by decide) ?_
      refine xj_pick (ls' := [(0, vR 12 0), (1, vI x1), (2, vI x2), (3, vI (s1 + s0)), (5, vI x5)]) [1, 2, 3, 0, 5] rfl ?_
      exact ok_X12_person_j129_c60 x1 x2 (s1 + s0) x5 1 x4 m18 h kb ke
noncomputable def r_X12_person_b60 (x1 : Int32) (x2 : Int32) (x3 : Int32) (x4 : Int32) (x5 : Int32) (m : Mem) : Option ((Int32 × Int32 × Int32 × Mem) ⊕ (Int32 × Int32 × Mem)) :=
  if (m 52 0 0) ≤ x5 then (some (Sum.inr (x3, x4, m))) else (if inb ((0 + (12 * x1)) + x5) 111 = true then (if (m 60 0 (((0 + (12 * x1)) + x5).toNatClampNeg)) = (-1) then (r_X12_person_j99_c60 x1 x2 x4 x5 (m 60 0 (((0 + (12 * x1)) + x5).toNatClampNeg)) 0 x3 m) else (r_X12_person_j99_c60 x1 x2 x4 x5 (m 60 0 (((0 + (12 * x1)) + x5).toNatClampNeg)) 1 x3 m)) else none)
set_option maxHeartbeats 4000000 in
set_option maxRecDepth 20000 in
theorem ok_X12_person_b60 (x1 : Int32) (x2 : Int32) (x3 : Int32) (x4 : Int32) (x5 : Int32) (m : Mem) {r : (Int32 × Int32 × Int32 × Mem) ⊕ (Int32 × Int32 × Mem)} (h : r_X12_person_b60 x1 x2 x3 x4 x5 m = some r) {o : Ou} {M' : Mem} (kb : ∀ (x3' : Int32) (x4' : Int32) (x5' : Int32) (m'' : Mem), r = Sum.inl (x3', x4', x5', m'') → Xj RX12 cX12_person 7 (some .int) 8 177 0 0 0 0 60 [(0, vR 12 0), (1, vI x1), (2, vI x2), (3, vI x3'), (4, vI x4'), (5, vI x5')] [] m'' o M') (ke : ∀ (x3' : Int32) (x4' : Int32) (m'' : Mem), r = Sum.inr (x3', x4', m'') → Xj RX12 cX12_person 7 (some .int) 8 177 0 0 0 0 138 [(0, vR 12 0), (1, vI x1), (2, vI x2), (3, vI x3'), (4, vI x4')] [] m'' o M') : Xj RX12 cX12_person 7 (some .int) 8 177 0 0 0 0 60 [(0, vR 12 0), (1, vI x1), (2, vI x2), (3, vI x3), (4, vI x4), (5, vI x5)] [] m o M' := by
  unfold r_X12_person_b60 at h
  refine xj_iload 5 dX12_person_60 rfl ?_
  refine xj_aload_n 0 dX12_person_62 rfl ?_
  refine xg_getR (k' := 52) (i' := 0) dX12_person_63 fl_X12_23 rfl ?_
  refine xj_iconst (z := 0) dX12_person_66 (by decide) ?_
  refine xg_iald (z := (m 52 0 0)) (n := 0) dX12_person_67 rfl (by decide) (inb_in (by decide)) (by decide) rfl ?_
  refine xj_icmp_ge (tgt := 138) dX12_person_68 (by decide) (fun c13 => ?_) (fun c13 => ?_)
  · rw [if_pos c13] at h
    cases h
    refine xj_pick (ls' := [(0, vR 12 0), (1, vI x1), (2, vI x2), (3, vI x3), (4, vI x4)]) [0, 1, 2, 3, 4] rfl ?_
    exact ke x3 x4 m rfl
  · rw [if_neg c13] at h
    refine xj_aload_n 0 dX12_person_71 rfl ?_
    refine xg_getR (k' := 60) (i' := 0) dX12_person_72 fl_X12_73 rfl ?_
    refine xj_iconst (z := 0) dX12_person_75 (by decide) ?_
    refine xj_bipush (z := 12) dX12_person_76 (by decide) ?_
    refine xj_iload_n 1 dX12_person_78 rfl ?_
    refine xj_imul dX12_person_79 ?_
    refine xj_iadd dX12_person_80 ?_
    refine xj_iload 5 dX12_person_81 rfl ?_
    refine xj_iadd dX12_person_83 ?_
    by_cases c14 : inb ((0 + (12 * x1)) + x5) 111 = true
    case neg => rw [if_neg c14] at h; cases h
    rw [if_pos c14] at h
    refine xg_iald (z := (m 60 0 (((0 + (12 * x1)) + x5).toNatClampNeg))) (n := ((0 + (12 * x1)) + x5).toNatClampNeg) dX12_person_84 rfl (by decide) (inb_in c14) rfl rfl ?_
    refine xj_istore (ls' := [(6, vI (m 60 0 (((0 + (12 * x1)) + x5).toNatClampNeg))), (0, vR 12 0), (1, vI x1), (2, vI x2), (3, vI x3), (4, vI x4), (5, vI x5)]) dX12_person_85 (by decide) rfl ?_
    refine xj_iload_n 4 dX12_person_87 rfl ?_
    refine xj_iload 0 dX12_person_88 rfl ?_
    refine xj_iconst (z := (-1)) dX12_person_90 (by decide) ?_
    refine xj_icmp_ne (tgt := 98) dX12_person_91 (by decide) (fun c15 => ?_) (fun c15 => ?_)
    · rw [if_neg c15] at h
      refine xj_iconst (z := 1) dX12_person_98 (by decide) ?_
      refine xj_pick (ls' := [(0, vR 12 0), (1, vI x1), (2, vI x2), (4, vI x4), (5, vI x5), (6, vI (m 60 0 (((0 + (12 * x1)) + x5).toNatClampNeg)))]) [1, 2, 3, 5, 6, 0] rfl ?_
      exact ok_X12_person_j99_c60 x1 x2 x4 x5 (m 60 0 (((0 + (12 * x1)) + x5).toNatClampNeg)) 1 x3 m h kb ke
    · rw [if_pos c15] at h
      refine xj_iconst (z := 0) dX12_person_94 (by decide) ?_
      refine xj_goto (tgt := 99) dX12_person_95 (by decide) ?_
      refine xj_pick (ls' := [(0, vR 12 0), (1, vI x1), (2, vI x2), (4, vI x4), (5, vI x5), (6, vI (m 60 0 (((0 + (12 * x1)) + x5).toNatClampNeg)))]) [1, 2, 3, 5, 6, 0] rfl ?_
      exact ok_X12_person_j99_c60 x1 x2 x4 x5 (m 60 0 (((0 + (12 * x1)) + x5).toNatClampNeg)) 0 x3 m h kb ke
noncomputable def r_X12_person_e138_h60 (x1 : Int32) (x2 : Int32) (x3 : Int32) (x4 : Int32) (m : Mem) : Option (Int32 × Mem) :=
  if x2 = 0 then (if inb x1 6 = true then (some ((m 67 x1.toNatClampNeg 0), m)) else none) else (if x2 = 1 then (if inb (72 + x1) 111 = true then (some ((m 60 0 ((72 + x1).toNatClampNeg)), m)) else none) else (if x2 = 2 then (some (x3, m)) else (some (x4, m))))
set_option maxHeartbeats 4000000 in
set_option maxRecDepth 20000 in
theorem ok_X12_person_e138_h60 (x1 : Int32) (x2 : Int32) (x3 : Int32) (x4 : Int32) (m : Mem) {z : Int32} {m' : Mem} (h : r_X12_person_e138_h60 x1 x2 x3 x4 m = some (z, m')) : Xj RX12 cX12_person 7 (some .int) 8 177 0 0 0 0 138 [(0, vR 12 0), (1, vI x1), (2, vI x2), (3, vI x3), (4, vI x4)] [] m (oI z) m' := by
  unfold r_X12_person_e138_h60 at h
  refine xj_iload_n 2 dX12_person_138 rfl ?_
  refine xj_if_ne (tgt := 153) dX12_person_139 (by decide) (fun c21 => ?_) (fun c21 => ?_)
  · rw [if_neg c21] at h
    refine xj_iload_n 2 dX12_person_153 rfl ?_
    refine xj_iconst (z := 1) dX12_person_154 (by decide) ?_
    refine xj_icmp_ne (tgt := 170) dX12_person_155 (by decide) (fun c23 => ?_) (fun c23 => ?_)
    · rw [if_neg c23] at h
      refine xj_iload_n 2 dX12_person_170 rfl ?_
      refine xj_iconst (z := 2) dX12_person_171 (by decide) ?_
      refine xj_icmp_ne (tgt := 179) dX12_person_172 (by decide) (fun c25 => ?_) (fun c25 => ?_)
      · rw [if_neg c25] at h
        refine xj_iload 4 dX12_person_179 rfl ?_
        cases h
        exact xj_ireturn dX12_person_181 rfl (by decide) (by decide)
      · rw [if_pos c25] at h
        refine xj_iload_n 3 dX12_person_175 rfl ?_
        refine xj_goto (tgt := 181) dX12_person_176 (by decide) ?_
        cases h
        exact xj_ireturn dX12_person_181 rfl (by decide) (by decide)
    · rw [if_pos c23] at h
      refine xj_aload_n 0 dX12_person_158 rfl ?_
      refine xg_getR (k' := 60) (i' := 0) dX12_person_159 fl_X12_73 rfl ?_
      refine xj_bipush (z := 72) dX12_person_162 (by decide) ?_
      refine xj_iload_n 1 dX12_person_164 rfl ?_
      refine xj_iadd dX12_person_165 ?_
      by_cases c24 : inb (72 + x1) 111 = true
      case neg => rw [if_neg c24] at h; cases h
      rw [if_pos c24] at h
      refine xg_iald (z := (m 60 0 ((72 + x1).toNatClampNeg))) (n := (72 + x1).toNatClampNeg) dX12_person_166 rfl (by decide) (inb_in c24) rfl rfl ?_
      refine xj_goto (tgt := 181) dX12_person_167 (by decide) ?_
      cases h
      exact xj_ireturn dX12_person_181 rfl (by decide) (by decide)
  · rw [if_pos c21] at h
    refine xj_aload_n 0 dX12_person_142 rfl ?_
    refine xg_getR (k' := 68) (i' := 0) dX12_person_143 fl_X12_43 rfl ?_
    refine xj_iload_n 1 dX12_person_146 rfl ?_
    by_cases c22 : inb x1 6 = true
    case neg => rw [if_neg c22] at h; cases h
    rw [if_pos c22] at h
    refine xg_aald (k' := 67) (i' := x1.toNatClampNeg) (n := x1.toNatClampNeg) dX12_person_147 rfl (by decide) (inb_in c22) rfl rfl ?_
    refine xj_iconst (z := 0) dX12_person_148 (by decide) ?_
    refine xg_iald (z := (m 67 x1.toNatClampNeg 0)) (n := 0) dX12_person_149 rfl (by decide) (inb_in (by decide)) (by decide) rfl ?_
    refine xj_goto (tgt := 181) dX12_person_150 (by decide) ?_
    cases h
    exact xj_ireturn dX12_person_181 rfl (by decide) (by decide)
noncomputable def r_X12_person_l60 (x1 : Int32) (x2 : Int32) (x3 : Int32) (x4 : Int32) (x5 : Int32) (m : Mem) : Option (Int32 × Mem) :=
  bd1 (loopO (fun s => r_X12_person_b60 x1 x2 s.1 s.2.1 s.2.2.1 s.2.2.2) (x3, x4, x5, m)) (fun e => r_X12_person_e138_h60 x1 x2 e.1 e.2.1 e.2.2)
set_option maxHeartbeats 4000000 in
set_option maxRecDepth 20000 in
theorem ok_X12_person_l60 (x1 : Int32) (x2 : Int32) (x3 : Int32) (x4 : Int32) (x5 : Int32) (m : Mem) {z : Int32} {m' : Mem} (h : r_X12_person_l60 x1 x2 x3 x4 x5 m = some (z, m')) : Xj RX12 cX12_person 7 (some .int) 8 177 0 0 0 0 60 [(0, vR 12 0), (1, vI x1), (2, vI x2), (3, vI x3), (4, vI x4), (5, vI x5)] [] m (oI z) m' := by
  unfold r_X12_person_l60 at h
  obtain ⟨e, e1, h⟩ := bd1_some h
  refine loopO_ok (P := fun s : (Int32 × Int32 × Int32 × Mem) => Xj RX12 cX12_person 7 (some .int) 8 177 0 0 0 0 60 [(0, vR 12 0), (1, vI x1), (2, vI x2), (3, vI s.1), (4, vI s.2.1), (5, vI s.2.2.1)] [] s.2.2.2 (oI z) m') (Q := fun e : (Int32 × Int32 × Mem) => Xj RX12 cX12_person 7 (some .int) 8 177 0 0 0 0 138 [(0, vR 12 0), (1, vI x1), (2, vI x2), (3, vI e.1), (4, vI e.2.1)] [] e.2.2 (oI z) m') ?_ _ _ e1 ?_
  · intro s r9 h9 hi hx
    exact ok_X12_person_b60 x1 x2 s.1 s.2.1 s.2.2.1 s.2.2.2 h9 (by rintro _ _ _ _ rfl; exact hi _ rfl) (by rintro _ _ _ rfl; exact hx _ rfl)
  · exact ok_X12_person_e138_h60 x1 x2 e.1 e.2.1 e.2.2 h 
noncomputable def r_X12_person_j42 (x1 : Int32) (x2 : Int32) (s0 : Int32) (m : Mem) : Option (Int32 × Mem) :=
  bd2 (r_X12_bad s0 2 1 m) fun z11 m10 => (if z11 = true then (some (0, m10)) else (r_X12_person_l60 x1 x2 0 0 0 m10))
set_option maxHeartbeats 4000000 in
set_option maxRecDepth 20000 in
theorem ok_X12_person_j42 (x1 : Int32) (x2 : Int32) (s0 : Int32) (m : Mem) {z : Int32} {m' : Mem} (h : r_X12_person_j42 x1 x2 s0 m = some (z, m')) : Xj RX12 cX12_person 7 (some .int) 8 177 0 0 0 0 42 [(0, vR 12 0), (1, vI x1), (2, vI x2)] [vI s0, vR 12 0] m (oI z) m' := by
  unfold r_X12_person_j42 at h
  refine xj_iconst (z := 2) dX12_person_42 (by decide) ?_
  refine xj_iconst (z := 1) dX12_person_43 (by decide) ?_
  obtain ⟨z11, m10, e9, h⟩ := bd2_some h
  refine xc_Vb0 (st := []) (ok_X12_bad s0 2 1 m e9) dX12_person_44 cv_X12_191 rfl rfl (Nat.le_of_ble_eq_true rfl) (by decide) (by decide) (by decide) (by decide) ?_
  refine xj_if_eq (tgt := 52) dX12_person_47 (by decide) (fun c12 => ?_) (fun c12 => ?_)
  · rw [if_neg (b2i_f c12)] at h
    refine xj_iconst (z := 0) dX12_person_52 (by decide) ?_
    refine xj_istore_n (ls' := [(3, vI 0), (0, vR 12 0), (1, vI x1), (2, vI x2)]) dX12_person_53 rfl (by decide) rfl ?_
    refine xj_iconst (z := 0) dX12_person_54 (by decide) ?_
    refine xj_istore (ls' := [(4, vI 0), (3, vI 0), (0, vR 12 0), (1, vI x1), (2, vI x2)]) dX12_person_55 (by decide) rfl ?_
    refine xj_iconst (z := 0) dX12_person_57 (by decide) ?_
    refine xj_istore (ls' := [(5, vI 0), (4, vI 0), (3, vI 0), (0, vR 12 0), (1, vI x1), (2, vI x2)]) dX12_person_58 (by decide) rfl ?_
    refine xj_pick (ls' := [(0, vR 12 0), (1, vI x1), (2, vI x2), (3, vI 0), (4, vI 0), (5, vI 0)]) [3, 4, 5, 2, 1, 0] rfl ?_
    exact ok_X12_person_l60 x1 x2 0 0 0 m10 h 
  · rw [if_pos (b2i_t c12)] at h
    refine xj_iconst (z := 0) dX12_person_50 (by decide) ?_
    cases h
    exact xj_ireturn dX12_person_51 rfl (by decide) (by decide)
noncomputable def r_X12_person_j19 (x1 : Int32) (x2 : Int32) (s0 : Int32) (m : Mem) : Option (Int32 × Mem) :=
  bd2 (r_X12_bad s0 1 0 m) fun z6 m5 => (if z6 = true then (some (0, m5)) else (if (r_X12_in x2 0 3) = true then (r_X12_person_j42 x1 x2 0 m5) else (r_X12_person_j42 x1 x2 1 m5)))
set_option maxHeartbeats 4000000 in
set_option maxRecDepth 20000 in
theorem ok_X12_person_j19 (x1 : Int32) (x2 : Int32) (s0 : Int32) (m : Mem) {z : Int32} {m' : Mem} (h : r_X12_person_j19 x1 x2 s0 m = some (z, m')) : Xj RX12 cX12_person 7 (some .int) 8 177 0 0 0 0 19 [(0, vR 12 0), (1, vI x1), (2, vI x2)] [vI s0, vR 12 0] m (oI z) m' := by
  unfold r_X12_person_j19 at h
  refine xj_iconst (z := 1) dX12_person_19 (by decide) ?_
  refine xj_iconst (z := 0) dX12_person_20 (by decide) ?_
  obtain ⟨z6, m5, e4, h⟩ := bd2_some h
  refine xc_Vb0 (st := []) (ok_X12_bad s0 1 0 m e4) dX12_person_21 cv_X12_191 rfl rfl (Nat.le_of_ble_eq_true rfl) (by decide) (by decide) (by decide) (by decide) ?_
  refine xj_if_ne (tgt := 50) dX12_person_24 (by decide) (fun c7 => ?_) (fun c7 => ?_)
  · rw [if_pos (b2i_t c7)] at h
    refine xj_iconst (z := 0) dX12_person_50 (by decide) ?_
    cases h
    exact xj_ireturn dX12_person_51 rfl (by decide) (by decide)
  · rw [if_neg (b2i_f c7)] at h
    refine xj_aload_n 0 dX12_person_27 rfl ?_
    refine xj_iload_n 2 dX12_person_28 rfl ?_
    refine xj_iconst (z := 0) dX12_person_29 (by decide) ?_
    refine xj_iconst (z := 3) dX12_person_30 (by decide) ?_
    refine xc_Sb0 (st := [vR 12 0]) (ok_X12_in x2 0 3 m5 rfl) dX12_person_31 cs_X12_143 rfl rfl (Nat.le_of_ble_eq_true rfl) (by decide) (by decide) (by decide) (by decide) ?_
    refine xj_if_ne (tgt := 41) dX12_person_34 (by decide) (fun c8 => ?_) (fun c8 => ?_)
    · rw [if_pos (b2i_t c8)] at h
      refine xj_iconst (z := 0) dX12_person_41 (by decide) ?_
      exact ok_X12_person_j42 x1 x2 0 m5 h 
    · rw [if_neg (b2i_f c8)] at h
      refine xj_iconst (z := 1) dX12_person_37 (by decide) ?_
      refine xj_goto (tgt := 42) dX12_person_38 (by decide) ?_
      exact ok_X12_person_j42 x1 x2 1 m5 h 
noncomputable def r_X12_person (x1 : Int32) (x2 : Int32) (m : Mem) : Option (Int32 × Mem) :=
  bd1 (r_X12_isPerson x1 (wr m 12 0 0 0)) fun z2 => (if z2 = true then (r_X12_person_j19 x1 x2 0 (wr m 12 0 0 0)) else (r_X12_person_j19 x1 x2 1 (wr m 12 0 0 0)))
set_option maxHeartbeats 4000000 in
set_option maxRecDepth 20000 in
theorem ok_X12_person (x1 : Int32) (x2 : Int32) (m : Mem) {z : Int32} {m' : Mem} (h : r_X12_person x1 x2 m = some (z, m')) : Mt yX12_person cX12_person 7 (some .int) 8 177 0 0 [vR 12 0, vI x1, vI x2] m (oI z) m' := by
  refine Mt.of (by decide) (Nat.le_of_ble_eq_true rfl) (by decide +kernel) (hhF_ne (by decide)) ?_
  show Xj RX12 cX12_person 7 (some .int) 8 177 0 0 0 0 0 [(0, vR 12 0), (1, vI x1), (2, vI x2)] [] m (oI z) m'
  unfold r_X12_person at h
  refine xj_aload_n 0 dX12_person_0 rfl ?_
  refine xj_iconst (z := 0) dX12_person_1 (by decide) ?_
  refine xj_putI dX12_person_2 fw_X12_109 rfl ?_
  refine xj_aload_n 0 dX12_person_5 rfl ?_
  refine xj_aload_n 0 dX12_person_6 rfl ?_
  refine xj_iload_n 1 dX12_person_7 rfl ?_
  obtain ⟨z2, e1, h⟩ := bd1_some h
  refine xc_Vb0 (st := [vR 12 0]) (ok_X12_isPerson x1 (wr m 12 0 0 0) e1) dX12_person_8 cv_X12_358 rfl rfl (Nat.le_of_ble_eq_true rfl) (by decide) (by decide) (by decide) (by decide) ?_
  refine xj_if_ne (tgt := 18) dX12_person_11 (by decide) (fun c3 => ?_) (fun c3 => ?_)
  · rw [if_pos (b2i_t c3)] at h
    refine xj_iconst (z := 0) dX12_person_18 (by decide) ?_
    exact ok_X12_person_j19 x1 x2 0 (wr m 12 0 0 0) h 
  · rw [if_neg (b2i_f c3)] at h
    refine xj_iconst (z := 1) dX12_person_14 (by decide) ?_
    refine xj_goto (tgt := 19) dX12_person_15 (by decide) ?_
    exact ok_X12_person_j19 x1 x2 1 (wr m 12 0 0 0) h 
noncomputable def r_X12_place_j94_c60 (x1 : Int32) (x2 : Int32) (x4 : Int32) (x5 : Int32) (s0 : Int32) (s1 : Int32) (m : Mem) : Option ((Int32 × Int32) ⊕ (Int32)) :=
  some (Sum.inl ((s1 ||| s0), x5 + 1))
set_option maxHeartbeats 4000000 in
set_option maxRecDepth 20000 in
theorem ok_X12_place_j94_c60 (x1 : Int32) (x2 : Int32) (x4 : Int32) (x5 : Int32) (s0 : Int32) (s1 : Int32) (m : Mem) {r : (Int32 × Int32) ⊕ (Int32)} (h : r_X12_place_j94_c60 x1 x2 x4 x5 s0 s1 m = some r) {o : Ou} {M' : Mem} (kb : ∀ (x3' : Int32) (x5' : Int32), r = Sum.inl (x3', x5') → Xj RX12 cX12_place 6 (some .int) 10 220 0 0 0 0 60 [(0, vR 12 0), (1, vI x1), (2, vI x2), (3, vI x3'), (4, vI x4), (5, vI x5')] [] m o M') (ke : ∀ (x3' : Int32), r = Sum.inr x3' → Xj RX12 cX12_place 6 (some .int) 10 220 0 0 0 0 102 [(0, vR 12 0), (1, vI x1), (2, vI x2), (3, vI x3'), (4, vI x4)] [] m o M') : Xj RX12 cX12_place 6 (some .int) 10 220 0 0 0 0 94 [(0, vR 12 0), (1, vI x1), (2, vI x2), (4, vI x4), (5, vI x5)] [vI s0, vI s1] m o M' := by
  unfold r_X12_place_j94_c60 at h
  refine xj_ior dX12_place_94 ?_
  refine xj_istore_n (ls' := [(3, vI (s1 ||| s0)), (0, vR 12 0), (1, vI x1), (2, vI x2), (4, vI x4), (5, vI x5)]) dX12_place_95 rfl (by decide) rfl ?_
  refine xj_iinc (z := x5 + 1) (ls' := [(5, vI (x5 + 1)), (3, vI (s1 ||| s0)), (0, vR 12 0), (1, vI x1), (2, vI x2), (4, vI x4)]) 5 dX12_place_96 rfl rfl (by decide) rfl ?_
  refine xj_goto (tgt := 60) dX12_place_99 (by decide) ?_
  cases h
  refine xj_pick (ls' := [(0, vR 12 0), (1, vI x1), (2, vI x2), (3, vI (s1 ||| s0)), (4, vI x4), (5, vI (x5 + 1))]) [2, 3, 4, 1, 5, 0] rfl ?_
  exact kb (s1 ||| s0) (x5 + 1) rfl
noncomputable def r_X12_place_b60 (x1 : Int32) (x2 : Int32) (x4 : Int32) (m : Mem) (x3 : Int32) (x5 : Int32) : Option ((Int32 × Int32) ⊕ (Int32)) :=
  if (m 52 0 2) ≤ x5 then (some (Sum.inr x3)) else (if inb (72 + x5) 111 = true then (if (m 60 0 ((72 + x5).toNatClampNeg)) = x1 then (r_X12_place_j94_c60 x1 x2 x4 x5 (1 <<< (x5 &&& 31)) x3 m) else (r_X12_place_j94_c60 x1 x2 x4 x5 0 x3 m)) else none)
set_option maxHeartbeats 4000000 in
set_option maxRecDepth 20000 in
theorem ok_X12_place_b60 (x1 : Int32) (x2 : Int32) (x4 : Int32) (m : Mem) (x3 : Int32) (x5 : Int32) {r : (Int32 × Int32) ⊕ (Int32)} (h : r_X12_place_b60 x1 x2 x4 m x3 x5 = some r) {o : Ou} {M' : Mem} (kb : ∀ (x3' : Int32) (x5' : Int32), r = Sum.inl (x3', x5') → Xj RX12 cX12_place 6 (some .int) 10 220 0 0 0 0 60 [(0, vR 12 0), (1, vI x1), (2, vI x2), (3, vI x3'), (4, vI x4), (5, vI x5')] [] m o M') (ke : ∀ (x3' : Int32), r = Sum.inr x3' → Xj RX12 cX12_place 6 (some .int) 10 220 0 0 0 0 102 [(0, vR 12 0), (1, vI x1), (2, vI x2), (3, vI x3'), (4, vI x4)] [] m o M') : Xj RX12 cX12_place 6 (some .int) 10 220 0 0 0 0 60 [(0, vR 12 0), (1, vI x1), (2, vI x2), (3, vI x3), (4, vI x4), (5, vI x5)] [] m o M' := by
  unfold r_X12_place_b60 at h
  refine xj_iload 5 dX12_place_60 rfl ?_
  refine xj_aload_n 0 dX12_place_62 rfl ?_
  refine xg_getR (k' := 52) (i' := 0) dX12_place_63 fl_X12_23 rfl ?_
  refine xj_iconst (z := 2) dX12_place_66 (by decide) ?_
  refine xg_iald (z := (m 52 0 2)) (n := 2) dX12_place_67 rfl (by decide) (inb_in (by decide)) (by decide) rfl ?_
  refine xj_icmp_ge (tgt := 102) dX12_place_68 (by decide) (fun c13 => ?_) (fun c13 => ?_)
  · rw [if_pos c13] at h
    cases h
    refine xj_pick (ls' := [(0, vR 12 0), (1, vI x1), (2, vI x2), (3, vI x3), (4, vI x4)]) [0, 1, 2, 3, 4] rfl ?_
    exact ke x3 rfl
  · rw [if_neg c13] at h
    refine xj_iload_n 3 dX12_place_71 rfl ?_
    refine xj_aload_n 0 dX12_place_72 rfl ?_
    refine xg_getR (k' := 60) (i' := 0) dX12_place_73 fl_X12_73 rfl ?_
    refine xj_bipush (z := 72) dX12_place_76 (by decide) ?_
    refine xj_iload 5 dX12_place_78 rfl ?_
    refine xj_iadd dX12_place_80 ?_
    by_cases c14 : inb (72 + x5) 111 = true
    case neg => rw [if_neg c14] at h; cases h
    rw [if_pos c14] at h
    refine xg_iald (z := (m 60 0 ((72 + x5).toNatClampNeg))) (n := (72 + x5).toNatClampNeg) dX12_place_81 rfl (by decide) (inb_in c14) rfl rfl ?_
    refine xj_iload_n 1 dX12_place_82 rfl ?_
    refine xj_icmp_ne (tgt := 93) dX12_place_83 (by decide) (fun c15 => ?_) (fun c15 => ?_)
    · rw [if_neg c15] at h
      refine xj_iconst (z := 0) dX12_place_93 (by decide) ?_
      refine xj_pick (ls' := [(0, vR 12 0), (1, vI x1), (2, vI x2), (4, vI x4), (5, vI x5)]) [0, 1, 2, 4, 5] rfl ?_
      exact ok_X12_place_j94_c60 x1 x2 x4 x5 0 x3 m h kb ke
    · rw [if_pos c15] at h
      refine xj_iconst (z := 1) dX12_place_86 (by decide) ?_
      refine xj_iload 5 dX12_place_87 rfl ?_
      refine xj_ishl dX12_place_89 ?_
      refine xj_goto (tgt := 94) dX12_place_90 (by decide) ?_
      refine xj_pick (ls' := [(0, vR 12 0), (1, vI x1), (2, vI x2), (4, vI x4), (5, vI x5)]) [0, 1, 2, 4, 5] rfl ?_
      exact ok_X12_place_j94_c60 x1 x2 x4 x5 (1 <<< (x5 &&& 31)) x3 m h kb ke
noncomputable def r_X12_place_j141_c114 (x1 : Int32) (x2 : Int32) (x3 : Int32) (x5 : Int32) (s0 : Int32) (m : Mem) : Option ((Int32 × Int32) ⊕ (Int32)) :=
  some (Sum.inl (s0, x5 + 1))
set_option maxHeartbeats 4000000 in
set_option maxRecDepth 20000 in
theorem ok_X12_place_j141_c114 (x1 : Int32) (x2 : Int32) (x3 : Int32) (x5 : Int32) (s0 : Int32) (m : Mem) {r : (Int32 × Int32) ⊕ (Int32)} (h : r_X12_place_j141_c114 x1 x2 x3 x5 s0 m = some r) {o : Ou} {M' : Mem} (kb : ∀ (x4' : Int32) (x5' : Int32), r = Sum.inl (x4', x5') → Xj RX12 cX12_place 6 (some .int) 10 220 0 0 0 0 114 [(0, vR 12 0), (1, vI x1), (2, vI x2), (3, vI x3), (4, vI x4'), (5, vI x5')] [] m o M') (ke : ∀ (x4' : Int32), r = Sum.inr x4' → Xj RX12 cX12_place 6 (some .int) 10 220 0 0 0 0 149 [(0, vR 12 0), (1, vI x1), (2, vI x2), (3, vI x3), (4, vI x4')] [] m o M') : Xj RX12 cX12_place 6 (some .int) 10 220 0 0 0 0 141 [(0, vR 12 0), (1, vI x1), (2, vI x2), (3, vI x3), (5, vI x5)] [vI s0] m o M' := by
  unfold r_X12_place_j141_c114 at h
  refine xj_istore (ls' := [(4, vI s0), (0, vR 12 0), (1, vI x1), (2, vI x2), (3, vI x3), (5, vI x5)]) dX12_place_141 (by decide) rfl ?_
  refine xj_iinc (z := x5 + 1) (ls' := [(5, vI (x5 + 1)), (4, vI s0), (0, vR 12 0), (1, vI x1), (2, vI x2), (3, vI x3)]) 5 dX12_place_143 rfl rfl (by decide) rfl ?_
  refine xj_goto (tgt := 114) dX12_place_146 (by decide) ?_
  cases h
  refine xj_pick (ls' := [(0, vR 12 0), (1, vI x1), (2, vI x2), (3, vI x3), (4, vI s0), (5, vI (x5 + 1))]) [2, 3, 4, 5, 1, 0] rfl ?_
  exact kb s0 (x5 + 1) rfl
noncomputable def r_X12_place_b114 (x1 : Int32) (x2 : Int32) (x3 : Int32) (m : Mem) (x4 : Int32) (x5 : Int32) : Option ((Int32 × Int32) ⊕ (Int32)) :=
  if (m 12 0 42) ≤ x5 then (some (Sum.inr x4)) else (if inb x5 12 = true then (if (m 58 0 x5.toNatClampNeg) = x1 then (r_X12_place_j141_c114 x1 x2 x3 x5 x5 m) else (r_X12_place_j141_c114 x1 x2 x3 x5 x4 m)) else none)
set_option maxHeartbeats 4000000 in
set_option maxRecDepth 20000 in
theorem ok_X12_place_b114 (x1 : Int32) (x2 : Int32) (x3 : Int32) (m : Mem) (x4 : Int32) (x5 : Int32) {r : (Int32 × Int32) ⊕ (Int32)} (h : r_X12_place_b114 x1 x2 x3 m x4 x5 = some r) {o : Ou} {M' : Mem} (kb : ∀ (x4' : Int32) (x5' : Int32), r = Sum.inl (x4', x5') → Xj RX12 cX12_place 6 (some .int) 10 220 0 0 0 0 114 [(0, vR 12 0), (1, vI x1), (2, vI x2), (3, vI x3), (4, vI x4'), (5, vI x5')] [] m o M') (ke : ∀ (x4' : Int32), r = Sum.inr x4' → Xj RX12 cX12_place 6 (some .int) 10 220 0 0 0 0 149 [(0, vR 12 0), (1, vI x1), (2, vI x2), (3, vI x3), (4, vI x4')] [] m o M') : Xj RX12 cX12_place 6 (some .int) 10 220 0 0 0 0 114 [(0, vR 12 0), (1, vI x1), (2, vI x2), (3, vI x3), (4, vI x4), (5, vI x5)] [] m o M' := by
  unfold r_X12_place_b114 at h
  refine xj_iload 5 dX12_place_114 rfl ?_
  refine xj_aload_n 0 dX12_place_116 rfl ?_
  refine xg_getI (x := (m 12 0 42)) dX12_place_117 fl_X12_305 rfl rfl ?_
  refine xj_icmp_ge (tgt := 149) dX12_place_120 (by decide) (fun c19 => ?_) (fun c19 => ?_)
  · rw [if_pos c19] at h
    cases h
    refine xj_pick (ls' := [(0, vR 12 0), (1, vI x1), (2, vI x2), (3, vI x3), (4, vI x4)]) [0, 1, 2, 3, 4] rfl ?_
    exact ke x4 rfl
  · rw [if_neg c19] at h
    refine xj_aload_n 0 dX12_place_123 rfl ?_
    refine xg_getR (k' := 58) (i' := 0) dX12_place_124 fl_X12_88 rfl ?_
    refine xj_iload 5 dX12_place_127 rfl ?_
    by_cases c20 : inb x5 12 = true
    case neg => rw [if_neg c20] at h; cases h
    rw [if_pos c20] at h
    refine xg_iald (z := (m 58 0 x5.toNatClampNeg)) (n := x5.toNatClampNeg) dX12_place_129 rfl (by decide) (inb_in c20) rfl rfl ?_
    refine xj_iload_n 1 dX12_place_130 rfl ?_
    refine xj_icmp_ne (tgt := 139) dX12_place_131 (by decide) (fun c21 => ?_) (fun c21 => ?_)
    · rw [if_neg c21] at h
      refine xj_iload 4 dX12_place_139 rfl ?_
      refine xj_pick (ls' := [(0, vR 12 0), (1, vI x1), (2, vI x2), (3, vI x3), (5, vI x5)]) [0, 1, 2, 3, 5] rfl ?_
      exact ok_X12_place_j141_c114 x1 x2 x3 x5 x4 m h kb ke
    · rw [if_pos c21] at h
      refine xj_iload 5 dX12_place_134 rfl ?_
      refine xj_goto (tgt := 141) dX12_place_136 (by decide) ?_
      refine xj_pick (ls' := [(0, vR 12 0), (1, vI x1), (2, vI x2), (3, vI x3), (5, vI x5)]) [0, 1, 2, 3, 5] rfl ?_
      exact ok_X12_place_j141_c114 x1 x2 x3 x5 x5 m h kb ke
noncomputable def r_X12_place_e149_h114 (x1 : Int32) (x2 : Int32) (x3 : Int32) (x4 : Int32) (m : Mem) : Option (Int32 × Mem) :=
  if x2 = 0 then (if inb x1 12 = true then (some ((m 54 0 x1.toNatClampNeg), m)) else none) else if x2 = 1 then (bd1 (r_X12_ditchesOf x1 m) fun z26 => (some (z26, m))) else if x2 = 2 then (some (x3, m)) else if x2 = 3 then (if inb x1 12 = true then (some ((m 57 0 x1.toNatClampNeg), m)) else none) else (some (x4, m))
set_option maxHeartbeats 4000000 in
set_option maxRecDepth 20000 in
theorem ok_X12_place_e149_h114 (x1 : Int32) (x2 : Int32) (x3 : Int32) (x4 : Int32) (m : Mem) {z : Int32} {m' : Mem} (h : r_X12_place_e149_h114 x1 x2 x3 x4 m = some (z, m')) : Xj RX12 cX12_place 6 (some .int) 10 220 0 0 0 0 149 [(0, vR 12 0), (1, vI x1), (2, vI x2), (3, vI x3), (4, vI x4)] [] m (oI z) m' := by
  unfold r_X12_place_e149_h114 at h
  refine xj_iload_n 2 dX12_place_149 rfl ?_
  by_cases c22 : x2 = 0
  · rw [if_pos c22] at h
    refine xj_tableIn (off := 30) (tgt := 180) dX12_place_150 (by rw [c22]; decide) (by rw [c22]; decide) (by rw [c22]; decide) (by decide) ?_
    refine xj_aload_n 0 dX12_place_180 rfl ?_
    refine xg_getR (k' := 54) (i' := 0) dX12_place_181 fl_X12_29 rfl ?_
    refine xj_iload_n 1 dX12_place_184 rfl ?_
    by_cases c23 : inb x1 12 = true
    case neg => rw [if_neg c23] at h; cases h
    rw [if_pos c23] at h
    refine xg_iald (z := (m 54 0 x1.toNatClampNeg)) (n := x1.toNatClampNeg) dX12_place_185 rfl (by decide) (inb_in c23) rfl rfl ?_
    cases h
    exact xj_ireturn dX12_place_186 rfl (by decide) (by decide)
  rw [if_neg c22] at h
  by_cases c24 : x2 = 1
  · rw [if_pos c24] at h
    refine xj_tableIn (off := 37) (tgt := 187) dX12_place_150 (by rw [c24]; decide) (by rw [c24]; decide) (by rw [c24]; decide) (by decide) ?_
    refine xj_aload_n 0 dX12_place_187 rfl ?_
    refine xj_iload_n 1 dX12_place_188 rfl ?_
    obtain ⟨z26, e25, h⟩ := bd1_some h
    refine xc_Vi0 (st := []) (ok_X12_ditchesOf x1 m e25) dX12_place_189 cv_X12_355 rfl rfl (Nat.le_of_ble_eq_true rfl) (by decide) (by decide) (by decide) (by decide) ?_
    cases h
    exact xj_ireturn dX12_place_192 rfl (by decide) (by decide)
  rw [if_neg c24] at h
  by_cases c27 : x2 = 2
  · rw [if_pos c27] at h
    refine xj_tableIn (off := 43) (tgt := 193) dX12_place_150 (by rw [c27]; decide) (by rw [c27]; decide) (by rw [c27]; decide) (by decide) ?_
    refine xj_iload_n 3 dX12_place_193 rfl ?_
    cases h
    exact xj_ireturn dX12_place_194 rfl (by decide) (by decide)
  rw [if_neg c27] at h
  by_cases c28 : x2 = 3
  · rw [if_pos c28] at h
    refine xj_tableIn (off := 45) (tgt := 195) dX12_place_150 (by rw [c28]; decide) (by rw [c28]; decide) (by rw [c28]; decide) (by decide) ?_
    refine xj_aload_n 0 dX12_place_195 rfl ?_
    refine xg_getR (k' := 57) (i' := 0) dX12_place_196 fl_X12_85 rfl ?_
    refine xj_iload_n 1 dX12_place_199 rfl ?_
    by_cases c29 : inb x1 12 = true
    case neg => rw [if_neg c29] at h; cases h
    rw [if_pos c29] at h
    refine xg_iald (z := (m 57 0 x1.toNatClampNeg)) (n := x1.toNatClampNeg) dX12_place_200 rfl (by decide) (inb_in c29) rfl rfl ?_
    cases h
    exact xj_ireturn dX12_place_201 rfl (by decide) (by decide)
  rw [if_neg c28] at h
  refine xj_tableOut (tgt := 202) dX12_place_150 ?_ (by decide) ?_
  · have nc22 := lv_neT c22 (show (0 : Int32).toInt = 0 by decide)
    have nc24 := lv_neT c24 (show (1 : Int32).toInt = 1 by decide)
    have nc27 := lv_neT c27 (show (2 : Int32).toInt = 2 by decide)
    have nc28 := lv_neT c28 (show (3 : Int32).toInt = 3 by decide)
    omega
  refine xj_iload 4 dX12_place_202 rfl ?_
  cases h
  exact xj_ireturn dX12_place_204 rfl (by decide) (by decide)
noncomputable def r_X12_place_l114 (x1 : Int32) (x2 : Int32) (x3 : Int32) (x4 : Int32) (x5 : Int32) (m : Mem) : Option (Int32 × Mem) :=
  bd1 (loopO (fun s => r_X12_place_b114 x1 x2 x3 m s.1 s.2) (x4, x5)) (fun e => r_X12_place_e149_h114 x1 x2 x3 e m)
set_option maxHeartbeats 4000000 in
set_option maxRecDepth 20000 in
theorem ok_X12_place_l114 (x1 : Int32) (x2 : Int32) (x3 : Int32) (x4 : Int32) (x5 : Int32) (m : Mem) {z : Int32} {m' : Mem} (h : r_X12_place_l114 x1 x2 x3 x4 x5 m = some (z, m')) : Xj RX12 cX12_place 6 (some .int) 10 220 0 0 0 0 114 [(0, vR 12 0), (1, vI x1), (2, vI x2), (3, vI x3), (4, vI x4), (5, vI x5)] [] m (oI z) m' := by
  unfold r_X12_place_l114 at h
  obtain ⟨e, e1, h⟩ := bd1_some h
  refine loopO_ok (P := fun s : (Int32 × Int32) => Xj RX12 cX12_place 6 (some .int) 10 220 0 0 0 0 114 [(0, vR 12 0), (1, vI x1), (2, vI x2), (3, vI x3), (4, vI s.1), (5, vI s.2)] [] m (oI z) m') (Q := fun e : (Int32) => Xj RX12 cX12_place 6 (some .int) 10 220 0 0 0 0 149 [(0, vR 12 0), (1, vI x1), (2, vI x2), (3, vI x3), (4, vI e)] [] m (oI z) m') ?_ _ _ e1 ?_
  · intro s r9 h9 hi hx
    exact ok_X12_place_b114 x1 x2 x3 m s.1 s.2 h9 (by rintro _ _ rfl; exact hi _ rfl) (by rintro _ rfl; exact hx _ rfl)
  · exact ok_X12_place_e149_h114 x1 x2 x3 e m h 
noncomputable def r_X12_place_e102_h60 (x1 : Int32) (x2 : Int32) (x3 : Int32) (x4 : Int32) (m : Mem) : Option (Int32 × Mem) :=
  bd2 (r_X12_courseOf 0 m) fun z18 m17 => (r_X12_place_l114 x1 x2 x3 x4 0 m17)
set_option maxHeartbeats 4000000 in
set_option maxRecDepth 20000 in
theorem ok_X12_place_e102_h60 (x1 : Int32) (x2 : Int32) (x3 : Int32) (x4 : Int32) (m : Mem) {z : Int32} {m' : Mem} (h : r_X12_place_e102_h60 x1 x2 x3 x4 m = some (z, m')) : Xj RX12 cX12_place 6 (some .int) 10 220 0 0 0 0 102 [(0, vR 12 0), (1, vI x1), (2, vI x2), (3, vI x3), (4, vI x4)] [] m (oI z) m' := by
  unfold r_X12_place_e102_h60 at h
  refine xj_aload_n 0 dX12_place_102 rfl ?_
  refine xj_aload_n 0 dX12_place_103 rfl ?_
  refine xg_getR (k' := 60) (i' := 0) dX12_place_104 fl_X12_73 rfl ?_
  obtain ⟨z18, m17, e16, h⟩ := bd2_some h
  refine xc_Vi0 (st := []) (ok_X12_courseOf 0 m e16) dX12_place_107 cv_X12_315 rfl rfl (Nat.le_of_ble_eq_true rfl) (by decide) (by decide) (by decide) (by decide) ?_
  refine xj_pop dX12_place_110 rfl ?_
  refine xj_iconst (z := 0) dX12_place_111 (by decide) ?_
  refine xj_istore (ls' := [(5, vI 0), (0, vR 12 0), (1, vI x1), (2, vI x2), (3, vI x3), (4, vI x4)]) dX12_place_112 (by decide) rfl ?_
  refine xj_pick (ls' := [(0, vR 12 0), (1, vI x1), (2, vI x2), (3, vI x3), (4, vI x4), (5, vI 0)]) [1, 2, 3, 4, 5, 0] rfl ?_
  exact ok_X12_place_l114 x1 x2 x3 x4 0 m17 h 
noncomputable def r_X12_place_l60 (x1 : Int32) (x2 : Int32) (x3 : Int32) (x4 : Int32) (x5 : Int32) (m : Mem) : Option (Int32 × Mem) :=
  bd1 (loopO (fun s => r_X12_place_b60 x1 x2 x4 m s.1 s.2) (x3, x5)) (fun e => r_X12_place_e102_h60 x1 x2 e x4 m)
set_option maxHeartbeats 4000000 in
set_option maxRecDepth 20000 in
theorem ok_X12_place_l60 (x1 : Int32) (x2 : Int32) (x3 : Int32) (x4 : Int32) (x5 : Int32) (m : Mem) {z : Int32} {m' : Mem} (h : r_X12_place_l60 x1 x2 x3 x4 x5 m = some (z, m')) : Xj RX12 cX12_place 6 (some .int) 10 220 0 0 0 0 60 [(0, vR 12 0), (1, vI x1), (2, vI x2), (3, vI x3), (4, vI x4), (5, vI x5)] [] m (oI z) m' := by
  unfold r_X12_place_l60 at h
  obtain ⟨e, e1, h⟩ := bd1_some h
  refine loopO_ok (P := fun s : (Int32 × Int32) => Xj RX12 cX12_place 6 (some .int) 10 220 0 0 0 0 60 [(0, vR 12 0), (1, vI x1), (2, vI x2), (3, vI s.1), (4, vI x4), (5, vI s.2)] [] m (oI z) m') (Q := fun e : (Int32) => Xj RX12 cX12_place 6 (some .int) 10 220 0 0 0 0 102 [(0, vR 12 0), (1, vI x1), (2, vI x2), (3, vI e), (4, vI x4)] [] m (oI z) m') ?_ _ _ e1 ?_
  · intro s r9 h9 hi hx
    exact ok_X12_place_b60 x1 x2 x4 m s.1 s.2 h9 (by rintro _ _ rfl; exact hi _ rfl) (by rintro _ rfl; exact hx _ rfl)
  · exact ok_X12_place_e102_h60 x1 x2 e x4 m h 
noncomputable def r_X12_place_j42 (x1 : Int32) (x2 : Int32) (s0 : Int32) (m : Mem) : Option (Int32 × Mem) :=
  bd2 (r_X12_bad s0 2 1 m) fun z11 m10 => (if z11 = true then (some (0, m10)) else (r_X12_place_l60 x1 x2 0 (-1) 0 m10))
set_option maxHeartbeats 4000000 in
set_option maxRecDepth 20000 in
theorem ok_X12_place_j42 (x1 : Int32) (x2 : Int32) (s0 : Int32) (m : Mem) {z : Int32} {m' : Mem} (h : r_X12_place_j42 x1 x2 s0 m = some (z, m')) : Xj RX12 cX12_place 6 (some .int) 10 220 0 0 0 0 42 [(0, vR 12 0), (1, vI x1), (2, vI x2)] [vI s0, vR 12 0] m (oI z) m' := by
  unfold r_X12_place_j42 at h
  refine xj_iconst (z := 2) dX12_place_42 (by decide) ?_
  refine xj_iconst (z := 1) dX12_place_43 (by decide) ?_
  obtain ⟨z11, m10, e9, h⟩ := bd2_some h
  refine xc_Vb0 (st := []) (ok_X12_bad s0 2 1 m e9) dX12_place_44 cv_X12_191 rfl rfl (Nat.le_of_ble_eq_true rfl) (by decide) (by decide) (by decide) (by decide) ?_
  refine xj_if_eq (tgt := 52) dX12_place_47 (by decide) (fun c12 => ?_) (fun c12 => ?_)
  · rw [if_neg (b2i_f c12)] at h
    refine xj_iconst (z := 0) dX12_place_52 (by decide) ?_
    refine xj_istore_n (ls' := [(3, vI 0), (0, vR 12 0), (1, vI x1), (2, vI x2)]) dX12_place_53 rfl (by decide) rfl ?_
    refine xj_iconst (z := (-1)) dX12_place_54 (by decide) ?_
    refine xj_istore (ls' := [(4, vI (-1)), (3, vI 0), (0, vR 12 0), (1, vI x1), (2, vI x2)]) dX12_place_55 (by decide) rfl ?_
    refine xj_iconst (z := 0) dX12_place_57 (by decide) ?_
    refine xj_istore (ls' := [(5, vI 0), (4, vI (-1)), (3, vI 0), (0, vR 12 0), (1, vI x1), (2, vI x2)]) dX12_place_58 (by decide) rfl ?_
    refine xj_pick (ls' := [(0, vR 12 0), (1, vI x1), (2, vI x2), (3, vI 0), (4, vI (-1)), (5, vI 0)]) [3, 4, 5, 2, 1, 0] rfl ?_
    exact ok_X12_place_l60 x1 x2 0 (-1) 0 m10 h 
  · rw [if_pos (b2i_t c12)] at h
    refine xj_iconst (z := 0) dX12_place_50 (by decide) ?_
    cases h
    exact xj_ireturn dX12_place_51 rfl (by decide) (by decide)
noncomputable def r_X12_place_j19 (x1 : Int32) (x2 : Int32) (s0 : Int32) (m : Mem) : Option (Int32 × Mem) :=
  bd2 (r_X12_bad s0 1 0 m) fun z6 m5 => (if z6 = true then (some (0, m5)) else (if (r_X12_in x2 0 4) = true then (r_X12_place_j42 x1 x2 0 m5) else (r_X12_place_j42 x1 x2 1 m5)))
set_option maxHeartbeats 4000000 in
set_option maxRecDepth 20000 in
theorem ok_X12_place_j19 (x1 : Int32) (x2 : Int32) (s0 : Int32) (m : Mem) {z : Int32} {m' : Mem} (h : r_X12_place_j19 x1 x2 s0 m = some (z, m')) : Xj RX12 cX12_place 6 (some .int) 10 220 0 0 0 0 19 [(0, vR 12 0), (1, vI x1), (2, vI x2)] [vI s0, vR 12 0] m (oI z) m' := by
  unfold r_X12_place_j19 at h
  refine xj_iconst (z := 1) dX12_place_19 (by decide) ?_
  refine xj_iconst (z := 0) dX12_place_20 (by decide) ?_
  obtain ⟨z6, m5, e4, h⟩ := bd2_some h
  refine xc_Vb0 (st := []) (ok_X12_bad s0 1 0 m e4) dX12_place_21 cv_X12_191 rfl rfl (Nat.le_of_ble_eq_true rfl) (by decide) (by decide) (by decide) (by decide) ?_
  refine xj_if_ne (tgt := 50) dX12_place_24 (by decide) (fun c7 => ?_) (fun c7 => ?_)
  · rw [if_pos (b2i_t c7)] at h
    refine xj_iconst (z := 0) dX12_place_50 (by decide) ?_
    cases h
    exact xj_ireturn dX12_place_51 rfl (by decide) (by decide)
  · rw [if_neg (b2i_f c7)] at h
    refine xj_aload_n 0 dX12_place_27 rfl ?_
    refine xj_iload_n 2 dX12_place_28 rfl ?_
    refine xj_iconst (z := 0) dX12_place_29 (by decide) ?_
    refine xj_iconst (z := 4) dX12_place_30 (by decide) ?_
    refine xc_Sb0 (st := [vR 12 0]) (ok_X12_in x2 0 4 m5 rfl) dX12_place_31 cs_X12_143 rfl rfl (Nat.le_of_ble_eq_true rfl) (by decide) (by decide) (by decide) (by decide) ?_
    refine xj_if_ne (tgt := 41) dX12_place_34 (by decide) (fun c8 => ?_) (fun c8 => ?_)
    · rw [if_pos (b2i_t c8)] at h
      refine xj_iconst (z := 0) dX12_place_41 (by decide) ?_
      exact ok_X12_place_j42 x1 x2 0 m5 h 
    · rw [if_neg (b2i_f c8)] at h
      refine xj_iconst (z := 1) dX12_place_37 (by decide) ?_
      refine xj_goto (tgt := 42) dX12_place_38 (by decide) ?_
      exact ok_X12_place_j42 x1 x2 1 m5 h 
noncomputable def r_X12_place (x1 : Int32) (x2 : Int32) (m : Mem) : Option (Int32 × Mem) :=
  bd1 (r_X12_isPlace x1 (wr m 12 0 0 0)) fun z2 => (if z2 = true then (r_X12_place_j19 x1 x2 0 (wr m 12 0 0 0)) else (r_X12_place_j19 x1 x2 1 (wr m 12 0 0 0)))
set_option maxHeartbeats 4000000 in
set_option maxRecDepth 20000 in
theorem ok_X12_place (x1 : Int32) (x2 : Int32) (m : Mem) {z : Int32} {m' : Mem} (h : r_X12_place x1 x2 m = some (z, m')) : Mt yX12_place cX12_place 6 (some .int) 10 220 0 0 [vR 12 0, vI x1, vI x2] m (oI z) m' := by
  refine Mt.of (by decide) (Nat.le_of_ble_eq_true rfl) (by decide +kernel) (hhF_ne (by decide)) ?_
  show Xj RX12 cX12_place 6 (some .int) 10 220 0 0 0 0 0 [(0, vR 12 0), (1, vI x1), (2, vI x2)] [] m (oI z) m'
  unfold r_X12_place at h
  refine xj_aload_n 0 dX12_place_0 rfl ?_
  refine xj_iconst (z := 0) dX12_place_1 (by decide) ?_
  refine xj_putI dX12_place_2 fw_X12_109 rfl ?_
  refine xj_aload_n 0 dX12_place_5 rfl ?_
  refine xj_aload_n 0 dX12_place_6 rfl ?_
  refine xj_iload_n 1 dX12_place_7 rfl ?_
  obtain ⟨z2, e1, h⟩ := bd1_some h
  refine xc_Vb0 (st := [vR 12 0]) (ok_X12_isPlace x1 (wr m 12 0 0 0) e1) dX12_place_8 cv_X12_352 rfl rfl (Nat.le_of_ble_eq_true rfl) (by decide) (by decide) (by decide) (by decide) ?_
  refine xj_if_ne (tgt := 18) dX12_place_11 (by decide) (fun c3 => ?_) (fun c3 => ?_)
  · rw [if_pos (b2i_t c3)] at h
    refine xj_iconst (z := 0) dX12_place_18 (by decide) ?_
    exact ok_X12_place_j19 x1 x2 0 (wr m 12 0 0 0) h 
  · rw [if_neg (b2i_f c3)] at h
    refine xj_iconst (z := 1) dX12_place_14 (by decide) ?_
    refine xj_goto (tgt := 19) dX12_place_15 (by decide) ?_
    exact ok_X12_place_j19 x1 x2 1 (wr m 12 0 0 0) h 
noncomputable def r_X12_pull_j27 (x1 : Int32) (x2 : Int32) (s0 : Int32) (m : Mem) : Option (Int32 × Mem) :=
  bd2 (r_X12_bad s0 1 0 m) fun z9 m8 => (if z9 = true then (some (0, m8)) else (bd1 (r_X12_between x1 x2 m8) fun z12 => (if z12 = (-1) then (some ((-100), m8)) else (bd2 (r_X12_drawWith 0 z12 x1 x2 0 0 0 m8) fun z16 m15 => (some (z16, m15))))))
set_option maxHeartbeats 4000000 in
set_option maxRecDepth 20000 in
theorem ok_X12_pull_j27 (x1 : Int32) (x2 : Int32) (s0 : Int32) (m : Mem) {z : Int32} {m' : Mem} (h : r_X12_pull_j27 x1 x2 s0 m = some (z, m')) : Xj RX12 cX12_pull 4 (some .int) 6 126 0 0 0 0 27 [(0, vR 12 0), (1, vI x1), (2, vI x2)] [vI s0, vR 12 0] m (oI z) m' := by
  unfold r_X12_pull_j27 at h
  refine xj_iconst (z := 1) dX12_pull_27 (by decide) ?_
  refine xj_iconst (z := 0) dX12_pull_28 (by decide) ?_
  obtain ⟨z9, m8, e7, h⟩ := bd2_some h
  refine xc_Vb0 (st := []) (ok_X12_bad s0 1 0 m e7) dX12_pull_29 cv_X12_191 rfl rfl (Nat.le_of_ble_eq_true rfl) (by decide) (by decide) (by decide) (by decide) ?_
  refine xj_if_eq (tgt := 37) dX12_pull_32 (by decide) (fun c10 => ?_) (fun c10 => ?_)
  · rw [if_neg (b2i_f c10)] at h
    refine xj_aload_n 0 dX12_pull_37 rfl ?_
    refine xj_iload_n 1 dX12_pull_38 rfl ?_
    refine xj_iload_n 2 dX12_pull_39 rfl ?_
    obtain ⟨z12, e11, h⟩ := bd1_some h
    refine xc_Vi0 (st := []) (ok_X12_between x1 x2 m8 e11) dX12_pull_40 cv_X12_267 rfl rfl (Nat.le_of_ble_eq_true rfl) (by decide) (by decide) (by decide) (by decide) ?_
    refine xj_istore_n (ls' := [(3, vI z12), (0, vR 12 0), (1, vI x1), (2, vI x2)]) dX12_pull_43 rfl (by decide) rfl ?_
    refine xj_iload_n 0 dX12_pull_44 rfl ?_
    refine xj_iconst (z := (-1)) dX12_pull_45 (by decide) ?_
    refine xj_icmp_ne (tgt := 54) dX12_pull_46 (by decide) (fun c13 => ?_) (fun c13 => ?_)
    · rw [if_neg c13] at h
      refine xj_aload_n 1 dX12_pull_54 rfl ?_
      refine xj_aload_n 1 dX12_pull_55 rfl ?_
      refine xg_getR (k' := 60) (i' := 0) dX12_pull_56 fl_X12_73 rfl ?_
      refine xj_iload_n 0 dX12_pull_59 rfl ?_
      refine xj_iload_n 2 dX12_pull_60 rfl ?_
      refine xj_iload_n 3 dX12_pull_61 rfl ?_
      refine xj_iconst (z := 0) dX12_pull_62 (by decide) ?_
      refine xj_iconst (z := 0) dX12_pull_63 (by decide) ?_
      refine xj_iconst (z := 0) dX12_pull_64 (by decide) ?_
      obtain ⟨z16, m15, e14, h⟩ := bd2_some h
      refine xc_Vi0 (st := []) (ok_X12_drawWith 0 z12 x1 x2 0 0 0 m8 e14) dX12_pull_65 cv_X12_293 rfl rfl (Nat.le_of_ble_eq_true rfl) (by decide) (by decide) (by decide) (by decide) ?_
      cases h
      exact xj_ireturn dX12_pull_68 rfl (by decide) (by decide)
    · rw [if_pos c13] at h
      refine xj_bipush (z := (-100)) dX12_pull_49 (by decide) ?_
      refine xj_goto (tgt := 68) dX12_pull_51 (by decide) ?_
      cases h
      exact xj_ireturn dX12_pull_68 rfl (by decide) (by decide)
  · rw [if_pos (b2i_t c10)] at h
    refine xj_iconst (z := 0) dX12_pull_35 (by decide) ?_
    cases h
    exact xj_ireturn dX12_pull_36 rfl (by decide) (by decide)
noncomputable def r_X12_pull_j22 (x1 : Int32) (x2 : Int32) (m : Mem) : Option (Int32 × Mem) :=
  r_X12_pull_j27 x1 x2 1 m
set_option maxHeartbeats 4000000 in
set_option maxRecDepth 20000 in
theorem ok_X12_pull_j22 (x1 : Int32) (x2 : Int32) (m : Mem) {z : Int32} {m' : Mem} (h : r_X12_pull_j22 x1 x2 m = some (z, m')) : Xj RX12 cX12_pull 4 (some .int) 6 126 0 0 0 0 22 [(0, vR 12 0), (1, vI x1), (2, vI x2)] [vR 12 0] m (oI z) m' := by
  unfold r_X12_pull_j22 at h
  refine xj_iconst (z := 1) dX12_pull_22 (by decide) ?_
  refine xj_goto (tgt := 27) dX12_pull_23 (by decide) ?_
  exact ok_X12_pull_j27 x1 x2 1 m h 
noncomputable def r_X12_pull (x1 : Int32) (x2 : Int32) (m : Mem) : Option (Int32 × Mem) :=
  bd1 (r_X12_isPlace x1 (wr m 12 0 0 0)) fun z2 => (if z2 = true then (bd1 (r_X12_isPlace x2 (wr m 12 0 0 0)) fun z5 => (if z5 = true then (r_X12_pull_j27 x1 x2 0 (wr m 12 0 0 0)) else (r_X12_pull_j22 x1 x2 (wr m 12 0 0 0)))) else (r_X12_pull_j22 x1 x2 (wr m 12 0 0 0)))
set_option maxHeartbeats 4000000 in
set_option maxRecDepth 20000 in
theorem ok_X12_pull (x1 : Int32) (x2 : Int32) (m : Mem) {z : Int32} {m' : Mem} (h : r_X12_pull x1 x2 m = some (z, m')) : Mt yX12_pull cX12_pull 4 (some .int) 6 126 0 0 [vR 12 0, vI x1, vI x2] m (oI z) m' := by
  refine Mt.of (by decide) (Nat.le_of_ble_eq_true rfl) (by decide +kernel) (hhF_ne (by decide)) ?_
  show Xj RX12 cX12_pull 4 (some .int) 6 126 0 0 0 0 0 [(0, vR 12 0), (1, vI x1), (2, vI x2)] [] m (oI z) m'
  unfold r_X12_pull at h
  refine xj_aload_n 0 dX12_pull_0 rfl ?_
  refine xj_iconst (z := 0) dX12_pull_1 (by decide) ?_
  refine xj_putI dX12_pull_2 fw_X12_109 rfl ?_
  refine xj_aload_n 0 dX12_pull_5 rfl ?_
  refine xj_aload_n 0 dX12_pull_6 rfl ?_
  refine xj_iload_n 1 dX12_pull_7 rfl ?_
  obtain ⟨z2, e1, h⟩ := bd1_some h
  refine xc_Vb0 (st := [vR 12 0]) (ok_X12_isPlace x1 (wr m 12 0 0 0) e1) dX12_pull_8 cv_X12_352 rfl rfl (Nat.le_of_ble_eq_true rfl) (by decide) (by decide) (by decide) (by decide) ?_
  refine xj_if_eq (tgt := 22) dX12_pull_11 (by decide) (fun c3 => ?_) (fun c3 => ?_)
  · rw [if_neg (b2i_f c3)] at h
    exact ok_X12_pull_j22 x1 x2 (wr m 12 0 0 0) h 
  · rw [if_pos (b2i_t c3)] at h
    refine xj_aload_n 0 dX12_pull_14 rfl ?_
    refine xj_iload_n 2 dX12_pull_15 rfl ?_
    obtain ⟨z5, e4, h⟩ := bd1_some h
    refine xc_Vb0 (st := [vR 12 0]) (ok_X12_isPlace x2 (wr m 12 0 0 0) e4) dX12_pull_16 cv_X12_352 rfl rfl (Nat.le_of_ble_eq_true rfl) (by decide) (by decide) (by decide) (by decide) ?_
    refine xj_if_ne (tgt := 26) dX12_pull_19 (by decide) (fun c6 => ?_) (fun c6 => ?_)
    · rw [if_pos (b2i_t c6)] at h
      refine xj_iconst (z := 0) dX12_pull_26 (by decide) ?_
      exact ok_X12_pull_j27 x1 x2 0 (wr m 12 0 0 0) h 
    · rw [if_neg (b2i_f c6)] at h
      exact ok_X12_pull_j22 x1 x2 (wr m 12 0 0 0) h 
noncomputable def r_X12_restore (m : Mem) : Option (Int32 × Mem) :=
  if (m 12 0 38) = 0 then (some ((-1), (wr m 12 0 0 0))) else (if inb ((m 12 0 38) - 1) 3 = true then (bd1 (r_X12_putsAll (((m 12 0 38) - 1).toNatClampNeg) 1 (wr (wr m 12 0 0 0) 12 0 38 ((m 12 0 38) - 1))) fun m4 => (some ((m4 12 0 38), (wr m4 12 0 37 0)))) else none)
set_option maxHeartbeats 4000000 in
set_option maxRecDepth 20000 in
theorem ok_X12_restore (m : Mem) {z : Int32} {m' : Mem} (h : r_X12_restore m = some (z, m')) : Mt yX12_restore cX12_restore 1 (some .int) 3 47 0 0 [vR 12 0] m (oI z) m' := by
  refine Mt.of (by decide) (Nat.le_of_ble_eq_true rfl) (by decide +kernel) (hhF_ne (by decide)) ?_
  show Xj RX12 cX12_restore 1 (some .int) 3 47 0 0 0 0 0 [(0, vR 12 0)] [] m (oI z) m'
  unfold r_X12_restore at h
  refine xj_aload_n 0 dX12_restore_0 rfl ?_
  refine xj_iconst (z := 0) dX12_restore_1 (by decide) ?_
  refine xj_putI dX12_restore_2 fw_X12_109 rfl ?_
  refine xj_aload_n 0 dX12_restore_5 rfl ?_
  refine xg_getI (x := (m 12 0 38)) dX12_restore_6 fl_X12_220 rfl rfl ?_
  refine xj_if_ne (tgt := 14) dX12_restore_9 (by decide) (fun c1 => ?_) (fun c1 => ?_)
  · rw [if_neg c1] at h
    refine xj_aload_n 0 dX12_restore_14 rfl ?_
    refine xj_dup dX12_restore_15 rfl ?_
    refine xg_getI (x := (m 12 0 38)) dX12_restore_16 fl_X12_220 rfl rfl ?_
    refine xj_iconst (z := 1) dX12_restore_19 (by decide) ?_
    refine xj_isub dX12_restore_20 ?_
    refine xj_putI dX12_restore_21 fw_X12_220 rfl ?_
    refine xj_aload_n 0 dX12_restore_24 rfl ?_
    refine xj_aload_n 0 dX12_restore_25 rfl ?_
    refine xg_getR (k' := 84) (i' := 0) dX12_restore_26 fl_X12_82 rfl ?_
    refine xj_aload_n 0 dX12_restore_29 rfl ?_
    refine xg_getI (x := ((m 12 0 38) - 1)) dX12_restore_30 fl_X12_220 rfl rfl ?_
    by_cases c2 : inb ((m 12 0 38) - 1) 3 = true
    case neg => rw [if_neg c2] at h; cases h
    rw [if_pos c2] at h
    refine xg_aald (k' := 83) (i' := (((m 12 0 38) - 1).toNatClampNeg)) (n := ((m 12 0 38) - 1).toNatClampNeg) dX12_restore_33 rfl (by decide) (inb_in c2) rfl rfl ?_
    refine xj_iconst (z := 1) dX12_restore_34 (by decide) ?_
    obtain ⟨m4, e3, h⟩ := bd1_some h
    refine xc_Vv0 (st := []) (ok_X12_putsAll (((m 12 0 38) - 1).toNatClampNeg) 1 (wr (wr m 12 0 0 0) 12 0 38 ((m 12 0 38) - 1)) e3) dX12_restore_35 cv_X12_429 rfl rfl (Nat.le_of_ble_eq_true rfl) (by decide) (by decide) (by decide) (by decide) ?_
    refine xj_aload_n 0 dX12_restore_38 rfl ?_
    refine xj_iconst (z := 0) dX12_restore_39 (by decide) ?_
    refine xj_putI dX12_restore_40 fw_X12_217 rfl ?_
    refine xj_aload_n 0 dX12_restore_43 rfl ?_
    refine xg_getI (x := (m4 12 0 38)) dX12_restore_44 fl_X12_220 rfl rfl ?_
    cases h
    exact xj_ireturn dX12_restore_47 rfl (by decide) (by decide)
  · rw [if_pos c1] at h
    refine xj_iconst (z := (-1)) dX12_restore_12 (by decide) ?_
    cases h
    exact xj_ireturn dX12_restore_13 rfl (by decide) (by decide)
noncomputable def r_X12_right_j134_c68 (x1 : Int32) (x2 : Int32) (x4 : Int32) (x5 : Int32) (s0 : Int32) (s1 : Int32) (m : Mem) : Option ((Int32 × Int32) ⊕ (Int32)) :=
  some (Sum.inl ((s1 ||| s0), x5 + 1))
set_option maxHeartbeats 4000000 in
set_option maxRecDepth 20000 in
theorem ok_X12_right_j134_c68 (x1 : Int32) (x2 : Int32) (x4 : Int32) (x5 : Int32) (s0 : Int32) (s1 : Int32) (m : Mem) {r : (Int32 × Int32) ⊕ (Int32)} (h : r_X12_right_j134_c68 x1 x2 x4 x5 s0 s1 m = some r) {o : Ou} {M' : Mem} (kb : ∀ (x3' : Int32) (x5' : Int32), r = Sum.inl (x3', x5') → Xj RX12 cX12_right 7 (some .int) 8 177 0 0 0 0 68 [(0, vR 12 0), (1, vI x1), (2, vI x2), (3, vI x3'), (4, vI x4), (5, vI x5')] [] m o M') (ke : ∀ (x3' : Int32), r = Sum.inr x3' → Xj RX12 cX12_right 7 (some .int) 8 177 0 0 0 0 142 [(3, vI x3')] [] m o M') : Xj RX12 cX12_right 7 (some .int) 8 177 0 0 0 0 134 [(0, vR 12 0), (1, vI x1), (2, vI x2), (4, vI x4), (5, vI x5)] [vI s0, vI s1] m o M' := by
  unfold r_X12_right_j134_c68 at h
  refine xj_ior dX12_right_134 ?_
  refine xj_istore_n (ls' := [(3, vI (s1 ||| s0)), (0, vR 12 0), (1, vI x1), (2, vI x2), (4, vI x4), (5, vI x5)]) dX12_right_135 rfl (by decide) rfl ?_
  refine xj_iinc (z := x5 + 1) (ls' := [(5, vI (x5 + 1)), (3, vI (s1 ||| s0)), (0, vR 12 0), (1, vI x1), (2, vI x2), (4, vI x4)]) 5 dX12_right_136 rfl rfl (by decide) rfl ?_
  refine xj_goto (tgt := 68) dX12_right_139 (by decide) ?_
  cases h
  refine xj_pick (ls' := [(0, vR 12 0), (1, vI x1), (2, vI x2), (3, vI (s1 ||| s0)), (4, vI x4), (5, vI (x5 + 1))]) [2, 3, 4, 1, 5, 0] rfl ?_
  exact kb (s1 ||| s0) (x5 + 1) rfl
noncomputable def r_X12_right_j133_c68 (x1 : Int32) (x2 : Int32) (x4 : Int32) (x5 : Int32) (s0 : Int32) (m : Mem) : Option ((Int32 × Int32) ⊕ (Int32)) :=
  r_X12_right_j134_c68 x1 x2 x4 x5 0 s0 m
set_option maxHeartbeats 4000000 in
set_option maxRecDepth 20000 in
theorem ok_X12_right_j133_c68 (x1 : Int32) (x2 : Int32) (x4 : Int32) (x5 : Int32) (s0 : Int32) (m : Mem) {r : (Int32 × Int32) ⊕ (Int32)} (h : r_X12_right_j133_c68 x1 x2 x4 x5 s0 m = some r) {o : Ou} {M' : Mem} (kb : ∀ (x3' : Int32) (x5' : Int32), r = Sum.inl (x3', x5') → Xj RX12 cX12_right 7 (some .int) 8 177 0 0 0 0 68 [(0, vR 12 0), (1, vI x1), (2, vI x2), (3, vI x3'), (4, vI x4), (5, vI x5')] [] m o M') (ke : ∀ (x3' : Int32), r = Sum.inr x3' → Xj RX12 cX12_right 7 (some .int) 8 177 0 0 0 0 142 [(3, vI x3')] [] m o M') : Xj RX12 cX12_right 7 (some .int) 8 177 0 0 0 0 133 [(0, vR 12 0), (1, vI x1), (2, vI x2), (4, vI x4), (5, vI x5)] [vI s0] m o M' := by
  unfold r_X12_right_j133_c68 at h
  refine xj_iconst (z := 0) dX12_right_133 (by decide) ?_
  exact ok_X12_right_j134_c68 x1 x2 x4 x5 0 s0 m h kb ke
noncomputable def r_X12_right_j123_c68 (x1 : Int32) (x2 : Int32) (x4 : Int32) (x5 : Int32) (s0 : Int32) (s1 : Int32) (s2 : Int32) (m : Mem) : Option ((Int32 × Int32) ⊕ (Int32)) :=
  if s1 = s0 then (r_X12_right_j134_c68 x1 x2 x4 x5 (1 <<< (x5 &&& 31)) s2 m) else (r_X12_right_j133_c68 x1 x2 x4 x5 s2 m)
set_option maxHeartbeats 4000000 in
set_option maxRecDepth 20000 in
theorem ok_X12_right_j123_c68 (x1 : Int32) (x2 : Int32) (x4 : Int32) (x5 : Int32) (s0 : Int32) (s1 : Int32) (s2 : Int32) (m : Mem) {r : (Int32 × Int32) ⊕ (Int32)} (h : r_X12_right_j123_c68 x1 x2 x4 x5 s0 s1 s2 m = some r) {o : Ou} {M' : Mem} (kb : ∀ (x3' : Int32) (x5' : Int32), r = Sum.inl (x3', x5') → Xj RX12 cX12_right 7 (some .int) 8 177 0 0 0 0 68 [(0, vR 12 0), (1, vI x1), (2, vI x2), (3, vI x3'), (4, vI x4), (5, vI x5')] [] m o M') (ke : ∀ (x3' : Int32), r = Sum.inr x3' → Xj RX12 cX12_right 7 (some .int) 8 177 0 0 0 0 142 [(3, vI x3')] [] m o M') : Xj RX12 cX12_right 7 (some .int) 8 177 0 0 0 0 123 [(0, vR 12 0), (1, vI x1), (2, vI x2), (4, vI x4), (5, vI x5)] [vI s0, vI s1, vI s2] m o M' := by
  unfold r_X12_right_j123_c68 at h
  refine xj_icmp_ne (tgt := 133) dX12_right_123 (by decide) (fun c21 => ?_) (fun c21 => ?_)
  · rw [if_neg c21] at h
    exact ok_X12_right_j133_c68 x1 x2 x4 x5 s2 m h kb ke
  · rw [if_pos c21] at h
    refine xj_iconst (z := 1) dX12_right_126 (by decide) ?_
    refine xj_iload 4 dX12_right_127 rfl ?_
    refine xj_ishl dX12_right_129 ?_
    refine xj_goto (tgt := 134) dX12_right_130 (by decide) ?_
    exact ok_X12_right_j134_c68 x1 x2 x4 x5 (1 <<< (x5 &&& 31)) s2 m h kb ke
noncomputable def r_X12_right_j114_c68 (x1 : Int32) (x2 : Int32) (x4 : Int32) (x5 : Int32) (s0 : Int32) (s1 : Int32) (m : Mem) : Option ((Int32 × Int32) ⊕ (Int32)) :=
  if x2 = 0 then (r_X12_right_j123_c68 x1 x2 x4 x5 1 s0 s1 m) else (r_X12_right_j123_c68 x1 x2 x4 x5 0 s0 s1 m)
set_option maxHeartbeats 4000000 in
set_option maxRecDepth 20000 in
theorem ok_X12_right_j114_c68 (x1 : Int32) (x2 : Int32) (x4 : Int32) (x5 : Int32) (s0 : Int32) (s1 : Int32) (m : Mem) {r : (Int32 × Int32) ⊕ (Int32)} (h : r_X12_right_j114_c68 x1 x2 x4 x5 s0 s1 m = some r) {o : Ou} {M' : Mem} (kb : ∀ (x3' : Int32) (x5' : Int32), r = Sum.inl (x3', x5') → Xj RX12 cX12_right 7 (some .int) 8 177 0 0 0 0 68 [(0, vR 12 0), (1, vI x1), (2, vI x2), (3, vI x3'), (4, vI x4), (5, vI x5')] [] m o M') (ke : ∀ (x3' : Int32), r = Sum.inr x3' → Xj RX12 cX12_right 7 (some .int) 8 177 0 0 0 0 142 [(3, vI x3')] [] m o M') : Xj RX12 cX12_right 7 (some .int) 8 177 0 0 0 0 114 [(0, vR 12 0), (1, vI x1), (2, vI x2), (4, vI x4), (5, vI x5)] [vI s0, vI s1] m o M' := by
  unfold r_X12_right_j114_c68 at h
  refine xj_iload_n 2 dX12_right_114 rfl ?_
  refine xj_if_ne (tgt := 122) dX12_right_115 (by decide) (fun c20 => ?_) (fun c20 => ?_)
  · rw [if_neg c20] at h
    refine xj_iconst (z := 0) dX12_right_122 (by decide) ?_
    exact ok_X12_right_j123_c68 x1 x2 x4 x5 0 s0 s1 m h kb ke
  · rw [if_pos c20] at h
    refine xj_iconst (z := 1) dX12_right_118 (by decide) ?_
    refine xj_goto (tgt := 123) dX12_right_119 (by decide) ?_
    exact ok_X12_right_j123_c68 x1 x2 x4 x5 1 s0 s1 m h kb ke
noncomputable def r_X12_right_b68 (x1 : Int32) (x2 : Int32) (x4 : Int32) (m : Mem) (x3 : Int32) (x5 : Int32) : Option ((Int32 × Int32) ⊕ (Int32)) :=
  if (m 52 0 2) ≤ x5 then (some (Sum.inr x3)) else (if inb ((0 + (12 * x5)) + x1) 111 = true then (if (m 60 0 (((0 + (12 * x5)) + x1).toNatClampNeg)) = (-1) then (r_X12_right_j133_c68 x1 x2 x4 x5 x3 m) else (if (m 60 0 (((0 + (12 * x5)) + x1).toNatClampNeg)) = x4 then (r_X12_right_j114_c68 x1 x2 x4 x5 1 x3 m) else (r_X12_right_j114_c68 x1 x2 x4 x5 0 x3 m))) else none)
set_option maxHeartbeats 4000000 in
set_option maxRecDepth 20000 in
theorem ok_X12_right_b68 (x1 : Int32) (x2 : Int32) (x4 : Int32) (m : Mem) (x3 : Int32) (x5 : Int32) {r : (Int32 × Int32) ⊕ (Int32)} (h : r_X12_right_b68 x1 x2 x4 m x3 x5 = some r) {o : Ou} {M' : Mem} (kb : ∀ (x3' : Int32) (x5' : Int32), r = Sum.inl (x3', x5') → Xj RX12 cX12_right 7 (some .int) 8 177 0 0 0 0 68 [(0, vR 12 0), (1, vI x1), (2, vI x2), (3, vI x3'), (4, vI x4), (5, vI x5')] [] m o M') (ke : ∀ (x3' : Int32), r = Sum.inr x3' → Xj RX12 cX12_right 7 (some .int) 8 177 0 0 0 0 142 [(3, vI x3')] [] m o M') : Xj RX12 cX12_right 7 (some .int) 8 177 0 0 0 0 68 [(0, vR 12 0), (1, vI x1), (2, vI x2), (3, vI x3), (4, vI x4), (5, vI x5)] [] m o M' := by
  unfold r_X12_right_b68 at h
  refine xj_iload 5 dX12_right_68 rfl ?_
  refine xj_aload_n 0 dX12_right_70 rfl ?_
  refine xg_getR (k' := 52) (i' := 0) dX12_right_71 fl_X12_23 rfl ?_
  refine xj_iconst (z := 2) dX12_right_74 (by decide) ?_
  refine xg_iald (z := (m 52 0 2)) (n := 2) dX12_right_75 rfl (by decide) (inb_in (by decide)) (by decide) rfl ?_
  refine xj_icmp_ge (tgt := 142) dX12_right_76 (by decide) (fun c16 => ?_) (fun c16 => ?_)
  · rw [if_pos c16] at h
    cases h
    refine xj_pick (ls' := [(3, vI x3)]) [3] rfl ?_
    exact ke x3 rfl
  · rw [if_neg c16] at h
    refine xj_aload_n 0 dX12_right_79 rfl ?_
    refine xg_getR (k' := 60) (i' := 0) dX12_right_80 fl_X12_73 rfl ?_
    refine xj_iconst (z := 0) dX12_right_83 (by decide) ?_
    refine xj_bipush (z := 12) dX12_right_84 (by decide) ?_
    refine xj_iload 5 dX12_right_86 rfl ?_
    refine xj_imul dX12_right_88 ?_
    refine xj_iadd dX12_right_89 ?_
    refine xj_iload_n 1 dX12_right_90 rfl ?_
    refine xj_iadd dX12_right_91 ?_
    by_cases c17 : inb ((0 + (12 * x5)) + x1) 111 = true
    case neg => rw [if_neg c17] at h; cases h
    rw [if_pos c17] at h
    refine xg_iald (z := (m 60 0 (((0 + (12 * x5)) + x1).toNatClampNeg))) (n := ((0 + (12 * x5)) + x1).toNatClampNeg) dX12_right_92 rfl (by decide) (inb_in c17) rfl rfl ?_
    refine xj_istore (ls' := [(6, vI (m 60 0 (((0 + (12 * x5)) + x1).toNatClampNeg))), (0, vR 12 0), (1, vI x1), (2, vI x2), (3, vI x3), (4, vI x4), (5, vI x5)]) dX12_right_93 (by decide) rfl ?_
    refine xj_iload_n 4 dX12_right_95 rfl ?_
    refine xj_iload 0 dX12_right_96 rfl ?_
    refine xj_iconst (z := (-1)) dX12_right_98 (by decide) ?_
    refine xj_icmp_eq (tgt := 133) dX12_right_99 (by decide) (fun c18 => ?_) (fun c18 => ?_)
    · rw [if_pos c18] at h
      refine xj_pick (ls' := [(0, vR 12 0), (1, vI x1), (2, vI x2), (4, vI x4), (5, vI x5)]) [1, 2, 3, 5, 6] rfl ?_
      exact ok_X12_right_j133_c68 x1 x2 x4 x5 x3 m h kb ke
    · rw [if_neg c18] at h
      refine xj_iload 0 dX12_right_102 rfl ?_
      refine xj_iload 5 dX12_right_104 rfl ?_
      refine xj_icmp_ne (tgt := 113) dX12_right_106 (by decide) (fun c19 => ?_) (fun c19 => ?_)
      · rw [if_neg c19] at h
        refine xj_iconst (z := 0) dX12_right_113 (by decide) ?_
        refine xj_pick (ls' := [(0, vR 12 0), (1, vI x1), (2, vI x2), (4, vI x4), (5, vI x5)]) [1, 2, 3, 5, 6] rfl ?_
        exact ok_X12_right_j114_c68 x1 x2 x4 x5 0 x3 m h kb ke
      · rw [if_pos c19] at h
        refine xj_iconst (z := 1) dX12_right_109 (by decide) ?_
        refine xj_goto (tgt := 114) dX12_right_110 (by decide) ?_
        refine xj_pick (ls' := [(0, vR 12 0), (1, vI x1), (2, vI x2), (4, vI x4), (5, vI x5)]) [1, 2, 3, 5, 6] rfl ?_
        exact ok_X12_right_j114_c68 x1 x2 x4 x5 1 x3 m h kb ke
noncomputable def r_X12_right_e142_h68 (x3 : Int32) (m : Mem) : Option (Int32 × Mem) :=
  some (x3, m)
set_option maxHeartbeats 4000000 in
set_option maxRecDepth 20000 in
theorem ok_X12_right_e142_h68 (x3 : Int32) (m : Mem) {z : Int32} {m' : Mem} (h : r_X12_right_e142_h68 x3 m = some (z, m')) : Xj RX12 cX12_right 7 (some .int) 8 177 0 0 0 0 142 [(3, vI x3)] [] m (oI z) m' := by
  unfold r_X12_right_e142_h68 at h
  refine xj_iload_n 0 dX12_right_142 rfl ?_
  cases h
  exact xj_ireturn dX12_right_143 rfl (by decide) (by decide)
noncomputable def r_X12_right_l68 (x1 : Int32) (x2 : Int32) (x3 : Int32) (x4 : Int32) (x5 : Int32) (m : Mem) : Option (Int32 × Mem) :=
  bd1 (loopO (fun s => r_X12_right_b68 x1 x2 x4 m s.1 s.2) (x3, x5)) (fun e => r_X12_right_e142_h68 e m)
set_option maxHeartbeats 4000000 in
set_option maxRecDepth 20000 in
theorem ok_X12_right_l68 (x1 : Int32) (x2 : Int32) (x3 : Int32) (x4 : Int32) (x5 : Int32) (m : Mem) {z : Int32} {m' : Mem} (h : r_X12_right_l68 x1 x2 x3 x4 x5 m = some (z, m')) : Xj RX12 cX12_right 7 (some .int) 8 177 0 0 0 0 68 [(0, vR 12 0), (1, vI x1), (2, vI x2), (3, vI x3), (4, vI x4), (5, vI x5)] [] m (oI z) m' := by
  unfold r_X12_right_l68 at h
  obtain ⟨e, e1, h⟩ := bd1_some h
  refine loopO_ok (P := fun s : (Int32 × Int32) => Xj RX12 cX12_right 7 (some .int) 8 177 0 0 0 0 68 [(0, vR 12 0), (1, vI x1), (2, vI x2), (3, vI s.1), (4, vI x4), (5, vI s.2)] [] m (oI z) m') (Q := fun e : (Int32) => Xj RX12 cX12_right 7 (some .int) 8 177 0 0 0 0 142 [(3, vI e)] [] m (oI z) m') ?_ _ _ e1 ?_
  · intro s r9 h9 hi hx
    exact ok_X12_right_b68 x1 x2 x4 m s.1 s.2 h9 (by rintro _ _ rfl; exact hi _ rfl) (by rintro _ rfl; exact hx _ rfl)
  · exact ok_X12_right_e142_h68 e m h 
noncomputable def r_X12_right_j42 (x1 : Int32) (x2 : Int32) (s0 : Int32) (m : Mem) : Option (Int32 × Mem) :=
  bd2 (r_X12_bad s0 2 1 m) fun z11 m10 => (if z11 = true then (some (0, m10)) else (bd2 (r_X12_nextOf 0 x1 m10) fun z15 m14 => (r_X12_right_l68 x1 x2 0 z15 0 m14)))
set_option maxHeartbeats 4000000 in
set_option maxRecDepth 20000 in
theorem ok_X12_right_j42 (x1 : Int32) (x2 : Int32) (s0 : Int32) (m : Mem) {z : Int32} {m' : Mem} (h : r_X12_right_j42 x1 x2 s0 m = some (z, m')) : Xj RX12 cX12_right 7 (some .int) 8 177 0 0 0 0 42 [(0, vR 12 0), (1, vI x1), (2, vI x2)] [vI s0, vR 12 0] m (oI z) m' := by
  unfold r_X12_right_j42 at h
  refine xj_iconst (z := 2) dX12_right_42 (by decide) ?_
  refine xj_iconst (z := 1) dX12_right_43 (by decide) ?_
  obtain ⟨z11, m10, e9, h⟩ := bd2_some h
  refine xc_Vb0 (st := []) (ok_X12_bad s0 2 1 m e9) dX12_right_44 cv_X12_191 rfl rfl (Nat.le_of_ble_eq_true rfl) (by decide) (by decide) (by decide) (by decide) ?_
  refine xj_if_eq (tgt := 52) dX12_right_47 (by decide) (fun c12 => ?_) (fun c12 => ?_)
  · rw [if_neg (b2i_f c12)] at h
    refine xj_iconst (z := 0) dX12_right_52 (by decide) ?_
    refine xj_istore_n (ls' := [(3, vI 0), (0, vR 12 0), (1, vI x1), (2, vI x2)]) dX12_right_53 rfl (by decide) rfl ?_
    refine xj_aload_n 1 dX12_right_54 rfl ?_
    refine xj_aload_n 1 dX12_right_55 rfl ?_
    refine xg_getR (k' := 60) (i' := 0) dX12_right_56 fl_X12_73 rfl ?_
    refine xj_iload_n 2 dX12_right_59 rfl ?_
    obtain ⟨z15, m14, e13, h⟩ := bd2_some h
    refine xc_Vi0 (st := []) (ok_X12_nextOf 0 x1 m10 e13) dX12_right_60 cv_X12_301 rfl rfl (Nat.le_of_ble_eq_true rfl) (by decide) (by decide) (by decide) (by decide) ?_
    refine xj_istore (ls' := [(4, vI z15), (3, vI 0), (0, vR 12 0), (1, vI x1), (2, vI x2)]) dX12_right_63 (by decide) rfl ?_
    refine xj_iconst (z := 0) dX12_right_65 (by decide) ?_
    refine xj_istore (ls' := [(5, vI 0), (4, vI z15), (3, vI 0), (0, vR 12 0), (1, vI x1), (2, vI x2)]) dX12_right_66 (by decide) rfl ?_
    refine xj_pick (ls' := [(0, vR 12 0), (1, vI x1), (2, vI x2), (3, vI 0), (4, vI z15), (5, vI 0)]) [3, 4, 5, 2, 1, 0] rfl ?_
    exact ok_X12_right_l68 x1 x2 0 z15 0 m14 h 
  · rw [if_pos (b2i_t c12)] at h
    refine xj_iconst (z := 0) dX12_right_50 (by decide) ?_
    cases h
    exact xj_ireturn dX12_right_51 rfl (by decide) (by decide)
noncomputable def r_X12_right_j19 (x1 : Int32) (x2 : Int32) (s0 : Int32) (m : Mem) : Option (Int32 × Mem) :=
  bd2 (r_X12_bad s0 1 0 m) fun z6 m5 => (if z6 = true then (some (0, m5)) else (if (r_X12_in x2 0 1) = true then (r_X12_right_j42 x1 x2 0 m5) else (r_X12_right_j42 x1 x2 1 m5)))
set_option maxHeartbeats 4000000 in
set_option maxRecDepth 20000 in
theorem ok_X12_right_j19 (x1 : Int32) (x2 : Int32) (s0 : Int32) (m : Mem) {z : Int32} {m' : Mem} (h : r_X12_right_j19 x1 x2 s0 m = some (z, m')) : Xj RX12 cX12_right 7 (some .int) 8 177 0 0 0 0 19 [(0, vR 12 0), (1, vI x1), (2, vI x2)] [vI s0, vR 12 0] m (oI z) m' := by
  unfold r_X12_right_j19 at h
  refine xj_iconst (z := 1) dX12_right_19 (by decide) ?_
  refine xj_iconst (z := 0) dX12_right_20 (by decide) ?_
  obtain ⟨z6, m5, e4, h⟩ := bd2_some h
  refine xc_Vb0 (st := []) (ok_X12_bad s0 1 0 m e4) dX12_right_21 cv_X12_191 rfl rfl (Nat.le_of_ble_eq_true rfl) (by decide) (by decide) (by decide) (by decide) ?_
  refine xj_if_ne (tgt := 50) dX12_right_24 (by decide) (fun c7 => ?_) (fun c7 => ?_)
  · rw [if_pos (b2i_t c7)] at h
    refine xj_iconst (z := 0) dX12_right_50 (by decide) ?_
    cases h
    exact xj_ireturn dX12_right_51 rfl (by decide) (by decide)
  · rw [if_neg (b2i_f c7)] at h
    refine xj_aload_n 0 dX12_right_27 rfl ?_
    refine xj_iload_n 2 dX12_right_28 rfl ?_
    refine xj_iconst (z := 0) dX12_right_29 (by decide) ?_
    refine xj_iconst (z := 1) dX12_right_30 (by decide) ?_
    refine xc_Sb0 (st := [vR 12 0]) (ok_X12_in x2 0 1 m5 rfl) dX12_right_31 cs_X12_143 rfl rfl (Nat.le_of_ble_eq_true rfl) (by decide) (by decide) (by decide) (by decide) ?_
    refine xj_if_ne (tgt := 41) dX12_right_34 (by decide) (fun c8 => ?_) (fun c8 => ?_)
    · rw [if_pos (b2i_t c8)] at h
      refine xj_iconst (z := 0) dX12_right_41 (by decide) ?_
      exact ok_X12_right_j42 x1 x2 0 m5 h 
    · rw [if_neg (b2i_f c8)] at h
      refine xj_iconst (z := 1) dX12_right_37 (by decide) ?_
      refine xj_goto (tgt := 42) dX12_right_38 (by decide) ?_
      exact ok_X12_right_j42 x1 x2 1 m5 h 
noncomputable def r_X12_right (x1 : Int32) (x2 : Int32) (m : Mem) : Option (Int32 × Mem) :=
  bd1 (r_X12_isPlace x1 (wr m 12 0 0 0)) fun z2 => (if z2 = true then (r_X12_right_j19 x1 x2 0 (wr m 12 0 0 0)) else (r_X12_right_j19 x1 x2 1 (wr m 12 0 0 0)))
set_option maxHeartbeats 4000000 in
set_option maxRecDepth 20000 in
theorem ok_X12_right (x1 : Int32) (x2 : Int32) (m : Mem) {z : Int32} {m' : Mem} (h : r_X12_right x1 x2 m = some (z, m')) : Mt yX12_right cX12_right 7 (some .int) 8 177 0 0 [vR 12 0, vI x1, vI x2] m (oI z) m' := by
  refine Mt.of (by decide) (Nat.le_of_ble_eq_true rfl) (by decide +kernel) (hhF_ne (by decide)) ?_
  show Xj RX12 cX12_right 7 (some .int) 8 177 0 0 0 0 0 [(0, vR 12 0), (1, vI x1), (2, vI x2)] [] m (oI z) m'
  unfold r_X12_right at h
  refine xj_aload_n 0 dX12_right_0 rfl ?_
  refine xj_iconst (z := 0) dX12_right_1 (by decide) ?_
  refine xj_putI dX12_right_2 fw_X12_109 rfl ?_
  refine xj_aload_n 0 dX12_right_5 rfl ?_
  refine xj_aload_n 0 dX12_right_6 rfl ?_
  refine xj_iload_n 1 dX12_right_7 rfl ?_
  obtain ⟨z2, e1, h⟩ := bd1_some h
  refine xc_Vb0 (st := [vR 12 0]) (ok_X12_isPlace x1 (wr m 12 0 0 0) e1) dX12_right_8 cv_X12_352 rfl rfl (Nat.le_of_ble_eq_true rfl) (by decide) (by decide) (by decide) (by decide) ?_
  refine xj_if_ne (tgt := 18) dX12_right_11 (by decide) (fun c3 => ?_) (fun c3 => ?_)
  · rw [if_pos (b2i_t c3)] at h
    refine xj_iconst (z := 0) dX12_right_18 (by decide) ?_
    exact ok_X12_right_j19 x1 x2 0 (wr m 12 0 0 0) h 
  · rw [if_neg (b2i_f c3)] at h
    refine xj_iconst (z := 1) dX12_right_14 (by decide) ?_
    refine xj_goto (tgt := 19) dX12_right_15 (by decide) ?_
    exact ok_X12_right_j19 x1 x2 1 (wr m 12 0 0 0) h 
noncomputable def r_X12_seen_b66 (x1 : Int32) (x2 : Int32) (x3 : Int32) (y8 : Int64) (m : Mem) (y4 : Int64) (y6 : Int64) (x10 : Int32) : Option ((Int64 × Int64 × Int32) ⊕ (Int64 × Int64)) :=
  if x1 ≤ x10 then (some (Sum.inr (y4, y6))) else (some (Sum.inl ((y4 * ((16 - x2).toInt64)), ((y6 * ((16 - x2).toInt64)) + (y4 * x2.toInt64)), x10 + 1)))
set_option maxHeartbeats 4000000 in
set_option maxRecDepth 20000 in
theorem ok_X12_seen_b66 (x1 : Int32) (x2 : Int32) (x3 : Int32) (y8 : Int64) (m : Mem) (y4 : Int64) (y6 : Int64) (x10 : Int32) {r : (Int64 × Int64 × Int32) ⊕ (Int64 × Int64)} (h : r_X12_seen_b66 x1 x2 x3 y8 m y4 y6 x10 = some r) {o : Ou} {M' : Mem} (kb : ∀ (y4' : Int64) (y6' : Int64) (x10' : Int32), r = Sum.inl (y4', y6', x10') → Xj RX12 cX12_seen 18 (some .long) 2 23 0 0 0 0 66 [(1, vI x1), (2, vI x2), (3, vI x3), (4, vL y4'), (6, vL y6'), (8, vL y8), (10, vI x10')] [] m o M') (ke : ∀ (y4' : Int64) (y6' : Int64), r = Sum.inr (y4', y6') → Xj RX12 cX12_seen 18 (some .long) 2 23 0 0 0 0 104 [(3, vI x3), (4, vL y4'), (6, vL y6'), (8, vL y8)] [] m o M') : Xj RX12 cX12_seen 18 (some .long) 2 23 0 0 0 0 66 [(1, vI x1), (2, vI x2), (3, vI x3), (4, vL y4), (6, vL y6), (8, vL y8), (10, vI x10)] [] m o M' := by
  unfold r_X12_seen_b66 at h
  refine xj_iload 6 dX12_seen_66 rfl ?_
  refine xj_iload_n 0 dX12_seen_68 rfl ?_
  refine xj_icmp_ge (tgt := 104) dX12_seen_69 (by decide) (fun c8 => ?_) (fun c8 => ?_)
  · rw [if_pos c8] at h
    cases h
    refine xj_pick (ls' := [(3, vI x3), (4, vL y4), (6, vL y6), (8, vL y8)]) [2, 3, 4, 5] rfl ?_
    exact ke y4 y6 rfl
  · rw [if_neg c8] at h
    refine xj_lload 4 dX12_seen_72 rfl ?_
    refine xj_bipush (z := 16) dX12_seen_74 (by decide) ?_
    refine xj_iload_n 1 dX12_seen_76 rfl ?_
    refine xj_isub dX12_seen_77 ?_
    refine xj_i2l dX12_seen_78 ?_
    refine xj_lmul dX12_seen_79 ?_
    refine xj_lload 3 dX12_seen_80 rfl ?_
    refine xj_iload_n 1 dX12_seen_82 rfl ?_
    refine xj_i2l dX12_seen_83 ?_
    refine xj_lmul dX12_seen_84 ?_
    refine xj_ladd dX12_seen_85 ?_
    refine xj_lstore (ls' := [(6, vL ((y6 * ((16 - x2).toInt64)) + (y4 * x2.toInt64))), (1, vI x1), (2, vI x2), (3, vI x3), (4, vL y4), (8, vL y8), (10, vI x10)]) dX12_seen_86 (by decide) rfl ?_
    refine xj_lload 4 dX12_seen_88 rfl ?_
    refine xj_bipush (z := 16) dX12_seen_90 (by decide) ?_
    refine xj_iload_n 2 dX12_seen_92 rfl ?_
    refine xj_isub dX12_seen_93 ?_
    refine xj_i2l dX12_seen_94 ?_
    refine xj_lmul dX12_seen_95 ?_
    refine xj_lstore (ls' := [(4, vL (y4 * ((16 - x2).toInt64))), (6, vL ((y6 * ((16 - x2).toInt64)) + (y4 * x2.toInt64))), (1, vI x1), (2, vI x2), (3, vI x3), (8, vL y8), (10, vI x10)]) dX12_seen_96 (by decide) rfl ?_
    refine xj_iinc (z := x10 + 1) (ls' := [(10, vI (x10 + 1)), (4, vL (y4 * ((16 - x2).toInt64))), (6, vL ((y6 * ((16 - x2).toInt64)) + (y4 * x2.toInt64))), (1, vI x1), (2, vI x2), (3, vI x3), (8, vL y8)]) 6 dX12_seen_98 rfl rfl (by decide) rfl ?_
    refine xj_goto (tgt := 66) dX12_seen_101 (by decide) ?_
    cases h
    refine xj_pick (ls' := [(1, vI x1), (2, vI x2), (3, vI x3), (4, vL (y4 * ((16 - x2).toInt64))), (6, vL ((y6 * ((16 - x2).toInt64)) + (y4 * x2.toInt64))), (8, vL y8), (10, vI (x10 + 1))]) [3, 4, 5, 1, 2, 6, 0] rfl ?_
    exact kb (y4 * ((16 - x2).toInt64)) ((y6 * ((16 - x2).toInt64)) + (y4 * x2.toInt64)) (x10 + 1) rfl
noncomputable def r_X12_seen_b122 (x3 : Int32) (y8 : Int64) (y10 : Int64) (m : Mem) (y12 : Int64) (y14 : Int64) : Option ((Int64 × Int64) ⊕ (Int64)) :=
  if (lg_cmp y14 0) = 0 then (some (Sum.inr y12)) else (if y14 = 0 then none else (some (Sum.inl (y14, (remL y12 y14)))))
set_option maxHeartbeats 4000000 in
set_option maxRecDepth 20000 in
theorem ok_X12_seen_b122 (x3 : Int32) (y8 : Int64) (y10 : Int64) (m : Mem) (y12 : Int64) (y14 : Int64) {r : (Int64 × Int64) ⊕ (Int64)} (h : r_X12_seen_b122 x3 y8 y10 m y12 y14 = some r) {o : Ou} {M' : Mem} (kb : ∀ (y12' : Int64) (y14' : Int64), r = Sum.inl (y12', y14') → Xj RX12 cX12_seen 18 (some .long) 2 23 0 0 0 0 122 [(3, vI x3), (8, vL y8), (10, vL y10), (12, vL y12'), (14, vL y14')] [] m o M') (ke : ∀ (y12' : Int64), r = Sum.inr y12' → Xj RX12 cX12_seen 18 (some .long) 2 23 0 0 0 0 147 [(3, vI x3), (8, vL y8), (10, vL y10), (12, vL y12')] [] m o M') : Xj RX12 cX12_seen 18 (some .long) 2 23 0 0 0 0 122 [(3, vI x3), (8, vL y8), (10, vL y10), (12, vL y12), (14, vL y14)] [] m o M' := by
  unfold r_X12_seen_b122 at h
  refine xj_lload 4 dX12_seen_122 rfl ?_
  refine xj_lconst (z := 0) dX12_seen_124 (by decide) ?_
  refine xj_lcmp dX12_seen_125 ?_
  refine xj_if_eq (tgt := 147) dX12_seen_126 (by decide) (fun c9 => ?_) (fun c9 => ?_)
  · rw [if_pos c9] at h
    cases h
    refine xj_pick (ls' := [(3, vI x3), (8, vL y8), (10, vL y10), (12, vL y12)]) [0, 1, 2, 3] rfl ?_
    exact ke y12 rfl
  · rw [if_neg c9] at h
    refine xj_lload 3 dX12_seen_129 rfl ?_
    refine xj_lload 4 dX12_seen_131 rfl ?_
    by_cases c10 : y14 = 0
    · rw [if_pos c10] at h; cases h
    rw [if_neg c10] at h
    refine xg_lrem dX12_seen_133 c10 ?_
    refine xj_lstore (ls' := [(16, vL (remL y12 y14)), (3, vI x3), (8, vL y8), (10, vL y10), (12, vL y12), (14, vL y14)]) dX12_seen_134 (by decide) rfl ?_
    refine xj_lload 5 dX12_seen_136 rfl ?_
    refine xj_lstore (ls' := [(12, vL y14), (16, vL (remL y12 y14)), (3, vI x3), (8, vL y8), (10, vL y10), (14, vL y14)]) dX12_seen_138 (by decide) rfl ?_
    refine xj_lload 1 dX12_seen_140 rfl ?_
    refine xj_lstore (ls' := [(14, vL (remL y12 y14)), (12, vL y14), (16, vL (remL y12 y14)), (3, vI x3), (8, vL y8), (10, vL y10)]) dX12_seen_142 (by decide) rfl ?_
    refine xj_goto (tgt := 122) dX12_seen_144 (by decide) ?_
    cases h
    refine xj_pick (ls' := [(3, vI x3), (8, vL y8), (10, vL y10), (12, vL y14), (14, vL (remL y12 y14))]) [3, 4, 5, 1, 0] rfl ?_
    exact kb y14 (remL y12 y14) rfl
noncomputable def r_X12_seen_e147_h122 (x3 : Int32) (y8 : Int64) (y10 : Int64) (y12 : Int64) (m : Mem) : Option (Int64 × Mem) :=
  if x3 = 0 then (if y12 = 0 then none else (some ((y10 / y12), m))) else (if y12 = 0 then none else (some ((y8 / y12), m)))
set_option maxHeartbeats 4000000 in
set_option maxRecDepth 20000 in
theorem ok_X12_seen_e147_h122 (x3 : Int32) (y8 : Int64) (y10 : Int64) (y12 : Int64) (m : Mem) {z : Int64} {m' : Mem} (h : r_X12_seen_e147_h122 x3 y8 y10 y12 m = some (z, m')) : Xj RX12 cX12_seen 18 (some .long) 2 23 0 0 0 0 147 [(3, vI x3), (8, vL y8), (10, vL y10), (12, vL y12)] [] m (oL z) m' := by
  unfold r_X12_seen_e147_h122 at h
  refine xj_iload_n 0 dX12_seen_147 rfl ?_
  refine xj_if_ne (tgt := 159) dX12_seen_148 (by decide) (fun c11 => ?_) (fun c11 => ?_)
  · rw [if_neg c11] at h
    refine xj_lload 1 dX12_seen_159 rfl ?_
    refine xj_lload 3 dX12_seen_161 rfl ?_
    by_cases c13 : y12 = 0
    · rw [if_pos c13] at h; cases h
    rw [if_neg c13] at h
    refine xj_ldiv dX12_seen_163 c13 ?_
    cases h
    exact xj_lreturn dX12_seen_164 (by decide) (by decide)
  · rw [if_pos c11] at h
    refine xj_lload 2 dX12_seen_151 rfl ?_
    refine xj_lload 3 dX12_seen_153 rfl ?_
    by_cases c12 : y12 = 0
    · rw [if_pos c12] at h; cases h
    rw [if_neg c12] at h
    refine xj_ldiv dX12_seen_155 c12 ?_
    refine xj_goto (tgt := 164) dX12_seen_156 (by decide) ?_
    cases h
    exact xj_lreturn dX12_seen_164 (by decide) (by decide)
noncomputable def r_X12_seen_l122 (x3 : Int32) (y8 : Int64) (y10 : Int64) (y12 : Int64) (y14 : Int64) (m : Mem) : Option (Int64 × Mem) :=
  bd1 (loopO (fun s => r_X12_seen_b122 x3 y8 y10 m s.1 s.2) (y12, y14)) (fun e => r_X12_seen_e147_h122 x3 y8 y10 e m)
set_option maxHeartbeats 4000000 in
set_option maxRecDepth 20000 in
theorem ok_X12_seen_l122 (x3 : Int32) (y8 : Int64) (y10 : Int64) (y12 : Int64) (y14 : Int64) (m : Mem) {z : Int64} {m' : Mem} (h : r_X12_seen_l122 x3 y8 y10 y12 y14 m = some (z, m')) : Xj RX12 cX12_seen 18 (some .long) 2 23 0 0 0 0 122 [(3, vI x3), (8, vL y8), (10, vL y10), (12, vL y12), (14, vL y14)] [] m (oL z) m' := by
  unfold r_X12_seen_l122 at h
  obtain ⟨e, e1, h⟩ := bd1_some h
  refine loopO_ok (P := fun s : (Int64 × Int64) => Xj RX12 cX12_seen 18 (some .long) 2 23 0 0 0 0 122 [(3, vI x3), (8, vL y8), (10, vL y10), (12, vL s.1), (14, vL s.2)] [] m (oL z) m') (Q := fun e : (Int64) => Xj RX12 cX12_seen 18 (some .long) 2 23 0 0 0 0 147 [(3, vI x3), (8, vL y8), (10, vL y10), (12, vL e)] [] m (oL z) m') ?_ _ _ e1 ?_
  · intro s r9 h9 hi hx
    exact ok_X12_seen_b122 x3 y8 y10 m s.1 s.2 h9 (by rintro _ _ rfl; exact hi _ rfl) (by rintro _ rfl; exact hx _ rfl)
  · exact ok_X12_seen_e147_h122 x3 y8 y10 e m h 
noncomputable def r_X12_seen_e104_h66 (x3 : Int32) (y4 : Int64) (y6 : Int64) (y8 : Int64) (m : Mem) : Option (Int64 × Mem) :=
  r_X12_seen_l122 x3 y8 ((y8 - y4) - y6) y8 ((y8 - y4) - y6) m
set_option maxHeartbeats 4000000 in
set_option maxRecDepth 20000 in
theorem ok_X12_seen_e104_h66 (x3 : Int32) (y4 : Int64) (y6 : Int64) (y8 : Int64) (m : Mem) {z : Int64} {m' : Mem} (h : r_X12_seen_e104_h66 x3 y4 y6 y8 m = some (z, m')) : Xj RX12 cX12_seen 18 (some .long) 2 23 0 0 0 0 104 [(3, vI x3), (4, vL y4), (6, vL y6), (8, vL y8)] [] m (oL z) m' := by
  unfold r_X12_seen_e104_h66 at h
  refine xj_lload 3 dX12_seen_104 rfl ?_
  refine xj_lload 1 dX12_seen_106 rfl ?_
  refine xj_lsub dX12_seen_108 ?_
  refine xj_lload 2 dX12_seen_109 rfl ?_
  refine xj_lsub dX12_seen_111 ?_
  refine xj_lstore (ls' := [(10, vL ((y8 - y4) - y6)), (3, vI x3), (4, vL y4), (6, vL y6), (8, vL y8)]) dX12_seen_112 (by decide) rfl ?_
  refine xj_lload 4 dX12_seen_114 rfl ?_
  refine xj_lstore (ls' := [(12, vL y8), (10, vL ((y8 - y4) - y6)), (3, vI x3), (4, vL y4), (6, vL y6), (8, vL y8)]) dX12_seen_116 (by decide) rfl ?_
  refine xj_lload 1 dX12_seen_118 rfl ?_
  refine xj_lstore (ls' := [(14, vL ((y8 - y4) - y6)), (12, vL y8), (10, vL ((y8 - y4) - y6)), (3, vI x3), (4, vL y4), (6, vL y6), (8, vL y8)]) dX12_seen_120 (by decide) rfl ?_
  refine xj_pick (ls' := [(3, vI x3), (8, vL y8), (10, vL ((y8 - y4) - y6)), (12, vL y8), (14, vL ((y8 - y4) - y6))]) [3, 6, 2, 1, 0] rfl ?_
  exact ok_X12_seen_l122 x3 y8 ((y8 - y4) - y6) y8 ((y8 - y4) - y6) m h 
noncomputable def r_X12_seen_l66 (x1 : Int32) (x2 : Int32) (x3 : Int32) (y4 : Int64) (y6 : Int64) (y8 : Int64) (x10 : Int32) (m : Mem) : Option (Int64 × Mem) :=
  bd1 (loopO (fun s => r_X12_seen_b66 x1 x2 x3 y8 m s.1 s.2.1 s.2.2) (y4, y6, x10)) (fun e => r_X12_seen_e104_h66 x3 e.1 e.2 y8 m)
set_option maxHeartbeats 4000000 in
set_option maxRecDepth 20000 in
theorem ok_X12_seen_l66 (x1 : Int32) (x2 : Int32) (x3 : Int32) (y4 : Int64) (y6 : Int64) (y8 : Int64) (x10 : Int32) (m : Mem) {z : Int64} {m' : Mem} (h : r_X12_seen_l66 x1 x2 x3 y4 y6 y8 x10 m = some (z, m')) : Xj RX12 cX12_seen 18 (some .long) 2 23 0 0 0 0 66 [(1, vI x1), (2, vI x2), (3, vI x3), (4, vL y4), (6, vL y6), (8, vL y8), (10, vI x10)] [] m (oL z) m' := by
  unfold r_X12_seen_l66 at h
  obtain ⟨e, e1, h⟩ := bd1_some h
  refine loopO_ok (P := fun s : (Int64 × Int64 × Int32) => Xj RX12 cX12_seen 18 (some .long) 2 23 0 0 0 0 66 [(1, vI x1), (2, vI x2), (3, vI x3), (4, vL s.1), (6, vL s.2.1), (8, vL y8), (10, vI s.2.2)] [] m (oL z) m') (Q := fun e : (Int64 × Int64) => Xj RX12 cX12_seen 18 (some .long) 2 23 0 0 0 0 104 [(3, vI x3), (4, vL e.1), (6, vL e.2), (8, vL y8)] [] m (oL z) m') ?_ _ _ e1 ?_
  · intro s r9 h9 hi hx
    exact ok_X12_seen_b66 x1 x2 x3 y8 m s.1 s.2.1 s.2.2 h9 (by rintro _ _ _ rfl; exact hi _ rfl) (by rintro _ _ rfl; exact hx _ rfl)
  · exact ok_X12_seen_e104_h66 x3 e.1 e.2 y8 m h 
noncomputable def r_X12_seen_j40 (x1 : Int32) (x2 : Int32) (x3 : Int32) (s0 : Int32) (m : Mem) : Option (Int64 × Mem) :=
  bd2 (r_X12_bad s0 1 1 m) fun z6 m5 => (if z6 = true then (some (0, m5)) else (r_X12_seen_l66 x1 x2 x3 1 0 (1 <<< ((4 * x1).toInt64 &&& 63)) 0 m5))
set_option maxHeartbeats 4000000 in
set_option maxRecDepth 20000 in
theorem ok_X12_seen_j40 (x1 : Int32) (x2 : Int32) (x3 : Int32) (s0 : Int32) (m : Mem) {z : Int64} {m' : Mem} (h : r_X12_seen_j40 x1 x2 x3 s0 m = some (z, m')) : Xj RX12 cX12_seen 18 (some .long) 2 23 0 0 0 0 40 [(1, vI x1), (2, vI x2), (3, vI x3)] [vI s0, vR 12 0] m (oL z) m' := by
  unfold r_X12_seen_j40 at h
  refine xj_iconst (z := 1) dX12_seen_40 (by decide) ?_
  refine xj_iconst (z := 1) dX12_seen_41 (by decide) ?_
  obtain ⟨z6, m5, e4, h⟩ := bd2_some h
  refine xc_Vb0 (st := []) (ok_X12_bad s0 1 1 m e4) dX12_seen_42 cv_X12_191 rfl rfl (Nat.le_of_ble_eq_true rfl) (by decide) (by decide) (by decide) (by decide) ?_
  refine xj_if_eq (tgt := 50) dX12_seen_45 (by decide) (fun c7 => ?_) (fun c7 => ?_)
  · rw [if_neg (b2i_f c7)] at h
    refine xj_lconst (z := 1) dX12_seen_50 (by decide) ?_
    refine xj_lstore (ls' := [(4, vL 1), (1, vI x1), (2, vI x2), (3, vI x3)]) dX12_seen_51 (by decide) rfl ?_
    refine xj_lconst (z := 0) dX12_seen_53 (by decide) ?_
    refine xj_lstore (ls' := [(6, vL 0), (4, vL 1), (1, vI x1), (2, vI x2), (3, vI x3)]) dX12_seen_54 (by decide) rfl ?_
    refine xj_lconst (z := 1) dX12_seen_56 (by decide) ?_
    refine xj_iconst (z := 4) dX12_seen_57 (by decide) ?_
    refine xj_iload_n 2 dX12_seen_58 rfl ?_
    refine xj_imul dX12_seen_59 ?_
    refine xj_lshl dX12_seen_60 ?_
    refine xj_lstore (ls' := [(8, vL (1 <<< ((4 * x1).toInt64 &&& 63))), (6, vL 0), (4, vL 1), (1, vI x1), (2, vI x2), (3, vI x3)]) dX12_seen_61 (by decide) rfl ?_
    refine xj_iconst (z := 0) dX12_seen_63 (by decide) ?_
    refine xj_istore (ls' := [(10, vI 0), (8, vL (1 <<< ((4 * x1).toInt64 &&& 63))), (6, vL 0), (4, vL 1), (1, vI x1), (2, vI x2), (3, vI x3)]) dX12_seen_64 (by decide) rfl ?_
    refine xj_pick (ls' := [(1, vI x1), (2, vI x2), (3, vI x3), (4, vL 1), (6, vL 0), (8, vL (1 <<< ((4 * x1).toInt64 &&& 63))), (10, vI 0)]) [4, 5, 6, 3, 2, 1, 0] rfl ?_
    exact ok_X12_seen_l66 x1 x2 x3 1 0 (1 <<< ((4 * x1).toInt64 &&& 63)) 0 m5 h 
  · rw [if_pos (b2i_t c7)] at h
    refine xj_lconst (z := 0) dX12_seen_48 (by decide) ?_
    cases h
    exact xj_lreturn dX12_seen_49 (by decide) (by decide)
noncomputable def r_X12_seen_j35 (x1 : Int32) (x2 : Int32) (x3 : Int32) (m : Mem) : Option (Int64 × Mem) :=
  r_X12_seen_j40 x1 x2 x3 1 m
set_option maxHeartbeats 4000000 in
set_option maxRecDepth 20000 in
theorem ok_X12_seen_j35 (x1 : Int32) (x2 : Int32) (x3 : Int32) (m : Mem) {z : Int64} {m' : Mem} (h : r_X12_seen_j35 x1 x2 x3 m = some (z, m')) : Xj RX12 cX12_seen 18 (some .long) 2 23 0 0 0 0 35 [(1, vI x1), (2, vI x2), (3, vI x3)] [vR 12 0] m (oL z) m' := by
  unfold r_X12_seen_j35 at h
  refine xj_iconst (z := 1) dX12_seen_35 (by decide) ?_
  refine xj_goto (tgt := 40) dX12_seen_36 (by decide) ?_
  exact ok_X12_seen_j40 x1 x2 x3 1 m h 
noncomputable def r_X12_seen (x1 : Int32) (x2 : Int32) (x3 : Int32) (m : Mem) : Option (Int64 × Mem) :=
  if (r_X12_in x1 0 12) = true then (if (r_X12_in x2 0 16) = true then (if (r_X12_in x3 0 1) = true then (r_X12_seen_j40 x1 x2 x3 0 (wr m 12 0 0 0)) else (r_X12_seen_j35 x1 x2 x3 (wr m 12 0 0 0))) else (r_X12_seen_j35 x1 x2 x3 (wr m 12 0 0 0))) else (r_X12_seen_j35 x1 x2 x3 (wr m 12 0 0 0))
set_option maxHeartbeats 4000000 in
set_option maxRecDepth 20000 in
theorem ok_X12_seen (x1 : Int32) (x2 : Int32) (x3 : Int32) (m : Mem) {z : Int64} {m' : Mem} (h : r_X12_seen x1 x2 x3 m = some (z, m')) : Mt yX12_seen cX12_seen 18 (some .long) 2 23 0 0 [vR 12 0, vI x1, vI x2, vI x3] m (oL z) m' := by
  refine Mt.of (by decide) (Nat.le_of_ble_eq_true rfl) (by decide +kernel) (hhF_ne (by decide)) ?_
  show Xj RX12 cX12_seen 18 (some .long) 2 23 0 0 0 0 0 [(0, vR 12 0), (1, vI x1), (2, vI x2), (3, vI x3)] [] m (oL z) m'
  unfold r_X12_seen at h
  refine xj_aload_n 0 dX12_seen_0 rfl ?_
  refine xj_iconst (z := 0) dX12_seen_1 (by decide) ?_
  refine xj_putI dX12_seen_2 fw_X12_109 rfl ?_
  refine xj_aload_n 0 dX12_seen_5 rfl ?_
  refine xj_iload_n 1 dX12_seen_6 rfl ?_
  refine xj_iconst (z := 0) dX12_seen_7 (by decide) ?_
  refine xj_bipush (z := 12) dX12_seen_8 (by decide) ?_
  refine xc_Sb0 (st := [vR 12 0]) (ok_X12_in x1 0 12 (wr m 12 0 0 0) rfl) dX12_seen_10 cs_X12_143 rfl rfl (Nat.le_of_ble_eq_true rfl) (by decide) (by decide) (by decide) (by decide) ?_
  refine xj_if_eq (tgt := 35) dX12_seen_13 (by decide) (fun c1 => ?_) (fun c1 => ?_)
  · rw [if_neg (b2i_f c1)] at h
    refine xj_pick (ls' := [(1, vI x1), (2, vI x2), (3, vI x3)]) [1, 2, 3] rfl ?_
    exact ok_X12_seen_j35 x1 x2 x3 (wr m 12 0 0 0) h 
  · rw [if_pos (b2i_t c1)] at h
    refine xj_iload_n 2 dX12_seen_16 rfl ?_
    refine xj_iconst (z := 0) dX12_seen_17 (by decide) ?_
    refine xj_bipush (z := 16) dX12_seen_18 (by decide) ?_
    refine xc_Sb0 (st := [vR 12 0]) (ok_X12_in x2 0 16 (wr m 12 0 0 0) rfl) dX12_seen_20 cs_X12_143 rfl rfl (Nat.le_of_ble_eq_true rfl) (by decide) (by decide) (by decide) (by decide) ?_
    refine xj_if_eq (tgt := 35) dX12_seen_23 (by decide) (fun c2 => ?_) (fun c2 => ?_)
    · rw [if_neg (b2i_f c2)] at h
      refine xj_pick (ls' := [(1, vI x1), (2, vI x2), (3, vI x3)]) [1, 2, 3] rfl ?_
      exact ok_X12_seen_j35 x1 x2 x3 (wr m 12 0 0 0) h 
    · rw [if_pos (b2i_t c2)] at h
      refine xj_iload_n 3 dX12_seen_26 rfl ?_
      refine xj_iconst (z := 0) dX12_seen_27 (by decide) ?_
      refine xj_iconst (z := 1) dX12_seen_28 (by decide) ?_
      refine xc_Sb0 (st := [vR 12 0]) (ok_X12_in x3 0 1 (wr m 12 0 0 0) rfl) dX12_seen_29 cs_X12_143 rfl rfl (Nat.le_of_ble_eq_true rfl) (by decide) (by decide) (by decide) (by decide) ?_
      refine xj_if_ne (tgt := 39) dX12_seen_32 (by decide) (fun c3 => ?_) (fun c3 => ?_)
      · rw [if_pos (b2i_t c3)] at h
        refine xj_iconst (z := 0) dX12_seen_39 (by decide) ?_
        refine xj_pick (ls' := [(1, vI x1), (2, vI x2), (3, vI x3)]) [1, 2, 3] rfl ?_
        exact ok_X12_seen_j40 x1 x2 x3 0 (wr m 12 0 0 0) h 
      · rw [if_neg (b2i_f c3)] at h
        refine xj_pick (ls' := [(1, vI x1), (2, vI x2), (3, vI x3)]) [1, 2, 3] rfl ?_
        exact ok_X12_seen_j35 x1 x2 x3 (wr m 12 0 0 0) h 
noncomputable def r_X12_share_b74 (x1 : Int32) (x2 : Int32) (x3 : Int32) (m : Mem) (x4 : Int32) : Option ((Int32) ⊕ (Int32)) :=
  if 9 ≤ x4 then (some (Sum.inr x4)) else (bd1 (r_X12_givenBy x2 (x4 + 1) m) fun z16 => (if x3 < z16 then (some (Sum.inr x4)) else (some (Sum.inl (x4 + 1)))))
set_option maxHeartbeats 4000000 in
set_option maxRecDepth 20000 in
theorem ok_X12_share_b74 (x1 : Int32) (x2 : Int32) (x3 : Int32) (m : Mem) (x4 : Int32) {r : (Int32) ⊕ (Int32)} (h : r_X12_share_b74 x1 x2 x3 m x4 = some r) {o : Ou} {M' : Mem} (kb : ∀ (x4' : Int32), r = Sum.inl x4' → Xj RX12 cX12_share 5 (some .int) 3 45 0 0 0 0 74 [(0, vR 12 0), (1, vI x1), (2, vI x2), (3, vI x3), (4, vI x4')] [] m o M') (ke : ∀ (x4' : Int32), r = Sum.inr x4' → Xj RX12 cX12_share 5 (some .int) 3 45 0 0 0 0 100 [(0, vR 12 0), (1, vI x1), (2, vI x2), (4, vI x4')] [] m o M') : Xj RX12 cX12_share 5 (some .int) 3 45 0 0 0 0 74 [(0, vR 12 0), (1, vI x1), (2, vI x2), (3, vI x3), (4, vI x4)] [] m o M' := by
  unfold r_X12_share_b74 at h
  refine xj_iload 4 dX12_share_74 rfl ?_
  refine xj_bipush (z := 9) dX12_share_76 (by decide) ?_
  refine xj_icmp_ge (tgt := 100) dX12_share_78 (by decide) (fun c14 => ?_) (fun c14 => ?_)
  · rw [if_pos c14] at h
    cases h
    refine xj_pick (ls' := [(0, vR 12 0), (1, vI x1), (2, vI x2), (4, vI x4)]) [0, 1, 2, 4] rfl ?_
    exact ke x4 rfl
  · rw [if_neg c14] at h
    refine xj_aload_n 0 dX12_share_81 rfl ?_
    refine xj_iload_n 2 dX12_share_82 rfl ?_
    refine xj_iload 4 dX12_share_83 rfl ?_
    refine xj_iconst (z := 1) dX12_share_85 (by decide) ?_
    refine xj_iadd dX12_share_86 ?_
    obtain ⟨z16, e15, h⟩ := bd1_some h
    refine xc_Vi0 (st := []) (ok_X12_givenBy x2 (x4 + 1) m e15) dX12_share_87 cv_X12_402 rfl rfl (Nat.le_of_ble_eq_true rfl) (by decide) (by decide) (by decide) (by decide) ?_
    refine xj_iload_n 3 dX12_share_90 rfl ?_
    refine xj_icmp_gt (tgt := 100) dX12_share_91 (by decide) (fun c17 => ?_) (fun c17 => ?_)
    · rw [if_pos c17] at h
      cases h
      refine xj_pick (ls' := [(0, vR 12 0), (1, vI x1), (2, vI x2), (4, vI x4)]) [0, 1, 2, 4] rfl ?_
      exact ke x4 rfl
    · rw [if_neg c17] at h
      refine xj_iinc (z := x4 + 1) (ls' := [(4, vI (x4 + 1)), (0, vR 12 0), (1, vI x1), (2, vI x2), (3, vI x3)]) 4 dX12_share_94 rfl rfl (by decide) rfl ?_
      refine xj_goto (tgt := 74) dX12_share_97 (by decide) ?_
      cases h
      refine xj_pick (ls' := [(0, vR 12 0), (1, vI x1), (2, vI x2), (3, vI x3), (4, vI (x4 + 1))]) [1, 2, 3, 4, 0] rfl ?_
      exact kb (x4 + 1) rfl
noncomputable def r_X12_share_j100 (x1 : Int32) (x2 : Int32) (x4 : Int32) (m : Mem) : Option (Int32 × Mem) :=
  if (r_X12_has x2 x1) = true then (if inb x1 6 = true then (some ((r_X12_less x4 (m 67 x1.toNatClampNeg 0)), m)) else none) else (some (0, m))
set_option maxHeartbeats 4000000 in
set_option maxRecDepth 20000 in
theorem ok_X12_share_j100 (x1 : Int32) (x2 : Int32) (x4 : Int32) (m : Mem) {z : Int32} {m' : Mem} (h : r_X12_share_j100 x1 x2 x4 m = some (z, m')) : Xj RX12 cX12_share 5 (some .int) 3 45 0 0 0 0 100 [(0, vR 12 0), (1, vI x1), (2, vI x2), (4, vI x4)] [] m (oI z) m' := by
  unfold r_X12_share_j100 at h
  refine xj_iload_n 2 dX12_share_100 rfl ?_
  refine xj_iload_n 1 dX12_share_101 rfl ?_
  refine xc_Sb0 (st := []) (ok_X12_has x2 x1 m rfl) dX12_share_102 cs_X12_282 rfl rfl (Nat.le_of_ble_eq_true rfl) (by decide) (by decide) (by decide) (by decide) ?_
  refine xj_if_eq (tgt := 124) dX12_share_105 (by decide) (fun c18 => ?_) (fun c18 => ?_)
  · rw [if_neg (b2i_f c18)] at h
    refine xj_iconst (z := 0) dX12_share_124 (by decide) ?_
    cases h
    exact xj_ireturn dX12_share_125 rfl (by decide) (by decide)
  · rw [if_pos (b2i_t c18)] at h
    refine xj_iload 3 dX12_share_108 rfl ?_
    refine xj_aload_n 0 dX12_share_110 rfl ?_
    refine xg_getR (k' := 68) (i' := 0) dX12_share_111 fl_X12_43 rfl ?_
    refine xj_iload_n 1 dX12_share_114 rfl ?_
    by_cases c19 : inb x1 6 = true
    case neg => rw [if_neg c19] at h; cases h
    rw [if_pos c19] at h
    refine xg_aald (k' := 67) (i' := x1.toNatClampNeg) (n := x1.toNatClampNeg) dX12_share_115 rfl (by decide) (inb_in c19) rfl rfl ?_
    refine xj_iconst (z := 0) dX12_share_116 (by decide) ?_
    refine xg_iald (z := (m 67 x1.toNatClampNeg 0)) (n := 0) dX12_share_117 rfl (by decide) (inb_in (by decide)) (by decide) rfl ?_
    refine xc_Si0 (st := []) (ok_X12_less x4 (m 67 x1.toNatClampNeg 0) m rfl) dX12_share_118 cs_X12_254 rfl rfl (Nat.le_of_ble_eq_true rfl) (by decide) (by decide) (by decide) (by decide) ?_
    refine xj_goto (tgt := 125) dX12_share_121 (by decide) ?_
    cases h
    exact xj_ireturn dX12_share_125 rfl (by decide) (by decide)
noncomputable def r_X12_share_e100_h74 (x1 : Int32) (x2 : Int32) (x4 : Int32) (m : Mem) : Option (Int32 × Mem) :=
  r_X12_share_j100 x1 x2 x4 m
set_option maxHeartbeats 4000000 in
set_option maxRecDepth 20000 in
theorem ok_X12_share_e100_h74 (x1 : Int32) (x2 : Int32) (x4 : Int32) (m : Mem) {z : Int32} {m' : Mem} (h : r_X12_share_e100_h74 x1 x2 x4 m = some (z, m')) : Xj RX12 cX12_share 5 (some .int) 3 45 0 0 0 0 100 [(0, vR 12 0), (1, vI x1), (2, vI x2), (4, vI x4)] [] m (oI z) m' := by
  unfold r_X12_share_e100_h74 at h
  exact ok_X12_share_j100 x1 x2 x4 m h 
noncomputable def r_X12_share_l74 (x1 : Int32) (x2 : Int32) (x3 : Int32) (x4 : Int32) (m : Mem) : Option (Int32 × Mem) :=
  bd1 (loopO (fun s => r_X12_share_b74 x1 x2 x3 m s) x4) (fun e => r_X12_share_e100_h74 x1 x2 e m)
set_option maxHeartbeats 4000000 in
set_option maxRecDepth 20000 in
theorem ok_X12_share_l74 (x1 : Int32) (x2 : Int32) (x3 : Int32) (x4 : Int32) (m : Mem) {z : Int32} {m' : Mem} (h : r_X12_share_l74 x1 x2 x3 x4 m = some (z, m')) : Xj RX12 cX12_share 5 (some .int) 3 45 0 0 0 0 74 [(0, vR 12 0), (1, vI x1), (2, vI x2), (3, vI x3), (4, vI x4)] [] m (oI z) m' := by
  unfold r_X12_share_l74 at h
  obtain ⟨e, e1, h⟩ := bd1_some h
  refine loopO_ok (P := fun s : (Int32) => Xj RX12 cX12_share 5 (some .int) 3 45 0 0 0 0 74 [(0, vR 12 0), (1, vI x1), (2, vI x2), (3, vI x3), (4, vI s)] [] m (oI z) m') (Q := fun e : (Int32) => Xj RX12 cX12_share 5 (some .int) 3 45 0 0 0 0 100 [(0, vR 12 0), (1, vI x1), (2, vI x2), (4, vI e)] [] m (oI z) m') ?_ _ _ e1 ?_
  · intro s r9 h9 hi hx
    exact ok_X12_share_b74 x1 x2 x3 m s h9 (by rintro _ rfl; exact hi _ rfl) (by rintro _ rfl; exact hx _ rfl)
  · exact ok_X12_share_e100_h74 x1 x2 e m h 
noncomputable def r_X12_share_j61 (x1 : Int32) (x2 : Int32) (x3 : Int32) (s0 : Int32) (m : Mem) : Option (Int32 × Mem) :=
  bd2 (r_X12_bad s0 2 1 m) fun z12 m11 => (if z12 = true then (some (0, m11)) else (r_X12_share_l74 x1 x2 x3 0 m11))
set_option maxHeartbeats 4000000 in
set_option maxRecDepth 20000 in
theorem ok_X12_share_j61 (x1 : Int32) (x2 : Int32) (x3 : Int32) (s0 : Int32) (m : Mem) {z : Int32} {m' : Mem} (h : r_X12_share_j61 x1 x2 x3 s0 m = some (z, m')) : Xj RX12 cX12_share 5 (some .int) 3 45 0 0 0 0 61 [(0, vR 12 0), (1, vI x1), (2, vI x2), (3, vI x3)] [vI s0, vR 12 0] m (oI z) m' := by
  unfold r_X12_share_j61 at h
  refine xj_iconst (z := 2) dX12_share_61 (by decide) ?_
  refine xj_iconst (z := 1) dX12_share_62 (by decide) ?_
  obtain ⟨z12, m11, e10, h⟩ := bd2_some h
  refine xc_Vb0 (st := []) (ok_X12_bad s0 2 1 m e10) dX12_share_63 cv_X12_191 rfl rfl (Nat.le_of_ble_eq_true rfl) (by decide) (by decide) (by decide) (by decide) ?_
  refine xj_if_eq (tgt := 71) dX12_share_66 (by decide) (fun c13 => ?_) (fun c13 => ?_)
  · rw [if_neg (b2i_f c13)] at h
    refine xj_iconst (z := 0) dX12_share_71 (by decide) ?_
    refine xj_istore (ls' := [(4, vI 0), (0, vR 12 0), (1, vI x1), (2, vI x2), (3, vI x3)]) dX12_share_72 (by decide) rfl ?_
    refine xj_pick (ls' := [(0, vR 12 0), (1, vI x1), (2, vI x2), (3, vI x3), (4, vI 0)]) [1, 2, 3, 4, 0] rfl ?_
    exact ok_X12_share_l74 x1 x2 x3 0 m11 h 
  · rw [if_pos (b2i_t c13)] at h
    refine xj_iconst (z := 0) dX12_share_69 (by decide) ?_
    cases h
    exact xj_ireturn dX12_share_70 rfl (by decide) (by decide)
noncomputable def r_X12_share_j56 (x1 : Int32) (x2 : Int32) (x3 : Int32) (m : Mem) : Option (Int32 × Mem) :=
  r_X12_share_j61 x1 x2 x3 1 m
set_option maxHeartbeats 4000000 in
set_option maxRecDepth 20000 in
theorem ok_X12_share_j56 (x1 : Int32) (x2 : Int32) (x3 : Int32) (m : Mem) {z : Int32} {m' : Mem} (h : r_X12_share_j56 x1 x2 x3 m = some (z, m')) : Xj RX12 cX12_share 5 (some .int) 3 45 0 0 0 0 56 [(0, vR 12 0), (1, vI x1), (2, vI x2), (3, vI x3)] [vR 12 0] m (oI z) m' := by
  unfold r_X12_share_j56 at h
  refine xj_iconst (z := 1) dX12_share_56 (by decide) ?_
  refine xj_goto (tgt := 61) dX12_share_57 (by decide) ?_
  exact ok_X12_share_j61 x1 x2 x3 1 m h 
noncomputable def r_X12_share_j19 (x1 : Int32) (x2 : Int32) (x3 : Int32) (s0 : Int32) (m : Mem) : Option (Int32 × Mem) :=
  bd2 (r_X12_bad s0 1 0 m) fun z6 m5 => (if z6 = true then (some (0, m5)) else (if (r_X12_in x2 0 ((1 <<< ((m5 52 0 2) &&& 31)) - 1)) = true then (if (r_X12_in x3 0 99) = true then (r_X12_share_j61 x1 x2 x3 0 m5) else (r_X12_share_j56 x1 x2 x3 m5)) else (r_X12_share_j56 x1 x2 x3 m5)))
set_option maxHeartbeats 4000000 in
set_option maxRecDepth 20000 in
theorem ok_X12_share_j19 (x1 : Int32) (x2 : Int32) (x3 : Int32) (s0 : Int32) (m : Mem) {z : Int32} {m' : Mem} (h : r_X12_share_j19 x1 x2 x3 s0 m = some (z, m')) : Xj RX12 cX12_share 5 (some .int) 3 45 0 0 0 0 19 [(0, vR 12 0), (1, vI x1), (2, vI x2), (3, vI x3)] [vI s0, vR 12 0] m (oI z) m' := by
  unfold r_X12_share_j19 at h
  refine xj_iconst (z := 1) dX12_share_19 (by decide) ?_
  refine xj_iconst (z := 0) dX12_share_20 (by decide) ?_
  obtain ⟨z6, m5, e4, h⟩ := bd2_some h
  refine xc_Vb0 (st := []) (ok_X12_bad s0 1 0 m e4) dX12_share_21 cv_X12_191 rfl rfl (Nat.le_of_ble_eq_true rfl) (by decide) (by decide) (by decide) (by decide) ?_
  refine xj_if_ne (tgt := 69) dX12_share_24 (by decide) (fun c7 => ?_) (fun c7 => ?_)
  · rw [if_pos (b2i_t c7)] at h
    refine xj_iconst (z := 0) dX12_share_69 (by decide) ?_
    cases h
    exact xj_ireturn dX12_share_70 rfl (by decide) (by decide)
  · rw [if_neg (b2i_f c7)] at h
    refine xj_aload_n 0 dX12_share_27 rfl ?_
    refine xj_iload_n 2 dX12_share_28 rfl ?_
    refine xj_iconst (z := 0) dX12_share_29 (by decide) ?_
    refine xj_iconst (z := 1) dX12_share_30 (by decide) ?_
    refine xj_aload_n 0 dX12_share_31 rfl ?_
    refine xg_getR (k' := 52) (i' := 0) dX12_share_32 fl_X12_23 rfl ?_
    refine xj_iconst (z := 2) dX12_share_35 (by decide) ?_
    refine xg_iald (z := (m5 52 0 2)) (n := 2) dX12_share_36 rfl (by decide) (inb_in (by decide)) (by decide) rfl ?_
    refine xj_ishl dX12_share_37 ?_
    refine xj_iconst (z := 1) dX12_share_38 (by decide) ?_
    refine xj_isub dX12_share_39 ?_
    refine xc_Sb0 (st := [vR 12 0]) (ok_X12_in x2 0 ((1 <<< ((m5 52 0 2) &&& 31)) - 1) m5 rfl) dX12_share_40 cs_X12_143 rfl rfl (Nat.le_of_ble_eq_true rfl) (by decide) (by decide) (by decide) (by decide) ?_
    refine xj_if_eq (tgt := 56) dX12_share_43 (by decide) (fun c8 => ?_) (fun c8 => ?_)
    · rw [if_neg (b2i_f c8)] at h
      exact ok_X12_share_j56 x1 x2 x3 m5 h 
    · rw [if_pos (b2i_t c8)] at h
      refine xj_iload_n 3 dX12_share_46 rfl ?_
      refine xj_iconst (z := 0) dX12_share_47 (by decide) ?_
      refine xj_bipush (z := 99) dX12_share_48 (by decide) ?_
      refine xc_Sb0 (st := [vR 12 0]) (ok_X12_in x3 0 99 m5 rfl) dX12_share_50 cs_X12_143 rfl rfl (Nat.le_of_ble_eq_true rfl) (by decide) (by decide) (by decide) (by decide) ?_
      refine xj_if_ne (tgt := 60) dX12_share_53 (by decide) (fun c9 => ?_) (fun c9 => ?_)
      · rw [if_pos (b2i_t c9)] at h
        refine xj_iconst (z := 0) dX12_share_60 (by decide) ?_
        exact ok_X12_share_j61 x1 x2 x3 0 m5 h 
      · rw [if_neg (b2i_f c9)] at h
        exact ok_X12_share_j56 x1 x2 x3 m5 h 
noncomputable def r_X12_share (x1 : Int32) (x2 : Int32) (x3 : Int32) (m : Mem) : Option (Int32 × Mem) :=
  bd1 (r_X12_isPerson x1 (wr m 12 0 0 0)) fun z2 => (if z2 = true then (r_X12_share_j19 x1 x2 x3 0 (wr m 12 0 0 0)) else (r_X12_share_j19 x1 x2 x3 1 (wr m 12 0 0 0)))
set_option maxHeartbeats 4000000 in
set_option maxRecDepth 20000 in
theorem ok_X12_share (x1 : Int32) (x2 : Int32) (x3 : Int32) (m : Mem) {z : Int32} {m' : Mem} (h : r_X12_share x1 x2 x3 m = some (z, m')) : Mt yX12_share cX12_share 5 (some .int) 3 45 0 0 [vR 12 0, vI x1, vI x2, vI x3] m (oI z) m' := by
  refine Mt.of (by decide) (Nat.le_of_ble_eq_true rfl) (by decide +kernel) (hhF_ne (by decide)) ?_
  show Xj RX12 cX12_share 5 (some .int) 3 45 0 0 0 0 0 [(0, vR 12 0), (1, vI x1), (2, vI x2), (3, vI x3)] [] m (oI z) m'
  unfold r_X12_share at h
  refine xj_aload_n 0 dX12_share_0 rfl ?_
  refine xj_iconst (z := 0) dX12_share_1 (by decide) ?_
  refine xj_putI dX12_share_2 fw_X12_109 rfl ?_
  refine xj_aload_n 0 dX12_share_5 rfl ?_
  refine xj_aload_n 0 dX12_share_6 rfl ?_
  refine xj_iload_n 1 dX12_share_7 rfl ?_
  obtain ⟨z2, e1, h⟩ := bd1_some h
  refine xc_Vb0 (st := [vR 12 0]) (ok_X12_isPerson x1 (wr m 12 0 0 0) e1) dX12_share_8 cv_X12_358 rfl rfl (Nat.le_of_ble_eq_true rfl) (by decide) (by decide) (by decide) (by decide) ?_
  refine xj_if_ne (tgt := 18) dX12_share_11 (by decide) (fun c3 => ?_) (fun c3 => ?_)
  · rw [if_pos (b2i_t c3)] at h
    refine xj_iconst (z := 0) dX12_share_18 (by decide) ?_
    exact ok_X12_share_j19 x1 x2 x3 0 (wr m 12 0 0 0) h 
  · rw [if_neg (b2i_f c3)] at h
    refine xj_iconst (z := 1) dX12_share_14 (by decide) ?_
    refine xj_goto (tgt := 19) dX12_share_15 (by decide) ?_
    exact ok_X12_share_j19 x1 x2 x3 1 (wr m 12 0 0 0) h 
noncomputable def r_X12_sight_j83_c51 (x1 : Int32) (x2 : Int32) (x3 : Int32) (x5 : Int32) (s0 : Int32) (s1 : Int32) (m : Mem) : Option ((Int32 × Int32) ⊕ (Int32)) :=
  some (Sum.inl ((s1 ||| s0), x5 + 1))
set_option maxHeartbeats 4000000 in
set_option maxRecDepth 20000 in
theorem ok_X12_sight_j83_c51 (x1 : Int32) (x2 : Int32) (x3 : Int32) (x5 : Int32) (s0 : Int32) (s1 : Int32) (m : Mem) {r : (Int32 × Int32) ⊕ (Int32)} (h : r_X12_sight_j83_c51 x1 x2 x3 x5 s0 s1 m = some r) {o : Ou} {M' : Mem} (kb : ∀ (x4' : Int32) (x5' : Int32), r = Sum.inl (x4', x5') → Xj RX12 cX12_sight 6 (some .int) 10 220 0 0 0 0 51 [(0, vR 12 0), (1, vI x1), (2, vI x2), (3, vI x3), (4, vI x4'), (5, vI x5')] [] m o M') (ke : ∀ (x4' : Int32), r = Sum.inr x4' → Xj RX12 cX12_sight 6 (some .int) 10 220 0 0 0 0 92 [(0, vR 12 0), (1, vI x1), (2, vI x2), (3, vI x3), (4, vI x4')] [] m o M') : Xj RX12 cX12_sight 6 (some .int) 10 220 0 0 0 0 83 [(0, vR 12 0), (1, vI x1), (2, vI x2), (3, vI x3), (5, vI x5)] [vI s0, vI s1] m o M' := by
  unfold r_X12_sight_j83_c51 at h
  refine xj_ior dX12_sight_83 ?_
  refine xj_istore (ls' := [(4, vI (s1 ||| s0)), (0, vR 12 0), (1, vI x1), (2, vI x2), (3, vI x3), (5, vI x5)]) dX12_sight_84 (by decide) rfl ?_
  refine xj_iinc (z := x5 + 1) (ls' := [(5, vI (x5 + 1)), (4, vI (s1 ||| s0)), (0, vR 12 0), (1, vI x1), (2, vI x2), (3, vI x3)]) 5 dX12_sight_86 rfl rfl (by decide) rfl ?_
  refine xj_goto (tgt := 51) dX12_sight_89 (by decide) ?_
  cases h
  refine xj_pick (ls' := [(0, vR 12 0), (1, vI x1), (2, vI x2), (3, vI x3), (4, vI (s1 ||| s0)), (5, vI (x5 + 1))]) [2, 3, 4, 5, 1, 0] rfl ?_
  exact kb (s1 ||| s0) (x5 + 1) rfl
noncomputable def r_X12_sight_b51_c27 (x1 : Int32) (x2 : Int32) (x3 : Int32) (m : Mem) (x4 : Int32) (x5 : Int32) : Option ((Int32 × Int32) ⊕ (Int32)) :=
  if (m 52 0 0) ≤ x5 then (some (Sum.inr x4)) else (if (r_X12_has x3 x5) = true then (bd1 (r_X12_ditchesOf x5 m) fun z13 => (r_X12_sight_j83_c51 x1 x2 x3 x5 z13 x4 m)) else (r_X12_sight_j83_c51 x1 x2 x3 x5 0 x4 m))
set_option maxHeartbeats 4000000 in
set_option maxRecDepth 20000 in
theorem ok_X12_sight_b51_c27 (x1 : Int32) (x2 : Int32) (x3 : Int32) (m : Mem) (x4 : Int32) (x5 : Int32) {r : (Int32 × Int32) ⊕ (Int32)} (h : r_X12_sight_b51_c27 x1 x2 x3 m x4 x5 = some r) {o : Ou} {M' : Mem} (kb : ∀ (x4' : Int32) (x5' : Int32), r = Sum.inl (x4', x5') → Xj RX12 cX12_sight 6 (some .int) 10 220 0 0 0 0 51 [(0, vR 12 0), (1, vI x1), (2, vI x2), (3, vI x3), (4, vI x4'), (5, vI x5')] [] m o M') (ke : ∀ (x4' : Int32), r = Sum.inr x4' → Xj RX12 cX12_sight 6 (some .int) 10 220 0 0 0 0 92 [(0, vR 12 0), (1, vI x1), (2, vI x2), (3, vI x3), (4, vI x4')] [] m o M') : Xj RX12 cX12_sight 6 (some .int) 10 220 0 0 0 0 51 [(0, vR 12 0), (1, vI x1), (2, vI x2), (3, vI x3), (4, vI x4), (5, vI x5)] [] m o M' := by
  unfold r_X12_sight_b51_c27 at h
  refine xj_iload 5 dX12_sight_51 rfl ?_
  refine xj_aload_n 0 dX12_sight_53 rfl ?_
  refine xg_getR (k' := 52) (i' := 0) dX12_sight_54 fl_X12_23 rfl ?_
  refine xj_iconst (z := 0) dX12_sight_57 (by decide) ?_
  refine xg_iald (z := (m 52 0 0)) (n := 0) dX12_sight_58 rfl (by decide) (inb_in (by decide)) (by decide) rfl ?_
  refine xj_icmp_ge (tgt := 92) dX12_sight_59 (by decide) (fun c10 => ?_) (fun c10 => ?_)
  · rw [if_pos c10] at h
    cases h
    refine xj_pick (ls' := [(0, vR 12 0), (1, vI x1), (2, vI x2), (3, vI x3), (4, vI x4)]) [0, 1, 2, 3, 4] rfl ?_
    exact ke x4 rfl
  · rw [if_neg c10] at h
    refine xj_iload 4 dX12_sight_62 rfl ?_
    refine xj_iload_n 3 dX12_sight_64 rfl ?_
    refine xj_iload 5 dX12_sight_65 rfl ?_
    refine xc_Sb0 (st := [vI x4]) (ok_X12_has x3 x5 m rfl) dX12_sight_67 cs_X12_282 rfl rfl (Nat.le_of_ble_eq_true rfl) (by decide) (by decide) (by decide) (by decide) ?_
    refine xj_if_eq (tgt := 82) dX12_sight_70 (by decide) (fun c11 => ?_) (fun c11 => ?_)
    · rw [if_neg (b2i_f c11)] at h
      refine xj_iconst (z := 0) dX12_sight_82 (by decide) ?_
      refine xj_pick (ls' := [(0, vR 12 0), (1, vI x1), (2, vI x2), (3, vI x3), (5, vI x5)]) [0, 1, 2, 3, 5] rfl ?_
      exact ok_X12_sight_j83_c51 x1 x2 x3 x5 0 x4 m h kb ke
    · rw [if_pos (b2i_t c11)] at h
      refine xj_aload_n 0 dX12_sight_73 rfl ?_
      refine xj_iload 5 dX12_sight_74 rfl ?_
      obtain ⟨z13, e12, h⟩ := bd1_some h
      refine xc_Vi0 (st := [vI x4]) (ok_X12_ditchesOf x5 m e12) dX12_sight_76 cv_X12_355 rfl rfl (Nat.le_of_ble_eq_true rfl) (by decide) (by decide) (by decide) (by decide) ?_
      refine xj_goto (tgt := 83) dX12_sight_79 (by decide) ?_
      refine xj_pick (ls' := [(0, vR 12 0), (1, vI x1), (2, vI x2), (3, vI x3), (5, vI x5)]) [0, 1, 2, 3, 5] rfl ?_
      exact ok_X12_sight_j83_c51 x1 x2 x3 x5 z13 x4 m h kb ke
noncomputable def r_X12_sight_j107_c27 (x1 : Int32) (x2 : Int32) (x3 : Int32) (m : Mem) : Option ((Int32 × Int32) ⊕ (Int32)) :=
  some (Sum.inl (x2, x3 + (-1)))
set_option maxHeartbeats 4000000 in
set_option maxRecDepth 20000 in
theorem ok_X12_sight_j107_c27 (x1 : Int32) (x2 : Int32) (x3 : Int32) (m : Mem) {r : (Int32 × Int32) ⊕ (Int32)} (h : r_X12_sight_j107_c27 x1 x2 x3 m = some r) {o : Ou} {M' : Mem} (kb : ∀ (x2' : Int32) (x3' : Int32), r = Sum.inl (x2', x3') → Xj RX12 cX12_sight 6 (some .int) 10 220 0 0 0 0 27 [(0, vR 12 0), (1, vI x1), (2, vI x2'), (3, vI x3')] [] m o M') (ke : ∀ (x2' : Int32), r = Sum.inr x2' → Xj RX12 cX12_sight 6 (some .int) 10 220 0 0 0 0 113 [(2, vI x2')] [] m o M') : Xj RX12 cX12_sight 6 (some .int) 10 220 0 0 0 0 107 [(0, vR 12 0), (1, vI x1), (2, vI x2), (3, vI x3)] [] m o M' := by
  unfold r_X12_sight_j107_c27 at h
  refine xj_iinc (z := x3 + (-1)) (ls' := [(3, vI (x3 + (-1))), (0, vR 12 0), (1, vI x1), (2, vI x2)]) 3 dX12_sight_107 rfl rfl (by decide) rfl ?_
  refine xj_goto (tgt := 27) dX12_sight_110 (by decide) ?_
  cases h
  refine xj_pick (ls' := [(0, vR 12 0), (1, vI x1), (2, vI x2), (3, vI (x3 + (-1)))]) [1, 2, 3, 0] rfl ?_
  exact kb x2 (x3 + (-1)) rfl
noncomputable def r_X12_sight_j106_c27 (x1 : Int32) (x3 : Int32) (s0 : Int32) (m : Mem) : Option ((Int32 × Int32) ⊕ (Int32)) :=
  r_X12_sight_j107_c27 x1 s0 x3 m
set_option maxHeartbeats 4000000 in
set_option maxRecDepth 20000 in
theorem ok_X12_sight_j106_c27 (x1 : Int32) (x3 : Int32) (s0 : Int32) (m : Mem) {r : (Int32 × Int32) ⊕ (Int32)} (h : r_X12_sight_j106_c27 x1 x3 s0 m = some r) {o : Ou} {M' : Mem} (kb : ∀ (x2' : Int32) (x3' : Int32), r = Sum.inl (x2', x3') → Xj RX12 cX12_sight 6 (some .int) 10 220 0 0 0 0 27 [(0, vR 12 0), (1, vI x1), (2, vI x2'), (3, vI x3')] [] m o M') (ke : ∀ (x2' : Int32), r = Sum.inr x2' → Xj RX12 cX12_sight 6 (some .int) 10 220 0 0 0 0 113 [(2, vI x2')] [] m o M') : Xj RX12 cX12_sight 6 (some .int) 10 220 0 0 0 0 106 [(0, vR 12 0), (1, vI x1), (3, vI x3)] [vI s0] m o M' := by
  unfold r_X12_sight_j106_c27 at h
  refine xj_istore_n (ls' := [(2, vI s0), (0, vR 12 0), (1, vI x1), (3, vI x3)]) dX12_sight_106 rfl (by decide) rfl ?_
  refine xj_pick (ls' := [(0, vR 12 0), (1, vI x1), (2, vI s0), (3, vI x3)]) [1, 2, 0, 3] rfl ?_
  exact ok_X12_sight_j107_c27 x1 s0 x3 m h kb ke
noncomputable def r_X12_sight_e92_h51_c27 (x1 : Int32) (x2 : Int32) (x3 : Int32) (x4 : Int32) (m : Mem) : Option ((Int32 × Int32) ⊕ (Int32)) :=
  if (x1 &&& (x4 ^^^ (-1))) = 0 then (r_X12_sight_j106_c27 x1 x3 x3 m) else (r_X12_sight_j106_c27 x1 x3 x2 m)
set_option maxHeartbeats 4000000 in
set_option maxRecDepth 20000 in
theorem ok_X12_sight_e92_h51_c27 (x1 : Int32) (x2 : Int32) (x3 : Int32) (x4 : Int32) (m : Mem) {r : (Int32 × Int32) ⊕ (Int32)} (h : r_X12_sight_e92_h51_c27 x1 x2 x3 x4 m = some r) {o : Ou} {M' : Mem} (kb : ∀ (x2' : Int32) (x3' : Int32), r = Sum.inl (x2', x3') → Xj RX12 cX12_sight 6 (some .int) 10 220 0 0 0 0 27 [(0, vR 12 0), (1, vI x1), (2, vI x2'), (3, vI x3')] [] m o M') (ke : ∀ (x2' : Int32), r = Sum.inr x2' → Xj RX12 cX12_sight 6 (some .int) 10 220 0 0 0 0 113 [(2, vI x2')] [] m o M') : Xj RX12 cX12_sight 6 (some .int) 10 220 0 0 0 0 92 [(0, vR 12 0), (1, vI x1), (2, vI x2), (3, vI x3), (4, vI x4)] [] m o M' := by
  unfold r_X12_sight_e92_h51_c27 at h
  refine xj_iload_n 1 dX12_sight_92 rfl ?_
  refine xj_iload 4 dX12_sight_93 rfl ?_
  refine xj_iconst (z := (-1)) dX12_sight_95 (by decide) ?_
  refine xj_ixor dX12_sight_96 ?_
  refine xj_iand dX12_sight_97 ?_
  refine xj_if_ne (tgt := 105) dX12_sight_98 (by decide) (fun c14 => ?_) (fun c14 => ?_)
  · rw [if_neg c14] at h
    refine xj_iload_n 2 dX12_sight_105 rfl ?_
    refine xj_pick (ls' := [(0, vR 12 0), (1, vI x1), (3, vI x3)]) [0, 1, 3] rfl ?_
    exact ok_X12_sight_j106_c27 x1 x3 x2 m h kb ke
  · rw [if_pos c14] at h
    refine xj_iload_n 3 dX12_sight_101 rfl ?_
    refine xj_goto (tgt := 106) dX12_sight_102 (by decide) ?_
    refine xj_pick (ls' := [(0, vR 12 0), (1, vI x1), (3, vI x3)]) [0, 1, 3] rfl ?_
    exact ok_X12_sight_j106_c27 x1 x3 x3 m h kb ke
noncomputable def r_X12_sight_l51_c27 (x1 : Int32) (x2 : Int32) (x3 : Int32) (x4 : Int32) (x5 : Int32) (m : Mem) : Option ((Int32 × Int32) ⊕ (Int32)) :=
  bd1 (loopO (fun s => r_X12_sight_b51_c27 x1 x2 x3 m s.1 s.2) (x4, x5)) (fun e => r_X12_sight_e92_h51_c27 x1 x2 x3 e m)
set_option maxHeartbeats 4000000 in
set_option maxRecDepth 20000 in
theorem ok_X12_sight_l51_c27 (x1 : Int32) (x2 : Int32) (x3 : Int32) (x4 : Int32) (x5 : Int32) (m : Mem) {r : (Int32 × Int32) ⊕ (Int32)} (h : r_X12_sight_l51_c27 x1 x2 x3 x4 x5 m = some r) {o : Ou} {M' : Mem} (kb : ∀ (x2' : Int32) (x3' : Int32), r = Sum.inl (x2', x3') → Xj RX12 cX12_sight 6 (some .int) 10 220 0 0 0 0 27 [(0, vR 12 0), (1, vI x1), (2, vI x2'), (3, vI x3')] [] m o M') (ke : ∀ (x2' : Int32), r = Sum.inr x2' → Xj RX12 cX12_sight 6 (some .int) 10 220 0 0 0 0 113 [(2, vI x2')] [] m o M') : Xj RX12 cX12_sight 6 (some .int) 10 220 0 0 0 0 51 [(0, vR 12 0), (1, vI x1), (2, vI x2), (3, vI x3), (4, vI x4), (5, vI x5)] [] m o M' := by
  unfold r_X12_sight_l51_c27 at h
  obtain ⟨e, e1, h⟩ := bd1_some h
  refine loopO_ok (P := fun s : (Int32 × Int32) => Xj RX12 cX12_sight 6 (some .int) 10 220 0 0 0 0 51 [(0, vR 12 0), (1, vI x1), (2, vI x2), (3, vI x3), (4, vI s.1), (5, vI s.2)] [] m o M') (Q := fun e : (Int32) => Xj RX12 cX12_sight 6 (some .int) 10 220 0 0 0 0 92 [(0, vR 12 0), (1, vI x1), (2, vI x2), (3, vI x3), (4, vI e)] [] m o M') ?_ _ _ e1 ?_
  · intro s r9 h9 hi hx
    exact ok_X12_sight_b51_c27 x1 x2 x3 m s.1 s.2 h9 (by rintro _ _ rfl; exact hi _ rfl) (by rintro _ rfl; exact hx _ rfl)
  · exact ok_X12_sight_e92_h51_c27 x1 x2 x3 e m h kb ke
noncomputable def r_X12_sight_b27 (x1 : Int32) (m : Mem) (x2 : Int32) (x3 : Int32) : Option ((Int32 × Int32) ⊕ (Int32)) :=
  if x3 < 0 then (some (Sum.inr x2)) else (bd1 (r_X12_ones x3) fun z6 => (bd1 (r_X12_ones x2) fun z8 => (if z6 ≤ z8 then (r_X12_sight_l51_c27 x1 x2 x3 x3 0 m) else (r_X12_sight_j107_c27 x1 x2 x3 m))))
set_option maxHeartbeats 4000000 in
set_option maxRecDepth 20000 in
theorem ok_X12_sight_b27 (x1 : Int32) (m : Mem) (x2 : Int32) (x3 : Int32) {r : (Int32 × Int32) ⊕ (Int32)} (h : r_X12_sight_b27 x1 m x2 x3 = some r) {o : Ou} {M' : Mem} (kb : ∀ (x2' : Int32) (x3' : Int32), r = Sum.inl (x2', x3') → Xj RX12 cX12_sight 6 (some .int) 10 220 0 0 0 0 27 [(0, vR 12 0), (1, vI x1), (2, vI x2'), (3, vI x3')] [] m o M') (ke : ∀ (x2' : Int32), r = Sum.inr x2' → Xj RX12 cX12_sight 6 (some .int) 10 220 0 0 0 0 113 [(2, vI x2')] [] m o M') : Xj RX12 cX12_sight 6 (some .int) 10 220 0 0 0 0 27 [(0, vR 12 0), (1, vI x1), (2, vI x2), (3, vI x3)] [] m o M' := by
  unfold r_X12_sight_b27 at h
  refine xj_iload_n 3 dX12_sight_27 rfl ?_
  refine xj_if_lt (tgt := 113) dX12_sight_28 (by decide) (fun c4 => ?_) (fun c4 => ?_)
  · rw [if_pos c4] at h
    cases h
    refine xj_pick (ls' := [(2, vI x2)]) [2] rfl ?_
    exact ke x2 rfl
  · rw [if_neg c4] at h
    refine xj_iload_n 3 dX12_sight_31 rfl ?_
    obtain ⟨z6, e5, h⟩ := bd1_some h
    refine xc_Si0 (st := []) (ok_X12_ones x3 m e5) dX12_sight_32 cs_X12_381 rfl rfl (Nat.le_of_ble_eq_true rfl) (by decide) (by decide) (by decide) (by decide) ?_
    refine xj_iload_n 2 dX12_sight_35 rfl ?_
    obtain ⟨z8, e7, h⟩ := bd1_some h
    refine xc_Si0 (st := [vI z6]) (ok_X12_ones x2 m e7) dX12_sight_36 cs_X12_381 rfl rfl (Nat.le_of_ble_eq_true rfl) (by decide) (by decide) (by decide) (by decide) ?_
    refine xj_icmp_le (tgt := 45) dX12_sight_39 (by decide) (fun c9 => ?_) (fun c9 => ?_)
    · rw [if_pos c9] at h
      refine xj_iload_n 3 dX12_sight_45 rfl ?_
      refine xj_istore (ls' := [(4, vI x3), (0, vR 12 0), (1, vI x1), (2, vI x2), (3, vI x3)]) dX12_sight_46 (by decide) rfl ?_
      refine xj_iconst (z := 0) dX12_sight_48 (by decide) ?_
      refine xj_istore (ls' := [(5, vI 0), (4, vI x3), (0, vR 12 0), (1, vI x1), (2, vI x2), (3, vI x3)]) dX12_sight_49 (by decide) rfl ?_
      refine xj_pick (ls' := [(0, vR 12 0), (1, vI x1), (2, vI x2), (3, vI x3), (4, vI x3), (5, vI 0)]) [2, 3, 4, 5, 1, 0] rfl ?_
      exact ok_X12_sight_l51_c27 x1 x2 x3 x3 0 m h kb ke
    · rw [if_neg c9] at h
      refine xj_goto (tgt := 107) dX12_sight_42 (by decide) ?_
      exact ok_X12_sight_j107_c27 x1 x2 x3 m h kb ke
noncomputable def r_X12_sight_e113_h27 (x2 : Int32) (m : Mem) : Option (Int32 × Mem) :=
  some (x2, m)
set_option maxHeartbeats 4000000 in
set_option maxRecDepth 20000 in
theorem ok_X12_sight_e113_h27 (x2 : Int32) (m : Mem) {z : Int32} {m' : Mem} (h : r_X12_sight_e113_h27 x2 m = some (z, m')) : Xj RX12 cX12_sight 6 (some .int) 10 220 0 0 0 0 113 [(2, vI x2)] [] m (oI z) m' := by
  unfold r_X12_sight_e113_h27 at h
  refine xj_iload_n 0 dX12_sight_113 rfl ?_
  cases h
  exact xj_ireturn dX12_sight_114 rfl (by decide) (by decide)
noncomputable def r_X12_sight_l27 (x1 : Int32) (x2 : Int32) (x3 : Int32) (m : Mem) : Option (Int32 × Mem) :=
  bd1 (loopO (fun s => r_X12_sight_b27 x1 m s.1 s.2) (x2, x3)) (fun e => r_X12_sight_e113_h27 e m)
set_option maxHeartbeats 4000000 in
set_option maxRecDepth 20000 in
theorem ok_X12_sight_l27 (x1 : Int32) (x2 : Int32) (x3 : Int32) (m : Mem) {z : Int32} {m' : Mem} (h : r_X12_sight_l27 x1 x2 x3 m = some (z, m')) : Xj RX12 cX12_sight 6 (some .int) 10 220 0 0 0 0 27 [(0, vR 12 0), (1, vI x1), (2, vI x2), (3, vI x3)] [] m (oI z) m' := by
  unfold r_X12_sight_l27 at h
  obtain ⟨e, e1, h⟩ := bd1_some h
  refine loopO_ok (P := fun s : (Int32 × Int32) => Xj RX12 cX12_sight 6 (some .int) 10 220 0 0 0 0 27 [(0, vR 12 0), (1, vI x1), (2, vI s.1), (3, vI s.2)] [] m (oI z) m') (Q := fun e : (Int32) => Xj RX12 cX12_sight 6 (some .int) 10 220 0 0 0 0 113 [(2, vI e)] [] m (oI z) m') ?_ _ _ e1 ?_
  · intro s r9 h9 hi hx
    exact ok_X12_sight_b27 x1 m s.1 s.2 h9 (by rintro _ _ rfl; exact hi _ rfl) (by rintro _ rfl; exact hx _ rfl)
  · exact ok_X12_sight_e113_h27 e m h 
noncomputable def r_X12_sight (m : Mem) : Option (Int32 × Mem) :=
  bd2 (r_X12_courseOf 0 (wr m 12 0 0 0)) fun z3 m2 => (r_X12_sight_l27 z3 ((1 <<< ((m2 52 0 0) &&& 31)) - 1) ((1 <<< ((m2 52 0 0) &&& 31)) - 1) m2)
set_option maxHeartbeats 4000000 in
set_option maxRecDepth 20000 in
theorem ok_X12_sight (m : Mem) {z : Int32} {m' : Mem} (h : r_X12_sight m = some (z, m')) : Mt yX12_sight cX12_sight 6 (some .int) 10 220 0 0 [vR 12 0] m (oI z) m' := by
  refine Mt.of (by decide) (Nat.le_of_ble_eq_true rfl) (by decide +kernel) (hhF_ne (by decide)) ?_
  show Xj RX12 cX12_sight 6 (some .int) 10 220 0 0 0 0 0 [(0, vR 12 0)] [] m (oI z) m'
  unfold r_X12_sight at h
  refine xj_aload_n 0 dX12_sight_0 rfl ?_
  refine xj_iconst (z := 0) dX12_sight_1 (by decide) ?_
  refine xj_putI dX12_sight_2 fw_X12_109 rfl ?_
  refine xj_aload_n 0 dX12_sight_5 rfl ?_
  refine xj_aload_n 0 dX12_sight_6 rfl ?_
  refine xg_getR (k' := 60) (i' := 0) dX12_sight_7 fl_X12_73 rfl ?_
  obtain ⟨z3, m2, e1, h⟩ := bd2_some h
  refine xc_Vi0 (st := []) (ok_X12_courseOf 0 (wr m 12 0 0 0) e1) dX12_sight_10 cv_X12_315 rfl rfl (Nat.le_of_ble_eq_true rfl) (by decide) (by decide) (by decide) (by decide) ?_
  refine xj_istore_n (ls' := [(1, vI z3), (0, vR 12 0)]) dX12_sight_13 rfl (by decide) rfl ?_
  refine xj_iconst (z := 1) dX12_sight_14 (by decide) ?_
  refine xj_aload_n 1 dX12_sight_15 rfl ?_
  refine xg_getR (k' := 52) (i' := 0) dX12_sight_16 fl_X12_23 rfl ?_
  refine xj_iconst (z := 0) dX12_sight_19 (by decide) ?_
  refine xg_iald (z := (m2 52 0 0)) (n := 0) dX12_sight_20 rfl (by decide) (inb_in (by decide)) (by decide) rfl ?_
  refine xj_ishl dX12_sight_21 ?_
  refine xj_iconst (z := 1) dX12_sight_22 (by decide) ?_
  refine xj_isub dX12_sight_23 ?_
  refine xj_istore_n (ls' := [(2, vI ((1 <<< ((m2 52 0 0) &&& 31)) - 1)), (1, vI z3), (0, vR 12 0)]) dX12_sight_24 rfl (by decide) rfl ?_
  refine xj_iload_n 0 dX12_sight_25 rfl ?_
  refine xj_istore_n (ls' := [(3, vI ((1 <<< ((m2 52 0 0) &&& 31)) - 1)), (2, vI ((1 <<< ((m2 52 0 0) &&& 31)) - 1)), (1, vI z3), (0, vR 12 0)]) dX12_sight_26 rfl (by decide) rfl ?_
  refine xj_pick (ls' := [(0, vR 12 0), (1, vI z3), (2, vI ((1 <<< ((m2 52 0 0) &&& 31)) - 1)), (3, vI ((1 <<< ((m2 52 0 0) &&& 31)) - 1))]) [3, 2, 1, 0] rfl ?_
  exact ok_X12_sight_l27 z3 ((1 <<< ((m2 52 0 0) &&& 31)) - 1) ((1 <<< ((m2 52 0 0) &&& 31)) - 1) m2 h 
noncomputable def r_X12_silence_j87_c42 (x1 : Int32) (x3 : Int32) (s0 : Int32) (m : Mem) : Option ((Int32 × Int32 × Mem) ⊕ (Int32 × Mem)) :=
  some (Sum.inl (s0, x3 + (-1), m))
set_option maxHeartbeats 4000000 in
set_option maxRecDepth 20000 in
theorem ok_X12_silence_j87_c42 (x1 : Int32) (x3 : Int32) (s0 : Int32) (m : Mem) {r : (Int32 × Int32 × Mem) ⊕ (Int32 × Mem)} (h : r_X12_silence_j87_c42 x1 x3 s0 m = some r) {o : Ou} {M' : Mem} (kb : ∀ (x2' : Int32) (x3' : Int32) (m'' : Mem), r = Sum.inl (x2', x3', m'') → Xj RX12 cX12_silence 4 (some .int) 10 220 0 0 0 0 42 [(0, vR 12 0), (1, vI x1), (2, vI x2'), (3, vI x3')] [] m'' o M') (ke : ∀ (x2' : Int32) (m'' : Mem), r = Sum.inr (x2', m'') → Xj RX12 cX12_silence 4 (some .int) 10 220 0 0 0 0 94 [(2, vI x2')] [] m'' o M') : Xj RX12 cX12_silence 4 (some .int) 10 220 0 0 0 0 87 [(0, vR 12 0), (1, vI x1), (3, vI x3)] [vI s0] m o M' := by
  unfold r_X12_silence_j87_c42 at h
  refine xj_istore_n (ls' := [(2, vI s0), (0, vR 12 0), (1, vI x1), (3, vI x3)]) dX12_silence_87 rfl (by decide) rfl ?_
  refine xj_iinc (z := x3 + (-1)) (ls' := [(3, vI (x3 + (-1))), (2, vI s0), (0, vR 12 0), (1, vI x1)]) 3 dX12_silence_88 rfl rfl (by decide) rfl ?_
  refine xj_goto (tgt := 42) dX12_silence_91 (by decide) ?_
  cases h
  refine xj_pick (ls' := [(0, vR 12 0), (1, vI x1), (2, vI s0), (3, vI (x3 + (-1)))]) [2, 3, 1, 0] rfl ?_
  exact kb s0 (x3 + (-1)) m rfl
noncomputable def r_X12_silence_j82_c42 (x1 : Int32) (x3 : Int32) (m : Mem) : Option ((Int32 × Int32 × Mem) ⊕ (Int32 × Mem)) :=
  r_X12_silence_j87_c42 x1 x3 x3 m
set_option maxHeartbeats 4000000 in
set_option maxRecDepth 20000 in
theorem ok_X12_silence_j82_c42 (x1 : Int32) (x3 : Int32) (m : Mem) {r : (Int32 × Int32 × Mem) ⊕ (Int32 × Mem)} (h : r_X12_silence_j82_c42 x1 x3 m = some r) {o : Ou} {M' : Mem} (kb : ∀ (x2' : Int32) (x3' : Int32) (m'' : Mem), r = Sum.inl (x2', x3', m'') → Xj RX12 cX12_silence 4 (some .int) 10 220 0 0 0 0 42 [(0, vR 12 0), (1, vI x1), (2, vI x2'), (3, vI x3')] [] m'' o M') (ke : ∀ (x2' : Int32) (m'' : Mem), r = Sum.inr (x2', m'') → Xj RX12 cX12_silence 4 (some .int) 10 220 0 0 0 0 94 [(2, vI x2')] [] m'' o M') : Xj RX12 cX12_silence 4 (some .int) 10 220 0 0 0 0 82 [(0, vR 12 0), (1, vI x1), (3, vI x3)] [] m o M' := by
  unfold r_X12_silence_j82_c42 at h
  refine xj_iload_n 2 dX12_silence_82 rfl ?_
  refine xj_goto (tgt := 87) dX12_silence_83 (by decide) ?_
  exact ok_X12_silence_j87_c42 x1 x3 x3 m h kb ke
noncomputable def r_X12_silence_j86_c42 (x1 : Int32) (x2 : Int32) (x3 : Int32) (m : Mem) : Option ((Int32 × Int32 × Mem) ⊕ (Int32 × Mem)) :=
  r_X12_silence_j87_c42 x1 x3 x2 m
set_option maxHeartbeats 4000000 in
set_option maxRecDepth 20000 in
theorem ok_X12_silence_j86_c42 (x1 : Int32) (x2 : Int32) (x3 : Int32) (m : Mem) {r : (Int32 × Int32 × Mem) ⊕ (Int32 × Mem)} (h : r_X12_silence_j86_c42 x1 x2 x3 m = some r) {o : Ou} {M' : Mem} (kb : ∀ (x2' : Int32) (x3' : Int32) (m'' : Mem), r = Sum.inl (x2', x3', m'') → Xj RX12 cX12_silence 4 (some .int) 10 220 0 0 0 0 42 [(0, vR 12 0), (1, vI x1), (2, vI x2'), (3, vI x3')] [] m'' o M') (ke : ∀ (x2' : Int32) (m'' : Mem), r = Sum.inr (x2', m'') → Xj RX12 cX12_silence 4 (some .int) 10 220 0 0 0 0 94 [(2, vI x2')] [] m'' o M') : Xj RX12 cX12_silence 4 (some .int) 10 220 0 0 0 0 86 [(0, vR 12 0), (1, vI x1), (2, vI x2), (3, vI x3)] [] m o M' := by
  unfold r_X12_silence_j86_c42 at h
  refine xj_iload_n 2 dX12_silence_86 rfl ?_
  refine xj_pick (ls' := [(0, vR 12 0), (1, vI x1), (3, vI x3)]) [0, 1, 3] rfl ?_
  exact ok_X12_silence_j87_c42 x1 x3 x2 m h kb ke
noncomputable def r_X12_silence_b42 (x1 : Int32) (x2 : Int32) (x3 : Int32) (m : Mem) : Option ((Int32 × Int32 × Mem) ⊕ (Int32 × Mem)) :=
  if x3 < 0 then (some (Sum.inr (x2, m))) else (bd1 (r_X12_silences x3 m) fun m10 => (bd2 (r_X12_courseOf 1 m10) fun z13 m12 => (if (r_X12_has z13 x1) = true then (if x2 = (-1) then (r_X12_silence_j82_c42 x1 x3 m12) else (bd1 (r_X12_ones x3) fun z17 => (bd1 (r_X12_ones x2) fun z19 => (if z19 < z17 then (r_X12_silence_j86_c42 x1 x2 x3 m12) else (r_X12_silence_j82_c42 x1 x3 m12))))) else (r_X12_silence_j86_c42 x1 x2 x3 m12))))
set_option maxHeartbeats 4000000 in
set_option maxRecDepth 20000 in
theorem ok_X12_silence_b42 (x1 : Int32) (x2 : Int32) (x3 : Int32) (m : Mem) {r : (Int32 × Int32 × Mem) ⊕ (Int32 × Mem)} (h : r_X12_silence_b42 x1 x2 x3 m = some r) {o : Ou} {M' : Mem} (kb : ∀ (x2' : Int32) (x3' : Int32) (m'' : Mem), r = Sum.inl (x2', x3', m'') → Xj RX12 cX12_silence 4 (some .int) 10 220 0 0 0 0 42 [(0, vR 12 0), (1, vI x1), (2, vI x2'), (3, vI x3')] [] m'' o M') (ke : ∀ (x2' : Int32) (m'' : Mem), r = Sum.inr (x2', m'') → Xj RX12 cX12_silence 4 (some .int) 10 220 0 0 0 0 94 [(2, vI x2')] [] m'' o M') : Xj RX12 cX12_silence 4 (some .int) 10 220 0 0 0 0 42 [(0, vR 12 0), (1, vI x1), (2, vI x2), (3, vI x3)] [] m o M' := by
  unfold r_X12_silence_b42 at h
  refine xj_iload_n 3 dX12_silence_42 rfl ?_
  refine xj_if_lt (tgt := 94) dX12_silence_43 (by decide) (fun c8 => ?_) (fun c8 => ?_)
  · rw [if_pos c8] at h
    cases h
    refine xj_pick (ls' := [(2, vI x2)]) [2] rfl ?_
    exact ke x2 m rfl
  · rw [if_neg c8] at h
    refine xj_aload_n 0 dX12_silence_46 rfl ?_
    refine xj_iload_n 3 dX12_silence_47 rfl ?_
    obtain ⟨m10, e9, h⟩ := bd1_some h
    refine xc_Vv0 (st := []) (ok_X12_silences x3 m e9) dX12_silence_48 cv_X12_378 rfl rfl (Nat.le_of_ble_eq_true rfl) (by decide) (by decide) (by decide) (by decide) ?_
    refine xj_aload_n 0 dX12_silence_51 rfl ?_
    refine xj_aload_n 0 dX12_silence_52 rfl ?_
    refine xg_getR (k' := 60) (i' := 1) dX12_silence_53 fl_X12_76 rfl ?_
    obtain ⟨z13, m12, e11, h⟩ := bd2_some h
    refine xc_Vi0 (st := []) (ok_X12_courseOf 1 m10 e11) dX12_silence_56 cv_X12_315 rfl rfl (Nat.le_of_ble_eq_true rfl) (by decide) (by decide) (by decide) (by decide) ?_
    refine xj_iload_n 1 dX12_silence_59 rfl ?_
    refine xc_Sb0 (st := []) (ok_X12_has z13 x1 m12 rfl) dX12_silence_60 cs_X12_282 rfl rfl (Nat.le_of_ble_eq_true rfl) (by decide) (by decide) (by decide) (by decide) ?_
    refine xj_if_eq (tgt := 86) dX12_silence_63 (by decide) (fun c14 => ?_) (fun c14 => ?_)
    · rw [if_neg (b2i_f c14)] at h
      exact ok_X12_silence_j86_c42 x1 x2 x3 m12 h kb ke
    · rw [if_pos (b2i_t c14)] at h
      refine xj_iload_n 2 dX12_silence_66 rfl ?_
      refine xj_iconst (z := (-1)) dX12_silence_67 (by decide) ?_
      refine xj_icmp_eq (tgt := 82) dX12_silence_68 (by decide) (fun c15 => ?_) (fun c15 => ?_)
      · rw [if_pos c15] at h
        refine xj_pick (ls' := [(0, vR 12 0), (1, vI x1), (3, vI x3)]) [0, 1, 3] rfl ?_
        exact ok_X12_silence_j82_c42 x1 x3 m12 h kb ke
      · rw [if_neg c15] at h
        refine xj_iload_n 3 dX12_silence_71 rfl ?_
        obtain ⟨z17, e16, h⟩ := bd1_some h
        refine xc_Si0 (st := []) (ok_X12_ones x3 m12 e16) dX12_silence_72 cs_X12_381 rfl rfl (Nat.le_of_ble_eq_true rfl) (by decide) (by decide) (by decide) (by decide) ?_
        refine xj_iload_n 2 dX12_silence_75 rfl ?_
        obtain ⟨z19, e18, h⟩ := bd1_some h
        refine xc_Si0 (st := [vI z17]) (ok_X12_ones x2 m12 e18) dX12_silence_76 cs_X12_381 rfl rfl (Nat.le_of_ble_eq_true rfl) (by decide) (by decide) (by decide) (by decide) ?_
        refine xj_icmp_gt (tgt := 86) dX12_silence_79 (by decide) (fun c20 => ?_) (fun c20 => ?_)
        · rw [if_pos c20] at h
          exact ok_X12_silence_j86_c42 x1 x2 x3 m12 h kb ke
        · rw [if_neg c20] at h
          refine xj_pick (ls' := [(0, vR 12 0), (1, vI x1), (3, vI x3)]) [0, 1, 3] rfl ?_
          exact ok_X12_silence_j82_c42 x1 x3 m12 h kb ke
noncomputable def r_X12_silence_e94_h42 (x2 : Int32) (m : Mem) : Option (Int32 × Mem) :=
  some (x2, m)
set_option maxHeartbeats 4000000 in
set_option maxRecDepth 20000 in
theorem ok_X12_silence_e94_h42 (x2 : Int32) (m : Mem) {z : Int32} {m' : Mem} (h : r_X12_silence_e94_h42 x2 m = some (z, m')) : Xj RX12 cX12_silence 4 (some .int) 10 220 0 0 0 0 94 [(2, vI x2)] [] m (oI z) m' := by
  unfold r_X12_silence_e94_h42 at h
  refine xj_iload_n 0 dX12_silence_94 rfl ?_
  cases h
  exact xj_ireturn dX12_silence_95 rfl (by decide) (by decide)
noncomputable def r_X12_silence_l42 (x1 : Int32) (x2 : Int32) (x3 : Int32) (m : Mem) : Option (Int32 × Mem) :=
  bd1 (loopO (fun s => r_X12_silence_b42 x1 s.1 s.2.1 s.2.2) (x2, x3, m)) (fun e => r_X12_silence_e94_h42 e.1 e.2)
set_option maxHeartbeats 4000000 in
set_option maxRecDepth 20000 in
theorem ok_X12_silence_l42 (x1 : Int32) (x2 : Int32) (x3 : Int32) (m : Mem) {z : Int32} {m' : Mem} (h : r_X12_silence_l42 x1 x2 x3 m = some (z, m')) : Xj RX12 cX12_silence 4 (some .int) 10 220 0 0 0 0 42 [(0, vR 12 0), (1, vI x1), (2, vI x2), (3, vI x3)] [] m (oI z) m' := by
  unfold r_X12_silence_l42 at h
  obtain ⟨e, e1, h⟩ := bd1_some h
  refine loopO_ok (P := fun s : (Int32 × Int32 × Mem) => Xj RX12 cX12_silence 4 (some .int) 10 220 0 0 0 0 42 [(0, vR 12 0), (1, vI x1), (2, vI s.1), (3, vI s.2.1)] [] s.2.2 (oI z) m') (Q := fun e : (Int32 × Mem) => Xj RX12 cX12_silence 4 (some .int) 10 220 0 0 0 0 94 [(2, vI e.1)] [] e.2 (oI z) m') ?_ _ _ e1 ?_
  · intro s r9 h9 hi hx
    exact ok_X12_silence_b42 x1 s.1 s.2.1 s.2.2 h9 (by rintro _ _ _ rfl; exact hi _ rfl) (by rintro _ _ rfl; exact hx _ rfl)
  · exact ok_X12_silence_e94_h42 e.1 e.2 h 
noncomputable def r_X12_silence_j19 (x1 : Int32) (s0 : Int32) (m : Mem) : Option (Int32 × Mem) :=
  bd2 (r_X12_bad s0 1 0 m) fun z6 m5 => (if z6 = true then (some (0, m5)) else (r_X12_silence_l42 x1 (-1) ((1 <<< ((m5 52 0 2) &&& 31)) - 1) m5))
set_option maxHeartbeats 4000000 in
set_option maxRecDepth 20000 in
theorem ok_X12_silence_j19 (x1 : Int32) (s0 : Int32) (m : Mem) {z : Int32} {m' : Mem} (h : r_X12_silence_j19 x1 s0 m = some (z, m')) : Xj RX12 cX12_silence 4 (some .int) 10 220 0 0 0 0 19 [(0, vR 12 0), (1, vI x1)] [vI s0, vR 12 0] m (oI z) m' := by
  unfold r_X12_silence_j19 at h
  refine xj_iconst (z := 1) dX12_silence_19 (by decide) ?_
  refine xj_iconst (z := 0) dX12_silence_20 (by decide) ?_
  obtain ⟨z6, m5, e4, h⟩ := bd2_some h
  refine xc_Vb0 (st := []) (ok_X12_bad s0 1 0 m e4) dX12_silence_21 cv_X12_191 rfl rfl (Nat.le_of_ble_eq_true rfl) (by decide) (by decide) (by decide) (by decide) ?_
  refine xj_if_eq (tgt := 29) dX12_silence_24 (by decide) (fun c7 => ?_) (fun c7 => ?_)
  · rw [if_neg (b2i_f c7)] at h
    refine xj_iconst (z := (-1)) dX12_silence_29 (by decide) ?_
    refine xj_istore_n (ls' := [(2, vI (-1)), (0, vR 12 0), (1, vI x1)]) dX12_silence_30 rfl (by decide) rfl ?_
    refine xj_iconst (z := 1) dX12_silence_31 (by decide) ?_
    refine xj_aload_n 1 dX12_silence_32 rfl ?_
    refine xg_getR (k' := 52) (i' := 0) dX12_silence_33 fl_X12_23 rfl ?_
    refine xj_iconst (z := 2) dX12_silence_36 (by decide) ?_
    refine xg_iald (z := (m5 52 0 2)) (n := 2) dX12_silence_37 rfl (by decide) (inb_in (by decide)) (by decide) rfl ?_
    refine xj_ishl dX12_silence_38 ?_
    refine xj_iconst (z := 1) dX12_silence_39 (by decide) ?_
    refine xj_isub dX12_silence_40 ?_
    refine xj_istore_n (ls' := [(3, vI ((1 <<< ((m5 52 0 2) &&& 31)) - 1)), (2, vI (-1)), (0, vR 12 0), (1, vI x1)]) dX12_silence_41 rfl (by decide) rfl ?_
    refine xj_pick (ls' := [(0, vR 12 0), (1, vI x1), (2, vI (-1)), (3, vI ((1 <<< ((m5 52 0 2) &&& 31)) - 1))]) [2, 3, 1, 0] rfl ?_
    exact ok_X12_silence_l42 x1 (-1) ((1 <<< ((m5 52 0 2) &&& 31)) - 1) m5 h 
  · rw [if_pos (b2i_t c7)] at h
    refine xj_iconst (z := 0) dX12_silence_27 (by decide) ?_
    cases h
    exact xj_ireturn dX12_silence_28 rfl (by decide) (by decide)
noncomputable def r_X12_silence (x1 : Int32) (m : Mem) : Option (Int32 × Mem) :=
  bd1 (r_X12_isPlace x1 (wr m 12 0 0 0)) fun z2 => (if z2 = true then (r_X12_silence_j19 x1 0 (wr m 12 0 0 0)) else (r_X12_silence_j19 x1 1 (wr m 12 0 0 0)))
set_option maxHeartbeats 4000000 in
set_option maxRecDepth 20000 in
theorem ok_X12_silence (x1 : Int32) (m : Mem) {z : Int32} {m' : Mem} (h : r_X12_silence x1 m = some (z, m')) : Mt yX12_silence cX12_silence 4 (some .int) 10 220 0 0 [vR 12 0, vI x1] m (oI z) m' := by
  refine Mt.of (by decide) (Nat.le_of_ble_eq_true rfl) (by decide +kernel) (hhF_ne (by decide)) ?_
  show Xj RX12 cX12_silence 4 (some .int) 10 220 0 0 0 0 0 [(0, vR 12 0), (1, vI x1)] [] m (oI z) m'
  unfold r_X12_silence at h
  refine xj_aload_n 0 dX12_silence_0 rfl ?_
  refine xj_iconst (z := 0) dX12_silence_1 (by decide) ?_
  refine xj_putI dX12_silence_2 fw_X12_109 rfl ?_
  refine xj_aload_n 0 dX12_silence_5 rfl ?_
  refine xj_aload_n 0 dX12_silence_6 rfl ?_
  refine xj_iload_n 1 dX12_silence_7 rfl ?_
  obtain ⟨z2, e1, h⟩ := bd1_some h
  refine xc_Vb0 (st := [vR 12 0]) (ok_X12_isPlace x1 (wr m 12 0 0 0) e1) dX12_silence_8 cv_X12_352 rfl rfl (Nat.le_of_ble_eq_true rfl) (by decide) (by decide) (by decide) (by decide) ?_
  refine xj_if_ne (tgt := 18) dX12_silence_11 (by decide) (fun c3 => ?_) (fun c3 => ?_)
  · rw [if_pos (b2i_t c3)] at h
    refine xj_iconst (z := 0) dX12_silence_18 (by decide) ?_
    exact ok_X12_silence_j19 x1 0 (wr m 12 0 0 0) h 
  · rw [if_neg (b2i_f c3)] at h
    refine xj_iconst (z := 1) dX12_silence_14 (by decide) ?_
    refine xj_goto (tgt := 19) dX12_silence_15 (by decide) ?_
    exact ok_X12_silence_j19 x1 1 (wr m 12 0 0 0) h 
noncomputable def r_X12_span_j151_c71 (x1 : Int32) (x2 : Int32) (x3 : Int32) (x4 : Int32) (x5 : Int32) (x6 : Int32) (x7 : Int32) (x8 : Int32) (x10 : Int32) (s0 : Int32) (s1 : Int32) (m : Mem) : Option ((Int32 × Int32 × Int32 × Int32 × Mem) ⊕ (Int32 × Int32 × Int32 × Mem)) :=
  some (Sum.inl (x7, x8, (s1 + s0), x10 + 1, m))
set_option maxHeartbeats 4000000 in
set_option maxRecDepth 20000 in
theorem ok_X12_span_j151_c71 (x1 : Int32) (x2 : Int32) (x3 : Int32) (x4 : Int32) (x5 : Int32) (x6 : Int32) (x7 : Int32) (x8 : Int32) (x10 : Int32) (s0 : Int32) (s1 : Int32) (m : Mem) {r : (Int32 × Int32 × Int32 × Int32 × Mem) ⊕ (Int32 × Int32 × Int32 × Mem)} (h : r_X12_span_j151_c71 x1 x2 x3 x4 x5 x6 x7 x8 x10 s0 s1 m = some r) {o : Ou} {M' : Mem} (kb : ∀ (x7' : Int32) (x8' : Int32) (x9' : Int32) (x10' : Int32) (m'' : Mem), r = Sum.inl (x7', x8', x9', x10', m'') → Xj RX12 cX12_span 13 (some .int) 12 270 0 0 0 0 71 [(0, vR 12 0), (1, vI x1), (2, vI x2), (3, vI x3), (4, vI x4), (5, vI x5), (6, vI x6), (7, vI x7'), (8, vI x8'), (9, vI x9'), (10, vI x10')] [] m'' o M') (ke : ∀ (x7' : Int32) (x8' : Int32) (x9' : Int32) (m'' : Mem), r = Sum.inr (x7', x8', x9', m'') → Xj RX12 cX12_span 13 (some .int) 12 270 0 0 0 0 160 [(5, vI x5), (7, vI x7'), (8, vI x8'), (9, vI x9')] [] m'' o M') : Xj RX12 cX12_span 13 (some .int) 12 270 0 0 0 0 151 [(0, vR 12 0), (1, vI x1), (2, vI x2), (3, vI x3), (4, vI x4), (5, vI x5), (6, vI x6), (7, vI x7), (8, vI x8), (10, vI x10)] [vI s0, vI s1] m o M' := by
  unfold r_X12_span_j151_c71 at h
  refine xj_iadd dX12_span_151 ?_
  refine xj_istore (ls' := [(9, vI (s1 + s0)), (0, vR 12 0), (1, vI x1), (2, vI x2), (3, vI x3), (4, vI x4), (5, vI x5), (6, vI x6), (7, vI x7), (8, vI x8), (10, vI x10)]) dX12_span_152 (by decide) rfl ?_
  refine xj_iinc (z := x10 + 1) (ls' := [(10, vI (x10 + 1)), (9, vI (s1 + s0)), (0, vR 12 0), (1, vI x1), (2, vI x2), (3, vI x3), (4, vI x4), (5, vI x5), (6, vI x6), (7, vI x7), (8, vI x8)]) 10 dX12_span_154 rfl rfl (by decide) rfl ?_
  refine xj_goto (tgt := 71) dX12_span_157 (by decide) ?_
  cases h
  refine xj_pick (ls' := [(0, vR 12 0), (1, vI x1), (2, vI x2), (3, vI x3), (4, vI x4), (5, vI x5), (6, vI x6), (7, vI x7), (8, vI x8), (9, vI (s1 + s0)), (10, vI (x10 + 1))]) [2, 3, 4, 5, 6, 7, 8, 9, 10, 1, 0] rfl ?_
  exact kb x7 x8 (s1 + s0) (x10 + 1) m rfl
noncomputable def r_X12_span_j123_c71 (x1 : Int32) (x2 : Int32) (x3 : Int32) (x4 : Int32) (x5 : Int32) (x6 : Int32) (x8 : Int32) (x9 : Int32) (x10 : Int32) (x11 : Int32) (x12 : Int32) (s0 : Int32) (m : Mem) : Option ((Int32 × Int32 × Int32 × Int32 × Mem) ⊕ (Int32 × Int32 × Int32 × Mem)) :=
  if (r_X12_has x11 x6) = true then (r_X12_span_j151_c71 x1 x2 x3 x4 x5 x6 s0 (r_X12_more x8 x12) x10 1 x9 m) else (r_X12_span_j151_c71 x1 x2 x3 x4 x5 x6 s0 (r_X12_more x8 x12) x10 0 x9 m)
set_option maxHeartbeats 4000000 in
set_option maxRecDepth 20000 in
theorem ok_X12_span_j123_c71 (x1 : Int32) (x2 : Int32) (x3 : Int32) (x4 : Int32) (x5 : Int32) (x6 : Int32) (x8 : Int32) (x9 : Int32) (x10 : Int32) (x11 : Int32) (x12 : Int32) (s0 : Int32) (m : Mem) {r : (Int32 × Int32 × Int32 × Int32 × Mem) ⊕ (Int32 × Int32 × Int32 × Mem)} (h : r_X12_span_j123_c71 x1 x2 x3 x4 x5 x6 x8 x9 x10 x11 x12 s0 m = some r) {o : Ou} {M' : Mem} (kb : ∀ (x7' : Int32) (x8' : Int32) (x9' : Int32) (x10' : Int32) (m'' : Mem), r = Sum.inl (x7', x8', x9', x10', m'') → Xj RX12 cX12_span 13 (some .int) 12 270 0 0 0 0 71 [(0, vR 12 0), (1, vI x1), (2, vI x2), (3, vI x3), (4, vI x4), (5, vI x5), (6, vI x6), (7, vI x7'), (8, vI x8'), (9, vI x9'), (10, vI x10')] [] m'' o M') (ke : ∀ (x7' : Int32) (x8' : Int32) (x9' : Int32) (m'' : Mem), r = Sum.inr (x7', x8', x9', m'') → Xj RX12 cX12_span 13 (some .int) 12 270 0 0 0 0 160 [(5, vI x5), (7, vI x7'), (8, vI x8'), (9, vI x9')] [] m'' o M') : Xj RX12 cX12_span 13 (some .int) 12 270 0 0 0 0 123 [(0, vR 12 0), (1, vI x1), (2, vI x2), (3, vI x3), (4, vI x4), (5, vI x5), (6, vI x6), (8, vI x8), (9, vI x9), (10, vI x10), (11, vI x11), (12, vI x12)] [vI s0] m o M' := by
  unfold r_X12_span_j123_c71 at h
  refine xj_istore (ls' := [(7, vI s0), (0, vR 12 0), (1, vI x1), (2, vI x2), (3, vI x3), (4, vI x4), (5, vI x5), (6, vI x6), (8, vI x8), (9, vI x9), (10, vI x10), (11, vI x11), (12, vI x12)]) dX12_span_123 (by decide) rfl ?_
  refine xj_iload 8 dX12_span_125 rfl ?_
  refine xj_iload 12 dX12_span_127 rfl ?_
  refine xc_Si0 (st := []) (ok_X12_more x8 x12 m rfl) dX12_span_129 cs_X12_257 rfl rfl (Nat.le_of_ble_eq_true rfl) (by decide) (by decide) (by decide) (by decide) ?_
  refine xj_istore (ls' := [(8, vI (r_X12_more x8 x12)), (7, vI s0), (0, vR 12 0), (1, vI x1), (2, vI x2), (3, vI x3), (4, vI x4), (5, vI x5), (6, vI x6), (9, vI x9), (10, vI x10), (11, vI x11), (12, vI x12)]) dX12_span_132 (by decide) rfl ?_
  refine xj_iload 9 dX12_span_134 rfl ?_
  refine xj_iload 11 dX12_span_136 rfl ?_
  refine xj_iload 8 dX12_span_138 rfl ?_
  refine xc_Sb0 (st := [vI x9]) (ok_X12_has x11 x6 m rfl) dX12_span_140 cs_X12_282 rfl rfl (Nat.le_of_ble_eq_true rfl) (by decide) (by decide) (by decide) (by decide) ?_
  refine xj_if_eq (tgt := 150) dX12_span_143 (by decide) (fun c20 => ?_) (fun c20 => ?_)
  · rw [if_neg (b2i_f c20)] at h
    refine xj_iconst (z := 0) dX12_span_150 (by decide) ?_
    refine xj_pick (ls' := [(0, vR 12 0), (1, vI x1), (2, vI x2), (3, vI x3), (4, vI x4), (5, vI x5), (6, vI x6), (7, vI s0), (8, vI (r_X12_more x8 x12)), (10, vI x10)]) [2, 3, 4, 5, 6, 7, 8, 1, 0, 10] rfl ?_
    exact ok_X12_span_j151_c71 x1 x2 x3 x4 x5 x6 s0 (r_X12_more x8 x12) x10 0 x9 m h kb ke
  · rw [if_pos (b2i_t c20)] at h
    refine xj_iconst (z := 1) dX12_span_146 (by decide) ?_
    refine xj_goto (tgt := 151) dX12_span_147 (by decide) ?_
    refine xj_pick (ls' := [(0, vR 12 0), (1, vI x1), (2, vI x2), (3, vI x3), (4, vI x4), (5, vI x5), (6, vI x6), (7, vI s0), (8, vI (r_X12_more x8 x12)), (10, vI x10)]) [2, 3, 4, 5, 6, 7, 8, 1, 0, 10] rfl ?_
    exact ok_X12_span_j151_c71 x1 x2 x3 x4 x5 x6 s0 (r_X12_more x8 x12) x10 1 x9 m h kb ke
noncomputable def r_X12_span_b71 (x1 : Int32) (x2 : Int32) (x3 : Int32) (x4 : Int32) (x5 : Int32) (x6 : Int32) (x7 : Int32) (x8 : Int32) (x9 : Int32) (x10 : Int32) (m : Mem) : Option ((Int32 × Int32 × Int32 × Int32 × Mem) ⊕ (Int32 × Int32 × Int32 × Mem)) :=
  if x2 ≤ x10 then (some (Sum.inr (x7, x8, x9, m))) else (bd1 (r_X12_yearBy (x1 + x10) x3 x4 m) fun m13 => (bd2 (r_X12_courseOf 1 m13) fun z16 m15 => (bd1 (r_X12_ones z16) fun z18 => (if x7 = (-1) then (r_X12_span_j123_c71 x1 x2 x3 x4 x5 x6 x8 x9 x10 z16 z18 z18 m15) else (r_X12_span_j123_c71 x1 x2 x3 x4 x5 x6 x8 x9 x10 z16 z18 (r_X12_less x7 z18) m15)))))
set_option maxHeartbeats 4000000 in
set_option maxRecDepth 20000 in
theorem ok_X12_span_b71 (x1 : Int32) (x2 : Int32) (x3 : Int32) (x4 : Int32) (x5 : Int32) (x6 : Int32) (x7 : Int32) (x8 : Int32) (x9 : Int32) (x10 : Int32) (m : Mem) {r : (Int32 × Int32 × Int32 × Int32 × Mem) ⊕ (Int32 × Int32 × Int32 × Mem)} (h : r_X12_span_b71 x1 x2 x3 x4 x5 x6 x7 x8 x9 x10 m = some r) {o : Ou} {M' : Mem} (kb : ∀ (x7' : Int32) (x8' : Int32) (x9' : Int32) (x10' : Int32) (m'' : Mem), r = Sum.inl (x7', x8', x9', x10', m'') → Xj RX12 cX12_span 13 (some .int) 12 270 0 0 0 0 71 [(0, vR 12 0), (1, vI x1), (2, vI x2), (3, vI x3), (4, vI x4), (5, vI x5), (6, vI x6), (7, vI x7'), (8, vI x8'), (9, vI x9'), (10, vI x10')] [] m'' o M') (ke : ∀ (x7' : Int32) (x8' : Int32) (x9' : Int32) (m'' : Mem), r = Sum.inr (x7', x8', x9', m'') → Xj RX12 cX12_span 13 (some .int) 12 270 0 0 0 0 160 [(5, vI x5), (7, vI x7'), (8, vI x8'), (9, vI x9')] [] m'' o M') : Xj RX12 cX12_span 13 (some .int) 12 270 0 0 0 0 71 [(0, vR 12 0), (1, vI x1), (2, vI x2), (3, vI x3), (4, vI x4), (5, vI x5), (6, vI x6), (7, vI x7), (8, vI x8), (9, vI x9), (10, vI x10)] [] m o M' := by
  unfold r_X12_span_b71 at h
  refine xj_iload 10 dX12_span_71 rfl ?_
  refine xj_iload_n 2 dX12_span_73 rfl ?_
  refine xj_icmp_ge (tgt := 160) dX12_span_74 (by decide) (fun c11 => ?_) (fun c11 => ?_)
  · rw [if_pos c11] at h
    cases h
    refine xj_pick (ls' := [(5, vI x5), (7, vI x7), (8, vI x8), (9, vI x9)]) [5, 7, 8, 9] rfl ?_
    exact ke x7 x8 x9 m rfl
  · rw [if_neg c11] at h
    refine xj_aload_n 0 dX12_span_77 rfl ?_
    refine xj_iload_n 1 dX12_span_78 rfl ?_
    refine xj_iload 10 dX12_span_79 rfl ?_
    refine xj_iadd dX12_span_81 ?_
    refine xj_iload_n 3 dX12_span_82 rfl ?_
    refine xj_iload 4 dX12_span_83 rfl ?_
    obtain ⟨m13, e12, h⟩ := bd1_some h
    refine xc_Vv0 (st := []) (ok_X12_yearBy (x1 + x10) x3 x4 m e12) dX12_span_85 cv_X12_418 rfl rfl (Nat.le_of_ble_eq_true rfl) (by decide) (by decide) (by decide) (by decide) ?_
    refine xj_aload_n 0 dX12_span_88 rfl ?_
    refine xj_aload_n 0 dX12_span_89 rfl ?_
    refine xg_getR (k' := 60) (i' := 1) dX12_span_90 fl_X12_76 rfl ?_
    obtain ⟨z16, m15, e14, h⟩ := bd2_some h
    refine xc_Vi0 (st := []) (ok_X12_courseOf 1 m13 e14) dX12_span_93 cv_X12_315 rfl rfl (Nat.le_of_ble_eq_true rfl) (by decide) (by decide) (by decide) (by decide) ?_
    refine xj_istore (ls' := [(11, vI z16), (0, vR 12 0), (1, vI x1), (2, vI x2), (3, vI x3), (4, vI x4), (5, vI x5), (6, vI x6), (7, vI x7), (8, vI x8), (9, vI x9), (10, vI x10)]) dX12_span_96 (by decide) rfl ?_
    refine xj_iload 0 dX12_span_98 rfl ?_
    obtain ⟨z18, e17, h⟩ := bd1_some h
    refine xc_Si0 (st := []) (ok_X12_ones z16 m15 e17) dX12_span_100 cs_X12_381 rfl rfl (Nat.le_of_ble_eq_true rfl) (by decide) (by decide) (by decide) (by decide) ?_
    refine xj_istore (ls' := [(12, vI z18), (11, vI z16), (0, vR 12 0), (1, vI x1), (2, vI x2), (3, vI x3), (4, vI x4), (5, vI x5), (6, vI x6), (7, vI x7), (8, vI x8), (9, vI x9), (10, vI x10)]) dX12_span_103 (by decide) rfl ?_
    refine xj_iload 9 dX12_span_105 rfl ?_
    refine xj_iconst (z := (-1)) dX12_span_107 (by decide) ?_
    refine xj_icmp_ne (tgt := 116) dX12_span_108 (by decide) (fun c19 => ?_) (fun c19 => ?_)
    · rw [if_neg c19] at h
      refine xj_iload 9 dX12_span_116 rfl ?_
      refine xj_iload 0 dX12_span_118 rfl ?_
      refine xc_Si0 (st := []) (ok_X12_less x7 z18 m15 rfl) dX12_span_120 cs_X12_254 rfl rfl (Nat.le_of_ble_eq_true rfl) (by decide) (by decide) (by decide) (by decide) ?_
      refine xj_pick (ls' := [(0, vR 12 0), (1, vI x1), (2, vI x2), (3, vI x3), (4, vI x4), (5, vI x5), (6, vI x6), (8, vI x8), (9, vI x9), (10, vI x10), (11, vI z16), (12, vI z18)]) [2, 3, 4, 5, 6, 7, 8, 10, 11, 12, 1, 0] rfl ?_
      exact ok_X12_span_j123_c71 x1 x2 x3 x4 x5 x6 x8 x9 x10 z16 z18 (r_X12_less x7 z18) m15 h kb ke
    · rw [if_pos c19] at h
      refine xj_iload 0 dX12_span_111 rfl ?_
      refine xj_goto (tgt := 123) dX12_span_113 (by decide) ?_
      refine xj_pick (ls' := [(0, vR 12 0), (1, vI x1), (2, vI x2), (3, vI x3), (4, vI x4), (5, vI x5), (6, vI x6), (8, vI x8), (9, vI x9), (10, vI x10), (11, vI z16), (12, vI z18)]) [2, 3, 4, 5, 6, 7, 8, 10, 11, 12, 1, 0] rfl ?_
      exact ok_X12_span_j123_c71 x1 x2 x3 x4 x5 x6 x8 x9 x10 z16 z18 z18 m15 h kb ke
noncomputable def r_X12_span_e160_h71 (x5 : Int32) (x7 : Int32) (x8 : Int32) (x9 : Int32) (m : Mem) : Option (Int32 × Mem) :=
  if x5 = 0 then (some (x7, m)) else (if x5 = 1 then (some (x8, m)) else (some (x9, m)))
set_option maxHeartbeats 4000000 in
set_option maxRecDepth 20000 in
theorem ok_X12_span_e160_h71 (x5 : Int32) (x7 : Int32) (x8 : Int32) (x9 : Int32) (m : Mem) {z : Int32} {m' : Mem} (h : r_X12_span_e160_h71 x5 x7 x8 x9 m = some (z, m')) : Xj RX12 cX12_span 13 (some .int) 12 270 0 0 0 0 160 [(5, vI x5), (7, vI x7), (8, vI x8), (9, vI x9)] [] m (oI z) m' := by
  unfold r_X12_span_e160_h71 at h
  refine xj_iload 0 dX12_span_160 rfl ?_
  refine xj_if_ne (tgt := 170) dX12_span_162 (by decide) (fun c21 => ?_) (fun c21 => ?_)
  · rw [if_neg c21] at h
    refine xj_iload 0 dX12_span_170 rfl ?_
    refine xj_iconst (z := 1) dX12_span_172 (by decide) ?_
    refine xj_icmp_ne (tgt := 181) dX12_span_173 (by decide) (fun c22 => ?_) (fun c22 => ?_)
    · rw [if_neg c22] at h
      refine xj_iload 3 dX12_span_181 rfl ?_
      cases h
      exact xj_ireturn dX12_span_183 rfl (by decide) (by decide)
    · rw [if_pos c22] at h
      refine xj_iload 2 dX12_span_176 rfl ?_
      refine xj_goto (tgt := 183) dX12_span_178 (by decide) ?_
      cases h
      exact xj_ireturn dX12_span_183 rfl (by decide) (by decide)
  · rw [if_pos c21] at h
    refine xj_iload 1 dX12_span_165 rfl ?_
    refine xj_goto (tgt := 183) dX12_span_167 (by decide) ?_
    cases h
    exact xj_ireturn dX12_span_183 rfl (by decide) (by decide)
noncomputable def r_X12_span_l71 (x1 : Int32) (x2 : Int32) (x3 : Int32) (x4 : Int32) (x5 : Int32) (x6 : Int32) (x7 : Int32) (x8 : Int32) (x9 : Int32) (x10 : Int32) (m : Mem) : Option (Int32 × Mem) :=
  bd1 (loopO (fun s => r_X12_span_b71 x1 x2 x3 x4 x5 x6 s.1 s.2.1 s.2.2.1 s.2.2.2.1 s.2.2.2.2) (x7, x8, x9, x10, m)) (fun e => r_X12_span_e160_h71 x5 e.1 e.2.1 e.2.2.1 e.2.2.2)
set_option maxHeartbeats 4000000 in
set_option maxRecDepth 20000 in
theorem ok_X12_span_l71 (x1 : Int32) (x2 : Int32) (x3 : Int32) (x4 : Int32) (x5 : Int32) (x6 : Int32) (x7 : Int32) (x8 : Int32) (x9 : Int32) (x10 : Int32) (m : Mem) {z : Int32} {m' : Mem} (h : r_X12_span_l71 x1 x2 x3 x4 x5 x6 x7 x8 x9 x10 m = some (z, m')) : Xj RX12 cX12_span 13 (some .int) 12 270 0 0 0 0 71 [(0, vR 12 0), (1, vI x1), (2, vI x2), (3, vI x3), (4, vI x4), (5, vI x5), (6, vI x6), (7, vI x7), (8, vI x8), (9, vI x9), (10, vI x10)] [] m (oI z) m' := by
  unfold r_X12_span_l71 at h
  obtain ⟨e, e1, h⟩ := bd1_some h
  refine loopO_ok (P := fun s : (Int32 × Int32 × Int32 × Int32 × Mem) => Xj RX12 cX12_span 13 (some .int) 12 270 0 0 0 0 71 [(0, vR 12 0), (1, vI x1), (2, vI x2), (3, vI x3), (4, vI x4), (5, vI x5), (6, vI x6), (7, vI s.1), (8, vI s.2.1), (9, vI s.2.2.1), (10, vI s.2.2.2.1)] [] s.2.2.2.2 (oI z) m') (Q := fun e : (Int32 × Int32 × Int32 × Mem) => Xj RX12 cX12_span 13 (some .int) 12 270 0 0 0 0 160 [(5, vI x5), (7, vI e.1), (8, vI e.2.1), (9, vI e.2.2.1)] [] e.2.2.2 (oI z) m') ?_ _ _ e1 ?_
  · intro s r9 h9 hi hx
    exact ok_X12_span_b71 x1 x2 x3 x4 x5 x6 s.1 s.2.1 s.2.2.1 s.2.2.2.1 s.2.2.2.2 h9 (by rintro _ _ _ _ _ rfl; exact hi _ rfl) (by rintro _ _ _ _ rfl; exact hx _ rfl)
  · exact ok_X12_span_e160_h71 x5 e.1 e.2.1 e.2.2.1 e.2.2.2 h 
noncomputable def r_X12_span_j49 (x1 : Int32) (x2 : Int32) (x3 : Int32) (x4 : Int32) (x5 : Int32) (x6 : Int32) (s0 : Int32) (m : Mem) : Option (Int32 × Mem) :=
  bd2 (r_X12_bad s0 1 1 m) fun z9 m8 => (if z9 = true then (some (0, m8)) else (r_X12_span_l71 x1 x2 x3 x4 x5 x6 (-1) 0 0 0 m8))
set_option maxHeartbeats 4000000 in
set_option maxRecDepth 20000 in
theorem ok_X12_span_j49 (x1 : Int32) (x2 : Int32) (x3 : Int32) (x4 : Int32) (x5 : Int32) (x6 : Int32) (s0 : Int32) (m : Mem) {z : Int32} {m' : Mem} (h : r_X12_span_j49 x1 x2 x3 x4 x5 x6 s0 m = some (z, m')) : Xj RX12 cX12_span 13 (some .int) 12 270 0 0 0 0 49 [(0, vR 12 0), (1, vI x1), (2, vI x2), (3, vI x3), (4, vI x4), (5, vI x5), (6, vI x6)] [vI s0, vR 12 0] m (oI z) m' := by
  unfold r_X12_span_j49 at h
  refine xj_iconst (z := 1) dX12_span_49 (by decide) ?_
  refine xj_iconst (z := 1) dX12_span_50 (by decide) ?_
  obtain ⟨z9, m8, e7, h⟩ := bd2_some h
  refine xc_Vb0 (st := []) (ok_X12_bad s0 1 1 m e7) dX12_span_51 cv_X12_191 rfl rfl (Nat.le_of_ble_eq_true rfl) (by decide) (by decide) (by decide) (by decide) ?_
  refine xj_if_eq (tgt := 59) dX12_span_54 (by decide) (fun c10 => ?_) (fun c10 => ?_)
  · rw [if_neg (b2i_f c10)] at h
    refine xj_iconst (z := (-1)) dX12_span_59 (by decide) ?_
    refine xj_istore (ls' := [(7, vI (-1)), (0, vR 12 0), (1, vI x1), (2, vI x2), (3, vI x3), (4, vI x4), (5, vI x5), (6, vI x6)]) dX12_span_60 (by decide) rfl ?_
    refine xj_iconst (z := 0) dX12_span_62 (by decide) ?_
    refine xj_istore (ls' := [(8, vI 0), (7, vI (-1)), (0, vR 12 0), (1, vI x1), (2, vI x2), (3, vI x3), (4, vI x4), (5, vI x5), (6, vI x6)]) dX12_span_63 (by decide) rfl ?_
    refine xj_iconst (z := 0) dX12_span_65 (by decide) ?_
    refine xj_istore (ls' := [(9, vI 0), (8, vI 0), (7, vI (-1)), (0, vR 12 0), (1, vI x1), (2, vI x2), (3, vI x3), (4, vI x4), (5, vI x5), (6, vI x6)]) dX12_span_66 (by decide) rfl ?_
    refine xj_iconst (z := 0) dX12_span_68 (by decide) ?_
    refine xj_istore (ls' := [(10, vI 0), (9, vI 0), (8, vI 0), (7, vI (-1)), (0, vR 12 0), (1, vI x1), (2, vI x2), (3, vI x3), (4, vI x4), (5, vI x5), (6, vI x6)]) dX12_span_69 (by decide) rfl ?_
    refine xj_pick (ls' := [(0, vR 12 0), (1, vI x1), (2, vI x2), (3, vI x3), (4, vI x4), (5, vI x5), (6, vI x6), (7, vI (-1)), (8, vI 0), (9, vI 0), (10, vI 0)]) [4, 5, 6, 7, 8, 9, 10, 3, 2, 1, 0] rfl ?_
    exact ok_X12_span_l71 x1 x2 x3 x4 x5 x6 (-1) 0 0 0 m8 h 
  · rw [if_pos (b2i_t c10)] at h
    refine xj_iconst (z := 0) dX12_span_57 (by decide) ?_
    cases h
    exact xj_ireturn dX12_span_58 rfl (by decide) (by decide)
noncomputable def r_X12_span_j44 (x1 : Int32) (x2 : Int32) (x3 : Int32) (x4 : Int32) (x5 : Int32) (x6 : Int32) (m : Mem) : Option (Int32 × Mem) :=
  r_X12_span_j49 x1 x2 x3 x4 x5 x6 1 m
set_option maxHeartbeats 4000000 in
set_option maxRecDepth 20000 in
theorem ok_X12_span_j44 (x1 : Int32) (x2 : Int32) (x3 : Int32) (x4 : Int32) (x5 : Int32) (x6 : Int32) (m : Mem) {z : Int32} {m' : Mem} (h : r_X12_span_j44 x1 x2 x3 x4 x5 x6 m = some (z, m')) : Xj RX12 cX12_span 13 (some .int) 12 270 0 0 0 0 44 [(0, vR 12 0), (1, vI x1), (2, vI x2), (3, vI x3), (4, vI x4), (5, vI x5), (6, vI x6)] [vR 12 0] m (oI z) m' := by
  unfold r_X12_span_j44 at h
  refine xj_iconst (z := 1) dX12_span_44 (by decide) ?_
  refine xj_goto (tgt := 49) dX12_span_45 (by decide) ?_
  exact ok_X12_span_j49 x1 x2 x3 x4 x5 x6 1 m h 
noncomputable def r_X12_span (x1 : Int32) (x2 : Int32) (x3 : Int32) (x4 : Int32) (x5 : Int32) (x6 : Int32) (m : Mem) : Option (Int32 × Mem) :=
  if (r_X12_in x2 1 20) = true then (if (r_X12_isYear x3 x4) = true then (if (r_X12_in x5 0 2) = true then (bd1 (r_X12_isPlace x6 (wr m 12 0 0 0)) fun z5 => (if z5 = true then (r_X12_span_j49 x1 x2 x3 x4 x5 x6 0 (wr m 12 0 0 0)) else (r_X12_span_j44 x1 x2 x3 x4 x5 x6 (wr m 12 0 0 0)))) else (r_X12_span_j44 x1 x2 x3 x4 x5 x6 (wr m 12 0 0 0))) else (r_X12_span_j44 x1 x2 x3 x4 x5 x6 (wr m 12 0 0 0))) else (r_X12_span_j44 x1 x2 x3 x4 x5 x6 (wr m 12 0 0 0))
set_option maxHeartbeats 4000000 in
set_option maxRecDepth 20000 in
theorem ok_X12_span (x1 : Int32) (x2 : Int32) (x3 : Int32) (x4 : Int32) (x5 : Int32) (x6 : Int32) (m : Mem) {z : Int32} {m' : Mem} (h : r_X12_span x1 x2 x3 x4 x5 x6 m = some (z, m')) : Mt yX12_span cX12_span 13 (some .int) 12 270 0 0 [vR 12 0, vI x1, vI x2, vI x3, vI x4, vI x5, vI x6] m (oI z) m' := by
  refine Mt.of (by decide) (Nat.le_of_ble_eq_true rfl) (by decide +kernel) (hhF_ne (by decide)) ?_
  show Xj RX12 cX12_span 13 (some .int) 12 270 0 0 0 0 0 [(0, vR 12 0), (1, vI x1), (2, vI x2), (3, vI x3), (4, vI x4), (5, vI x5), (6, vI x6)] [] m (oI z) m'
  unfold r_X12_span at h
  refine xj_aload_n 0 dX12_span_0 rfl ?_
  refine xj_iconst (z := 0) dX12_span_1 (by decide) ?_
  refine xj_putI dX12_span_2 fw_X12_109 rfl ?_
  refine xj_aload_n 0 dX12_span_5 rfl ?_
  refine xj_iload_n 2 dX12_span_6 rfl ?_
  refine xj_iconst (z := 1) dX12_span_7 (by decide) ?_
  refine xj_bipush (z := 20) dX12_span_8 (by decide) ?_
  refine xc_Sb0 (st := [vR 12 0]) (ok_X12_in x2 1 20 (wr m 12 0 0 0) rfl) dX12_span_10 cs_X12_143 rfl rfl (Nat.le_of_ble_eq_true rfl) (by decide) (by decide) (by decide) (by decide) ?_
  refine xj_if_eq (tgt := 44) dX12_span_13 (by decide) (fun c1 => ?_) (fun c1 => ?_)
  · rw [if_neg (b2i_f c1)] at h
    exact ok_X12_span_j44 x1 x2 x3 x4 x5 x6 (wr m 12 0 0 0) h 
  · rw [if_pos (b2i_t c1)] at h
    refine xj_iload_n 3 dX12_span_16 rfl ?_
    refine xj_iload 4 dX12_span_17 rfl ?_
    refine xc_Sb0 (st := [vR 12 0]) (ok_X12_isYear x3 x4 (wr m 12 0 0 0) rfl) dX12_span_19 cs_X12_415 rfl rfl (Nat.le_of_ble_eq_true rfl) (by decide) (by decide) (by decide) (by decide) ?_
    refine xj_if_eq (tgt := 44) dX12_span_22 (by decide) (fun c2 => ?_) (fun c2 => ?_)
    · rw [if_neg (b2i_f c2)] at h
      exact ok_X12_span_j44 x1 x2 x3 x4 x5 x6 (wr m 12 0 0 0) h 
    · rw [if_pos (b2i_t c2)] at h
      refine xj_iload 5 dX12_span_25 rfl ?_
      refine xj_iconst (z := 0) dX12_span_27 (by decide) ?_
      refine xj_iconst (z := 2) dX12_span_28 (by decide) ?_
      refine xc_Sb0 (st := [vR 12 0]) (ok_X12_in x5 0 2 (wr m 12 0 0 0) rfl) dX12_span_29 cs_X12_143 rfl rfl (Nat.le_of_ble_eq_true rfl) (by decide) (by decide) (by decide) (by decide) ?_
      refine xj_if_eq (tgt := 44) dX12_span_32 (by decide) (fun c3 => ?_) (fun c3 => ?_)
      · rw [if_neg (b2i_f c3)] at h
        exact ok_X12_span_j44 x1 x2 x3 x4 x5 x6 (wr m 12 0 0 0) h 
      · rw [if_pos (b2i_t c3)] at h
        refine xj_aload_n 0 dX12_span_35 rfl ?_
        refine xj_iload 6 dX12_span_36 rfl ?_
        obtain ⟨z5, e4, h⟩ := bd1_some h
        refine xc_Vb0 (st := [vR 12 0]) (ok_X12_isPlace x6 (wr m 12 0 0 0) e4) dX12_span_38 cv_X12_352 rfl rfl (Nat.le_of_ble_eq_true rfl) (by decide) (by decide) (by decide) (by decide) ?_
        refine xj_if_ne (tgt := 48) dX12_span_41 (by decide) (fun c6 => ?_) (fun c6 => ?_)
        · rw [if_pos (b2i_t c6)] at h
          refine xj_iconst (z := 0) dX12_span_48 (by decide) ?_
          exact ok_X12_span_j49 x1 x2 x3 x4 x5 x6 0 (wr m 12 0 0 0) h 
        · rw [if_neg (b2i_f c6)] at h
          exact ok_X12_span_j44 x1 x2 x3 x4 x5 x6 (wr m 12 0 0 0) h 
noncomputable def r_X12_status (x1 : Int32) (m : Mem) : Option (Int32 × Mem) :=
  if (r_X12_in x1 0 1) = true then (if inb x1 2 = true then (some ((m 50 0 x1.toNatClampNeg), (wr m 12 0 0 0))) else none) else (some ((-1), (wr m 12 0 0 0)))
set_option maxHeartbeats 4000000 in
set_option maxRecDepth 20000 in
theorem ok_X12_status (x1 : Int32) (m : Mem) {z : Int32} {m' : Mem} (h : r_X12_status x1 m = some (z, m')) : Mt yX12_status cX12_status 2 (some .int) 2 22 0 0 [vR 12 0, vI x1] m (oI z) m' := by
  refine Mt.of (by decide) (Nat.le_of_ble_eq_true rfl) (by decide +kernel) (hhF_ne (by decide)) ?_
  show Xj RX12 cX12_status 2 (some .int) 2 22 0 0 0 0 0 [(0, vR 12 0), (1, vI x1)] [] m (oI z) m'
  unfold r_X12_status at h
  refine xj_aload_n 0 dX12_status_0 rfl ?_
  refine xj_iconst (z := 0) dX12_status_1 (by decide) ?_
  refine xj_putI dX12_status_2 fw_X12_109 rfl ?_
  refine xj_iload_n 1 dX12_status_5 rfl ?_
  refine xj_iconst (z := 0) dX12_status_6 (by decide) ?_
  refine xj_iconst (z := 1) dX12_status_7 (by decide) ?_
  refine xc_Sb0 (st := []) (ok_X12_in x1 0 1 (wr m 12 0 0 0) rfl) dX12_status_8 cs_X12_143 rfl rfl (Nat.le_of_ble_eq_true rfl) (by decide) (by decide) (by decide) (by decide) ?_
  refine xj_if_eq (tgt := 23) dX12_status_11 (by decide) (fun c1 => ?_) (fun c1 => ?_)
  · rw [if_neg (b2i_f c1)] at h
    refine xj_iconst (z := (-1)) dX12_status_23 (by decide) ?_
    cases h
    exact xj_ireturn dX12_status_24 rfl (by decide) (by decide)
  · rw [if_pos (b2i_t c1)] at h
    refine xj_aload_n 0 dX12_status_14 rfl ?_
    refine xg_getR (k' := 50) (i' := 0) dX12_status_15 fl_X12_17 rfl ?_
    refine xj_iload_n 1 dX12_status_18 rfl ?_
    by_cases c2 : inb x1 2 = true
    case neg => rw [if_neg c2] at h; cases h
    rw [if_pos c2] at h
    refine xg_iald (z := (m 50 0 x1.toNatClampNeg)) (n := x1.toNatClampNeg) dX12_status_19 rfl (by decide) (inb_in c2) rfl rfl ?_
    refine xj_goto (tgt := 24) dX12_status_20 (by decide) ?_
    cases h
    exact xj_ireturn dX12_status_24 rfl (by decide) (by decide)
noncomputable def r_X12_stays_j55_c25 (x4 : Int32) (y5 : Int64) (s0 : Int32) (m : Mem) : Option ((Int64 × Int32 × Int32 × Mem) ⊕ ((Mem) ⊕ (Int32 × Mem))) :=
  if (x4 - s0) = 20 then (some (Sum.inr (Sum.inr (s0, m)))) else (bd1 (r_X12_dayEnds 1 m) fun m10 => (some (Sum.inl (y5, s0, x4 + 1, m10))))
set_option maxHeartbeats 4000000 in
set_option maxRecDepth 20000 in
theorem ok_X12_stays_j55_c25 (x4 : Int32) (y5 : Int64) (s0 : Int32) (m : Mem) {r : (Int64 × Int32 × Int32 × Mem) ⊕ ((Mem) ⊕ (Int32 × Mem))} (h : r_X12_stays_j55_c25 x4 y5 s0 m = some r) {o : Ou} {M' : Mem} (kb : ∀ (y1' : Int64) (x3' : Int32) (x4' : Int32) (m'' : Mem), r = Sum.inl (y1', x3', x4', m'') → Xj RX12 cX12_stays 7 (some .int) 11 245 0 0 0 0 25 [(0, vR 12 0), (1, vL y1'), (3, vI x3'), (4, vI x4')] [] m'' o M') (ke : ∀ (m'' : Mem), r = Sum.inr (Sum.inl m'') → Xj RX12 cX12_stays 7 (some .int) 11 245 0 0 0 0 84 [] [] m'' o M') (kr : ∀ (z : Int32) (m' : Mem), r = Sum.inr (Sum.inr (z, m')) → o = (oI z) ∧ M' = m') : Xj RX12 cX12_stays 7 (some .int) 11 245 0 0 0 0 55 [(0, vR 12 0), (4, vI x4), (5, vL y5)] [vI s0] m o M' := by
  unfold r_X12_stays_j55_c25 at h
  refine xj_istore_n (ls' := [(3, vI s0), (0, vR 12 0), (4, vI x4), (5, vL y5)]) dX12_stays_55 rfl (by decide) rfl ?_
  refine xj_lload 3 dX12_stays_56 rfl ?_
  refine xj_lstore_n (ls' := [(1, vL y5), (3, vI s0), (0, vR 12 0), (4, vI x4), (5, vL y5)]) dX12_stays_58 rfl (by decide) rfl ?_
  refine xj_iload 3 dX12_stays_59 rfl ?_
  refine xj_iload_n 1 dX12_stays_61 rfl ?_
  refine xj_isub dX12_stays_62 ?_
  refine xj_bipush (z := 20) dX12_stays_63 (by decide) ?_
  refine xj_icmp_ne (tgt := 70) dX12_stays_65 (by decide) (fun c8 => ?_) (fun c8 => ?_)
  · rw [if_neg c8] at h
    refine xj_aload_n 2 dX12_stays_70 rfl ?_
    refine xj_aload_n 2 dX12_stays_71 rfl ?_
    refine xg_getR (k' := 60) (i' := 1) dX12_stays_72 fl_X12_76 rfl ?_
    obtain ⟨m10, e9, h⟩ := bd1_some h
    refine xc_Vv0 (st := []) (ok_X12_dayEnds 1 m e9) dX12_stays_75 cv_X12_326 rfl rfl (Nat.le_of_ble_eq_true rfl) (by decide) (by decide) (by decide) (by decide) ?_
    refine xj_iinc (z := x4 + 1) (ls' := [(4, vI (x4 + 1)), (1, vL y5), (3, vI s0), (0, vR 12 0), (5, vL y5)]) 3 dX12_stays_78 rfl rfl (by decide) rfl ?_
    refine xj_goto (tgt := 25) dX12_stays_81 (by decide) ?_
    cases h
    refine xj_pick (ls' := [(0, vR 12 0), (1, vL y5), (3, vI s0), (4, vI (x4 + 1))]) [3, 1, 2, 0] rfl ?_
    exact kb y5 s0 (x4 + 1) m10 rfl
  · rw [if_pos c8] at h
    refine xj_iload_n 1 dX12_stays_68 rfl ?_
    cases h
    obtain ⟨rfl, rfl⟩ := kr _ _ rfl
    exact xj_ireturn dX12_stays_69 rfl (by decide) (by decide)
noncomputable def r_X12_stays_b25 (y1 : Int64) (x3 : Int32) (x4 : Int32) (m : Mem) : Option ((Int64 × Int32 × Int32 × Mem) ⊕ ((Mem) ⊕ (Int32 × Mem))) :=
  if 80 < x4 then (some (Sum.inr (Sum.inl m))) else (bd2 (r_X12_courseName 1 m) fun z6 m5 => (if (lg_cmp z6 y1) = 0 then (r_X12_stays_j55_c25 x4 z6 x3 m5) else (r_X12_stays_j55_c25 x4 z6 x4 m5)))
set_option maxHeartbeats 4000000 in
set_option maxRecDepth 20000 in
theorem ok_X12_stays_b25 (y1 : Int64) (x3 : Int32) (x4 : Int32) (m : Mem) {r : (Int64 × Int32 × Int32 × Mem) ⊕ ((Mem) ⊕ (Int32 × Mem))} (h : r_X12_stays_b25 y1 x3 x4 m = some r) {o : Ou} {M' : Mem} (kb : ∀ (y1' : Int64) (x3' : Int32) (x4' : Int32) (m'' : Mem), r = Sum.inl (y1', x3', x4', m'') → Xj RX12 cX12_stays 7 (some .int) 11 245 0 0 0 0 25 [(0, vR 12 0), (1, vL y1'), (3, vI x3'), (4, vI x4')] [] m'' o M') (ke : ∀ (m'' : Mem), r = Sum.inr (Sum.inl m'') → Xj RX12 cX12_stays 7 (some .int) 11 245 0 0 0 0 84 [] [] m'' o M') (kr : ∀ (z : Int32) (m' : Mem), r = Sum.inr (Sum.inr (z, m')) → o = (oI z) ∧ M' = m') : Xj RX12 cX12_stays 7 (some .int) 11 245 0 0 0 0 25 [(0, vR 12 0), (1, vL y1), (3, vI x3), (4, vI x4)] [] m o M' := by
  unfold r_X12_stays_b25 at h
  refine xj_iload 3 dX12_stays_25 rfl ?_
  refine xj_bipush (z := 80) dX12_stays_27 (by decide) ?_
  refine xj_icmp_gt (tgt := 84) dX12_stays_29 (by decide) (fun c3 => ?_) (fun c3 => ?_)
  · rw [if_pos c3] at h
    cases h
    refine xj_pick (ls' := []) [] rfl ?_
    exact ke m rfl
  · rw [if_neg c3] at h
    refine xj_aload_n 0 dX12_stays_32 rfl ?_
    refine xj_aload_n 0 dX12_stays_33 rfl ?_
    refine xg_getR (k' := 60) (i' := 1) dX12_stays_34 fl_X12_76 rfl ?_
    obtain ⟨z6, m5, e4, h⟩ := bd2_some h
    refine xc_Vl0 (st := []) (ok_X12_courseName 1 m e4) dX12_stays_37 cv_X12_365 rfl rfl (Nat.le_of_ble_eq_true rfl) (by decide) (by decide) (by decide) (by decide) ?_
    refine xj_lstore (ls' := [(5, vL z6), (0, vR 12 0), (1, vL y1), (3, vI x3), (4, vI x4)]) dX12_stays_40 (by decide) rfl ?_
    refine xj_lload 0 dX12_stays_42 rfl ?_
    refine xj_lload_n 2 dX12_stays_44 rfl ?_
    refine xj_lcmp dX12_stays_45 ?_
    refine xj_if_ne (tgt := 53) dX12_stays_46 (by decide) (fun c7 => ?_) (fun c7 => ?_)
    · rw [if_neg c7] at h
      refine xj_iload 4 dX12_stays_53 rfl ?_
      refine xj_pick (ls' := [(0, vR 12 0), (4, vI x4), (5, vL z6)]) [1, 4, 0] rfl ?_
      exact ok_X12_stays_j55_c25 x4 z6 x4 m5 h kb ke kr
    · rw [if_pos c7] at h
      refine xj_iload_n 3 dX12_stays_49 rfl ?_
      refine xj_goto (tgt := 55) dX12_stays_50 (by decide) ?_
      refine xj_pick (ls' := [(0, vR 12 0), (4, vI x4), (5, vL z6)]) [1, 4, 0] rfl ?_
      exact ok_X12_stays_j55_c25 x4 z6 x3 m5 h kb ke kr
noncomputable def r_X12_stays_e84_h25 (m : Mem) : Option (Int32 × Mem) :=
  some ((-1), m)
set_option maxHeartbeats 4000000 in
set_option maxRecDepth 20000 in
theorem ok_X12_stays_e84_h25 (m : Mem) {z : Int32} {m' : Mem} (h : r_X12_stays_e84_h25 m = some (z, m')) : Xj RX12 cX12_stays 7 (some .int) 11 245 0 0 0 0 84 [] [] m (oI z) m' := by
  unfold r_X12_stays_e84_h25 at h
  refine xj_iconst (z := (-1)) dX12_stays_84 (by decide) ?_
  cases h
  exact xj_ireturn dX12_stays_85 rfl (by decide) (by decide)
noncomputable def r_X12_stays_l25 (y1 : Int64) (x3 : Int32) (x4 : Int32) (m : Mem) : Option (Int32 × Mem) :=
  bdS (loopO (fun s => r_X12_stays_b25 s.1 s.2.1 s.2.2.1 s.2.2.2) (y1, x3, x4, m)) (fun e => r_X12_stays_e84_h25 e) (fun q => some q)
set_option maxHeartbeats 4000000 in
set_option maxRecDepth 20000 in
theorem ok_X12_stays_l25 (y1 : Int64) (x3 : Int32) (x4 : Int32) (m : Mem) {z : Int32} {m' : Mem} (h : r_X12_stays_l25 y1 x3 x4 m = some (z, m')) : Xj RX12 cX12_stays 7 (some .int) 11 245 0 0 0 0 25 [(0, vR 12 0), (1, vL y1), (3, vI x3), (4, vI x4)] [] m (oI z) m' := by
  unfold r_X12_stays_l25 at h
  rcases bdS_some h with ⟨e, e1, h⟩ | ⟨q, e1, h⟩
  · refine loopO_ok (P := fun s : (Int64 × Int32 × Int32 × Mem) => Xj RX12 cX12_stays 7 (some .int) 11 245 0 0 0 0 25 [(0, vR 12 0), (1, vL s.1), (3, vI s.2.1), (4, vI s.2.2.1)] [] s.2.2.2 (oI z) m') (Q := Sum.elim (fun e : (Mem) => Xj RX12 cX12_stays 7 (some .int) 11 245 0 0 0 0 84 [] [] e (oI z) m') (fun q : (Int32 × Mem) => (oI z) = (oI q.1) ∧ m' = q.2)) ?_ _ _ e1 ?_
    · intro s r9 h9 hi hx
      exact ok_X12_stays_b25 s.1 s.2.1 s.2.2.1 s.2.2.2 h9 (by rintro _ _ _ _ rfl; exact hi _ rfl) (by rintro _ rfl; exact hx _ rfl) (by rintro _ _ rfl; exact hx _ rfl)
    · exact ok_X12_stays_e84_h25 e h 
  · refine loopO_ok (P := fun s : (Int64 × Int32 × Int32 × Mem) => Xj RX12 cX12_stays 7 (some .int) 11 245 0 0 0 0 25 [(0, vR 12 0), (1, vL s.1), (3, vI s.2.1), (4, vI s.2.2.1)] [] s.2.2.2 (oI z) m') (Q := Sum.elim (fun e : (Mem) => Xj RX12 cX12_stays 7 (some .int) 11 245 0 0 0 0 84 [] [] e (oI z) m') (fun q : (Int32 × Mem) => (oI z) = (oI q.1) ∧ m' = q.2)) ?_ _ _ e1 ?_
    · intro s r9 h9 hi hx
      exact ok_X12_stays_b25 s.1 s.2.1 s.2.2.1 s.2.2.2 h9 (by rintro _ _ _ _ rfl; exact hi _ rfl) (by rintro _ rfl; exact hx _ rfl) (by rintro _ _ rfl; exact hx _ rfl)
    · cases h; exact ⟨rfl, rfl⟩
noncomputable def r_X12_stays (m : Mem) : Option (Int32 × Mem) :=
  bd1 (r_X12_copies 0 1 (wr m 12 0 0 0)) fun m2 => (r_X12_stays_l25 (-1) 0 0 m2)
set_option maxHeartbeats 4000000 in
set_option maxRecDepth 20000 in
theorem ok_X12_stays (m : Mem) {z : Int32} {m' : Mem} (h : r_X12_stays m = some (z, m')) : Mt yX12_stays cX12_stays 7 (some .int) 11 245 0 0 [vR 12 0] m (oI z) m' := by
  refine Mt.of (by decide) (Nat.le_of_ble_eq_true rfl) (by decide +kernel) (hhF_ne (by decide)) ?_
  show Xj RX12 cX12_stays 7 (some .int) 11 245 0 0 0 0 0 [(0, vR 12 0)] [] m (oI z) m'
  unfold r_X12_stays at h
  refine xj_aload_n 0 dX12_stays_0 rfl ?_
  refine xj_iconst (z := 0) dX12_stays_1 (by decide) ?_
  refine xj_putI dX12_stays_2 fw_X12_109 rfl ?_
  refine xj_ldc2 (z := (-1)) dX12_stays_5 wt_1858 ?_
  refine xj_lstore_n (ls' := [(1, vL (-1)), (0, vR 12 0)]) dX12_stays_8 rfl (by decide) rfl ?_
  refine xj_iconst (z := 0) dX12_stays_9 (by decide) ?_
  refine xj_istore_n (ls' := [(3, vI 0), (1, vL (-1)), (0, vR 12 0)]) dX12_stays_10 rfl (by decide) rfl ?_
  refine xj_aload_n 2 dX12_stays_11 rfl ?_
  refine xg_getR (k' := 60) (i' := 0) dX12_stays_12 fl_X12_73 rfl ?_
  refine xj_aload_n 2 dX12_stays_15 rfl ?_
  refine xg_getR (k' := 60) (i' := 1) dX12_stays_16 fl_X12_76 rfl ?_
  obtain ⟨m2, e1, h⟩ := bd1_some h
  refine xc_Sv0 (st := []) (ok_X12_copies 0 1 (wr m 12 0 0 0) e1) dX12_stays_19 cs_X12_342 rfl rfl (Nat.le_of_ble_eq_true rfl) (by decide) (by decide) (by decide) (by decide) ?_
  refine xj_iconst (z := 0) dX12_stays_22 (by decide) ?_
  refine xj_istore (ls' := [(4, vI 0), (3, vI 0), (1, vL (-1)), (0, vR 12 0)]) dX12_stays_23 (by decide) rfl ?_
  refine xj_pick (ls' := [(0, vR 12 0), (1, vL (-1)), (3, vI 0), (4, vI 0)]) [3, 2, 1, 0] rfl ?_
  exact ok_X12_stays_l25 (-1) 0 0 m2 h 
noncomputable def r_X12_tellings_j144_c125 (x2 : Int32) (x3 : Int32) (x4 : Int32) (x5 : Int32) (x6 : Int32) (s0 : Int32) (s1 : Int32) (m : Mem) : Option ((Int32 × Mem) ⊕ ((Mem) ⊕ (Int32 × Mem))) :=
  if s0 ≤ s1 then (some (Sum.inr (Sum.inl m))) else (bd2 (r_X12_comesBy x5 x6 x2 m) fun z30 m29 => (if z30 = true then (if x3 = 0 then (some (Sum.inr (Sum.inr (x4, m29)))) else (if inb x5 32 = true then (some (Sum.inr (Sum.inr (((100 * (m29 85 x5.toNatClampNeg 0)) + (m29 85 x5.toNatClampNeg 1)), m29)))) else none)) else (some (Sum.inl (x6 + 1, m29)))))
set_option maxHeartbeats 4000000 in
set_option maxRecDepth 20000 in
theorem ok_X12_tellings_j144_c125 (x2 : Int32) (x3 : Int32) (x4 : Int32) (x5 : Int32) (x6 : Int32) (s0 : Int32) (s1 : Int32) (m : Mem) {r : (Int32 × Mem) ⊕ ((Mem) ⊕ (Int32 × Mem))} (h : r_X12_tellings_j144_c125 x2 x3 x4 x5 x6 s0 s1 m = some r) {o : Ou} {M' : Mem} (kb : ∀ (x6' : Int32) (m'' : Mem), r = Sum.inl (x6', m'') → Xj RX12 cX12_tellings 7 (some .int) 10 220 0 0 0 0 125 [(0, vR 12 0), (2, vI x2), (3, vI x3), (4, vI x4), (5, vI x5), (6, vI x6')] [] m'' o M') (ke : ∀ (m'' : Mem), r = Sum.inr (Sum.inl m'') → Xj RX12 cX12_tellings 7 (some .int) 10 220 0 0 0 0 197 [(0, vR 12 0), (2, vI x2), (3, vI x3), (4, vI x4), (5, vI x5)] [] m'' o M') (kr : ∀ (z : Int32) (m' : Mem), r = Sum.inr (Sum.inr (z, m')) → o = (oI z) ∧ M' = m') : Xj RX12 cX12_tellings 7 (some .int) 10 220 0 0 0 0 144 [(0, vR 12 0), (2, vI x2), (3, vI x3), (4, vI x4), (5, vI x5), (6, vI x6)] [vI s0, vI s1] m o M' := by
  unfold r_X12_tellings_j144_c125 at h
  refine xj_icmp_ge (tgt := 197) dX12_tellings_144 (by decide) (fun c27 => ?_) (fun c27 => ?_)
  · rw [if_pos c27] at h
    cases h
    refine xj_pick (ls' := [(0, vR 12 0), (2, vI x2), (3, vI x3), (4, vI x4), (5, vI x5)]) [0, 1, 2, 3, 4] rfl ?_
    exact ke m rfl
  · rw [if_neg c27] at h
    refine xj_aload_n 0 dX12_tellings_147 rfl ?_
    refine xj_iload 4 dX12_tellings_148 rfl ?_
    refine xj_iload 5 dX12_tellings_150 rfl ?_
    refine xj_iload_n 1 dX12_tellings_152 rfl ?_
    obtain ⟨z30, m29, e28, h⟩ := bd2_some h
    refine xc_Vb0 (st := []) (ok_X12_comesBy x5 x6 x2 m e28) dX12_tellings_153 cv_X12_375 rfl rfl (Nat.le_of_ble_eq_true rfl) (by decide) (by decide) (by decide) (by decide) ?_
    refine xj_if_eq (tgt := 191) dX12_tellings_156 (by decide) (fun c31 => ?_) (fun c31 => ?_)
    · rw [if_neg (b2i_f c31)] at h
      refine xj_iinc (z := x6 + 1) (ls' := [(6, vI (x6 + 1)), (0, vR 12 0), (2, vI x2), (3, vI x3), (4, vI x4), (5, vI x5)]) 5 dX12_tellings_191 rfl rfl (by decide) rfl ?_
      refine xj_goto (tgt := 125) dX12_tellings_194 (by decide) ?_
      cases h
      refine xj_pick (ls' := [(0, vR 12 0), (2, vI x2), (3, vI x3), (4, vI x4), (5, vI x5), (6, vI (x6 + 1))]) [1, 2, 3, 4, 5, 0] rfl ?_
      exact kb (x6 + 1) m29 rfl
    · rw [if_pos (b2i_t c31)] at h
      refine xj_iload_n 2 dX12_tellings_159 rfl ?_
      refine xj_if_ne (tgt := 168) dX12_tellings_160 (by decide) (fun c32 => ?_) (fun c32 => ?_)
      · rw [if_neg c32] at h
        refine xj_bipush (z := 100) dX12_tellings_168 (by decide) ?_
        refine xj_aload_n 0 dX12_tellings_170 rfl ?_
        refine xg_getR (k' := 86) (i' := 0) dX12_tellings_171 fl_X12_91 rfl ?_
        refine xj_iload 4 dX12_tellings_174 rfl ?_
        by_cases c33 : inb x5 32 = true
        case neg => rw [if_neg c33] at h; cases h
        rw [if_pos c33] at h
        refine xg_aald (k' := 85) (i' := x5.toNatClampNeg) (n := x5.toNatClampNeg) dX12_tellings_176 rfl (by decide) (inb_in c33) rfl rfl ?_
        refine xj_iconst (z := 0) dX12_tellings_177 (by decide) ?_
        refine xg_iald (z := (m29 85 x5.toNatClampNeg 0)) (n := 0) dX12_tellings_178 rfl (by decide) (inb_in (by decide)) (by decide) rfl ?_
        refine xj_imul dX12_tellings_179 ?_
        refine xj_aload_n 0 dX12_tellings_180 rfl ?_
        refine xg_getR (k' := 86) (i' := 0) dX12_tellings_181 fl_X12_91 rfl ?_
        refine xj_iload 4 dX12_tellings_184 rfl ?_
        refine xg_aald (k' := 85) (i' := x5.toNatClampNeg) (n := x5.toNatClampNeg) dX12_tellings_186 rfl (by decide) (inb_in c33) rfl rfl ?_
        refine xj_iconst (z := 1) dX12_tellings_187 (by decide) ?_
        refine xg_iald (z := (m29 85 x5.toNatClampNeg 1)) (n := 1) dX12_tellings_188 rfl (by decide) (inb_in (by decide)) (by decide) rfl ?_
        refine xj_iadd dX12_tellings_189 ?_
        cases h
        obtain ⟨rfl, rfl⟩ := kr _ _ rfl
        exact xj_ireturn dX12_tellings_190 rfl (by decide) (by decide)
      · rw [if_pos c32] at h
        refine xj_iload 3 dX12_tellings_163 rfl ?_
        refine xj_goto (tgt := 190) dX12_tellings_165 (by decide) ?_
        cases h
        obtain ⟨rfl, rfl⟩ := kr _ _ rfl
        exact xj_ireturn dX12_tellings_190 rfl (by decide) (by decide)
noncomputable def r_X12_tellings_b125_c102 (x2 : Int32) (x3 : Int32) (x4 : Int32) (x5 : Int32) (x6 : Int32) (m : Mem) : Option ((Int32 × Mem) ⊕ ((Mem) ⊕ (Int32 × Mem))) :=
  if x4 = 1 then (r_X12_tellings_j144_c125 x2 x3 x4 x5 x6 (x5 + 1) x6 m) else (r_X12_tellings_j144_c125 x2 x3 x4 x5 x6 (m 12 0 47) x6 m)
set_option maxHeartbeats 4000000 in
set_option maxRecDepth 20000 in
theorem ok_X12_tellings_b125_c102 (x2 : Int32) (x3 : Int32) (x4 : Int32) (x5 : Int32) (x6 : Int32) (m : Mem) {r : (Int32 × Mem) ⊕ ((Mem) ⊕ (Int32 × Mem))} (h : r_X12_tellings_b125_c102 x2 x3 x4 x5 x6 m = some r) {o : Ou} {M' : Mem} (kb : ∀ (x6' : Int32) (m'' : Mem), r = Sum.inl (x6', m'') → Xj RX12 cX12_tellings 7 (some .int) 10 220 0 0 0 0 125 [(0, vR 12 0), (2, vI x2), (3, vI x3), (4, vI x4), (5, vI x5), (6, vI x6')] [] m'' o M') (ke : ∀ (m'' : Mem), r = Sum.inr (Sum.inl m'') → Xj RX12 cX12_tellings 7 (some .int) 10 220 0 0 0 0 197 [(0, vR 12 0), (2, vI x2), (3, vI x3), (4, vI x4), (5, vI x5)] [] m'' o M') (kr : ∀ (z : Int32) (m' : Mem), r = Sum.inr (Sum.inr (z, m')) → o = (oI z) ∧ M' = m') : Xj RX12 cX12_tellings 7 (some .int) 10 220 0 0 0 0 125 [(0, vR 12 0), (2, vI x2), (3, vI x3), (4, vI x4), (5, vI x5), (6, vI x6)] [] m o M' := by
  unfold r_X12_tellings_b125_c102 at h
  refine xj_iload 5 dX12_tellings_125 rfl ?_
  refine xj_iload 3 dX12_tellings_127 rfl ?_
  refine xj_iconst (z := 1) dX12_tellings_129 (by decide) ?_
  refine xj_icmp_ne (tgt := 140) dX12_tellings_130 (by decide) (fun c26 => ?_) (fun c26 => ?_)
  · rw [if_neg c26] at h
    refine xj_aload_n 0 dX12_tellings_140 rfl ?_
    refine xg_getI (x := (m 12 0 47)) dX12_tellings_141 fl_X12_369 rfl rfl ?_
    exact ok_X12_tellings_j144_c125 x2 x3 x4 x5 x6 (m 12 0 47) x6 m h kb ke kr
  · rw [if_pos c26] at h
    refine xj_iload 4 dX12_tellings_133 rfl ?_
    refine xj_iconst (z := 1) dX12_tellings_135 (by decide) ?_
    refine xj_iadd dX12_tellings_136 ?_
    refine xj_goto (tgt := 144) dX12_tellings_137 (by decide) ?_
    exact ok_X12_tellings_j144_c125 x2 x3 x4 x5 x6 (x5 + 1) x6 m h kb ke kr
noncomputable def r_X12_tellings_e197_h125_c102 (x2 : Int32) (x3 : Int32) (x4 : Int32) (x5 : Int32) (m : Mem) : Option ((Int32 × Mem) ⊕ ((Mem) ⊕ (Int32 × Mem))) :=
  some (Sum.inl (x5 + 1, m))
set_option maxHeartbeats 4000000 in
set_option maxRecDepth 20000 in
theorem ok_X12_tellings_e197_h125_c102 (x2 : Int32) (x3 : Int32) (x4 : Int32) (x5 : Int32) (m : Mem) {r : (Int32 × Mem) ⊕ ((Mem) ⊕ (Int32 × Mem))} (h : r_X12_tellings_e197_h125_c102 x2 x3 x4 x5 m = some r) {o : Ou} {M' : Mem} (kb : ∀ (x5' : Int32) (m'' : Mem), r = Sum.inl (x5', m'') → Xj RX12 cX12_tellings 7 (some .int) 10 220 0 0 0 0 102 [(0, vR 12 0), (2, vI x2), (3, vI x3), (4, vI x4), (5, vI x5')] [] m'' o M') (ke : ∀ (m'' : Mem), r = Sum.inr (Sum.inl m'') → Xj RX12 cX12_tellings 7 (some .int) 10 220 0 0 0 0 203 [(0, vR 12 0), (2, vI x2), (3, vI x3), (4, vI x4)] [] m'' o M') (kr : ∀ (z : Int32) (m' : Mem), r = Sum.inr (Sum.inr (z, m')) → o = (oI z) ∧ M' = m') : Xj RX12 cX12_tellings 7 (some .int) 10 220 0 0 0 0 197 [(0, vR 12 0), (2, vI x2), (3, vI x3), (4, vI x4), (5, vI x5)] [] m o M' := by
  unfold r_X12_tellings_e197_h125_c102 at h
  refine xj_iinc (z := x5 + 1) (ls' := [(5, vI (x5 + 1)), (0, vR 12 0), (2, vI x2), (3, vI x3), (4, vI x4)]) 4 dX12_tellings_197 rfl rfl (by decide) rfl ?_
  refine xj_goto (tgt := 102) dX12_tellings_200 (by decide) ?_
  cases h
  refine xj_pick (ls' := [(0, vR 12 0), (2, vI x2), (3, vI x3), (4, vI x4), (5, vI (x5 + 1))]) [1, 2, 3, 4, 0] rfl ?_
  exact kb (x5 + 1) m rfl
noncomputable def r_X12_tellings_l125_c102 (x2 : Int32) (x3 : Int32) (x4 : Int32) (x5 : Int32) (x6 : Int32) (m : Mem) : Option ((Int32 × Mem) ⊕ ((Mem) ⊕ (Int32 × Mem))) :=
  bdS (loopO (fun s => r_X12_tellings_b125_c102 x2 x3 x4 x5 s.1 s.2) (x6, m)) (fun e => r_X12_tellings_e197_h125_c102 x2 x3 x4 x5 e) (fun q => some (Sum.inr (Sum.inr q)))
set_option maxHeartbeats 4000000 in
set_option maxRecDepth 20000 in
theorem ok_X12_tellings_l125_c102 (x2 : Int32) (x3 : Int32) (x4 : Int32) (x5 : Int32) (x6 : Int32) (m : Mem) {r : (Int32 × Mem) ⊕ ((Mem) ⊕ (Int32 × Mem))} (h : r_X12_tellings_l125_c102 x2 x3 x4 x5 x6 m = some r) {o : Ou} {M' : Mem} (kb : ∀ (x5' : Int32) (m'' : Mem), r = Sum.inl (x5', m'') → Xj RX12 cX12_tellings 7 (some .int) 10 220 0 0 0 0 102 [(0, vR 12 0), (2, vI x2), (3, vI x3), (4, vI x4), (5, vI x5')] [] m'' o M') (ke : ∀ (m'' : Mem), r = Sum.inr (Sum.inl m'') → Xj RX12 cX12_tellings 7 (some .int) 10 220 0 0 0 0 203 [(0, vR 12 0), (2, vI x2), (3, vI x3), (4, vI x4)] [] m'' o M') (kr : ∀ (z : Int32) (m' : Mem), r = Sum.inr (Sum.inr (z, m')) → o = (oI z) ∧ M' = m') : Xj RX12 cX12_tellings 7 (some .int) 10 220 0 0 0 0 125 [(0, vR 12 0), (2, vI x2), (3, vI x3), (4, vI x4), (5, vI x5), (6, vI x6)] [] m o M' := by
  unfold r_X12_tellings_l125_c102 at h
  rcases bdS_some h with ⟨e, e1, h⟩ | ⟨q, e1, h⟩
  · refine loopO_ok (P := fun s : (Int32 × Mem) => Xj RX12 cX12_tellings 7 (some .int) 10 220 0 0 0 0 125 [(0, vR 12 0), (2, vI x2), (3, vI x3), (4, vI x4), (5, vI x5), (6, vI s.1)] [] s.2 o M') (Q := Sum.elim (fun e : (Mem) => Xj RX12 cX12_tellings 7 (some .int) 10 220 0 0 0 0 197 [(0, vR 12 0), (2, vI x2), (3, vI x3), (4, vI x4), (5, vI x5)] [] e o M') (fun q : (Int32 × Mem) => o = (oI q.1) ∧ M' = q.2)) ?_ _ _ e1 ?_
    · intro s r9 h9 hi hx
      exact ok_X12_tellings_b125_c102 x2 x3 x4 x5 s.1 s.2 h9 (by rintro _ _ rfl; exact hi _ rfl) (by rintro _ rfl; exact hx _ rfl) (by rintro _ _ rfl; exact hx _ rfl)
    · exact ok_X12_tellings_e197_h125_c102 x2 x3 x4 x5 e h kb ke kr
  · refine loopO_ok (P := fun s : (Int32 × Mem) => Xj RX12 cX12_tellings 7 (some .int) 10 220 0 0 0 0 125 [(0, vR 12 0), (2, vI x2), (3, vI x3), (4, vI x4), (5, vI x5), (6, vI s.1)] [] s.2 o M') (Q := Sum.elim (fun e : (Mem) => Xj RX12 cX12_tellings 7 (some .int) 10 220 0 0 0 0 197 [(0, vR 12 0), (2, vI x2), (3, vI x3), (4, vI x4), (5, vI x5)] [] e o M') (fun q : (Int32 × Mem) => o = (oI q.1) ∧ M' = q.2)) ?_ _ _ e1 ?_
    · intro s r9 h9 hi hx
      exact ok_X12_tellings_b125_c102 x2 x3 x4 x5 s.1 s.2 h9 (by rintro _ _ rfl; exact hi _ rfl) (by rintro _ rfl; exact hx _ rfl) (by rintro _ _ rfl; exact hx _ rfl)
    · cases h; exact kr _ _ rfl
noncomputable def r_X12_tellings_j123_c102 (x2 : Int32) (x3 : Int32) (x4 : Int32) (x5 : Int32) (s0 : Int32) (m : Mem) : Option ((Int32 × Mem) ⊕ ((Mem) ⊕ (Int32 × Mem))) :=
  r_X12_tellings_l125_c102 x2 x3 x4 x5 s0 m
set_option maxHeartbeats 4000000 in
set_option maxRecDepth 20000 in
theorem ok_X12_tellings_j123_c102 (x2 : Int32) (x3 : Int32) (x4 : Int32) (x5 : Int32) (s0 : Int32) (m : Mem) {r : (Int32 × Mem) ⊕ ((Mem) ⊕ (Int32 × Mem))} (h : r_X12_tellings_j123_c102 x2 x3 x4 x5 s0 m = some r) {o : Ou} {M' : Mem} (kb : ∀ (x5' : Int32) (m'' : Mem), r = Sum.inl (x5', m'') → Xj RX12 cX12_tellings 7 (some .int) 10 220 0 0 0 0 102 [(0, vR 12 0), (2, vI x2), (3, vI x3), (4, vI x4), (5, vI x5')] [] m'' o M') (ke : ∀ (m'' : Mem), r = Sum.inr (Sum.inl m'') → Xj RX12 cX12_tellings 7 (some .int) 10 220 0 0 0 0 203 [(0, vR 12 0), (2, vI x2), (3, vI x3), (4, vI x4)] [] m'' o M') (kr : ∀ (z : Int32) (m' : Mem), r = Sum.inr (Sum.inr (z, m')) → o = (oI z) ∧ M' = m') : Xj RX12 cX12_tellings 7 (some .int) 10 220 0 0 0 0 123 [(0, vR 12 0), (2, vI x2), (3, vI x3), (4, vI x4), (5, vI x5)] [vI s0] m o M' := by
  unfold r_X12_tellings_j123_c102 at h
  refine xj_istore (ls' := [(6, vI s0), (0, vR 12 0), (2, vI x2), (3, vI x3), (4, vI x4), (5, vI x5)]) dX12_tellings_123 (by decide) rfl ?_
  refine xj_pick (ls' := [(0, vR 12 0), (2, vI x2), (3, vI x3), (4, vI x4), (5, vI x5), (6, vI s0)]) [1, 2, 3, 4, 5, 0] rfl ?_
  exact ok_X12_tellings_l125_c102 x2 x3 x4 x5 s0 m h kb ke kr
noncomputable def r_X12_tellings_b102_c93 (x2 : Int32) (x3 : Int32) (x4 : Int32) (x5 : Int32) (m : Mem) : Option ((Int32 × Mem) ⊕ ((Mem) ⊕ (Int32 × Mem))) :=
  if (m 12 0 47) ≤ x5 then (some (Sum.inr (Sum.inl m))) else (if x4 = 1 then (r_X12_tellings_j123_c102 x2 x3 x4 x5 x5 m) else (r_X12_tellings_j123_c102 x2 x3 x4 x5 0 m))
set_option maxHeartbeats 4000000 in
set_option maxRecDepth 20000 in
theorem ok_X12_tellings_b102_c93 (x2 : Int32) (x3 : Int32) (x4 : Int32) (x5 : Int32) (m : Mem) {r : (Int32 × Mem) ⊕ ((Mem) ⊕ (Int32 × Mem))} (h : r_X12_tellings_b102_c93 x2 x3 x4 x5 m = some r) {o : Ou} {M' : Mem} (kb : ∀ (x5' : Int32) (m'' : Mem), r = Sum.inl (x5', m'') → Xj RX12 cX12_tellings 7 (some .int) 10 220 0 0 0 0 102 [(0, vR 12 0), (2, vI x2), (3, vI x3), (4, vI x4), (5, vI x5')] [] m'' o M') (ke : ∀ (m'' : Mem), r = Sum.inr (Sum.inl m'') → Xj RX12 cX12_tellings 7 (some .int) 10 220 0 0 0 0 203 [(0, vR 12 0), (2, vI x2), (3, vI x3), (4, vI x4)] [] m'' o M') (kr : ∀ (z : Int32) (m' : Mem), r = Sum.inr (Sum.inr (z, m')) → o = (oI z) ∧ M' = m') : Xj RX12 cX12_tellings 7 (some .int) 10 220 0 0 0 0 102 [(0, vR 12 0), (2, vI x2), (3, vI x3), (4, vI x4), (5, vI x5)] [] m o M' := by
  unfold r_X12_tellings_b102_c93 at h
  refine xj_iload 4 dX12_tellings_102 rfl ?_
  refine xj_aload_n 0 dX12_tellings_104 rfl ?_
  refine xg_getI (x := (m 12 0 47)) dX12_tellings_105 fl_X12_369 rfl rfl ?_
  refine xj_icmp_ge (tgt := 203) dX12_tellings_108 (by decide) (fun c24 => ?_) (fun c24 => ?_)
  · rw [if_pos c24] at h
    cases h
    refine xj_pick (ls' := [(0, vR 12 0), (2, vI x2), (3, vI x3), (4, vI x4)]) [0, 1, 2, 3] rfl ?_
    exact ke m rfl
  · rw [if_neg c24] at h
    refine xj_iload 3 dX12_tellings_111 rfl ?_
    refine xj_iconst (z := 1) dX12_tellings_113 (by decide) ?_
    refine xj_icmp_ne (tgt := 122) dX12_tellings_114 (by decide) (fun c25 => ?_) (fun c25 => ?_)
    · rw [if_neg c25] at h
      refine xj_iconst (z := 0) dX12_tellings_122 (by decide) ?_
      exact ok_X12_tellings_j123_c102 x2 x3 x4 x5 0 m h kb ke kr
    · rw [if_pos c25] at h
      refine xj_iload 4 dX12_tellings_117 rfl ?_
      refine xj_goto (tgt := 123) dX12_tellings_119 (by decide) ?_
      exact ok_X12_tellings_j123_c102 x2 x3 x4 x5 x5 m h kb ke kr
noncomputable def r_X12_tellings_e203_h102_c93 (x2 : Int32) (x3 : Int32) (x4 : Int32) (m : Mem) : Option ((Int32 × Mem) ⊕ ((Mem) ⊕ (Int32 × Mem))) :=
  some (Sum.inl (x4 + 1, m))
set_option maxHeartbeats 4000000 in
set_option maxRecDepth 20000 in
theorem ok_X12_tellings_e203_h102_c93 (x2 : Int32) (x3 : Int32) (x4 : Int32) (m : Mem) {r : (Int32 × Mem) ⊕ ((Mem) ⊕ (Int32 × Mem))} (h : r_X12_tellings_e203_h102_c93 x2 x3 x4 m = some r) {o : Ou} {M' : Mem} (kb : ∀ (x4' : Int32) (m'' : Mem), r = Sum.inl (x4', m'') → Xj RX12 cX12_tellings 7 (some .int) 10 220 0 0 0 0 93 [(0, vR 12 0), (2, vI x2), (3, vI x3), (4, vI x4')] [] m'' o M') (ke : ∀ (m'' : Mem), r = Sum.inr (Sum.inl m'') → Xj RX12 cX12_tellings 7 (some .int) 10 220 0 0 0 0 209 [] [] m'' o M') (kr : ∀ (z : Int32) (m' : Mem), r = Sum.inr (Sum.inr (z, m')) → o = (oI z) ∧ M' = m') : Xj RX12 cX12_tellings 7 (some .int) 10 220 0 0 0 0 203 [(0, vR 12 0), (2, vI x2), (3, vI x3), (4, vI x4)] [] m o M' := by
  unfold r_X12_tellings_e203_h102_c93 at h
  refine xj_iinc (z := x4 + 1) (ls' := [(4, vI (x4 + 1)), (0, vR 12 0), (2, vI x2), (3, vI x3)]) 3 dX12_tellings_203 rfl rfl (by decide) rfl ?_
  refine xj_goto (tgt := 93) dX12_tellings_206 (by decide) ?_
  cases h
  refine xj_pick (ls' := [(0, vR 12 0), (2, vI x2), (3, vI x3), (4, vI (x4 + 1))]) [1, 2, 3, 0] rfl ?_
  exact kb (x4 + 1) m rfl
noncomputable def r_X12_tellings_l102_c93 (x2 : Int32) (x3 : Int32) (x4 : Int32) (x5 : Int32) (m : Mem) : Option ((Int32 × Mem) ⊕ ((Mem) ⊕ (Int32 × Mem))) :=
  bdS (loopO (fun s => r_X12_tellings_b102_c93 x2 x3 x4 s.1 s.2) (x5, m)) (fun e => r_X12_tellings_e203_h102_c93 x2 x3 x4 e) (fun q => some (Sum.inr (Sum.inr q)))
set_option maxHeartbeats 4000000 in
set_option maxRecDepth 20000 in
theorem ok_X12_tellings_l102_c93 (x2 : Int32) (x3 : Int32) (x4 : Int32) (x5 : Int32) (m : Mem) {r : (Int32 × Mem) ⊕ ((Mem) ⊕ (Int32 × Mem))} (h : r_X12_tellings_l102_c93 x2 x3 x4 x5 m = some r) {o : Ou} {M' : Mem} (kb : ∀ (x4' : Int32) (m'' : Mem), r = Sum.inl (x4', m'') → Xj RX12 cX12_tellings 7 (some .int) 10 220 0 0 0 0 93 [(0, vR 12 0), (2, vI x2), (3, vI x3), (4, vI x4')] [] m'' o M') (ke : ∀ (m'' : Mem), r = Sum.inr (Sum.inl m'') → Xj RX12 cX12_tellings 7 (some .int) 10 220 0 0 0 0 209 [] [] m'' o M') (kr : ∀ (z : Int32) (m' : Mem), r = Sum.inr (Sum.inr (z, m')) → o = (oI z) ∧ M' = m') : Xj RX12 cX12_tellings 7 (some .int) 10 220 0 0 0 0 102 [(0, vR 12 0), (2, vI x2), (3, vI x3), (4, vI x4), (5, vI x5)] [] m o M' := by
  unfold r_X12_tellings_l102_c93 at h
  rcases bdS_some h with ⟨e, e1, h⟩ | ⟨q, e1, h⟩
  · refine loopO_ok (P := fun s : (Int32 × Mem) => Xj RX12 cX12_tellings 7 (some .int) 10 220 0 0 0 0 102 [(0, vR 12 0), (2, vI x2), (3, vI x3), (4, vI x4), (5, vI s.1)] [] s.2 o M') (Q := Sum.elim (fun e : (Mem) => Xj RX12 cX12_tellings 7 (some .int) 10 220 0 0 0 0 203 [(0, vR 12 0), (2, vI x2), (3, vI x3), (4, vI x4)] [] e o M') (fun q : (Int32 × Mem) => o = (oI q.1) ∧ M' = q.2)) ?_ _ _ e1 ?_
    · intro s r9 h9 hi hx
      exact ok_X12_tellings_b102_c93 x2 x3 x4 s.1 s.2 h9 (by rintro _ _ rfl; exact hi _ rfl) (by rintro _ rfl; exact hx _ rfl) (by rintro _ _ rfl; exact hx _ rfl)
    · exact ok_X12_tellings_e203_h102_c93 x2 x3 x4 e h kb ke kr
  · refine loopO_ok (P := fun s : (Int32 × Mem) => Xj RX12 cX12_tellings 7 (some .int) 10 220 0 0 0 0 102 [(0, vR 12 0), (2, vI x2), (3, vI x3), (4, vI x4), (5, vI s.1)] [] s.2 o M') (Q := Sum.elim (fun e : (Mem) => Xj RX12 cX12_tellings 7 (some .int) 10 220 0 0 0 0 203 [(0, vR 12 0), (2, vI x2), (3, vI x3), (4, vI x4)] [] e o M') (fun q : (Int32 × Mem) => o = (oI q.1) ∧ M' = q.2)) ?_ _ _ e1 ?_
    · intro s r9 h9 hi hx
      exact ok_X12_tellings_b102_c93 x2 x3 x4 s.1 s.2 h9 (by rintro _ _ rfl; exact hi _ rfl) (by rintro _ rfl; exact hx _ rfl) (by rintro _ _ rfl; exact hx _ rfl)
    · cases h; exact kr _ _ rfl
noncomputable def r_X12_tellings_b93 (x2 : Int32) (x3 : Int32) (x4 : Int32) (m : Mem) : Option ((Int32 × Mem) ⊕ ((Mem) ⊕ (Int32 × Mem))) :=
  if 3 ≤ x4 then (some (Sum.inr (Sum.inl m))) else (r_X12_tellings_l102_c93 x2 x3 x4 0 m)
set_option maxHeartbeats 4000000 in
set_option maxRecDepth 20000 in
theorem ok_X12_tellings_b93 (x2 : Int32) (x3 : Int32) (x4 : Int32) (m : Mem) {r : (Int32 × Mem) ⊕ ((Mem) ⊕ (Int32 × Mem))} (h : r_X12_tellings_b93 x2 x3 x4 m = some r) {o : Ou} {M' : Mem} (kb : ∀ (x4' : Int32) (m'' : Mem), r = Sum.inl (x4', m'') → Xj RX12 cX12_tellings 7 (some .int) 10 220 0 0 0 0 93 [(0, vR 12 0), (2, vI x2), (3, vI x3), (4, vI x4')] [] m'' o M') (ke : ∀ (m'' : Mem), r = Sum.inr (Sum.inl m'') → Xj RX12 cX12_tellings 7 (some .int) 10 220 0 0 0 0 209 [] [] m'' o M') (kr : ∀ (z : Int32) (m' : Mem), r = Sum.inr (Sum.inr (z, m')) → o = (oI z) ∧ M' = m') : Xj RX12 cX12_tellings 7 (some .int) 10 220 0 0 0 0 93 [(0, vR 12 0), (2, vI x2), (3, vI x3), (4, vI x4)] [] m o M' := by
  unfold r_X12_tellings_b93 at h
  refine xj_iload 3 dX12_tellings_93 rfl ?_
  refine xj_iconst (z := 3) dX12_tellings_95 (by decide) ?_
  refine xj_icmp_ge (tgt := 209) dX12_tellings_96 (by decide) (fun c23 => ?_) (fun c23 => ?_)
  · rw [if_pos c23] at h
    cases h
    refine xj_pick (ls' := []) [] rfl ?_
    exact ke m rfl
  · rw [if_neg c23] at h
    refine xj_iconst (z := 0) dX12_tellings_99 (by decide) ?_
    refine xj_istore (ls' := [(5, vI 0), (0, vR 12 0), (2, vI x2), (3, vI x3), (4, vI x4)]) dX12_tellings_100 (by decide) rfl ?_
    refine xj_pick (ls' := [(0, vR 12 0), (2, vI x2), (3, vI x3), (4, vI x4), (5, vI 0)]) [1, 2, 3, 4, 0] rfl ?_
    exact ok_X12_tellings_l102_c93 x2 x3 x4 0 m h kb ke kr
noncomputable def r_X12_tellings_e209_h93 (m : Mem) : Option (Int32 × Mem) :=
  some ((-1), m)
set_option maxHeartbeats 4000000 in
set_option maxRecDepth 20000 in
theorem ok_X12_tellings_e209_h93 (m : Mem) {z : Int32} {m' : Mem} (h : r_X12_tellings_e209_h93 m = some (z, m')) : Xj RX12 cX12_tellings 7 (some .int) 10 220 0 0 0 0 209 [] [] m (oI z) m' := by
  unfold r_X12_tellings_e209_h93 at h
  refine xj_iconst (z := (-1)) dX12_tellings_209 (by decide) ?_
  cases h
  exact xj_ireturn dX12_tellings_210 rfl (by decide) (by decide)
noncomputable def r_X12_tellings_l93 (x2 : Int32) (x3 : Int32) (x4 : Int32) (m : Mem) : Option (Int32 × Mem) :=
  bdS (loopO (fun s => r_X12_tellings_b93 x2 x3 s.1 s.2) (x4, m)) (fun e => r_X12_tellings_e209_h93 e) (fun q => some q)
set_option maxHeartbeats 4000000 in
set_option maxRecDepth 20000 in
theorem ok_X12_tellings_l93 (x2 : Int32) (x3 : Int32) (x4 : Int32) (m : Mem) {z : Int32} {m' : Mem} (h : r_X12_tellings_l93 x2 x3 x4 m = some (z, m')) : Xj RX12 cX12_tellings 7 (some .int) 10 220 0 0 0 0 93 [(0, vR 12 0), (2, vI x2), (3, vI x3), (4, vI x4)] [] m (oI z) m' := by
  unfold r_X12_tellings_l93 at h
  rcases bdS_some h with ⟨e, e1, h⟩ | ⟨q, e1, h⟩
  · refine loopO_ok (P := fun s : (Int32 × Mem) => Xj RX12 cX12_tellings 7 (some .int) 10 220 0 0 0 0 93 [(0, vR 12 0), (2, vI x2), (3, vI x3), (4, vI s.1)] [] s.2 (oI z) m') (Q := Sum.elim (fun e : (Mem) => Xj RX12 cX12_tellings 7 (some .int) 10 220 0 0 0 0 209 [] [] e (oI z) m') (fun q : (Int32 × Mem) => (oI z) = (oI q.1) ∧ m' = q.2)) ?_ _ _ e1 ?_
    · intro s r9 h9 hi hx
      exact ok_X12_tellings_b93 x2 x3 s.1 s.2 h9 (by rintro _ _ rfl; exact hi _ rfl) (by rintro _ rfl; exact hx _ rfl) (by rintro _ _ rfl; exact hx _ rfl)
    · exact ok_X12_tellings_e209_h93 e h 
  · refine loopO_ok (P := fun s : (Int32 × Mem) => Xj RX12 cX12_tellings 7 (some .int) 10 220 0 0 0 0 93 [(0, vR 12 0), (2, vI x2), (3, vI x3), (4, vI s.1)] [] s.2 (oI z) m') (Q := Sum.elim (fun e : (Mem) => Xj RX12 cX12_tellings 7 (some .int) 10 220 0 0 0 0 209 [] [] e (oI z) m') (fun q : (Int32 × Mem) => (oI z) = (oI q.1) ∧ m' = q.2)) ?_ _ _ e1 ?_
    · intro s r9 h9 hi hx
      exact ok_X12_tellings_b93 x2 x3 s.1 s.2 h9 (by rintro _ _ rfl; exact hi _ rfl) (by rintro _ rfl; exact hx _ rfl) (by rintro _ _ rfl; exact hx _ rfl)
    · cases h; exact ⟨rfl, rfl⟩
noncomputable def r_X12_tellings_j50 (x1 : Int32) (x2 : Int32) (x3 : Int32) (s0 : Int32) (m : Mem) : Option (Int32 × Mem) :=
  bd2 (r_X12_bad s0 2 1 m) fun z14 m13 => (if z14 = true then (some (0, m13)) else (bd2 (r_X12_courseOf 0 m13) fun z18 m17 => (if (r_X12_has z18 x2) = true then (if x3 = 0 then (some (0, m17)) else (some ((-1), m17))) else (bd1 (r_X12_laysTells x1 m17) fun m22 => (r_X12_tellings_l93 x2 x3 1 m22)))))
set_option maxHeartbeats 4000000 in
set_option maxRecDepth 20000 in
theorem ok_X12_tellings_j50 (x1 : Int32) (x2 : Int32) (x3 : Int32) (s0 : Int32) (m : Mem) {z : Int32} {m' : Mem} (h : r_X12_tellings_j50 x1 x2 x3 s0 m = some (z, m')) : Xj RX12 cX12_tellings 7 (some .int) 10 220 0 0 0 0 50 [(0, vR 12 0), (1, vI x1), (2, vI x2), (3, vI x3)] [vI s0, vR 12 0] m (oI z) m' := by
  unfold r_X12_tellings_j50 at h
  refine xj_iconst (z := 2) dX12_tellings_50 (by decide) ?_
  refine xj_iconst (z := 1) dX12_tellings_51 (by decide) ?_
  obtain ⟨z14, m13, e12, h⟩ := bd2_some h
  refine xc_Vb0 (st := []) (ok_X12_bad s0 2 1 m e12) dX12_tellings_52 cv_X12_191 rfl rfl (Nat.le_of_ble_eq_true rfl) (by decide) (by decide) (by decide) (by decide) ?_
  refine xj_if_eq (tgt := 60) dX12_tellings_55 (by decide) (fun c15 => ?_) (fun c15 => ?_)
  · rw [if_neg (b2i_f c15)] at h
    refine xj_aload_n 0 dX12_tellings_60 rfl ?_
    refine xj_aload_n 0 dX12_tellings_61 rfl ?_
    refine xg_getR (k' := 60) (i' := 0) dX12_tellings_62 fl_X12_73 rfl ?_
    obtain ⟨z18, m17, e16, h⟩ := bd2_some h
    refine xc_Vi0 (st := []) (ok_X12_courseOf 0 m13 e16) dX12_tellings_65 cv_X12_315 rfl rfl (Nat.le_of_ble_eq_true rfl) (by decide) (by decide) (by decide) (by decide) ?_
    refine xj_iload_n 2 dX12_tellings_68 rfl ?_
    refine xc_Sb0 (st := []) (ok_X12_has z18 x2 m17 rfl) dX12_tellings_69 cs_X12_282 rfl rfl (Nat.le_of_ble_eq_true rfl) (by decide) (by decide) (by decide) (by decide) ?_
    refine xj_if_eq (tgt := 85) dX12_tellings_72 (by decide) (fun c19 => ?_) (fun c19 => ?_)
    · rw [if_neg (b2i_f c19)] at h
      refine xj_aload_n 0 dX12_tellings_85 rfl ?_
      refine xj_iload_n 1 dX12_tellings_86 rfl ?_
      obtain ⟨m22, e21, h⟩ := bd1_some h
      refine xc_Vv0 (st := []) (ok_X12_laysTells x1 m17 e21) dX12_tellings_87 cv_X12_372 rfl rfl (Nat.le_of_ble_eq_true rfl) (by decide) (by decide) (by decide) (by decide) ?_
      refine xj_iconst (z := 1) dX12_tellings_90 (by decide) ?_
      refine xj_istore (ls' := [(4, vI 1), (0, vR 12 0), (1, vI x1), (2, vI x2), (3, vI x3)]) dX12_tellings_91 (by decide) rfl ?_
      refine xj_pick (ls' := [(0, vR 12 0), (2, vI x2), (3, vI x3), (4, vI 1)]) [1, 3, 4, 0] rfl ?_
      exact ok_X12_tellings_l93 x2 x3 1 m22 h 
    · rw [if_pos (b2i_t c19)] at h
      refine xj_iload_n 3 dX12_tellings_75 rfl ?_
      refine xj_if_ne (tgt := 83) dX12_tellings_76 (by decide) (fun c20 => ?_) (fun c20 => ?_)
      · rw [if_neg c20] at h
        refine xj_iconst (z := (-1)) dX12_tellings_83 (by decide) ?_
        cases h
        exact xj_ireturn dX12_tellings_84 rfl (by decide) (by decide)
      · rw [if_pos c20] at h
        refine xj_iconst (z := 0) dX12_tellings_79 (by decide) ?_
        refine xj_goto (tgt := 84) dX12_tellings_80 (by decide) ?_
        cases h
        exact xj_ireturn dX12_tellings_84 rfl (by decide) (by decide)
  · rw [if_pos (b2i_t c15)] at h
    refine xj_iconst (z := 0) dX12_tellings_58 (by decide) ?_
    cases h
    exact xj_ireturn dX12_tellings_59 rfl (by decide) (by decide)
noncomputable def r_X12_tellings_j27 (x1 : Int32) (x2 : Int32) (x3 : Int32) (s0 : Int32) (m : Mem) : Option (Int32 × Mem) :=
  bd2 (r_X12_bad s0 1 0 m) fun z9 m8 => (if z9 = true then (some (0, m8)) else (if (r_X12_in x3 0 1) = true then (r_X12_tellings_j50 x1 x2 x3 0 m8) else (r_X12_tellings_j50 x1 x2 x3 1 m8)))
set_option maxHeartbeats 4000000 in
set_option maxRecDepth 20000 in
theorem ok_X12_tellings_j27 (x1 : Int32) (x2 : Int32) (x3 : Int32) (s0 : Int32) (m : Mem) {z : Int32} {m' : Mem} (h : r_X12_tellings_j27 x1 x2 x3 s0 m = some (z, m')) : Xj RX12 cX12_tellings 7 (some .int) 10 220 0 0 0 0 27 [(0, vR 12 0), (1, vI x1), (2, vI x2), (3, vI x3)] [vI s0, vR 12 0] m (oI z) m' := by
  unfold r_X12_tellings_j27 at h
  refine xj_iconst (z := 1) dX12_tellings_27 (by decide) ?_
  refine xj_iconst (z := 0) dX12_tellings_28 (by decide) ?_
  obtain ⟨z9, m8, e7, h⟩ := bd2_some h
  refine xc_Vb0 (st := []) (ok_X12_bad s0 1 0 m e7) dX12_tellings_29 cv_X12_191 rfl rfl (Nat.le_of_ble_eq_true rfl) (by decide) (by decide) (by decide) (by decide) ?_
  refine xj_if_ne (tgt := 58) dX12_tellings_32 (by decide) (fun c10 => ?_) (fun c10 => ?_)
  · rw [if_pos (b2i_t c10)] at h
    refine xj_iconst (z := 0) dX12_tellings_58 (by decide) ?_
    cases h
    exact xj_ireturn dX12_tellings_59 rfl (by decide) (by decide)
  · rw [if_neg (b2i_f c10)] at h
    refine xj_aload_n 0 dX12_tellings_35 rfl ?_
    refine xj_iload_n 3 dX12_tellings_36 rfl ?_
    refine xj_iconst (z := 0) dX12_tellings_37 (by decide) ?_
    refine xj_iconst (z := 1) dX12_tellings_38 (by decide) ?_
    refine xc_Sb0 (st := [vR 12 0]) (ok_X12_in x3 0 1 m8 rfl) dX12_tellings_39 cs_X12_143 rfl rfl (Nat.le_of_ble_eq_true rfl) (by decide) (by decide) (by decide) (by decide) ?_
    refine xj_if_ne (tgt := 49) dX12_tellings_42 (by decide) (fun c11 => ?_) (fun c11 => ?_)
    · rw [if_pos (b2i_t c11)] at h
      refine xj_iconst (z := 0) dX12_tellings_49 (by decide) ?_
      exact ok_X12_tellings_j50 x1 x2 x3 0 m8 h 
    · rw [if_neg (b2i_f c11)] at h
      refine xj_iconst (z := 1) dX12_tellings_45 (by decide) ?_
      refine xj_goto (tgt := 50) dX12_tellings_46 (by decide) ?_
      exact ok_X12_tellings_j50 x1 x2 x3 1 m8 h 
noncomputable def r_X12_tellings_j22 (x1 : Int32) (x2 : Int32) (x3 : Int32) (m : Mem) : Option (Int32 × Mem) :=
  r_X12_tellings_j27 x1 x2 x3 1 m
set_option maxHeartbeats 4000000 in
set_option maxRecDepth 20000 in
theorem ok_X12_tellings_j22 (x1 : Int32) (x2 : Int32) (x3 : Int32) (m : Mem) {z : Int32} {m' : Mem} (h : r_X12_tellings_j22 x1 x2 x3 m = some (z, m')) : Xj RX12 cX12_tellings 7 (some .int) 10 220 0 0 0 0 22 [(0, vR 12 0), (1, vI x1), (2, vI x2), (3, vI x3)] [vR 12 0] m (oI z) m' := by
  unfold r_X12_tellings_j22 at h
  refine xj_iconst (z := 1) dX12_tellings_22 (by decide) ?_
  refine xj_goto (tgt := 27) dX12_tellings_23 (by decide) ?_
  exact ok_X12_tellings_j27 x1 x2 x3 1 m h 
noncomputable def r_X12_tellings (x1 : Int32) (x2 : Int32) (x3 : Int32) (m : Mem) : Option (Int32 × Mem) :=
  bd1 (r_X12_isPerson x1 (wr m 12 0 0 0)) fun z2 => (if z2 = true then (bd1 (r_X12_isPlace x2 (wr m 12 0 0 0)) fun z5 => (if z5 = true then (r_X12_tellings_j27 x1 x2 x3 0 (wr m 12 0 0 0)) else (r_X12_tellings_j22 x1 x2 x3 (wr m 12 0 0 0)))) else (r_X12_tellings_j22 x1 x2 x3 (wr m 12 0 0 0)))
set_option maxHeartbeats 4000000 in
set_option maxRecDepth 20000 in
theorem ok_X12_tellings (x1 : Int32) (x2 : Int32) (x3 : Int32) (m : Mem) {z : Int32} {m' : Mem} (h : r_X12_tellings x1 x2 x3 m = some (z, m')) : Mt yX12_tellings cX12_tellings 7 (some .int) 10 220 0 0 [vR 12 0, vI x1, vI x2, vI x3] m (oI z) m' := by
  refine Mt.of (by decide) (Nat.le_of_ble_eq_true rfl) (by decide +kernel) (hhF_ne (by decide)) ?_
  show Xj RX12 cX12_tellings 7 (some .int) 10 220 0 0 0 0 0 [(0, vR 12 0), (1, vI x1), (2, vI x2), (3, vI x3)] [] m (oI z) m'
  unfold r_X12_tellings at h
  refine xj_aload_n 0 dX12_tellings_0 rfl ?_
  refine xj_iconst (z := 0) dX12_tellings_1 (by decide) ?_
  refine xj_putI dX12_tellings_2 fw_X12_109 rfl ?_
  refine xj_aload_n 0 dX12_tellings_5 rfl ?_
  refine xj_aload_n 0 dX12_tellings_6 rfl ?_
  refine xj_iload_n 1 dX12_tellings_7 rfl ?_
  obtain ⟨z2, e1, h⟩ := bd1_some h
  refine xc_Vb0 (st := [vR 12 0]) (ok_X12_isPerson x1 (wr m 12 0 0 0) e1) dX12_tellings_8 cv_X12_358 rfl rfl (Nat.le_of_ble_eq_true rfl) (by decide) (by decide) (by decide) (by decide) ?_
  refine xj_if_eq (tgt := 22) dX12_tellings_11 (by decide) (fun c3 => ?_) (fun c3 => ?_)
  · rw [if_neg (b2i_f c3)] at h
    exact ok_X12_tellings_j22 x1 x2 x3 (wr m 12 0 0 0) h 
  · rw [if_pos (b2i_t c3)] at h
    refine xj_aload_n 0 dX12_tellings_14 rfl ?_
    refine xj_iload_n 2 dX12_tellings_15 rfl ?_
    obtain ⟨z5, e4, h⟩ := bd1_some h
    refine xc_Vb0 (st := [vR 12 0]) (ok_X12_isPlace x2 (wr m 12 0 0 0) e4) dX12_tellings_16 cv_X12_352 rfl rfl (Nat.le_of_ble_eq_true rfl) (by decide) (by decide) (by decide) (by decide) ?_
    refine xj_if_ne (tgt := 26) dX12_tellings_19 (by decide) (fun c6 => ?_) (fun c6 => ?_)
    · rw [if_pos (b2i_t c6)] at h
      refine xj_iconst (z := 0) dX12_tellings_26 (by decide) ?_
      exact ok_X12_tellings_j27 x1 x2 x3 0 (wr m 12 0 0 0) h 
    · rw [if_neg (b2i_f c6)] at h
      exact ok_X12_tellings_j22 x1 x2 x3 (wr m 12 0 0 0) h 
