theorem dX9_isDone_0 : decode cX9_isDone 0 = .ok (.aload_n 0, 1) := by decide +kernel
theorem dX9_isDone_1 : decode cX9_isDone 1 = .ok (.getfield 11, 3) := by decide +kernel
theorem dX9_isDone_4 : decode cX9_isDone 4 = .ok (.iload_n 1, 1) := by decide +kernel
theorem dX9_isDone_5 : decode cX9_isDone 5 = .ok (.iaload, 1) := by decide +kernel
theorem dX9_isDone_6 : decode cX9_isDone 6 = .ok (.tableswitch 124 0 3 #[30, 56, 76, 100], 30) := by decide +kernel
theorem dX9_isDone_36 : decode cX9_isDone 36 = .ok (.aload_n 0, 1) := by decide +kernel
theorem dX9_isDone_37 : decode cX9_isDone 37 = .ok (.getfield 32, 3) := by decide +kernel
theorem dX9_isDone_40 : decode cX9_isDone 40 = .ok (.aload_n 0, 1) := by decide +kernel
theorem dX9_isDone_41 : decode cX9_isDone 41 = .ok (.getfield 15, 3) := by decide +kernel
theorem dX9_isDone_44 : decode cX9_isDone 44 = .ok (.iload_n 1, 1) := by decide +kernel
theorem dX9_isDone_45 : decode cX9_isDone 45 = .ok (.iaload, 1) := by decide +kernel
theorem dX9_isDone_46 : decode cX9_isDone 46 = .ok (.aload_n 0, 1) := by decide +kernel
theorem dX9_isDone_47 : decode cX9_isDone 47 = .ok (.getfield 18, 3) := by decide +kernel
theorem dX9_isDone_50 : decode cX9_isDone 50 = .ok (.iload_n 1, 1) := by decide +kernel
theorem dX9_isDone_51 : decode cX9_isDone 51 = .ok (.iaload, 1) := by decide +kernel
theorem dX9_isDone_52 : decode cX9_isDone 52 = .ok (.aload_n 0, 1) := by decide +kernel
theorem dX9_isDone_53 : decode cX9_isDone 53 = .ok (.getfield 21, 3) := by decide +kernel
theorem dX9_isDone_56 : decode cX9_isDone 56 = .ok (.iload_n 1, 1) := by decide +kernel
theorem dX9_isDone_57 : decode cX9_isDone 57 = .ok (.iaload, 1) := by decide +kernel
theorem dX9_isDone_58 : decode cX9_isDone 58 = .ok (.invokevirtual 136, 3) := by decide +kernel
theorem dX9_isDone_61 : decode cX9_isDone 61 = .ok (.ireturn, 1) := by decide +kernel
theorem dX9_isDone_62 : decode cX9_isDone 62 = .ok (.aload_n 0, 1) := by decide +kernel
theorem dX9_isDone_63 : decode cX9_isDone 63 = .ok (.getfield 32, 3) := by decide +kernel
theorem dX9_isDone_66 : decode cX9_isDone 66 = .ok (.aload_n 0, 1) := by decide +kernel
theorem dX9_isDone_67 : decode cX9_isDone 67 = .ok (.getfield 15, 3) := by decide +kernel
theorem dX9_isDone_70 : decode cX9_isDone 70 = .ok (.iload_n 1, 1) := by decide +kernel
theorem dX9_isDone_71 : decode cX9_isDone 71 = .ok (.iaload, 1) := by decide +kernel
theorem dX9_isDone_72 : decode cX9_isDone 72 = .ok (.aload_n 0, 1) := by decide +kernel
theorem dX9_isDone_73 : decode cX9_isDone 73 = .ok (.getfield 18, 3) := by decide +kernel
theorem dX9_isDone_76 : decode cX9_isDone 76 = .ok (.iload_n 1, 1) := by decide +kernel
theorem dX9_isDone_77 : decode cX9_isDone 77 = .ok (.iaload, 1) := by decide +kernel
theorem dX9_isDone_78 : decode cX9_isDone 78 = .ok (.invokevirtual 141, 3) := by decide +kernel
theorem dX9_isDone_81 : decode cX9_isDone 81 = .ok (.ireturn, 1) := by decide +kernel
theorem dX9_isDone_82 : decode cX9_isDone 82 = .ok (.aload_n 0, 1) := by decide +kernel
theorem dX9_isDone_83 : decode cX9_isDone 83 = .ok (.getfield 28, 3) := by decide +kernel
theorem dX9_isDone_86 : decode cX9_isDone 86 = .ok (.aload_n 0, 1) := by decide +kernel
theorem dX9_isDone_87 : decode cX9_isDone 87 = .ok (.getfield 32, 3) := by decide +kernel
theorem dX9_isDone_90 : decode cX9_isDone 90 = .ok (.aload_n 0, 1) := by decide +kernel
theorem dX9_isDone_91 : decode cX9_isDone 91 = .ok (.getfield 15, 3) := by decide +kernel
theorem dX9_isDone_94 : decode cX9_isDone 94 = .ok (.iload_n 1, 1) := by decide +kernel
theorem dX9_isDone_95 : decode cX9_isDone 95 = .ok (.iaload, 1) := by decide +kernel
theorem dX9_isDone_96 : decode cX9_isDone 96 = .ok (.aload_n 0, 1) := by decide +kernel
theorem dX9_isDone_97 : decode cX9_isDone 97 = .ok (.getfield 18, 3) := by decide +kernel
theorem dX9_isDone_100 : decode cX9_isDone 100 = .ok (.iload_n 1, 1) := by decide +kernel
theorem dX9_isDone_101 : decode cX9_isDone 101 = .ok (.iaload, 1) := by decide +kernel
theorem dX9_isDone_102 : decode cX9_isDone 102 = .ok (.invokevirtual 143, 3) := by decide +kernel
theorem dX9_isDone_105 : decode cX9_isDone 105 = .ok (.ireturn, 1) := by decide +kernel
theorem dX9_isDone_106 : decode cX9_isDone 106 = .ok (.aload_n 0, 1) := by decide +kernel
theorem dX9_isDone_107 : decode cX9_isDone 107 = .ok (.getfield 28, 3) := by decide +kernel
theorem dX9_isDone_110 : decode cX9_isDone 110 = .ok (.aload_n 0, 1) := by decide +kernel
theorem dX9_isDone_111 : decode cX9_isDone 111 = .ok (.getfield 32, 3) := by decide +kernel
theorem dX9_isDone_114 : decode cX9_isDone 114 = .ok (.aload_n 0, 1) := by decide +kernel
theorem dX9_isDone_115 : decode cX9_isDone 115 = .ok (.getfield 18, 3) := by decide +kernel
theorem dX9_isDone_118 : decode cX9_isDone 118 = .ok (.iload_n 1, 1) := by decide +kernel
theorem dX9_isDone_119 : decode cX9_isDone 119 = .ok (.iaload, 1) := by decide +kernel
theorem dX9_isDone_120 : decode cX9_isDone 120 = .ok (.aload_n 0, 1) := by decide +kernel
theorem dX9_isDone_121 : decode cX9_isDone 121 = .ok (.getfield 21, 3) := by decide +kernel
theorem dX9_isDone_124 : decode cX9_isDone 124 = .ok (.iload_n 1, 1) := by decide +kernel
theorem dX9_isDone_125 : decode cX9_isDone 125 = .ok (.iaload, 1) := by decide +kernel
theorem dX9_isDone_126 : decode cX9_isDone 126 = .ok (.invokevirtual 148, 3) := by decide +kernel
theorem dX9_isDone_129 : decode cX9_isDone 129 = .ok (.ireturn, 1) := by decide +kernel
theorem dX9_isDone_130 : decode cX9_isDone 130 = .ok (.aload_n 0, 1) := by decide +kernel
theorem dX9_isDone_131 : decode cX9_isDone 131 = .ok (.getfield 32, 3) := by decide +kernel
theorem dX9_isDone_134 : decode cX9_isDone 134 = .ok (.getfield 150, 3) := by decide +kernel
theorem dX9_isDone_137 : decode cX9_isDone 137 = .ok (.sipush 500, 3) := by decide +kernel
theorem dX9_isDone_140 : decode cX9_isDone 140 = .ok (.if_icmp .lt 5, 3) := by decide +kernel
theorem dX9_isDone_143 : decode cX9_isDone 143 = .ok (.iconst 0, 1) := by decide +kernel
theorem dX9_isDone_144 : decode cX9_isDone 144 = .ok (.ireturn, 1) := by decide +kernel
theorem dX9_isDone_145 : decode cX9_isDone 145 = .ok (.aload_n 0, 1) := by decide +kernel
theorem dX9_isDone_146 : decode cX9_isDone 146 = .ok (.getfield 28, 3) := by decide +kernel
theorem dX9_isDone_149 : decode cX9_isDone 149 = .ok (.aload_n 0, 1) := by decide +kernel
theorem dX9_isDone_150 : decode cX9_isDone 150 = .ok (.getfield 32, 3) := by decide +kernel
theorem dX9_isDone_153 : decode cX9_isDone 153 = .ok (.invokevirtual 152, 3) := by decide +kernel
theorem dX9_isDone_156 : decode cX9_isDone 156 = .ok (.aload_n 0, 1) := by decide +kernel
theorem dX9_isDone_157 : decode cX9_isDone 157 = .ok (.getfield 28, 3) := by decide +kernel
theorem dX9_isDone_160 : decode cX9_isDone 160 = .ok (.aload_n 0, 1) := by decide +kernel
theorem dX9_isDone_161 : decode cX9_isDone 161 = .ok (.getfield 32, 3) := by decide +kernel
theorem dX9_isDone_164 : decode cX9_isDone 164 = .ok (.invokevirtual 156, 3) := by decide +kernel
theorem dX9_isDone_167 : decode cX9_isDone 167 = .ok (.iconst 1, 1) := by decide +kernel
theorem dX9_isDone_168 : decode cX9_isDone 168 = .ok (.ireturn, 1) := by decide +kernel
theorem dX9_kindOf_0 : decode cX9_kindOf 0 = .ok (.aload_n 1, 1) := by decide +kernel
theorem dX9_kindOf_1 : decode cX9_kindOf 1 = .ok (.ldc 88, 2) := by decide +kernel
theorem dX9_kindOf_3 : decode cX9_kindOf 3 = .ok (.invokevirtual 90, 3) := by decide +kernel
theorem dX9_kindOf_6 : decode cX9_kindOf 6 = .ok (.ifCond .eq 5, 3) := by decide +kernel
theorem dX9_kindOf_9 : decode cX9_kindOf 9 = .ok (.iconst 0, 1) := by decide +kernel
theorem dX9_kindOf_10 : decode cX9_kindOf 10 = .ok (.ireturn, 1) := by decide +kernel
theorem dX9_kindOf_11 : decode cX9_kindOf 11 = .ok (.aload_n 1, 1) := by decide +kernel
theorem dX9_kindOf_12 : decode cX9_kindOf 12 = .ok (.ldc 94, 2) := by decide +kernel
theorem dX9_kindOf_14 : decode cX9_kindOf 14 = .ok (.invokevirtual 90, 3) := by decide +kernel
theorem dX9_kindOf_17 : decode cX9_kindOf 17 = .ok (.ifCond .eq 5, 3) := by decide +kernel
theorem dX9_kindOf_20 : decode cX9_kindOf 20 = .ok (.iconst 1, 1) := by decide +kernel
theorem dX9_kindOf_21 : decode cX9_kindOf 21 = .ok (.ireturn, 1) := by decide +kernel
theorem dX9_kindOf_22 : decode cX9_kindOf 22 = .ok (.aload_n 1, 1) := by decide +kernel
theorem dX9_kindOf_23 : decode cX9_kindOf 23 = .ok (.ldc 96, 2) := by decide +kernel
theorem dX9_kindOf_25 : decode cX9_kindOf 25 = .ok (.invokevirtual 90, 3) := by decide +kernel
theorem dX9_kindOf_28 : decode cX9_kindOf 28 = .ok (.ifCond .eq 5, 3) := by decide +kernel
theorem dX9_kindOf_31 : decode cX9_kindOf 31 = .ok (.iconst 2, 1) := by decide +kernel
theorem dX9_kindOf_32 : decode cX9_kindOf 32 = .ok (.ireturn, 1) := by decide +kernel
theorem dX9_kindOf_33 : decode cX9_kindOf 33 = .ok (.aload_n 1, 1) := by decide +kernel
theorem dX9_kindOf_34 : decode cX9_kindOf 34 = .ok (.ldc 98, 2) := by decide +kernel
theorem dX9_kindOf_36 : decode cX9_kindOf 36 = .ok (.invokevirtual 90, 3) := by decide +kernel
theorem dX9_kindOf_39 : decode cX9_kindOf 39 = .ok (.ifCond .eq 5, 3) := by decide +kernel
theorem dX9_kindOf_42 : decode cX9_kindOf 42 = .ok (.iconst 3, 1) := by decide +kernel
theorem dX9_kindOf_43 : decode cX9_kindOf 43 = .ok (.ireturn, 1) := by decide +kernel
theorem dX9_kindOf_44 : decode cX9_kindOf 44 = .ok (.aload_n 1, 1) := by decide +kernel
theorem dX9_kindOf_45 : decode cX9_kindOf 45 = .ok (.ldc 100, 2) := by decide +kernel
theorem dX9_kindOf_47 : decode cX9_kindOf 47 = .ok (.invokevirtual 90, 3) := by decide +kernel
theorem dX9_kindOf_50 : decode cX9_kindOf 50 = .ok (.ifCond .eq 5, 3) := by decide +kernel
theorem dX9_kindOf_53 : decode cX9_kindOf 53 = .ok (.iconst 4, 1) := by decide +kernel
theorem dX9_kindOf_54 : decode cX9_kindOf 54 = .ok (.ireturn, 1) := by decide +kernel
theorem dX9_kindOf_55 : decode cX9_kindOf 55 = .ok (.aload_n 1, 1) := by decide +kernel
theorem dX9_kindOf_56 : decode cX9_kindOf 56 = .ok (.ldc 102, 2) := by decide +kernel
theorem dX9_kindOf_58 : decode cX9_kindOf 58 = .ok (.invokevirtual 90, 3) := by decide +kernel
theorem dX9_kindOf_61 : decode cX9_kindOf 61 = .ok (.ifCond .eq 7, 3) := by decide +kernel
theorem dX9_kindOf_64 : decode cX9_kindOf 64 = .ok (.iconst 5, 1) := by decide +kernel
theorem dX9_kindOf_65 : decode cX9_kindOf 65 = .ok (.goto 4, 3) := by decide +kernel
theorem dX9_kindOf_68 : decode cX9_kindOf 68 = .ok (.iconst (-1), 1) := by decide +kernel
theorem dX9_kindOf_69 : decode cX9_kindOf 69 = .ok (.ireturn, 1) := by decide +kernel
theorem dX9_run_0 : decode cX9_run 0 = .ok (.iload_n 1, 1) := by decide +kernel
theorem dX9_run_1 : decode cX9_run 1 = .ok (.istore 4, 2) := by decide +kernel
theorem dX9_run_3 : decode cX9_run 3 = .ok (.iload 4, 2) := by decide +kernel
theorem dX9_run_5 : decode cX9_run 5 = .ok (.iload_n 2, 1) := by decide +kernel
theorem dX9_run_6 : decode cX9_run 6 = .ok (.if_icmp .ge 139, 3) := by decide +kernel
theorem dX9_run_9 : decode cX9_run 9 = .ok (.aload_n 0, 1) := by decide +kernel
theorem dX9_run_10 : decode cX9_run 10 = .ok (.getfield 120, 3) := by decide +kernel
theorem dX9_run_13 : decode cX9_run 13 = .ok (.sipush 200, 3) := by decide +kernel
theorem dX9_run_16 : decode cX9_run 16 = .ok (.if_icmp .ge 129, 3) := by decide +kernel
theorem dX9_run_19 : decode cX9_run 19 = .ok (.iload_n 3, 1) := by decide +kernel
theorem dX9_run_20 : decode cX9_run 20 = .ok (.bipush 6, 2) := by decide +kernel
theorem dX9_run_22 : decode cX9_run 22 = .ok (.if_icmp .gt 123, 3) := by decide +kernel
theorem dX9_run_25 : decode cX9_run 25 = .ok (.aload_n 0, 1) := by decide +kernel
theorem dX9_run_26 : decode cX9_run 26 = .ok (.dup, 1) := by decide +kernel
theorem dX9_run_27 : decode cX9_run 27 = .ok (.getfield 120, 3) := by decide +kernel
theorem dX9_run_30 : decode cX9_run 30 = .ok (.iconst 1, 1) := by decide +kernel
theorem dX9_run_31 : decode cX9_run 31 = .ok (.iadd, 1) := by decide +kernel
theorem dX9_run_32 : decode cX9_run 32 = .ok (.putfield 120, 3) := by decide +kernel
theorem dX9_run_35 : decode cX9_run 35 = .ok (.aload_n 0, 1) := by decide +kernel
theorem dX9_run_36 : decode cX9_run 36 = .ok (.getfield 11, 3) := by decide +kernel
theorem dX9_run_39 : decode cX9_run 39 = .ok (.iload 4, 2) := by decide +kernel
theorem dX9_run_41 : decode cX9_run 41 = .ok (.iaload, 1) := by decide +kernel
theorem dX9_run_42 : decode cX9_run 42 = .ok (.iconst 5, 1) := by decide +kernel
theorem dX9_run_43 : decode cX9_run 43 = .ok (.if_icmp .ne 64, 3) := by decide +kernel
theorem dX9_run_46 : decode cX9_run 46 = .ok (.iconst 0, 1) := by decide +kernel
theorem dX9_run_47 : decode cX9_run 47 = .ok (.istore 5, 2) := by decide +kernel
theorem dX9_run_49 : decode cX9_run 49 = .ok (.iload 5, 2) := by decide +kernel
theorem dX9_run_51 : decode cX9_run 51 = .ok (.aload_n 0, 1) := by decide +kernel
theorem dX9_run_52 : decode cX9_run 52 = .ok (.getfield 15, 3) := by decide +kernel
theorem dX9_run_55 : decode cX9_run 55 = .ok (.iload 4, 2) := by decide +kernel
theorem dX9_run_57 : decode cX9_run 57 = .ok (.iaload, 1) := by decide +kernel
theorem dX9_run_58 : decode cX9_run 58 = .ok (.if_icmp .ge 37, 3) := by decide +kernel
theorem dX9_run_61 : decode cX9_run 61 = .ok (.aload_n 0, 1) := by decide +kernel
theorem dX9_run_62 : decode cX9_run 62 = .ok (.getfield 120, 3) := by decide +kernel
theorem dX9_run_65 : decode cX9_run 65 = .ok (.sipush 200, 3) := by decide +kernel
theorem dX9_run_68 : decode cX9_run 68 = .ok (.if_icmp .ge 27, 3) := by decide +kernel
theorem dX9_run_71 : decode cX9_run 71 = .ok (.aload_n 0, 1) := by decide +kernel
theorem dX9_run_72 : decode cX9_run 72 = .ok (.iload 4, 2) := by decide +kernel
theorem dX9_run_74 : decode cX9_run 74 = .ok (.iconst 1, 1) := by decide +kernel
theorem dX9_run_75 : decode cX9_run 75 = .ok (.iadd, 1) := by decide +kernel
theorem dX9_run_76 : decode cX9_run 76 = .ok (.aload_n 0, 1) := by decide +kernel
theorem dX9_run_77 : decode cX9_run 77 = .ok (.getfield 21, 3) := by decide +kernel
theorem dX9_run_80 : decode cX9_run 80 = .ok (.iload 4, 2) := by decide +kernel
theorem dX9_run_82 : decode cX9_run 82 = .ok (.iaload, 1) := by decide +kernel
theorem dX9_run_83 : decode cX9_run 83 = .ok (.iload_n 3, 1) := by decide +kernel
theorem dX9_run_84 : decode cX9_run 84 = .ok (.iconst 1, 1) := by decide +kernel
theorem dX9_run_85 : decode cX9_run 85 = .ok (.iadd, 1) := by decide +kernel
theorem dX9_run_86 : decode cX9_run 86 = .ok (.invokevirtual 129, 3) := by decide +kernel
theorem dX9_run_89 : decode cX9_run 89 = .ok (.iinc 5 1, 3) := by decide +kernel
theorem dX9_run_92 : decode cX9_run 92 = .ok (.goto (-43), 3) := by decide +kernel
theorem dX9_run_95 : decode cX9_run 95 = .ok (.aload_n 0, 1) := by decide +kernel
theorem dX9_run_96 : decode cX9_run 96 = .ok (.getfield 21, 3) := by decide +kernel
theorem dX9_run_99 : decode cX9_run 99 = .ok (.iload 4, 2) := by decide +kernel
theorem dX9_run_101 : decode cX9_run 101 = .ok (.iaload, 1) := by decide +kernel
theorem dX9_run_102 : decode cX9_run 102 = .ok (.istore 4, 2) := by decide +kernel
theorem dX9_run_104 : decode cX9_run 104 = .ok (.goto (-101), 3) := by decide +kernel
theorem dX9_run_107 : decode cX9_run 107 = .ok (.aload_n 0, 1) := by decide +kernel
theorem dX9_run_108 : decode cX9_run 108 = .ok (.iload 4, 2) := by decide +kernel
theorem dX9_run_110 : decode cX9_run 110 = .ok (.invokevirtual 133, 3) := by decide +kernel
theorem dX9_run_113 : decode cX9_run 113 = .ok (.ifCond .eq 16, 3) := by decide +kernel
theorem dX9_run_116 : decode cX9_run 116 = .ok (.aload_n 0, 1) := by decide +kernel
theorem dX9_run_117 : decode cX9_run 117 = .ok (.dup, 1) := by decide +kernel
theorem dX9_run_118 : decode cX9_run 118 = .ok (.getfield 123, 3) := by decide +kernel
theorem dX9_run_121 : decode cX9_run 121 = .ok (.iconst 1, 1) := by decide +kernel
theorem dX9_run_122 : decode cX9_run 122 = .ok (.iadd, 1) := by decide +kernel
theorem dX9_run_123 : decode cX9_run 123 = .ok (.putfield 123, 3) := by decide +kernel
theorem dX9_run_126 : decode cX9_run 126 = .ok (.goto 13, 3) := by decide +kernel
theorem dX9_run_129 : decode cX9_run 129 = .ok (.aload_n 0, 1) := by decide +kernel
theorem dX9_run_130 : decode cX9_run 130 = .ok (.dup, 1) := by decide +kernel
theorem dX9_run_131 : decode cX9_run 131 = .ok (.getfield 126, 3) := by decide +kernel
theorem dX9_run_134 : decode cX9_run 134 = .ok (.iconst 1, 1) := by decide +kernel
theorem dX9_run_135 : decode cX9_run 135 = .ok (.iadd, 1) := by decide +kernel
theorem dX9_run_136 : decode cX9_run 136 = .ok (.putfield 126, 3) := by decide +kernel
theorem dX9_run_139 : decode cX9_run 139 = .ok (.iinc 4 1, 3) := by decide +kernel
theorem dX9_run_142 : decode cX9_run 142 = .ok (.goto (-139), 3) := by decide +kernel
theorem dX9_run_145 : decode cX9_run 145 = .ok (.return_, 1) := by decide +kernel
theorem dX9_perform_0 : decode cX9_perform 0 = .ok (.aload_n 0, 1) := by decide +kernel
theorem dX9_perform_1 : decode cX9_perform 1 = .ok (.iconst 0, 1) := by decide +kernel
theorem dX9_perform_2 : decode cX9_perform 2 = .ok (.putfield 120, 3) := by decide +kernel
theorem dX9_perform_5 : decode cX9_perform 5 = .ok (.aload_n 0, 1) := by decide +kernel
theorem dX9_perform_6 : decode cX9_perform 6 = .ok (.iconst 0, 1) := by decide +kernel
theorem dX9_perform_7 : decode cX9_perform 7 = .ok (.putfield 123, 3) := by decide +kernel
theorem dX9_perform_10 : decode cX9_perform 10 = .ok (.aload_n 0, 1) := by decide +kernel
theorem dX9_perform_11 : decode cX9_perform 11 = .ok (.iconst 0, 1) := by decide +kernel
theorem dX9_perform_12 : decode cX9_perform 12 = .ok (.putfield 126, 3) := by decide +kernel
theorem dX9_perform_15 : decode cX9_perform 15 = .ok (.aload_n 0, 1) := by decide +kernel
theorem dX9_perform_16 : decode cX9_perform 16 = .ok (.iconst 0, 1) := by decide +kernel
theorem dX9_perform_17 : decode cX9_perform 17 = .ok (.aload_n 0, 1) := by decide +kernel
theorem dX9_perform_18 : decode cX9_perform 18 = .ok (.getfield 36, 3) := by decide +kernel
theorem dX9_perform_21 : decode cX9_perform 21 = .ok (.iconst 0, 1) := by decide +kernel
theorem dX9_perform_22 : decode cX9_perform 22 = .ok (.invokevirtual 129, 3) := by decide +kernel
theorem dX9_perform_25 : decode cX9_perform 25 = .ok (.return_, 1) := by decide +kernel
theorem dX9_readWho_0 : decode cX9_readWho 0 = .ok (.aload_n 0, 1) := by decide +kernel
theorem dX9_readWho_1 : decode cX9_readWho 1 = .ok (.getfield 15, 3) := by decide +kernel
theorem dX9_readWho_4 : decode cX9_readWho 4 = .ok (.iload_n 2, 1) := by decide +kernel
theorem dX9_readWho_5 : decode cX9_readWho 5 = .ok (.aload_n 1, 1) := by decide +kernel
theorem dX9_readWho_6 : decode cX9_readWho 6 = .ok (.iconst 0, 1) := by decide +kernel
theorem dX9_readWho_7 : decode cX9_readWho 7 = .ok (.aload_n 0, 1) := by decide +kernel
theorem dX9_readWho_8 : decode cX9_readWho 8 = .ok (.getfield 24, 3) := by decide +kernel
theorem dX9_readWho_11 : decode cX9_readWho 11 = .ok (.getfield 104, 3) := by decide +kernel
theorem dX9_readWho_14 : decode cX9_readWho 14 = .ok (.iconst 1, 1) := by decide +kernel
theorem dX9_readWho_15 : decode cX9_readWho 15 = .ok (.isub, 1) := by decide +kernel
theorem dX9_readWho_16 : decode cX9_readWho 16 = .ok (.invokevirtual 109, 3) := by decide +kernel
theorem dX9_readWho_19 : decode cX9_readWho 19 = .ok (.iastore, 1) := by decide +kernel
theorem dX9_readWho_20 : decode cX9_readWho 20 = .ok (.aload_n 0, 1) := by decide +kernel
theorem dX9_readWho_21 : decode cX9_readWho 21 = .ok (.getfield 15, 3) := by decide +kernel
theorem dX9_readWho_24 : decode cX9_readWho 24 = .ok (.iload_n 2, 1) := by decide +kernel
theorem dX9_readWho_25 : decode cX9_readWho 25 = .ok (.iaload, 1) := by decide +kernel
theorem dX9_readWho_26 : decode cX9_readWho 26 = .ok (.iconst (-1), 1) := by decide +kernel
theorem dX9_readWho_27 : decode cX9_readWho 27 = .ok (.if_icmp .eq 7, 3) := by decide +kernel
theorem dX9_readWho_30 : decode cX9_readWho 30 = .ok (.iconst 1, 1) := by decide +kernel
theorem dX9_readWho_31 : decode cX9_readWho 31 = .ok (.goto 4, 3) := by decide +kernel
theorem dX9_readWho_34 : decode cX9_readWho 34 = .ok (.iconst 0, 1) := by decide +kernel
theorem dX9_readWho_35 : decode cX9_readWho 35 = .ok (.ireturn, 1) := by decide +kernel
theorem dX9_readStart_0 : decode cX9_readStart 0 = .ok (.aload_n 0, 1) := by decide +kernel
theorem dX9_readStart_1 : decode cX9_readStart 1 = .ok (.getfield 18, 3) := by decide +kernel
theorem dX9_readStart_4 : decode cX9_readStart 4 = .ok (.iload_n 2, 1) := by decide +kernel
theorem dX9_readStart_5 : decode cX9_readStart 5 = .ok (.aload_n 1, 1) := by decide +kernel
theorem dX9_readStart_6 : decode cX9_readStart 6 = .ok (.iconst 0, 1) := by decide +kernel
theorem dX9_readStart_7 : decode cX9_readStart 7 = .ok (.aload_n 0, 1) := by decide +kernel
theorem dX9_readStart_8 : decode cX9_readStart 8 = .ok (.getfield 24, 3) := by decide +kernel
theorem dX9_readStart_11 : decode cX9_readStart 11 = .ok (.getfield 113, 3) := by decide +kernel
theorem dX9_readStart_14 : decode cX9_readStart 14 = .ok (.iconst 1, 1) := by decide +kernel
theorem dX9_readStart_15 : decode cX9_readStart 15 = .ok (.isub, 1) := by decide +kernel
theorem dX9_readStart_16 : decode cX9_readStart 16 = .ok (.invokevirtual 109, 3) := by decide +kernel
theorem dX9_readStart_19 : decode cX9_readStart 19 = .ok (.iastore, 1) := by decide +kernel
theorem dX9_readStart_20 : decode cX9_readStart 20 = .ok (.aload_n 0, 1) := by decide +kernel
theorem dX9_readStart_21 : decode cX9_readStart 21 = .ok (.getfield 18, 3) := by decide +kernel
theorem dX9_readStart_24 : decode cX9_readStart 24 = .ok (.iload_n 2, 1) := by decide +kernel
theorem dX9_readStart_25 : decode cX9_readStart 25 = .ok (.iaload, 1) := by decide +kernel
theorem dX9_readStart_26 : decode cX9_readStart 26 = .ok (.iconst (-1), 1) := by decide +kernel
theorem dX9_readStart_27 : decode cX9_readStart 27 = .ok (.if_icmp .eq 7, 3) := by decide +kernel
theorem dX9_readStart_30 : decode cX9_readStart 30 = .ok (.iconst 1, 1) := by decide +kernel
theorem dX9_readStart_31 : decode cX9_readStart 31 = .ok (.goto 4, 3) := by decide +kernel
theorem dX9_readStart_34 : decode cX9_readStart 34 = .ok (.iconst 0, 1) := by decide +kernel
theorem dX9_readStart_35 : decode cX9_readStart 35 = .ok (.ireturn, 1) := by decide +kernel
theorem dX9_readGoal_0 : decode cX9_readGoal 0 = .ok (.aload_n 0, 1) := by decide +kernel
theorem dX9_readGoal_1 : decode cX9_readGoal 1 = .ok (.getfield 21, 3) := by decide +kernel
theorem dX9_readGoal_4 : decode cX9_readGoal 4 = .ok (.iload_n 2, 1) := by decide +kernel
theorem dX9_readGoal_5 : decode cX9_readGoal 5 = .ok (.aload_n 1, 1) := by decide +kernel
theorem dX9_readGoal_6 : decode cX9_readGoal 6 = .ok (.aload_n 0, 1) := by decide +kernel
theorem dX9_readGoal_7 : decode cX9_readGoal 7 = .ok (.getfield 24, 3) := by decide +kernel
theorem dX9_readGoal_10 : decode cX9_readGoal 10 = .ok (.aload_n 0, 1) := by decide +kernel
theorem dX9_readGoal_11 : decode cX9_readGoal 11 = .ok (.getfield 18, 3) := by decide +kernel
theorem dX9_readGoal_14 : decode cX9_readGoal 14 = .ok (.iload_n 2, 1) := by decide +kernel
theorem dX9_readGoal_15 : decode cX9_readGoal 15 = .ok (.iaload, 1) := by decide +kernel
theorem dX9_readGoal_16 : decode cX9_readGoal 16 = .ok (.invokevirtual 116, 3) := by decide +kernel
theorem dX9_readGoal_19 : decode cX9_readGoal 19 = .ok (.iastore, 1) := by decide +kernel
theorem dX9_readGoal_20 : decode cX9_readGoal 20 = .ok (.aload_n 0, 1) := by decide +kernel
theorem dX9_readGoal_21 : decode cX9_readGoal 21 = .ok (.getfield 21, 3) := by decide +kernel
theorem dX9_readGoal_24 : decode cX9_readGoal 24 = .ok (.iload_n 2, 1) := by decide +kernel
theorem dX9_readGoal_25 : decode cX9_readGoal 25 = .ok (.iaload, 1) := by decide +kernel
theorem dX9_readGoal_26 : decode cX9_readGoal 26 = .ok (.iconst (-1), 1) := by decide +kernel
theorem dX9_readGoal_27 : decode cX9_readGoal 27 = .ok (.if_icmp .eq 7, 3) := by decide +kernel
theorem dX9_readGoal_30 : decode cX9_readGoal 30 = .ok (.iconst 1, 1) := by decide +kernel
theorem dX9_readGoal_31 : decode cX9_readGoal 31 = .ok (.goto 4, 3) := by decide +kernel
theorem dX9_readGoal_34 : decode cX9_readGoal 34 = .ok (.iconst 0, 1) := by decide +kernel
theorem dX9_readGoal_35 : decode cX9_readGoal 35 = .ok (.ireturn, 1) := by decide +kernel
theorem dX9_readSteps_0 : decode cX9_readSteps 0 = .ok (.iconst 0, 1) := by decide +kernel
theorem dX9_readSteps_1 : decode cX9_readSteps 1 = .ok (.istore_n 3, 1) := by decide +kernel
theorem dX9_readSteps_2 : decode cX9_readSteps 2 = .ok (.iload_n 3, 1) := by decide +kernel
theorem dX9_readSteps_3 : decode cX9_readSteps 3 = .ok (.sipush 150, 3) := by decide +kernel
theorem dX9_readSteps_6 : decode cX9_readSteps 6 = .ok (.if_icmp .ge 57, 3) := by decide +kernel
theorem dX9_readSteps_9 : decode cX9_readSteps 9 = .ok (.aload_n 1, 1) := by decide +kernel
theorem dX9_readSteps_10 : decode cX9_readSteps 10 = .ok (.invokevirtual 50, 3) := by decide +kernel
theorem dX9_readSteps_13 : decode cX9_readSteps 13 = .ok (.istore 4, 2) := by decide +kernel
theorem dX9_readSteps_15 : decode cX9_readSteps 15 = .ok (.iload_n 2, 1) := by decide +kernel
theorem dX9_readSteps_16 : decode cX9_readSteps 16 = .ok (.ifCond .ne 12, 3) := by decide +kernel
theorem dX9_readSteps_19 : decode cX9_readSteps 19 = .ok (.iload 4, 2) := by decide +kernel
theorem dX9_readSteps_21 : decode cX9_readSteps 21 = .ok (.iconst (-1), 1) := by decide +kernel
theorem dX9_readSteps_22 : decode cX9_readSteps 22 = .ok (.if_icmp .ne 15, 3) := by decide +kernel
theorem dX9_readSteps_25 : decode cX9_readSteps 25 = .ok (.goto 10, 3) := by decide +kernel
theorem dX9_readSteps_28 : decode cX9_readSteps 28 = .ok (.iload 4, 2) := by decide +kernel
theorem dX9_readSteps_30 : decode cX9_readSteps 30 = .ok (.bipush 93, 2) := by decide +kernel
theorem dX9_readSteps_32 : decode cX9_readSteps 32 = .ok (.if_icmp .ne 5, 3) := by decide +kernel
theorem dX9_readSteps_35 : decode cX9_readSteps 35 = .ok (.iconst 1, 1) := by decide +kernel
theorem dX9_readSteps_36 : decode cX9_readSteps 36 = .ok (.ireturn, 1) := by decide +kernel
theorem dX9_readSteps_37 : decode cX9_readSteps 37 = .ok (.aload_n 0, 1) := by decide +kernel
theorem dX9_readSteps_38 : decode cX9_readSteps 38 = .ok (.aload_n 1, 1) := by decide +kernel
theorem dX9_readSteps_39 : decode cX9_readSteps 39 = .ok (.iload_n 2, 1) := by decide +kernel
theorem dX9_readSteps_40 : decode cX9_readSteps 40 = .ok (.invokevirtual 54, 3) := by decide +kernel
theorem dX9_readSteps_43 : decode cX9_readSteps 43 = .ok (.ifCond .eq 12, 3) := by decide +kernel
theorem dX9_readSteps_46 : decode cX9_readSteps 46 = .ok (.aload_n 1, 1) := by decide +kernel
theorem dX9_readSteps_47 : decode cX9_readSteps 47 = .ok (.bipush 59, 2) := by decide +kernel
theorem dX9_readSteps_49 : decode cX9_readSteps 49 = .ok (.invokevirtual 57, 3) := by decide +kernel
theorem dX9_readSteps_52 : decode cX9_readSteps 52 = .ok (.ifCond .ne 5, 3) := by decide +kernel
theorem dX9_readSteps_55 : decode cX9_readSteps 55 = .ok (.iconst 0, 1) := by decide +kernel
theorem dX9_readSteps_56 : decode cX9_readSteps 56 = .ok (.ireturn, 1) := by decide +kernel
theorem dX9_readSteps_57 : decode cX9_readSteps 57 = .ok (.iinc 3 1, 3) := by decide +kernel
theorem dX9_readSteps_60 : decode cX9_readSteps 60 = .ok (.goto (-58), 3) := by decide +kernel
theorem dX9_readSteps_63 : decode cX9_readSteps 63 = .ok (.iconst 1, 1) := by decide +kernel
theorem dX9_readSteps_64 : decode cX9_readSteps 64 = .ok (.ireturn, 1) := by decide +kernel
theorem dX9_readStep_0 : decode cX9_readStep 0 = .ok (.aload_n 1, 1) := by decide +kernel
theorem dX9_readStep_1 : decode cX9_readStep 1 = .ok (.invokevirtual 61, 3) := by decide +kernel
theorem dX9_readStep_4 : decode cX9_readStep 4 = .ok (.ifCond .ne 5, 3) := by decide +kernel
theorem dX9_readStep_7 : decode cX9_readStep 7 = .ok (.iconst 0, 1) := by decide +kernel
theorem dX9_readStep_8 : decode cX9_readStep 8 = .ok (.ireturn, 1) := by decide +kernel
theorem dX9_readStep_9 : decode cX9_readStep 9 = .ok (.aload_n 0, 1) := by decide +kernel
theorem dX9_readStep_10 : decode cX9_readStep 10 = .ok (.aload_n 1, 1) := by decide +kernel
theorem dX9_readStep_11 : decode cX9_readStep 11 = .ok (.invokevirtual 64, 3) := by decide +kernel
theorem dX9_readStep_14 : decode cX9_readStep 14 = .ok (.istore_n 3, 1) := by decide +kernel
theorem dX9_readStep_15 : decode cX9_readStep 15 = .ok (.iload_n 3, 1) := by decide +kernel
theorem dX9_readStep_16 : decode cX9_readStep 16 = .ok (.iconst (-1), 1) := by decide +kernel
theorem dX9_readStep_17 : decode cX9_readStep 17 = .ok (.if_icmp .ne 13, 3) := by decide +kernel
theorem dX9_readStep_20 : decode cX9_readStep 20 = .ok (.aload_n 1, 1) := by decide +kernel
theorem dX9_readStep_21 : decode cX9_readStep 21 = .ok (.iconst 1, 1) := by decide +kernel
theorem dX9_readStep_22 : decode cX9_readStep 22 = .ok (.aload_n 1, 1) := by decide +kernel
theorem dX9_readStep_23 : decode cX9_readStep 23 = .ok (.getfield 68, 3) := by decide +kernel
theorem dX9_readStep_26 : decode cX9_readStep 26 = .ok (.invokevirtual 71, 3) := by decide +kernel
theorem dX9_readStep_29 : decode cX9_readStep 29 = .ok (.ireturn, 1) := by decide +kernel
theorem dX9_readStep_30 : decode cX9_readStep 30 = .ok (.iload_n 3, 1) := by decide +kernel
theorem dX9_readStep_31 : decode cX9_readStep 31 = .ok (.iconst 5, 1) := by decide +kernel
theorem dX9_readStep_32 : decode cX9_readStep 32 = .ok (.if_icmp .ne 9, 3) := by decide +kernel
theorem dX9_readStep_35 : decode cX9_readStep 35 = .ok (.iload_n 2, 1) := by decide +kernel
theorem dX9_readStep_36 : decode cX9_readStep 36 = .ok (.bipush 6, 2) := by decide +kernel
theorem dX9_readStep_38 : decode cX9_readStep 38 = .ok (.if_icmp .ge 12, 3) := by decide +kernel
theorem dX9_readStep_41 : decode cX9_readStep 41 = .ok (.aload_n 0, 1) := by decide +kernel
theorem dX9_readStep_42 : decode cX9_readStep 42 = .ok (.getfield 36, 3) := by decide +kernel
theorem dX9_readStep_45 : decode cX9_readStep 45 = .ok (.bipush 38, 2) := by decide +kernel
theorem dX9_readStep_47 : decode cX9_readStep 47 = .ok (.if_icmp .lt 13, 3) := by decide +kernel
theorem dX9_readStep_50 : decode cX9_readStep 50 = .ok (.aload_n 1, 1) := by decide +kernel
theorem dX9_readStep_51 : decode cX9_readStep 51 = .ok (.iconst 3, 1) := by decide +kernel
theorem dX9_readStep_52 : decode cX9_readStep 52 = .ok (.aload_n 1, 1) := by decide +kernel
theorem dX9_readStep_53 : decode cX9_readStep 53 = .ok (.getfield 68, 3) := by decide +kernel
theorem dX9_readStep_56 : decode cX9_readStep 56 = .ok (.invokevirtual 71, 3) := by decide +kernel
theorem dX9_readStep_59 : decode cX9_readStep 59 = .ok (.ireturn, 1) := by decide +kernel
theorem dX9_readStep_60 : decode cX9_readStep 60 = .ok (.aload_n 0, 1) := by decide +kernel
theorem dX9_readStep_61 : decode cX9_readStep 61 = .ok (.getfield 36, 3) := by decide +kernel
theorem dX9_readStep_64 : decode cX9_readStep 64 = .ok (.istore 4, 2) := by decide +kernel
theorem dX9_readStep_66 : decode cX9_readStep 66 = .ok (.aload_n 0, 1) := by decide +kernel
theorem dX9_readStep_67 : decode cX9_readStep 67 = .ok (.dup, 1) := by decide +kernel
theorem dX9_readStep_68 : decode cX9_readStep 68 = .ok (.getfield 36, 3) := by decide +kernel
theorem dX9_readStep_71 : decode cX9_readStep 71 = .ok (.iconst 1, 1) := by decide +kernel
theorem dX9_readStep_72 : decode cX9_readStep 72 = .ok (.iadd, 1) := by decide +kernel
theorem dX9_readStep_73 : decode cX9_readStep 73 = .ok (.putfield 36, 3) := by decide +kernel
theorem dX9_readStep_76 : decode cX9_readStep 76 = .ok (.aload_n 0, 1) := by decide +kernel
theorem dX9_readStep_77 : decode cX9_readStep 77 = .ok (.getfield 11, 3) := by decide +kernel
theorem dX9_readStep_80 : decode cX9_readStep 80 = .ok (.iload 4, 2) := by decide +kernel
theorem dX9_readStep_82 : decode cX9_readStep 82 = .ok (.iload_n 3, 1) := by decide +kernel
theorem dX9_readStep_83 : decode cX9_readStep 83 = .ok (.iastore, 1) := by decide +kernel
theorem dX9_readStep_84 : decode cX9_readStep 84 = .ok (.iload_n 3, 1) := by decide +kernel
theorem dX9_readStep_85 : decode cX9_readStep 85 = .ok (.tableswitch 136 0 5 #[39, 75, 75, 101, 136, 127], 39) := by decide +kernel
theorem dX9_readStep_124 : decode cX9_readStep 124 = .ok (.aload_n 0, 1) := by decide +kernel
theorem dX9_readStep_125 : decode cX9_readStep 125 = .ok (.aload_n 1, 1) := by decide +kernel
theorem dX9_readStep_126 : decode cX9_readStep 126 = .ok (.iload 4, 2) := by decide +kernel
theorem dX9_readStep_128 : decode cX9_readStep 128 = .ok (.invokevirtual 75, 3) := by decide +kernel
theorem dX9_readStep_131 : decode cX9_readStep 131 = .ok (.ifCond .eq 27, 3) := by decide +kernel
theorem dX9_readStep_134 : decode cX9_readStep 134 = .ok (.aload_n 0, 1) := by decide +kernel
theorem dX9_readStep_135 : decode cX9_readStep 135 = .ok (.aload_n 1, 1) := by decide +kernel
theorem dX9_readStep_136 : decode cX9_readStep 136 = .ok (.iload 4, 2) := by decide +kernel
theorem dX9_readStep_138 : decode cX9_readStep 138 = .ok (.invokevirtual 78, 3) := by decide +kernel
theorem dX9_readStep_141 : decode cX9_readStep 141 = .ok (.ifCond .eq 17, 3) := by decide +kernel
theorem dX9_readStep_144 : decode cX9_readStep 144 = .ok (.aload_n 0, 1) := by decide +kernel
theorem dX9_readStep_145 : decode cX9_readStep 145 = .ok (.aload_n 1, 1) := by decide +kernel
theorem dX9_readStep_146 : decode cX9_readStep 146 = .ok (.iload 4, 2) := by decide +kernel
theorem dX9_readStep_148 : decode cX9_readStep 148 = .ok (.invokevirtual 81, 3) := by decide +kernel
theorem dX9_readStep_151 : decode cX9_readStep 151 = .ok (.ifCond .eq 7, 3) := by decide +kernel
theorem dX9_readStep_154 : decode cX9_readStep 154 = .ok (.iconst 1, 1) := by decide +kernel
theorem dX9_readStep_155 : decode cX9_readStep 155 = .ok (.goto 4, 3) := by decide +kernel
theorem dX9_readStep_158 : decode cX9_readStep 158 = .ok (.iconst 0, 1) := by decide +kernel
theorem dX9_readStep_159 : decode cX9_readStep 159 = .ok (.ireturn, 1) := by decide +kernel
theorem dX9_readStep_160 : decode cX9_readStep 160 = .ok (.aload_n 0, 1) := by decide +kernel
theorem dX9_readStep_161 : decode cX9_readStep 161 = .ok (.aload_n 1, 1) := by decide +kernel
theorem dX9_readStep_162 : decode cX9_readStep 162 = .ok (.iload 4, 2) := by decide +kernel
theorem dX9_readStep_164 : decode cX9_readStep 164 = .ok (.invokevirtual 75, 3) := by decide +kernel
theorem dX9_readStep_167 : decode cX9_readStep 167 = .ok (.ifCond .eq 17, 3) := by decide +kernel
theorem dX9_readStep_170 : decode cX9_readStep 170 = .ok (.aload_n 0, 1) := by decide +kernel
theorem dX9_readStep_171 : decode cX9_readStep 171 = .ok (.aload_n 1, 1) := by decide +kernel
theorem dX9_readStep_172 : decode cX9_readStep 172 = .ok (.iload 4, 2) := by decide +kernel
theorem dX9_readStep_174 : decode cX9_readStep 174 = .ok (.invokevirtual 78, 3) := by decide +kernel
theorem dX9_readStep_177 : decode cX9_readStep 177 = .ok (.ifCond .eq 7, 3) := by decide +kernel
theorem dX9_readStep_180 : decode cX9_readStep 180 = .ok (.iconst 1, 1) := by decide +kernel
theorem dX9_readStep_181 : decode cX9_readStep 181 = .ok (.goto 4, 3) := by decide +kernel
theorem dX9_readStep_184 : decode cX9_readStep 184 = .ok (.iconst 0, 1) := by decide +kernel
theorem dX9_readStep_185 : decode cX9_readStep 185 = .ok (.ireturn, 1) := by decide +kernel
theorem dX9_readStep_186 : decode cX9_readStep 186 = .ok (.aload_n 0, 1) := by decide +kernel
theorem dX9_readStep_187 : decode cX9_readStep 187 = .ok (.aload_n 1, 1) := by decide +kernel
theorem dX9_readStep_188 : decode cX9_readStep 188 = .ok (.iload 4, 2) := by decide +kernel
theorem dX9_readStep_190 : decode cX9_readStep 190 = .ok (.invokevirtual 78, 3) := by decide +kernel
theorem dX9_readStep_193 : decode cX9_readStep 193 = .ok (.ifCond .eq 17, 3) := by decide +kernel
theorem dX9_readStep_196 : decode cX9_readStep 196 = .ok (.aload_n 0, 1) := by decide +kernel
theorem dX9_readStep_197 : decode cX9_readStep 197 = .ok (.aload_n 1, 1) := by decide +kernel
theorem dX9_readStep_198 : decode cX9_readStep 198 = .ok (.iload 4, 2) := by decide +kernel
theorem dX9_readStep_200 : decode cX9_readStep 200 = .ok (.invokevirtual 81, 3) := by decide +kernel
theorem dX9_readStep_203 : decode cX9_readStep 203 = .ok (.ifCond .eq 7, 3) := by decide +kernel
theorem dX9_readStep_206 : decode cX9_readStep 206 = .ok (.iconst 1, 1) := by decide +kernel
theorem dX9_readStep_207 : decode cX9_readStep 207 = .ok (.goto 4, 3) := by decide +kernel
theorem dX9_readStep_210 : decode cX9_readStep 210 = .ok (.iconst 0, 1) := by decide +kernel
theorem dX9_readStep_211 : decode cX9_readStep 211 = .ok (.ireturn, 1) := by decide +kernel
theorem dX9_readStep_212 : decode cX9_readStep 212 = .ok (.aload_n 0, 1) := by decide +kernel
theorem dX9_readStep_213 : decode cX9_readStep 213 = .ok (.aload_n 1, 1) := by decide +kernel
theorem dX9_readStep_214 : decode cX9_readStep 214 = .ok (.iload_n 2, 1) := by decide +kernel
theorem dX9_readStep_215 : decode cX9_readStep 215 = .ok (.iload 4, 2) := by decide +kernel
theorem dX9_readStep_217 : decode cX9_readStep 217 = .ok (.invokevirtual 84, 3) := by decide +kernel
theorem dX9_readStep_220 : decode cX9_readStep 220 = .ok (.ireturn, 1) := by decide +kernel
theorem dX9_readStep_221 : decode cX9_readStep 221 = .ok (.iconst 1, 1) := by decide +kernel
theorem dX9_readStep_222 : decode cX9_readStep 222 = .ok (.ireturn, 1) := by decide +kernel
theorem dX9_readAgain_0 : decode cX9_readAgain 0 = .ok (.aload_n 0, 1) := by decide +kernel
theorem dX9_readAgain_1 : decode cX9_readAgain 1 = .ok (.getfield 15, 3) := by decide +kernel
theorem dX9_readAgain_4 : decode cX9_readAgain 4 = .ok (.iload_n 3, 1) := by decide +kernel
theorem dX9_readAgain_5 : decode cX9_readAgain 5 = .ok (.aload_n 1, 1) := by decide +kernel
theorem dX9_readAgain_6 : decode cX9_readAgain 6 = .ok (.iconst 0, 1) := by decide +kernel
theorem dX9_readAgain_7 : decode cX9_readAgain 7 = .ok (.bipush 60, 2) := by decide +kernel
theorem dX9_readAgain_9 : decode cX9_readAgain 9 = .ok (.invokevirtual 109, 3) := by decide +kernel
theorem dX9_readAgain_12 : decode cX9_readAgain 12 = .ok (.iastore, 1) := by decide +kernel
theorem dX9_readAgain_13 : decode cX9_readAgain 13 = .ok (.aload_n 0, 1) := by decide +kernel
theorem dX9_readAgain_14 : decode cX9_readAgain 14 = .ok (.getfield 15, 3) := by decide +kernel
theorem dX9_readAgain_17 : decode cX9_readAgain 17 = .ok (.iload_n 3, 1) := by decide +kernel
theorem dX9_readAgain_18 : decode cX9_readAgain 18 = .ok (.iaload, 1) := by decide +kernel
theorem dX9_readAgain_19 : decode cX9_readAgain 19 = .ok (.iconst (-1), 1) := by decide +kernel
theorem dX9_readAgain_20 : decode cX9_readAgain 20 = .ok (.if_icmp .eq 23, 3) := by decide +kernel
theorem dX9_readAgain_23 : decode cX9_readAgain 23 = .ok (.aload_n 1, 1) := by decide +kernel
theorem dX9_readAgain_24 : decode cX9_readAgain 24 = .ok (.bipush 91, 2) := by decide +kernel
theorem dX9_readAgain_26 : decode cX9_readAgain 26 = .ok (.invokevirtual 57, 3) := by decide +kernel
theorem dX9_readAgain_29 : decode cX9_readAgain 29 = .ok (.ifCond .eq 14, 3) := by decide +kernel
theorem dX9_readAgain_32 : decode cX9_readAgain 32 = .ok (.aload_n 0, 1) := by decide +kernel
theorem dX9_readAgain_33 : decode cX9_readAgain 33 = .ok (.aload_n 1, 1) := by decide +kernel
theorem dX9_readAgain_34 : decode cX9_readAgain 34 = .ok (.iload_n 2, 1) := by decide +kernel
theorem dX9_readAgain_35 : decode cX9_readAgain 35 = .ok (.iconst 1, 1) := by decide +kernel
theorem dX9_readAgain_36 : decode cX9_readAgain 36 = .ok (.iadd, 1) := by decide +kernel
theorem dX9_readAgain_37 : decode cX9_readAgain 37 = .ok (.invokevirtual 40, 3) := by decide +kernel
theorem dX9_readAgain_40 : decode cX9_readAgain 40 = .ok (.ifCond .ne 5, 3) := by decide +kernel
theorem dX9_readAgain_43 : decode cX9_readAgain 43 = .ok (.iconst 0, 1) := by decide +kernel
theorem dX9_readAgain_44 : decode cX9_readAgain 44 = .ok (.ireturn, 1) := by decide +kernel
theorem dX9_readAgain_45 : decode cX9_readAgain 45 = .ok (.aload_n 0, 1) := by decide +kernel
theorem dX9_readAgain_46 : decode cX9_readAgain 46 = .ok (.getfield 21, 3) := by decide +kernel
theorem dX9_readAgain_49 : decode cX9_readAgain 49 = .ok (.iload_n 3, 1) := by decide +kernel
theorem dX9_readAgain_50 : decode cX9_readAgain 50 = .ok (.aload_n 0, 1) := by decide +kernel
theorem dX9_readAgain_51 : decode cX9_readAgain 51 = .ok (.getfield 36, 3) := by decide +kernel
theorem dX9_readAgain_54 : decode cX9_readAgain 54 = .ok (.iastore, 1) := by decide +kernel
theorem dX9_readAgain_55 : decode cX9_readAgain 55 = .ok (.aload_n 1, 1) := by decide +kernel
theorem dX9_readAgain_56 : decode cX9_readAgain 56 = .ok (.bipush 93, 2) := by decide +kernel
theorem dX9_readAgain_58 : decode cX9_readAgain 58 = .ok (.invokevirtual 57, 3) := by decide +kernel
theorem dX9_readAgain_61 : decode cX9_readAgain 61 = .ok (.ireturn, 1) := by decide +kernel
theorem dX9_readFrom_0 : decode cX9_readFrom 0 = .ok (.aload_n 0, 1) := by decide +kernel
theorem dX9_readFrom_1 : decode cX9_readFrom 1 = .ok (.iconst 0, 1) := by decide +kernel
theorem dX9_readFrom_2 : decode cX9_readFrom 2 = .ok (.putfield 36, 3) := by decide +kernel
theorem dX9_readFrom_5 : decode cX9_readFrom 5 = .ok (.aload_n 0, 1) := by decide +kernel
theorem dX9_readFrom_6 : decode cX9_readFrom 6 = .ok (.aload_n 1, 1) := by decide +kernel
theorem dX9_readFrom_7 : decode cX9_readFrom 7 = .ok (.iconst 0, 1) := by decide +kernel
theorem dX9_readFrom_8 : decode cX9_readFrom 8 = .ok (.invokevirtual 40, 3) := by decide +kernel
theorem dX9_readFrom_11 : decode cX9_readFrom 11 = .ok (.ifCond .eq 14, 3) := by decide +kernel
theorem dX9_readFrom_14 : decode cX9_readFrom 14 = .ok (.aload_n 1, 1) := by decide +kernel
theorem dX9_readFrom_15 : decode cX9_readFrom 15 = .ok (.invokevirtual 44, 3) := by decide +kernel
theorem dX9_readFrom_18 : decode cX9_readFrom 18 = .ok (.ifCond .eq 7, 3) := by decide +kernel
theorem dX9_readFrom_21 : decode cX9_readFrom 21 = .ok (.iconst 1, 1) := by decide +kernel
theorem dX9_readFrom_22 : decode cX9_readFrom 22 = .ok (.goto 4, 3) := by decide +kernel
theorem dX9_readFrom_25 : decode cX9_readFrom 25 = .ok (.iconst 0, 1) := by decide +kernel
theorem dX9_readFrom_26 : decode cX9_readFrom 26 = .ok (.ireturn, 1) := by decide +kernel
noncomputable def r_X9_isDone (x1 : Int32) (m : Mem) : Option (Bool × Mem) :=
  if inb x1 38 = true then (if (m 39 0 x1.toNatClampNeg) = 0 then (bd2 (r_X7_tell 0 (m 40 0 x1.toNatClampNeg) (m 41 0 x1.toNatClampNeg) (m 42 0 x1.toNatClampNeg) m) fun z5 m4 => (some (z5, m4))) else if (m 39 0 x1.toNatClampNeg) = 1 then (bd2 (r_X7_forget 0 (m 40 0 x1.toNatClampNeg) (m 41 0 x1.toNatClampNeg) m) fun z9 m8 => (some (z9, m8))) else if (m 39 0 x1.toNatClampNeg) = 2 then (bd2 (r_X6_walk 0 (m 40 0 x1.toNatClampNeg) (m 41 0 x1.toNatClampNeg) m) fun z13 m12 => (some (z13, m12))) else if (m 39 0 x1.toNatClampNeg) = 3 then (bd2 (r_X6_dig 0 (m 41 0 x1.toNatClampNeg) (m 42 0 x1.toNatClampNeg) m) fun z17 m16 => (some (z17, m16))) else (if (m 7 0 0) < 500 then (bd1 (r_X6_trace 0 m) fun m20 => (bd1 (r_X6_flowOneDay 0 m20) fun m22 => (some (true, m22)))) else (some (false, m)))) else none
set_option maxHeartbeats 4000000 in
set_option maxRecDepth 20000 in
theorem ok_X9_isDone (x1 : Int32) (m : Mem) {z : Bool} {m' : Mem} (h : r_X9_isDone x1 m = some (z, m')) : Mt yX9_isDone cX9_isDone 2 (some .boolean) 5 102 0 0 [vR 9 0, vI x1] m (oB z) m' := by
  refine Mt.of (by decide) (Nat.le_of_ble_eq_true rfl) (by decide +kernel) (hhF_ne (by decide)) ?_
  show Xj RX9 cX9_isDone 2 (some .boolean) 5 102 0 0 0 0 0 [(0, vR 9 0), (1, vI x1)] [] m (oB z) m'
  unfold r_X9_isDone at h
  refine xj_aload_n 0 dX9_isDone_0 rfl ?_
  refine xg_getR (k' := 39) (i' := 0) dX9_isDone_1 fl_X9_11 rfl ?_
  refine xj_iload_n 1 dX9_isDone_4 rfl ?_
  by_cases c1 : inb x1 38 = true
  case neg => rw [if_neg c1] at h; cases h
  rw [if_pos c1] at h
  refine xg_iald (z := (m 39 0 x1.toNatClampNeg)) (n := x1.toNatClampNeg) dX9_isDone_5 rfl (by decide) (inb_in c1) rfl rfl ?_
  by_cases c2 : (m 39 0 x1.toNatClampNeg) = 0
  · rw [if_pos c2] at h
    refine xj_tableIn (off := 30) (tgt := 36) dX9_isDone_6 (by rw [c2]; decide) (by rw [c2]; decide) (by rw [c2]; decide) (by decide) ?_
    refine xj_aload_n 0 dX9_isDone_36 rfl ?_
    refine xg_getR (k' := 7) (i' := 0) dX9_isDone_37 fl_X9_32 rfl ?_
    refine xj_aload_n 0 dX9_isDone_40 rfl ?_
    refine xg_getR (k' := 40) (i' := 0) dX9_isDone_41 fl_X9_15 rfl ?_
    refine xj_iload_n 1 dX9_isDone_44 rfl ?_
    refine xg_iald (z := (m 40 0 x1.toNatClampNeg)) (n := x1.toNatClampNeg) dX9_isDone_45 rfl (by decide) (inb_in c1) rfl rfl ?_
    refine xj_aload_n 0 dX9_isDone_46 rfl ?_
    refine xg_getR (k' := 41) (i' := 0) dX9_isDone_47 fl_X9_18 rfl ?_
    refine xj_iload_n 1 dX9_isDone_50 rfl ?_
    refine xg_iald (z := (m 41 0 x1.toNatClampNeg)) (n := x1.toNatClampNeg) dX9_isDone_51 rfl (by decide) (inb_in c1) rfl rfl ?_
    refine xj_aload_n 0 dX9_isDone_52 rfl ?_
    refine xg_getR (k' := 42) (i' := 0) dX9_isDone_53 fl_X9_21 rfl ?_
    refine xj_iload_n 1 dX9_isDone_56 rfl ?_
    refine xg_iald (z := (m 42 0 x1.toNatClampNeg)) (n := x1.toNatClampNeg) dX9_isDone_57 rfl (by decide) (inb_in c1) rfl rfl ?_
    obtain ⟨z5, m4, e3, h⟩ := bd2_some h
    refine xc_Vb0 (st := []) (ok_X7_tell 0 (m 40 0 x1.toNatClampNeg) (m 41 0 x1.toNatClampNeg) (m 42 0 x1.toNatClampNeg) m e3) dX9_isDone_58 cv_X9_136 rfl rfl (Nat.le_of_ble_eq_true rfl) (by decide) (by decide) (by decide) (by decide) ?_
    cases h
    exact xj_ireturn dX9_isDone_61 (nar_b2i _) (by decide) (by decide)
  rw [if_neg c2] at h
  by_cases c6 : (m 39 0 x1.toNatClampNeg) = 1
  · rw [if_pos c6] at h
    refine xj_tableIn (off := 56) (tgt := 62) dX9_isDone_6 (by rw [c6]; decide) (by rw [c6]; decide) (by rw [c6]; decide) (by decide) ?_
    refine xj_aload_n 0 dX9_isDone_62 rfl ?_
    refine xg_getR (k' := 7) (i' := 0) dX9_isDone_63 fl_X9_32 rfl ?_
    refine xj_aload_n 0 dX9_isDone_66 rfl ?_
    refine xg_getR (k' := 40) (i' := 0) dX9_isDone_67 fl_X9_15 rfl ?_
    refine xj_iload_n 1 dX9_isDone_70 rfl ?_
    refine xg_iald (z := (m 40 0 x1.toNatClampNeg)) (n := x1.toNatClampNeg) dX9_isDone_71 rfl (by decide) (inb_in c1) rfl rfl ?_
    refine xj_aload_n 0 dX9_isDone_72 rfl ?_
    refine xg_getR (k' := 41) (i' := 0) dX9_isDone_73 fl_X9_18 rfl ?_
    refine xj_iload_n 1 dX9_isDone_76 rfl ?_
    refine xg_iald (z := (m 41 0 x1.toNatClampNeg)) (n := x1.toNatClampNeg) dX9_isDone_77 rfl (by decide) (inb_in c1) rfl rfl ?_
    obtain ⟨z9, m8, e7, h⟩ := bd2_some h
    refine xc_Vb0 (st := []) (ok_X7_forget 0 (m 40 0 x1.toNatClampNeg) (m 41 0 x1.toNatClampNeg) m e7) dX9_isDone_78 cv_X9_141 rfl rfl (Nat.le_of_ble_eq_true rfl) (by decide) (by decide) (by decide) (by decide) ?_
    cases h
    exact xj_ireturn dX9_isDone_81 (nar_b2i _) (by decide) (by decide)
  rw [if_neg c6] at h
  by_cases c10 : (m 39 0 x1.toNatClampNeg) = 2
  · rw [if_pos c10] at h
    refine xj_tableIn (off := 76) (tgt := 82) dX9_isDone_6 (by rw [c10]; decide) (by rw [c10]; decide) (by rw [c10]; decide) (by decide) ?_
    refine xj_aload_n 0 dX9_isDone_82 rfl ?_
    refine xg_getR (k' := 6) (i' := 0) dX9_isDone_83 fl_X9_28 rfl ?_
    refine xj_aload_n 0 dX9_isDone_86 rfl ?_
    refine xg_getR (k' := 7) (i' := 0) dX9_isDone_87 fl_X9_32 rfl ?_
    refine xj_aload_n 0 dX9_isDone_90 rfl ?_
    refine xg_getR (k' := 40) (i' := 0) dX9_isDone_91 fl_X9_15 rfl ?_
    refine xj_iload_n 1 dX9_isDone_94 rfl ?_
    refine xg_iald (z := (m 40 0 x1.toNatClampNeg)) (n := x1.toNatClampNeg) dX9_isDone_95 rfl (by decide) (inb_in c1) rfl rfl ?_
    refine xj_aload_n 0 dX9_isDone_96 rfl ?_
    refine xg_getR (k' := 41) (i' := 0) dX9_isDone_97 fl_X9_18 rfl ?_
    refine xj_iload_n 1 dX9_isDone_100 rfl ?_
    refine xg_iald (z := (m 41 0 x1.toNatClampNeg)) (n := x1.toNatClampNeg) dX9_isDone_101 rfl (by decide) (inb_in c1) rfl rfl ?_
    obtain ⟨z13, m12, e11, h⟩ := bd2_some h
    refine xc_Vb0 (st := []) (ok_X6_walk 0 (m 40 0 x1.toNatClampNeg) (m 41 0 x1.toNatClampNeg) m e11) dX9_isDone_102 cv_X9_143 rfl rfl (Nat.le_of_ble_eq_true rfl) (by decide) (by decide) (by decide) (by decide) ?_
    cases h
    exact xj_ireturn dX9_isDone_105 (nar_b2i _) (by decide) (by decide)
  rw [if_neg c10] at h
  by_cases c14 : (m 39 0 x1.toNatClampNeg) = 3
  · rw [if_pos c14] at h
    refine xj_tableIn (off := 100) (tgt := 106) dX9_isDone_6 (by rw [c14]; decide) (by rw [c14]; decide) (by rw [c14]; decide) (by decide) ?_
    refine xj_aload_n 0 dX9_isDone_106 rfl ?_
    refine xg_getR (k' := 6) (i' := 0) dX9_isDone_107 fl_X9_28 rfl ?_
    refine xj_aload_n 0 dX9_isDone_110 rfl ?_
    refine xg_getR (k' := 7) (i' := 0) dX9_isDone_111 fl_X9_32 rfl ?_
    refine xj_aload_n 0 dX9_isDone_114 rfl ?_
    refine xg_getR (k' := 41) (i' := 0) dX9_isDone_115 fl_X9_18 rfl ?_
    refine xj_iload_n 1 dX9_isDone_118 rfl ?_
    refine xg_iald (z := (m 41 0 x1.toNatClampNeg)) (n := x1.toNatClampNeg) dX9_isDone_119 rfl (by decide) (inb_in c1) rfl rfl ?_
    refine xj_aload_n 0 dX9_isDone_120 rfl ?_
    refine xg_getR (k' := 42) (i' := 0) dX9_isDone_121 fl_X9_21 rfl ?_
    refine xj_iload_n 1 dX9_isDone_124 rfl ?_
    refine xg_iald (z := (m 42 0 x1.toNatClampNeg)) (n := x1.toNatClampNeg) dX9_isDone_125 rfl (by decide) (inb_in c1) rfl rfl ?_
    obtain ⟨z17, m16, e15, h⟩ := bd2_some h
    refine xc_Vb0 (st := []) (ok_X6_dig 0 (m 41 0 x1.toNatClampNeg) (m 42 0 x1.toNatClampNeg) m e15) dX9_isDone_126 cv_X9_148 rfl rfl (Nat.le_of_ble_eq_true rfl) (by decide) (by decide) (by decide) (by decide) ?_
    cases h
    exact xj_ireturn dX9_isDone_129 (nar_b2i _) (by decide) (by decide)
  rw [if_neg c14] at h
  refine xj_tableOut (tgt := 130) dX9_isDone_6 ?_ (by decide) ?_
  · have nc2 := lv_neT c2 (show (0 : Int32).toInt = 0 by decide)
    have nc6 := lv_neT c6 (show (1 : Int32).toInt = 1 by decide)
    have nc10 := lv_neT c10 (show (2 : Int32).toInt = 2 by decide)
    have nc14 := lv_neT c14 (show (3 : Int32).toInt = 3 by decide)
    omega
  refine xj_aload_n 0 dX9_isDone_130 rfl ?_
  refine xg_getR (k' := 7) (i' := 0) dX9_isDone_131 fl_X9_32 rfl ?_
  refine xg_getI (x := (m 7 0 0)) dX9_isDone_134 fl_X9_150 rfl rfl ?_
  refine xj_sipush (z := 500) dX9_isDone_137 (by decide) ?_
  refine xj_icmp_lt (tgt := 145) dX9_isDone_140 (by decide) (fun c18 => ?_) (fun c18 => ?_)
  · rw [if_pos c18] at h
    refine xj_aload_n 0 dX9_isDone_145 rfl ?_
    refine xg_getR (k' := 6) (i' := 0) dX9_isDone_146 fl_X9_28 rfl ?_
    refine xj_aload_n 0 dX9_isDone_149 rfl ?_
    refine xg_getR (k' := 7) (i' := 0) dX9_isDone_150 fl_X9_32 rfl ?_
    obtain ⟨m20, e19, h⟩ := bd1_some h
    refine xc_Vv0 (st := []) (ok_X6_trace 0 m e19) dX9_isDone_153 cv_X9_152 rfl rfl (Nat.le_of_ble_eq_true rfl) (by decide) (by decide) (by decide) (by decide) ?_
    refine xj_aload_n 0 dX9_isDone_156 rfl ?_
    refine xg_getR (k' := 6) (i' := 0) dX9_isDone_157 fl_X9_28 rfl ?_
    refine xj_aload_n 0 dX9_isDone_160 rfl ?_
    refine xg_getR (k' := 7) (i' := 0) dX9_isDone_161 fl_X9_32 rfl ?_
    obtain ⟨m22, e21, h⟩ := bd1_some h
    refine xc_Vv0 (st := []) (ok_X6_flowOneDay 0 m20 e21) dX9_isDone_164 cv_X9_156 rfl rfl (Nat.le_of_ble_eq_true rfl) (by decide) (by decide) (by decide) (by decide) ?_
    refine xj_iconst (z := 1) dX9_isDone_167 (by decide) ?_
    cases h
    exact xj_ireturn dX9_isDone_168 rfl (by decide) (by decide)
  · rw [if_neg c18] at h
    refine xj_iconst (z := 0) dX9_isDone_143 (by decide) ?_
    cases h
    exact xj_ireturn dX9_isDone_144 rfl (by decide) (by decide)
noncomputable def r_X9_kindOf (m : Mem) : Option Int32 :=
  bd1 (r_X8_wordIs 17 m) fun z2 => (if z2 = true then (some 0) else (bd1 (r_X8_wordIs 18 m) fun z5 => (if z5 = true then (some 1) else (bd1 (r_X8_wordIs 19 m) fun z8 => (if z8 = true then (some 2) else (bd1 (r_X8_wordIs 20 m) fun z11 => (if z11 = true then (some 3) else (bd1 (r_X8_wordIs 21 m) fun z14 => (if z14 = true then (some 4) else (bd1 (r_X8_wordIs 22 m) fun z17 => (if z17 = true then (some 5) else (some (-1)))))))))))))
set_option maxHeartbeats 4000000 in
set_option maxRecDepth 20000 in
theorem ok_X9_kindOf (m : Mem) {z : Int32} (h : r_X9_kindOf m = some z) : Mt yX9_kindOf cX9_kindOf 2 (some .int) 6 107 0 0 [vR 9 0, vR 8 0] m (oI z) m := by
  refine Mt.of (by decide) (Nat.le_of_ble_eq_true rfl) (by decide +kernel) (hhF_ne (by decide)) ?_
  show Xj RX9 cX9_kindOf 2 (some .int) 6 107 0 0 0 0 0 [(0, vR 9 0), (1, vR 8 0)] [] m (oI z) m
  unfold r_X9_kindOf at h
  refine xj_aload_n 1 dX9_kindOf_0 rfl ?_
  refine xj_ldcS (n := 17) dX9_kindOf_1 rfl ?_
  obtain ⟨z2, e1, h⟩ := bd1_some h
  refine xc_Vb0 (st := []) (ok_X8_wordIs 17 m e1) dX9_kindOf_3 cv_X9_90 rfl rfl (Nat.le_of_ble_eq_true rfl) (by decide) (by decide) (by decide) (by decide) ?_
  refine xj_if_eq (tgt := 11) dX9_kindOf_6 (by decide) (fun c3 => ?_) (fun c3 => ?_)
  · rw [if_neg (b2i_f c3)] at h
    refine xj_aload_n 1 dX9_kindOf_11 rfl ?_
    refine xj_ldcS (n := 18) dX9_kindOf_12 rfl ?_
    obtain ⟨z5, e4, h⟩ := bd1_some h
    refine xc_Vb0 (st := []) (ok_X8_wordIs 18 m e4) dX9_kindOf_14 cv_X9_90 rfl rfl (Nat.le_of_ble_eq_true rfl) (by decide) (by decide) (by decide) (by decide) ?_
    refine xj_if_eq (tgt := 22) dX9_kindOf_17 (by decide) (fun c6 => ?_) (fun c6 => ?_)
    · rw [if_neg (b2i_f c6)] at h
      refine xj_aload_n 1 dX9_kindOf_22 rfl ?_
      refine xj_ldcS (n := 19) dX9_kindOf_23 rfl ?_
      obtain ⟨z8, e7, h⟩ := bd1_some h
      refine xc_Vb0 (st := []) (ok_X8_wordIs 19 m e7) dX9_kindOf_25 cv_X9_90 rfl rfl (Nat.le_of_ble_eq_true rfl) (by decide) (by decide) (by decide) (by decide) ?_
      refine xj_if_eq (tgt := 33) dX9_kindOf_28 (by decide) (fun c9 => ?_) (fun c9 => ?_)
      · rw [if_neg (b2i_f c9)] at h
        refine xj_aload_n 1 dX9_kindOf_33 rfl ?_
        refine xj_ldcS (n := 20) dX9_kindOf_34 rfl ?_
        obtain ⟨z11, e10, h⟩ := bd1_some h
        refine xc_Vb0 (st := []) (ok_X8_wordIs 20 m e10) dX9_kindOf_36 cv_X9_90 rfl rfl (Nat.le_of_ble_eq_true rfl) (by decide) (by decide) (by decide) (by decide) ?_
        refine xj_if_eq (tgt := 44) dX9_kindOf_39 (by decide) (fun c12 => ?_) (fun c12 => ?_)
        · rw [if_neg (b2i_f c12)] at h
          refine xj_aload_n 1 dX9_kindOf_44 rfl ?_
          refine xj_ldcS (n := 21) dX9_kindOf_45 rfl ?_
          obtain ⟨z14, e13, h⟩ := bd1_some h
          refine xc_Vb0 (st := []) (ok_X8_wordIs 21 m e13) dX9_kindOf_47 cv_X9_90 rfl rfl (Nat.le_of_ble_eq_true rfl) (by decide) (by decide) (by decide) (by decide) ?_
          refine xj_if_eq (tgt := 55) dX9_kindOf_50 (by decide) (fun c15 => ?_) (fun c15 => ?_)
          · rw [if_neg (b2i_f c15)] at h
            refine xj_aload_n 1 dX9_kindOf_55 rfl ?_
            refine xj_ldcS (n := 22) dX9_kindOf_56 rfl ?_
            obtain ⟨z17, e16, h⟩ := bd1_some h
            refine xc_Vb0 (st := []) (ok_X8_wordIs 22 m e16) dX9_kindOf_58 cv_X9_90 rfl rfl (Nat.le_of_ble_eq_true rfl) (by decide) (by decide) (by decide) (by decide) ?_
            refine xj_if_eq (tgt := 68) dX9_kindOf_61 (by decide) (fun c18 => ?_) (fun c18 => ?_)
            · rw [if_neg (b2i_f c18)] at h
              refine xj_iconst (z := (-1)) dX9_kindOf_68 (by decide) ?_
              cases h
              exact xj_ireturn dX9_kindOf_69 rfl (by decide) (by decide)
            · rw [if_pos (b2i_t c18)] at h
              refine xj_iconst (z := 5) dX9_kindOf_64 (by decide) ?_
              refine xj_goto (tgt := 69) dX9_kindOf_65 (by decide) ?_
              cases h
              exact xj_ireturn dX9_kindOf_69 rfl (by decide) (by decide)
          · rw [if_pos (b2i_t c15)] at h
            refine xj_iconst (z := 4) dX9_kindOf_53 (by decide) ?_
            cases h
            exact xj_ireturn dX9_kindOf_54 rfl (by decide) (by decide)
        · rw [if_pos (b2i_t c12)] at h
          refine xj_iconst (z := 3) dX9_kindOf_42 (by decide) ?_
          cases h
          exact xj_ireturn dX9_kindOf_43 rfl (by decide) (by decide)
      · rw [if_pos (b2i_t c9)] at h
        refine xj_iconst (z := 2) dX9_kindOf_31 (by decide) ?_
        cases h
        exact xj_ireturn dX9_kindOf_32 rfl (by decide) (by decide)
    · rw [if_pos (b2i_t c6)] at h
      refine xj_iconst (z := 1) dX9_kindOf_20 (by decide) ?_
      cases h
      exact xj_ireturn dX9_kindOf_21 rfl (by decide) (by decide)
  · rw [if_pos (b2i_t c3)] at h
    refine xj_iconst (z := 0) dX9_kindOf_9 (by decide) ?_
    cases h
    exact xj_ireturn dX9_kindOf_10 rfl (by decide) (by decide)
/-! the methods that call each other: run -/
def MG_run (f0 l0 sel i : Nat) (as : List Int32) (m : Mem) (m' : Mem) : Prop := match sel, as with
  | 0, [x1, x2, x3] => Mt yX9_run cX9_run 6 none f0 l0 0 0 [vR 9 0, vI x1, vI x2, vI x3] m oV m'
  | _, _ => True
def RG_run (f0 l0 : Nat) (rec : Nat → Nat → List Int32 → Mem → Option Mem) : Prop := ∀ (sel i : Nat) (as : List Int32) (m : Mem) (m' : Mem), rec sel i as m = some m' → MG_run f0 l0 sel i as m m'
noncomputable def r_X9_run_b49_c3 (rec : Nat → Nat → List Int32 → Mem → Option Mem) (x2 : Int32) (x3 : Int32) (x4 : Int32) (x5 : Int32) (m : Mem) : Option ((Int32 × Mem) ⊕ (Mem)) :=
  if inb x4 38 = true then (if (m 40 0 x4.toNatClampNeg) ≤ x5 then (some (Sum.inr m)) else (if 200 ≤ (m 9 0 2) then (some (Sum.inr m)) else (bd1 (rec 0 0 [(x4 + 1), (m 42 0 x4.toNatClampNeg), (x3 + 1)] m) fun m10 => (some (Sum.inl (x5 + 1, m10)))))) else none
set_option maxHeartbeats 4000000 in
set_option maxRecDepth 20000 in
theorem ok_X9_run_b49_c3 (rec : Nat → Nat → List Int32 → Mem → Option Mem) {f0 l0 f9 l9 : Nat} (hrec : RG_run f0 l0 rec) (hf : f0 + 1 ≤ f9) (hf2 : 6 ≤ f9) (hl : l0 + 25 ≤ l9) (hl2 : 123 ≤ l9) (x2 : Int32) (x3 : Int32) (x4 : Int32) (x5 : Int32) (m : Mem) {r : (Int32 × Mem) ⊕ (Mem)} (h : r_X9_run_b49_c3 rec x2 x3 x4 x5 m = some r) {o : Ou} {M' : Mem} (kb : ∀ (x5' : Int32) (m'' : Mem), r = Sum.inl (x5', m'') → Xj RX9 cX9_run 6 none f9 l9 0 0 0 0 49 [(0, vR 9 0), (2, vI x2), (3, vI x3), (4, vI x4), (5, vI x5')] [] m'' o M') (ke : ∀ (m'' : Mem), r = Sum.inr m'' → Xj RX9 cX9_run 6 none f9 l9 0 0 0 0 95 [(0, vR 9 0), (2, vI x2), (3, vI x3), (4, vI x4)] [] m'' o M') : Xj RX9 cX9_run 6 none f9 l9 0 0 0 0 49 [(0, vR 9 0), (2, vI x2), (3, vI x3), (4, vI x4), (5, vI x5)] [] m o M' := by
  unfold r_X9_run_b49_c3 at h
  refine xj_iload 4 dX9_run_49 rfl ?_
  refine xj_aload_n 0 dX9_run_51 rfl ?_
  refine xg_getR (k' := 40) (i' := 0) dX9_run_52 fl_X9_15 rfl ?_
  refine xj_iload 3 dX9_run_55 rfl ?_
  by_cases c6 : inb x4 38 = true
  case neg => rw [if_neg c6] at h; cases h
  rw [if_pos c6] at h
  refine xg_iald (z := (m 40 0 x4.toNatClampNeg)) (n := x4.toNatClampNeg) dX9_run_57 rfl (by decide) (inb_in c6) rfl rfl ?_
  refine xj_icmp_ge (tgt := 95) dX9_run_58 (by decide) (fun c7 => ?_) (fun c7 => ?_)
  · rw [if_pos c7] at h
    cases h
    refine xj_pick (ls' := [(0, vR 9 0), (2, vI x2), (3, vI x3), (4, vI x4)]) [0, 1, 2, 3] rfl ?_
    exact ke m rfl
  · rw [if_neg c7] at h
    refine xj_aload_n 0 dX9_run_61 rfl ?_
    refine xg_getI (x := (m 9 0 2)) dX9_run_62 fl_X9_120 rfl rfl ?_
    refine xj_sipush (z := 200) dX9_run_65 (by decide) ?_
    refine xj_icmp_ge (tgt := 95) dX9_run_68 (by decide) (fun c8 => ?_) (fun c8 => ?_)
    · rw [if_pos c8] at h
      cases h
      refine xj_pick (ls' := [(0, vR 9 0), (2, vI x2), (3, vI x3), (4, vI x4)]) [0, 1, 2, 3] rfl ?_
      exact ke m rfl
    · rw [if_neg c8] at h
      refine xj_aload_n 0 dX9_run_71 rfl ?_
      refine xj_iload 3 dX9_run_72 rfl ?_
      refine xj_iconst (z := 1) dX9_run_74 (by decide) ?_
      refine xj_iadd dX9_run_75 ?_
      refine xj_aload_n 0 dX9_run_76 rfl ?_
      refine xg_getR (k' := 42) (i' := 0) dX9_run_77 fl_X9_21 rfl ?_
      refine xj_iload 3 dX9_run_80 rfl ?_
      refine xg_iald (z := (m 42 0 x4.toNatClampNeg)) (n := x4.toNatClampNeg) dX9_run_82 rfl (by decide) (inb_in c6) rfl rfl ?_
      refine xj_iload_n 2 dX9_run_83 rfl ?_
      refine xj_iconst (z := 1) dX9_run_84 (by decide) ?_
      refine xj_iadd dX9_run_85 ?_
      obtain ⟨m10, e9, h⟩ := bd1_some h
      refine xc_Vv0 (st := []) (hrec 0 0 [(x4 + 1), (m 42 0 x4.toNatClampNeg), (x3 + 1)] m _ e9) dX9_run_86 cv_X9_129 rfl rfl (Nat.le_of_ble_eq_true rfl) (by omega) (by omega) (by decide) (by decide) ?_
      refine xj_iinc (z := x5 + 1) (ls' := [(5, vI (x5 + 1)), (0, vR 9 0), (2, vI x2), (3, vI x3), (4, vI x4)]) 4 dX9_run_89 rfl rfl (by decide) rfl ?_
      refine xj_goto (tgt := 49) dX9_run_92 (by decide) ?_
      cases h
      refine xj_pick (ls' := [(0, vR 9 0), (2, vI x2), (3, vI x3), (4, vI x4), (5, vI (x5 + 1))]) [1, 2, 3, 4, 0] rfl ?_
      exact kb (x5 + 1) m10 rfl
noncomputable def r_X9_run_j95_c3 (rec : Nat → Nat → List Int32 → Mem → Option Mem) (x2 : Int32) (x3 : Int32) (x4 : Int32) (m : Mem) : Option ((Int32 × Mem) ⊕ (Mem)) :=
  if inb x4 38 = true then (some (Sum.inl ((m 42 0 x4.toNatClampNeg), m))) else none
set_option maxHeartbeats 4000000 in
set_option maxRecDepth 20000 in
theorem ok_X9_run_j95_c3 (rec : Nat → Nat → List Int32 → Mem → Option Mem) {f0 l0 f9 l9 : Nat} (hrec : RG_run f0 l0 rec) (hf : f0 + 1 ≤ f9) (hf2 : 6 ≤ f9) (hl : l0 + 25 ≤ l9) (hl2 : 123 ≤ l9) (x2 : Int32) (x3 : Int32) (x4 : Int32) (m : Mem) {r : (Int32 × Mem) ⊕ (Mem)} (h : r_X9_run_j95_c3 rec x2 x3 x4 m = some r) {o : Ou} {M' : Mem} (kb : ∀ (x4' : Int32) (m'' : Mem), r = Sum.inl (x4', m'') → Xj RX9 cX9_run 6 none f9 l9 0 0 0 0 3 [(0, vR 9 0), (2, vI x2), (3, vI x3), (4, vI x4')] [] m'' o M') (ke : ∀ (m'' : Mem), r = Sum.inr m'' → Xj RX9 cX9_run 6 none f9 l9 0 0 0 0 145 [] [] m'' o M') : Xj RX9 cX9_run 6 none f9 l9 0 0 0 0 95 [(0, vR 9 0), (2, vI x2), (3, vI x3), (4, vI x4)] [] m o M' := by
  unfold r_X9_run_j95_c3 at h
  refine xj_aload_n 0 dX9_run_95 rfl ?_
  refine xg_getR (k' := 42) (i' := 0) dX9_run_96 fl_X9_21 rfl ?_
  refine xj_iload 3 dX9_run_99 rfl ?_
  by_cases c11 : inb x4 38 = true
  case neg => rw [if_neg c11] at h; cases h
  rw [if_pos c11] at h
  refine xg_iald (z := (m 42 0 x4.toNatClampNeg)) (n := x4.toNatClampNeg) dX9_run_101 rfl (by decide) (inb_in c11) rfl rfl ?_
  refine xj_istore (ls' := [(4, vI (m 42 0 x4.toNatClampNeg)), (0, vR 9 0), (2, vI x2), (3, vI x3)]) dX9_run_102 (by decide) rfl ?_
  refine xj_goto (tgt := 3) dX9_run_104 (by decide) ?_
  cases h
  refine xj_pick (ls' := [(0, vR 9 0), (2, vI x2), (3, vI x3), (4, vI (m 42 0 x4.toNatClampNeg))]) [1, 2, 3, 0] rfl ?_
  exact kb (m 42 0 x4.toNatClampNeg) m rfl
noncomputable def r_X9_run_e95_h49_c3 (rec : Nat → Nat → List Int32 → Mem → Option Mem) (x2 : Int32) (x3 : Int32) (x4 : Int32) (m : Mem) : Option ((Int32 × Mem) ⊕ (Mem)) :=
  r_X9_run_j95_c3 rec x2 x3 x4 m
set_option maxHeartbeats 4000000 in
set_option maxRecDepth 20000 in
theorem ok_X9_run_e95_h49_c3 (rec : Nat → Nat → List Int32 → Mem → Option Mem) {f0 l0 f9 l9 : Nat} (hrec : RG_run f0 l0 rec) (hf : f0 + 1 ≤ f9) (hf2 : 6 ≤ f9) (hl : l0 + 25 ≤ l9) (hl2 : 123 ≤ l9) (x2 : Int32) (x3 : Int32) (x4 : Int32) (m : Mem) {r : (Int32 × Mem) ⊕ (Mem)} (h : r_X9_run_e95_h49_c3 rec x2 x3 x4 m = some r) {o : Ou} {M' : Mem} (kb : ∀ (x4' : Int32) (m'' : Mem), r = Sum.inl (x4', m'') → Xj RX9 cX9_run 6 none f9 l9 0 0 0 0 3 [(0, vR 9 0), (2, vI x2), (3, vI x3), (4, vI x4')] [] m'' o M') (ke : ∀ (m'' : Mem), r = Sum.inr m'' → Xj RX9 cX9_run 6 none f9 l9 0 0 0 0 145 [] [] m'' o M') : Xj RX9 cX9_run 6 none f9 l9 0 0 0 0 95 [(0, vR 9 0), (2, vI x2), (3, vI x3), (4, vI x4)] [] m o M' := by
  unfold r_X9_run_e95_h49_c3 at h
  exact ok_X9_run_j95_c3 rec hrec hf hf2 hl hl2 x2 x3 x4 m h kb ke
noncomputable def r_X9_run_l49_c3 (rec : Nat → Nat → List Int32 → Mem → Option Mem) (x2 : Int32) (x3 : Int32) (x4 : Int32) (x5 : Int32) (m : Mem) : Option ((Int32 × Mem) ⊕ (Mem)) :=
  bd1 (loopO (fun s => r_X9_run_b49_c3 rec x2 x3 x4 s.1 s.2) (x5, m)) (fun e => r_X9_run_e95_h49_c3 rec x2 x3 x4 e)
set_option maxHeartbeats 4000000 in
set_option maxRecDepth 20000 in
theorem ok_X9_run_l49_c3 (rec : Nat → Nat → List Int32 → Mem → Option Mem) {f0 l0 f9 l9 : Nat} (hrec : RG_run f0 l0 rec) (hf : f0 + 1 ≤ f9) (hf2 : 6 ≤ f9) (hl : l0 + 25 ≤ l9) (hl2 : 123 ≤ l9) (x2 : Int32) (x3 : Int32) (x4 : Int32) (x5 : Int32) (m : Mem) {r : (Int32 × Mem) ⊕ (Mem)} (h : r_X9_run_l49_c3 rec x2 x3 x4 x5 m = some r) {o : Ou} {M' : Mem} (kb : ∀ (x4' : Int32) (m'' : Mem), r = Sum.inl (x4', m'') → Xj RX9 cX9_run 6 none f9 l9 0 0 0 0 3 [(0, vR 9 0), (2, vI x2), (3, vI x3), (4, vI x4')] [] m'' o M') (ke : ∀ (m'' : Mem), r = Sum.inr m'' → Xj RX9 cX9_run 6 none f9 l9 0 0 0 0 145 [] [] m'' o M') : Xj RX9 cX9_run 6 none f9 l9 0 0 0 0 49 [(0, vR 9 0), (2, vI x2), (3, vI x3), (4, vI x4), (5, vI x5)] [] m o M' := by
  unfold r_X9_run_l49_c3 at h
  obtain ⟨e, e1, h⟩ := bd1_some h
  refine loopO_ok (P := fun s : (Int32 × Mem) => Xj RX9 cX9_run 6 none f9 l9 0 0 0 0 49 [(0, vR 9 0), (2, vI x2), (3, vI x3), (4, vI x4), (5, vI s.1)] [] s.2 o M') (Q := fun e : (Mem) => Xj RX9 cX9_run 6 none f9 l9 0 0 0 0 95 [(0, vR 9 0), (2, vI x2), (3, vI x3), (4, vI x4)] [] e o M') ?_ _ _ e1 ?_
  · intro s r9 h9 hi hx
    exact ok_X9_run_b49_c3 rec hrec hf hf2 hl hl2 x2 x3 x4 s.1 s.2 h9 (by rintro _ _ rfl; exact hi _ rfl) (by rintro _ rfl; exact hx _ rfl)
  · exact ok_X9_run_e95_h49_c3 rec hrec hf hf2 hl hl2 x2 x3 x4 e h kb ke
noncomputable def r_X9_run_j139_c3 (rec : Nat → Nat → List Int32 → Mem → Option Mem) (x2 : Int32) (x3 : Int32) (x4 : Int32) (m : Mem) : Option ((Int32 × Mem) ⊕ (Mem)) :=
  some (Sum.inl (x4 + 1, m))
set_option maxHeartbeats 4000000 in
set_option maxRecDepth 20000 in
theorem ok_X9_run_j139_c3 (rec : Nat → Nat → List Int32 → Mem → Option Mem) {f0 l0 f9 l9 : Nat} (hrec : RG_run f0 l0 rec) (hf : f0 + 1 ≤ f9) (hf2 : 6 ≤ f9) (hl : l0 + 25 ≤ l9) (hl2 : 123 ≤ l9) (x2 : Int32) (x3 : Int32) (x4 : Int32) (m : Mem) {r : (Int32 × Mem) ⊕ (Mem)} (h : r_X9_run_j139_c3 rec x2 x3 x4 m = some r) {o : Ou} {M' : Mem} (kb : ∀ (x4' : Int32) (m'' : Mem), r = Sum.inl (x4', m'') → Xj RX9 cX9_run 6 none f9 l9 0 0 0 0 3 [(0, vR 9 0), (2, vI x2), (3, vI x3), (4, vI x4')] [] m'' o M') (ke : ∀ (m'' : Mem), r = Sum.inr m'' → Xj RX9 cX9_run 6 none f9 l9 0 0 0 0 145 [] [] m'' o M') : Xj RX9 cX9_run 6 none f9 l9 0 0 0 0 139 [(0, vR 9 0), (2, vI x2), (3, vI x3), (4, vI x4)] [] m o M' := by
  unfold r_X9_run_j139_c3 at h
  refine xj_iinc (z := x4 + 1) (ls' := [(4, vI (x4 + 1)), (0, vR 9 0), (2, vI x2), (3, vI x3)]) 3 dX9_run_139 rfl rfl (by decide) rfl ?_
  refine xj_goto (tgt := 3) dX9_run_142 (by decide) ?_
  cases h
  refine xj_pick (ls' := [(0, vR 9 0), (2, vI x2), (3, vI x3), (4, vI (x4 + 1))]) [1, 2, 3, 0] rfl ?_
  exact kb (x4 + 1) m rfl
noncomputable def r_X9_run_b3 (rec : Nat → Nat → List Int32 → Mem → Option Mem) (x2 : Int32) (x3 : Int32) (x4 : Int32) (m : Mem) : Option ((Int32 × Mem) ⊕ (Mem)) :=
  if x2 ≤ x4 then (some (Sum.inr m)) else (if 200 ≤ (m 9 0 2) then (some (Sum.inr m)) else (if 6 < x3 then (some (Sum.inr m)) else (if inb x4 38 = true then (if (m 39 0 x4.toNatClampNeg) = 5 then (r_X9_run_l49_c3 rec x2 x3 x4 0 (wr m 9 0 2 ((m 9 0 2) + 1))) else (bd2 (r_X9_isDone x4 (wr m 9 0 2 ((m 9 0 2) + 1))) fun z14 m13 => (if z14 = true then (r_X9_run_j139_c3 rec x2 x3 x4 (wr m13 9 0 0 ((m13 9 0 0) + 1))) else (r_X9_run_j139_c3 rec x2 x3 x4 (wr m13 9 0 1 ((m13 9 0 1) + 1)))))) else none)))
set_option maxHeartbeats 4000000 in
set_option maxRecDepth 20000 in
theorem ok_X9_run_b3 (rec : Nat → Nat → List Int32 → Mem → Option Mem) {f0 l0 f9 l9 : Nat} (hrec : RG_run f0 l0 rec) (hf : f0 + 1 ≤ f9) (hf2 : 6 ≤ f9) (hl : l0 + 25 ≤ l9) (hl2 : 123 ≤ l9) (x2 : Int32) (x3 : Int32) (x4 : Int32) (m : Mem) {r : (Int32 × Mem) ⊕ (Mem)} (h : r_X9_run_b3 rec x2 x3 x4 m = some r) {o : Ou} {M' : Mem} (kb : ∀ (x4' : Int32) (m'' : Mem), r = Sum.inl (x4', m'') → Xj RX9 cX9_run 6 none f9 l9 0 0 0 0 3 [(0, vR 9 0), (2, vI x2), (3, vI x3), (4, vI x4')] [] m'' o M') (ke : ∀ (m'' : Mem), r = Sum.inr m'' → Xj RX9 cX9_run 6 none f9 l9 0 0 0 0 145 [] [] m'' o M') : Xj RX9 cX9_run 6 none f9 l9 0 0 0 0 3 [(0, vR 9 0), (2, vI x2), (3, vI x3), (4, vI x4)] [] m o M' := by
  unfold r_X9_run_b3 at h
  refine xj_iload 3 dX9_run_3 rfl ?_
  refine xj_iload_n 1 dX9_run_5 rfl ?_
  refine xj_icmp_ge (tgt := 145) dX9_run_6 (by decide) (fun c1 => ?_) (fun c1 => ?_)
  · rw [if_pos c1] at h
    cases h
    refine xj_pick (ls' := []) [] rfl ?_
    exact ke m rfl
  · rw [if_neg c1] at h
    refine xj_aload_n 0 dX9_run_9 rfl ?_
    refine xg_getI (x := (m 9 0 2)) dX9_run_10 fl_X9_120 rfl rfl ?_
    refine xj_sipush (z := 200) dX9_run_13 (by decide) ?_
    refine xj_icmp_ge (tgt := 145) dX9_run_16 (by decide) (fun c2 => ?_) (fun c2 => ?_)
    · rw [if_pos c2] at h
      cases h
      refine xj_pick (ls' := []) [] rfl ?_
      exact ke m rfl
    · rw [if_neg c2] at h
      refine xj_iload_n 2 dX9_run_19 rfl ?_
      refine xj_bipush (z := 6) dX9_run_20 (by decide) ?_
      refine xj_icmp_gt (tgt := 145) dX9_run_22 (by decide) (fun c3 => ?_) (fun c3 => ?_)
      · rw [if_pos c3] at h
        cases h
        refine xj_pick (ls' := []) [] rfl ?_
        exact ke m rfl
      · rw [if_neg c3] at h
        refine xj_aload_n 0 dX9_run_25 rfl ?_
        refine xj_dup dX9_run_26 rfl ?_
        refine xg_getI (x := (m 9 0 2)) dX9_run_27 fl_X9_120 rfl rfl ?_
        refine xj_iconst (z := 1) dX9_run_30 (by decide) ?_
        refine xj_iadd dX9_run_31 ?_
        refine xj_putI dX9_run_32 fw_X9_120 rfl ?_
        refine xj_aload_n 0 dX9_run_35 rfl ?_
        refine xg_getR (k' := 39) (i' := 0) dX9_run_36 fl_X9_11 rfl ?_
        refine xj_iload 3 dX9_run_39 rfl ?_
        by_cases c4 : inb x4 38 = true
        case neg => rw [if_neg c4] at h; cases h
        rw [if_pos c4] at h
        refine xg_iald (z := (m 39 0 x4.toNatClampNeg)) (n := x4.toNatClampNeg) dX9_run_41 rfl (by decide) (inb_in c4) rfl rfl ?_
        refine xj_iconst (z := 5) dX9_run_42 (by decide) ?_
        refine xj_icmp_ne (tgt := 107) dX9_run_43 (by decide) (fun c5 => ?_) (fun c5 => ?_)
        · rw [if_neg c5] at h
          refine xj_aload_n 0 dX9_run_107 rfl ?_
          refine xj_iload 3 dX9_run_108 rfl ?_
          obtain ⟨z14, m13, e12, h⟩ := bd2_some h
          refine xc_Vb0 (st := []) (ok_X9_isDone x4 (wr m 9 0 2 ((m 9 0 2) + 1)) e12) dX9_run_110 cv_X9_133 rfl rfl (Nat.le_of_ble_eq_true rfl) (by omega) (by omega) (by decide) (by decide) ?_
          refine xj_if_eq (tgt := 129) dX9_run_113 (by decide) (fun c15 => ?_) (fun c15 => ?_)
          · rw [if_neg (b2i_f c15)] at h
            refine xj_aload_n 0 dX9_run_129 rfl ?_
            refine xj_dup dX9_run_130 rfl ?_
            refine xg_getI (x := (m13 9 0 1)) dX9_run_131 fl_X9_126 rfl rfl ?_
            refine xj_iconst (z := 1) dX9_run_134 (by decide) ?_
            refine xj_iadd dX9_run_135 ?_
            refine xj_putI dX9_run_136 fw_X9_126 rfl ?_
            exact ok_X9_run_j139_c3 rec hrec hf hf2 hl hl2 x2 x3 x4 (wr m13 9 0 1 ((m13 9 0 1) + 1)) h kb ke
          · rw [if_pos (b2i_t c15)] at h
            refine xj_aload_n 0 dX9_run_116 rfl ?_
            refine xj_dup dX9_run_117 rfl ?_
            refine xg_getI (x := (m13 9 0 0)) dX9_run_118 fl_X9_123 rfl rfl ?_
            refine xj_iconst (z := 1) dX9_run_121 (by decide) ?_
            refine xj_iadd dX9_run_122 ?_
            refine xj_putI dX9_run_123 fw_X9_123 rfl ?_
            refine xj_goto (tgt := 139) dX9_run_126 (by decide) ?_
            exact ok_X9_run_j139_c3 rec hrec hf hf2 hl hl2 x2 x3 x4 (wr m13 9 0 0 ((m13 9 0 0) + 1)) h kb ke
        · rw [if_pos c5] at h
          refine xj_iconst (z := 0) dX9_run_46 (by decide) ?_
          refine xj_istore (ls' := [(5, vI 0), (0, vR 9 0), (2, vI x2), (3, vI x3), (4, vI x4)]) dX9_run_47 (by decide) rfl ?_
          refine xj_pick (ls' := [(0, vR 9 0), (2, vI x2), (3, vI x3), (4, vI x4), (5, vI 0)]) [1, 2, 3, 4, 0] rfl ?_
          exact ok_X9_run_l49_c3 rec hrec hf hf2 hl hl2 x2 x3 x4 0 (wr m 9 0 2 ((m 9 0 2) + 1)) h kb ke
noncomputable def r_X9_run_e145_h3 (rec : Nat → Nat → List Int32 → Mem → Option Mem) (m : Mem) : Option Mem :=
  some m
set_option maxHeartbeats 4000000 in
set_option maxRecDepth 20000 in
theorem ok_X9_run_e145_h3 (rec : Nat → Nat → List Int32 → Mem → Option Mem) {f0 l0 f9 l9 : Nat} (hrec : RG_run f0 l0 rec) (hf : f0 + 1 ≤ f9) (hf2 : 6 ≤ f9) (hl : l0 + 25 ≤ l9) (hl2 : 123 ≤ l9) (m : Mem) {m' : Mem} (h : r_X9_run_e145_h3 rec m = some m') : Xj RX9 cX9_run 6 none f9 l9 0 0 0 0 145 [] [] m oV m' := by
  unfold r_X9_run_e145_h3 at h
  cases h
  exact xj_return dX9_run_145 (by decide) (by decide)
noncomputable def r_X9_run_l3 (rec : Nat → Nat → List Int32 → Mem → Option Mem) (x2 : Int32) (x3 : Int32) (x4 : Int32) (m : Mem) : Option Mem :=
  bd1 (loopO (fun s => r_X9_run_b3 rec x2 x3 s.1 s.2) (x4, m)) (fun e => r_X9_run_e145_h3 rec e)
set_option maxHeartbeats 4000000 in
set_option maxRecDepth 20000 in
theorem ok_X9_run_l3 (rec : Nat → Nat → List Int32 → Mem → Option Mem) {f0 l0 f9 l9 : Nat} (hrec : RG_run f0 l0 rec) (hf : f0 + 1 ≤ f9) (hf2 : 6 ≤ f9) (hl : l0 + 25 ≤ l9) (hl2 : 123 ≤ l9) (x2 : Int32) (x3 : Int32) (x4 : Int32) (m : Mem) {m' : Mem} (h : r_X9_run_l3 rec x2 x3 x4 m = some m') : Xj RX9 cX9_run 6 none f9 l9 0 0 0 0 3 [(0, vR 9 0), (2, vI x2), (3, vI x3), (4, vI x4)] [] m oV m' := by
  unfold r_X9_run_l3 at h
  obtain ⟨e, e1, h⟩ := bd1_some h
  refine loopO_ok (P := fun s : (Int32 × Mem) => Xj RX9 cX9_run 6 none f9 l9 0 0 0 0 3 [(0, vR 9 0), (2, vI x2), (3, vI x3), (4, vI s.1)] [] s.2 oV m') (Q := fun e : (Mem) => Xj RX9 cX9_run 6 none f9 l9 0 0 0 0 145 [] [] e oV m') ?_ _ _ e1 ?_
  · intro s r9 h9 hi hx
    exact ok_X9_run_b3 rec hrec hf hf2 hl hl2 x2 x3 s.1 s.2 h9 (by rintro _ _ rfl; exact hi _ rfl) (by rintro _ rfl; exact hx _ rfl)
  · exact ok_X9_run_e145_h3 rec hrec hf hf2 hl hl2 e h 
noncomputable def r_X9_run (rec : Nat → Nat → List Int32 → Mem → Option Mem) (x1 : Int32) (x2 : Int32) (x3 : Int32) (m : Mem) : Option Mem :=
  r_X9_run_l3 rec x2 x3 x1 m
set_option maxHeartbeats 4000000 in
set_option maxRecDepth 20000 in
theorem ok_X9_run (rec : Nat → Nat → List Int32 → Mem → Option Mem) {f0 l0 f9 l9 : Nat} (hrec : RG_run f0 l0 rec) (hf : f0 + 1 ≤ f9) (hf2 : 6 ≤ f9) (hl : l0 + 25 ≤ l9) (hl2 : 123 ≤ l9) (x1 : Int32) (x2 : Int32) (x3 : Int32) (m : Mem) {m' : Mem} (h : r_X9_run rec x1 x2 x3 m = some m') : Mt yX9_run cX9_run 6 none f9 l9 0 0 [vR 9 0, vI x1, vI x2, vI x3] m oV m' := by
  refine Mt.of (by decide) (Nat.le_of_ble_eq_true rfl) (by decide +kernel) (hhF_ne (by decide)) ?_
  show Xj RX9 cX9_run 6 none f9 l9 0 0 0 0 0 [(0, vR 9 0), (1, vI x1), (2, vI x2), (3, vI x3)] [] m oV m'
  unfold r_X9_run at h
  refine xj_iload_n 1 dX9_run_0 rfl ?_
  refine xj_istore (ls' := [(4, vI x1), (0, vR 9 0), (1, vI x1), (2, vI x2), (3, vI x3)]) dX9_run_1 (by decide) rfl ?_
  refine xj_pick (ls' := [(0, vR 9 0), (2, vI x2), (3, vI x3), (4, vI x1)]) [1, 3, 4, 0] rfl ?_
  exact ok_X9_run_l3 rec hrec hf hf2 hl hl2 x2 x3 x1 m h 
noncomputable def rec_run : Nat → Nat → Nat → List Int32 → Mem → Option Mem
  | 0 => fun _ _ _ _ => none
  | g + 1 => fun sel i as m => match sel, as with
    | 0, [x1, x2, x3] => r_X9_run (rec_run g) x1 x2 x3 m
    | _, _ => none
theorem ok_rec_run : ∀ g : Nat, RG_run (6 + g) (123 + g * 25) (rec_run g)
  | 0 => fun _ _ _ _ _ h => nomatch h
  | g + 1 => fun sel i as m m' h => by
    have ih := ok_rec_run g
    unfold rec_run at h
    split at h
    · exact ok_X9_run (rec_run g) ih (by omega) (by omega) (by omega) (by omega) _ _ _ m h
    · cases h
noncomputable def r_X9_run_t (x1 : Int32) (x2 : Int32) (x3 : Int32) (m : Mem) : Option Mem := rec_run 9 0 0 [x1, x2, x3] m
theorem ok_X9_run_t (x1 : Int32) (x2 : Int32) (x3 : Int32) (m : Mem) {m' : Mem} (h : r_X9_run_t x1 x2 x3 m = some m') : Mt yX9_run cX9_run 6 none 15 348 0 0 [vR 9 0, vI x1, vI x2, vI x3] m oV m' := ok_rec_run 9 0 0 [x1, x2, x3] m _ h
noncomputable def r_X9_perform (m : Mem) : Option Mem :=
  bd1 (r_X9_run_t 0 (m 9 0 3) 0 (wr (wr (wr m 9 0 2 0) 9 0 0 0) 9 0 1 0)) fun m2 => (some m2)
set_option maxHeartbeats 4000000 in
set_option maxRecDepth 20000 in
theorem ok_X9_perform (m : Mem) {m' : Mem} (h : r_X9_perform m = some m') : Mt yX9_perform cX9_perform 1 none 16 373 0 0 [vR 9 0] m oV m' := by
  refine Mt.of (by decide) (Nat.le_of_ble_eq_true rfl) (by decide +kernel) (hhF_ne (by decide)) ?_
  show Xj RX9 cX9_perform 1 none 16 373 0 0 0 0 0 [(0, vR 9 0)] [] m oV m'
  unfold r_X9_perform at h
  refine xj_aload_n 0 dX9_perform_0 rfl ?_
  refine xj_iconst (z := 0) dX9_perform_1 (by decide) ?_
  refine xj_putI dX9_perform_2 fw_X9_120 rfl ?_
  refine xj_aload_n 0 dX9_perform_5 rfl ?_
  refine xj_iconst (z := 0) dX9_perform_6 (by decide) ?_
  refine xj_putI dX9_perform_7 fw_X9_123 rfl ?_
  refine xj_aload_n 0 dX9_perform_10 rfl ?_
  refine xj_iconst (z := 0) dX9_perform_11 (by decide) ?_
  refine xj_putI dX9_perform_12 fw_X9_126 rfl ?_
  refine xj_aload_n 0 dX9_perform_15 rfl ?_
  refine xj_iconst (z := 0) dX9_perform_16 (by decide) ?_
  refine xj_aload_n 0 dX9_perform_17 rfl ?_
  refine xg_getI (x := (m 9 0 3)) dX9_perform_18 fl_X9_36 rfl rfl ?_
  refine xj_iconst (z := 0) dX9_perform_21 (by decide) ?_
  obtain ⟨m2, e1, h⟩ := bd1_some h
  refine xc_Vv0 (st := []) (ok_X9_run_t 0 (m 9 0 3) 0 (wr (wr (wr m 9 0 2 0) 9 0 0 0) 9 0 1 0) e1) dX9_perform_22 cv_X9_129 rfl rfl (Nat.le_of_ble_eq_true rfl) (by decide) (by decide) (by decide) (by decide) ?_
  cases h
  exact xj_return dX9_perform_25 (by decide) (by decide)
noncomputable def r_X9_readWho (x2 : Int32) (m : Mem) : Option (Bool × Mem) :=
  bd2 (r_X8_number 0 ((m 3 0 2) - 1) m) fun z3 m2 => (if inb x2 38 = true then (if z3 = (-1) then (some (false, (wr m2 40 0 x2.toNatClampNeg z3))) else (some (true, (wr m2 40 0 x2.toNatClampNeg z3)))) else none)
set_option maxHeartbeats 4000000 in
set_option maxRecDepth 20000 in
theorem ok_X9_readWho (x2 : Int32) (m : Mem) {z : Bool} {m' : Mem} (h : r_X9_readWho x2 m = some (z, m')) : Mt yX9_readWho cX9_readWho 3 (some .boolean) 3 45 0 0 [vR 9 0, vR 8 0, vI x2] m (oB z) m' := by
  refine Mt.of (by decide) (Nat.le_of_ble_eq_true rfl) (by decide +kernel) (hhF_ne (by decide)) ?_
  show Xj RX9 cX9_readWho 3 (some .boolean) 3 45 0 0 0 0 0 [(0, vR 9 0), (1, vR 8 0), (2, vI x2)] [] m (oB z) m'
  unfold r_X9_readWho at h
  refine xj_aload_n 0 dX9_readWho_0 rfl ?_
  refine xg_getR (k' := 40) (i' := 0) dX9_readWho_1 fl_X9_15 rfl ?_
  refine xj_iload_n 2 dX9_readWho_4 rfl ?_
  refine xj_aload_n 1 dX9_readWho_5 rfl ?_
  refine xj_iconst (z := 0) dX9_readWho_6 (by decide) ?_
  refine xj_aload_n 0 dX9_readWho_7 rfl ?_
  refine xg_getR (k' := 3) (i' := 0) dX9_readWho_8 fl_X9_24 rfl ?_
  refine xg_getI (x := (m 3 0 2)) dX9_readWho_11 fl_X9_104 rfl rfl ?_
  refine xj_iconst (z := 1) dX9_readWho_14 (by decide) ?_
  refine xj_isub dX9_readWho_15 ?_
  obtain ⟨z3, m2, e1, h⟩ := bd2_some h
  refine xc_Vi0 (st := [vI x2, vR 40 0]) (ok_X8_number 0 ((m 3 0 2) - 1) m e1) dX9_readWho_16 cv_X9_109 rfl rfl (Nat.le_of_ble_eq_true rfl) (by decide) (by decide) (by decide) (by decide) ?_
  by_cases c4 : inb x2 38 = true
  case neg => rw [if_neg c4] at h; cases h
  rw [if_pos c4] at h
  refine xg_iast (n := x2.toNatClampNeg) dX9_readWho_19 rfl (by decide) (inb_in c4) rfl ?_
  refine xj_aload_n 0 dX9_readWho_20 rfl ?_
  refine xg_getR (k' := 40) (i' := 0) dX9_readWho_21 fl_X9_15 rfl ?_
  refine xj_iload_n 2 dX9_readWho_24 rfl ?_
  refine xg_iald (z := z3) (n := x2.toNatClampNeg) dX9_readWho_25 rfl (by decide) (inb_in c4) rfl (by first | rfl | simp [wr]) ?_
  refine xj_iconst (z := (-1)) dX9_readWho_26 (by decide) ?_
  refine xj_icmp_eq (tgt := 34) dX9_readWho_27 (by decide) (fun c5 => ?_) (fun c5 => ?_)
  · rw [if_pos c5] at h
    refine xj_iconst (z := 0) dX9_readWho_34 (by decide) ?_
    cases h
    exact xj_ireturn dX9_readWho_35 rfl (by decide) (by decide)
  · rw [if_neg c5] at h
    refine xj_iconst (z := 1) dX9_readWho_30 (by decide) ?_
    refine xj_goto (tgt := 35) dX9_readWho_31 (by decide) ?_
    cases h
    exact xj_ireturn dX9_readWho_35 rfl (by decide) (by decide)
noncomputable def r_X9_readStart (x2 : Int32) (m : Mem) : Option (Bool × Mem) :=
  bd2 (r_X8_number 0 ((m 3 0 0) - 1) m) fun z3 m2 => (if inb x2 38 = true then (if z3 = (-1) then (some (false, (wr m2 41 0 x2.toNatClampNeg z3))) else (some (true, (wr m2 41 0 x2.toNatClampNeg z3)))) else none)
set_option maxHeartbeats 4000000 in
set_option maxRecDepth 20000 in
theorem ok_X9_readStart (x2 : Int32) (m : Mem) {z : Bool} {m' : Mem} (h : r_X9_readStart x2 m = some (z, m')) : Mt yX9_readStart cX9_readStart 3 (some .boolean) 3 45 0 0 [vR 9 0, vR 8 0, vI x2] m (oB z) m' := by
  refine Mt.of (by decide) (Nat.le_of_ble_eq_true rfl) (by decide +kernel) (hhF_ne (by decide)) ?_
  show Xj RX9 cX9_readStart 3 (some .boolean) 3 45 0 0 0 0 0 [(0, vR 9 0), (1, vR 8 0), (2, vI x2)] [] m (oB z) m'
  unfold r_X9_readStart at h
  refine xj_aload_n 0 dX9_readStart_0 rfl ?_
  refine xg_getR (k' := 41) (i' := 0) dX9_readStart_1 fl_X9_18 rfl ?_
  refine xj_iload_n 2 dX9_readStart_4 rfl ?_
  refine xj_aload_n 1 dX9_readStart_5 rfl ?_
  refine xj_iconst (z := 0) dX9_readStart_6 (by decide) ?_
  refine xj_aload_n 0 dX9_readStart_7 rfl ?_
  refine xg_getR (k' := 3) (i' := 0) dX9_readStart_8 fl_X9_24 rfl ?_
  refine xg_getI (x := (m 3 0 0)) dX9_readStart_11 fl_X9_113 rfl rfl ?_
  refine xj_iconst (z := 1) dX9_readStart_14 (by decide) ?_
  refine xj_isub dX9_readStart_15 ?_
  obtain ⟨z3, m2, e1, h⟩ := bd2_some h
  refine xc_Vi0 (st := [vI x2, vR 41 0]) (ok_X8_number 0 ((m 3 0 0) - 1) m e1) dX9_readStart_16 cv_X9_109 rfl rfl (Nat.le_of_ble_eq_true rfl) (by decide) (by decide) (by decide) (by decide) ?_
  by_cases c4 : inb x2 38 = true
  case neg => rw [if_neg c4] at h; cases h
  rw [if_pos c4] at h
  refine xg_iast (n := x2.toNatClampNeg) dX9_readStart_19 rfl (by decide) (inb_in c4) rfl ?_
  refine xj_aload_n 0 dX9_readStart_20 rfl ?_
  refine xg_getR (k' := 41) (i' := 0) dX9_readStart_21 fl_X9_18 rfl ?_
  refine xj_iload_n 2 dX9_readStart_24 rfl ?_
  refine xg_iald (z := z3) (n := x2.toNatClampNeg) dX9_readStart_25 rfl (by decide) (inb_in c4) rfl (by first | rfl | simp [wr]) ?_
  refine xj_iconst (z := (-1)) dX9_readStart_26 (by decide) ?_
  refine xj_icmp_eq (tgt := 34) dX9_readStart_27 (by decide) (fun c5 => ?_) (fun c5 => ?_)
  · rw [if_pos c5] at h
    refine xj_iconst (z := 0) dX9_readStart_34 (by decide) ?_
    cases h
    exact xj_ireturn dX9_readStart_35 rfl (by decide) (by decide)
  · rw [if_neg c5] at h
    refine xj_iconst (z := 1) dX9_readStart_30 (by decide) ?_
    refine xj_goto (tgt := 35) dX9_readStart_31 (by decide) ?_
    cases h
    exact xj_ireturn dX9_readStart_35 rfl (by decide) (by decide)
noncomputable def r_X9_readGoal (x2 : Int32) (m : Mem) : Option (Bool × Mem) :=
  if inb x2 38 = true then (bd2 (r_X8_linkedNumber 0 (m 41 0 x2.toNatClampNeg) m) fun z4 m3 => (if z4 = (-1) then (some (false, (wr m3 42 0 x2.toNatClampNeg z4))) else (some (true, (wr m3 42 0 x2.toNatClampNeg z4))))) else none
set_option maxHeartbeats 4000000 in
set_option maxRecDepth 20000 in
theorem ok_X9_readGoal (x2 : Int32) (m : Mem) {z : Bool} {m' : Mem} (h : r_X9_readGoal x2 m = some (z, m')) : Mt yX9_readGoal cX9_readGoal 3 (some .boolean) 4 68 0 0 [vR 9 0, vR 8 0, vI x2] m (oB z) m' := by
  refine Mt.of (by decide) (Nat.le_of_ble_eq_true rfl) (by decide +kernel) (hhF_ne (by decide)) ?_
  show Xj RX9 cX9_readGoal 3 (some .boolean) 4 68 0 0 0 0 0 [(0, vR 9 0), (1, vR 8 0), (2, vI x2)] [] m (oB z) m'
  unfold r_X9_readGoal at h
  refine xj_aload_n 0 dX9_readGoal_0 rfl ?_
  refine xg_getR (k' := 42) (i' := 0) dX9_readGoal_1 fl_X9_21 rfl ?_
  refine xj_iload_n 2 dX9_readGoal_4 rfl ?_
  refine xj_aload_n 1 dX9_readGoal_5 rfl ?_
  refine xj_aload_n 0 dX9_readGoal_6 rfl ?_
  refine xg_getR (k' := 3) (i' := 0) dX9_readGoal_7 fl_X9_24 rfl ?_
  refine xj_aload_n 0 dX9_readGoal_10 rfl ?_
  refine xg_getR (k' := 41) (i' := 0) dX9_readGoal_11 fl_X9_18 rfl ?_
  refine xj_iload_n 2 dX9_readGoal_14 rfl ?_
  by_cases c1 : inb x2 38 = true
  case neg => rw [if_neg c1] at h; cases h
  rw [if_pos c1] at h
  refine xg_iald (z := (m 41 0 x2.toNatClampNeg)) (n := x2.toNatClampNeg) dX9_readGoal_15 rfl (by decide) (inb_in c1) rfl rfl ?_
  obtain ⟨z4, m3, e2, h⟩ := bd2_some h
  refine xc_Vi0 (st := [vI x2, vR 42 0]) (ok_X8_linkedNumber 0 (m 41 0 x2.toNatClampNeg) m e2) dX9_readGoal_16 cv_X9_116 rfl rfl (Nat.le_of_ble_eq_true rfl) (by decide) (by decide) (by decide) (by decide) ?_
  refine xg_iast (n := x2.toNatClampNeg) dX9_readGoal_19 rfl (by decide) (inb_in c1) rfl ?_
  refine xj_aload_n 0 dX9_readGoal_20 rfl ?_
  refine xg_getR (k' := 42) (i' := 0) dX9_readGoal_21 fl_X9_21 rfl ?_
  refine xj_iload_n 2 dX9_readGoal_24 rfl ?_
  refine xg_iald (z := z4) (n := x2.toNatClampNeg) dX9_readGoal_25 rfl (by decide) (inb_in c1) rfl (by first | rfl | simp [wr]) ?_
  refine xj_iconst (z := (-1)) dX9_readGoal_26 (by decide) ?_
  refine xj_icmp_eq (tgt := 34) dX9_readGoal_27 (by decide) (fun c5 => ?_) (fun c5 => ?_)
  · rw [if_pos c5] at h
    refine xj_iconst (z := 0) dX9_readGoal_34 (by decide) ?_
    cases h
    exact xj_ireturn dX9_readGoal_35 rfl (by decide) (by decide)
  · rw [if_neg c5] at h
    refine xj_iconst (z := 1) dX9_readGoal_30 (by decide) ?_
    refine xj_goto (tgt := 35) dX9_readGoal_31 (by decide) ?_
    cases h
    exact xj_ireturn dX9_readGoal_35 rfl (by decide) (by decide)
/-! the methods that call each other: stp -/
def MG_stp (f0 l0 sel i : Nat) (as : List Int32) (m : Mem) (z : Bool) (m' : Mem) : Prop := match sel, as with
  | 0, [x2] => Mt yX9_readSteps cX9_readSteps 5 (some .boolean) f0 l0 0 0 [vR 9 0, vR 8 0, vI x2] m (oB z) m'
  | 1, [x2] => Mt yX9_readStep cX9_readStep 5 (some .boolean) f0 l0 0 0 [vR 9 0, vR 8 0, vI x2] m (oB z) m'
  | 2, [x2, x3] => Mt yX9_readAgain cX9_readAgain 4 (some .boolean) f0 l0 0 0 [vR 9 0, vR 8 0, vI x2, vI x3] m (oB z) m'
  | _, _ => True
def RG_stp (f0 l0 : Nat) (rec : Nat → Nat → List Int32 → Mem → Option (Bool × Mem)) : Prop := ∀ (sel i : Nat) (as : List Int32) (m : Mem) (z : Bool) (m' : Mem), rec sel i as m = some (z, m') → MG_stp f0 l0 sel i as m z m'
noncomputable def r_X9_readSteps_j37_c2 (rec : Nat → Nat → List Int32 → Mem → Option (Bool × Mem)) (x2 : Int32) (x3 : Int32) (m : Mem) : Option ((Int32 × Mem) ⊕ ((Mem) ⊕ (Bool × Mem))) :=
  bd2 (rec 1 0 [x2] m) fun z9 m8 => (if z9 = true then (bd2 (r_X8_sign 59 m8) fun z13 m12 => (if z13 = true then (some (Sum.inl (x3 + 1, m12))) else (some (Sum.inr (Sum.inr (false, m12)))))) else (some (Sum.inr (Sum.inr (false, m8)))))
set_option maxHeartbeats 4000000 in
set_option maxRecDepth 20000 in
theorem ok_X9_readSteps_j37_c2 (rec : Nat → Nat → List Int32 → Mem → Option (Bool × Mem)) {f0 l0 f9 l9 : Nat} (hrec : RG_stp f0 l0 rec) (hf : f0 + 1 ≤ f9) (hf2 : 3 ≤ f9) (hl : l0 + 24 ≤ l9) (hl2 : 43 ≤ l9) (x2 : Int32) (x3 : Int32) (m : Mem) {r : (Int32 × Mem) ⊕ ((Mem) ⊕ (Bool × Mem))} (h : r_X9_readSteps_j37_c2 rec x2 x3 m = some r) {o : Ou} {M' : Mem} (kb : ∀ (x3' : Int32) (m'' : Mem), r = Sum.inl (x3', m'') → Xj RX9 cX9_readSteps 5 (some .boolean) f9 l9 0 0 0 0 2 [(0, vR 9 0), (1, vR 8 0), (2, vI x2), (3, vI x3')] [] m'' o M') (ke : ∀ (m'' : Mem), r = Sum.inr (Sum.inl m'') → Xj RX9 cX9_readSteps 5 (some .boolean) f9 l9 0 0 0 0 63 [] [] m'' o M') (kr : ∀ (z : Bool) (m' : Mem), r = Sum.inr (Sum.inr (z, m')) → o = (oB z) ∧ M' = m') : Xj RX9 cX9_readSteps 5 (some .boolean) f9 l9 0 0 0 0 37 [(0, vR 9 0), (1, vR 8 0), (2, vI x2), (3, vI x3)] [] m o M' := by
  unfold r_X9_readSteps_j37_c2 at h
  refine xj_aload_n 0 dX9_readSteps_37 rfl ?_
  refine xj_aload_n 1 dX9_readSteps_38 rfl ?_
  refine xj_iload_n 2 dX9_readSteps_39 rfl ?_
  obtain ⟨z9, m8, e7, h⟩ := bd2_some h
  refine xc_Vb0 (st := []) (hrec 1 0 [x2] m _ _ e7) dX9_readSteps_40 cv_X9_54 rfl rfl (Nat.le_of_ble_eq_true rfl) (by omega) (by omega) (by decide) (by decide) ?_
  refine xj_if_eq (tgt := 55) dX9_readSteps_43 (by decide) (fun c10 => ?_) (fun c10 => ?_)
  · rw [if_neg (b2i_f c10)] at h
    refine xj_iconst (z := 0) dX9_readSteps_55 (by decide) ?_
    cases h
    obtain ⟨rfl, rfl⟩ := kr _ _ rfl
    exact xj_ireturn dX9_readSteps_56 rfl (by decide) (by decide)
  · rw [if_pos (b2i_t c10)] at h
    refine xj_aload_n 1 dX9_readSteps_46 rfl ?_
    refine xj_bipush (z := 59) dX9_readSteps_47 (by decide) ?_
    obtain ⟨z13, m12, e11, h⟩ := bd2_some h
    refine xc_Vb0 (st := []) (ok_X8_sign 59 m8 e11) dX9_readSteps_49 cv_X9_57 rfl rfl (Nat.le_of_ble_eq_true rfl) (by omega) (by omega) (by decide) (by decide) ?_
    refine xj_if_ne (tgt := 57) dX9_readSteps_52 (by decide) (fun c14 => ?_) (fun c14 => ?_)
    · rw [if_pos (b2i_t c14)] at h
      refine xj_iinc (z := x3 + 1) (ls' := [(3, vI (x3 + 1)), (0, vR 9 0), (1, vR 8 0), (2, vI x2)]) 3 dX9_readSteps_57 rfl rfl (by decide) rfl ?_
      refine xj_goto (tgt := 2) dX9_readSteps_60 (by decide) ?_
      cases h
      refine xj_pick (ls' := [(0, vR 9 0), (1, vR 8 0), (2, vI x2), (3, vI (x3 + 1))]) [1, 2, 3, 0] rfl ?_
      exact kb (x3 + 1) m12 rfl
    · rw [if_neg (b2i_f c14)] at h
      refine xj_iconst (z := 0) dX9_readSteps_55 (by decide) ?_
      cases h
      obtain ⟨rfl, rfl⟩ := kr _ _ rfl
      exact xj_ireturn dX9_readSteps_56 rfl (by decide) (by decide)
noncomputable def r_X9_readSteps_b2 (rec : Nat → Nat → List Int32 → Mem → Option (Bool × Mem)) (x2 : Int32) (x3 : Int32) (m : Mem) : Option ((Int32 × Mem) ⊕ ((Mem) ⊕ (Bool × Mem))) :=
  if 150 ≤ x3 then (some (Sum.inr (Sum.inl m))) else (bd2 (r_X8_peek m) fun z4 m3 => (if x2 = 0 then (if z4 = (-1) then (some (Sum.inr (Sum.inr (true, m3)))) else (r_X9_readSteps_j37_c2 rec x2 x3 m3)) else (if z4 = 93 then (some (Sum.inr (Sum.inr (true, m3)))) else (r_X9_readSteps_j37_c2 rec x2 x3 m3))))
set_option maxHeartbeats 4000000 in
set_option maxRecDepth 20000 in
theorem ok_X9_readSteps_b2 (rec : Nat → Nat → List Int32 → Mem → Option (Bool × Mem)) {f0 l0 f9 l9 : Nat} (hrec : RG_stp f0 l0 rec) (hf : f0 + 1 ≤ f9) (hf2 : 3 ≤ f9) (hl : l0 + 24 ≤ l9) (hl2 : 43 ≤ l9) (x2 : Int32) (x3 : Int32) (m : Mem) {r : (Int32 × Mem) ⊕ ((Mem) ⊕ (Bool × Mem))} (h : r_X9_readSteps_b2 rec x2 x3 m = some r) {o : Ou} {M' : Mem} (kb : ∀ (x3' : Int32) (m'' : Mem), r = Sum.inl (x3', m'') → Xj RX9 cX9_readSteps 5 (some .boolean) f9 l9 0 0 0 0 2 [(0, vR 9 0), (1, vR 8 0), (2, vI x2), (3, vI x3')] [] m'' o M') (ke : ∀ (m'' : Mem), r = Sum.inr (Sum.inl m'') → Xj RX9 cX9_readSteps 5 (some .boolean) f9 l9 0 0 0 0 63 [] [] m'' o M') (kr : ∀ (z : Bool) (m' : Mem), r = Sum.inr (Sum.inr (z, m')) → o = (oB z) ∧ M' = m') : Xj RX9 cX9_readSteps 5 (some .boolean) f9 l9 0 0 0 0 2 [(0, vR 9 0), (1, vR 8 0), (2, vI x2), (3, vI x3)] [] m o M' := by
  unfold r_X9_readSteps_b2 at h
  refine xj_iload_n 3 dX9_readSteps_2 rfl ?_
  refine xj_sipush (z := 150) dX9_readSteps_3 (by decide) ?_
  refine xj_icmp_ge (tgt := 63) dX9_readSteps_6 (by decide) (fun c1 => ?_) (fun c1 => ?_)
  · rw [if_pos c1] at h
    cases h
    refine xj_pick (ls' := []) [] rfl ?_
    exact ke m rfl
  · rw [if_neg c1] at h
    refine xj_aload_n 1 dX9_readSteps_9 rfl ?_
    obtain ⟨z4, m3, e2, h⟩ := bd2_some h
    refine xc_Vi0 (st := []) (ok_X8_peek m e2) dX9_readSteps_10 cv_X9_50 rfl rfl (Nat.le_of_ble_eq_true rfl) (by omega) (by omega) (by decide) (by decide) ?_
    refine xj_istore (ls' := [(4, vI z4), (0, vR 9 0), (1, vR 8 0), (2, vI x2), (3, vI x3)]) dX9_readSteps_13 (by decide) rfl ?_
    refine xj_iload_n 3 dX9_readSteps_15 rfl ?_
    refine xj_if_ne (tgt := 28) dX9_readSteps_16 (by decide) (fun c5 => ?_) (fun c5 => ?_)
    · rw [if_neg c5] at h
      refine xj_iload 0 dX9_readSteps_28 rfl ?_
      refine xj_bipush (z := 93) dX9_readSteps_30 (by decide) ?_
      refine xj_icmp_ne (tgt := 37) dX9_readSteps_32 (by decide) (fun c15 => ?_) (fun c15 => ?_)
      · rw [if_neg c15] at h
        refine xj_pick (ls' := [(0, vR 9 0), (1, vR 8 0), (2, vI x2), (3, vI x3)]) [1, 2, 3, 4] rfl ?_
        exact ok_X9_readSteps_j37_c2 rec hrec hf hf2 hl hl2 x2 x3 m3 h kb ke kr
      · rw [if_pos c15] at h
        refine xj_iconst (z := 1) dX9_readSteps_35 (by decide) ?_
        cases h
        obtain ⟨rfl, rfl⟩ := kr _ _ rfl
        exact xj_ireturn dX9_readSteps_36 rfl (by decide) (by decide)
    · rw [if_pos c5] at h
      refine xj_iload 0 dX9_readSteps_19 rfl ?_
      refine xj_iconst (z := (-1)) dX9_readSteps_21 (by decide) ?_
      refine xj_icmp_ne (tgt := 37) dX9_readSteps_22 (by decide) (fun c6 => ?_) (fun c6 => ?_)
      · rw [if_neg c6] at h
        refine xj_pick (ls' := [(0, vR 9 0), (1, vR 8 0), (2, vI x2), (3, vI x3)]) [1, 2, 3, 4] rfl ?_
        exact ok_X9_readSteps_j37_c2 rec hrec hf hf2 hl hl2 x2 x3 m3 h kb ke kr
      · rw [if_pos c6] at h
        refine xj_goto (tgt := 35) dX9_readSteps_25 (by decide) ?_
        refine xj_iconst (z := 1) dX9_readSteps_35 (by decide) ?_
        cases h
        obtain ⟨rfl, rfl⟩ := kr _ _ rfl
        exact xj_ireturn dX9_readSteps_36 rfl (by decide) (by decide)
noncomputable def r_X9_readSteps_e63_h2 (rec : Nat → Nat → List Int32 → Mem → Option (Bool × Mem)) (m : Mem) : Option (Bool × Mem) :=
  some (true, m)
set_option maxHeartbeats 4000000 in
set_option maxRecDepth 20000 in
theorem ok_X9_readSteps_e63_h2 (rec : Nat → Nat → List Int32 → Mem → Option (Bool × Mem)) {f0 l0 f9 l9 : Nat} (hrec : RG_stp f0 l0 rec) (hf : f0 + 1 ≤ f9) (hf2 : 3 ≤ f9) (hl : l0 + 24 ≤ l9) (hl2 : 43 ≤ l9) (m : Mem) {z : Bool} {m' : Mem} (h : r_X9_readSteps_e63_h2 rec m = some (z, m')) : Xj RX9 cX9_readSteps 5 (some .boolean) f9 l9 0 0 0 0 63 [] [] m (oB z) m' := by
  unfold r_X9_readSteps_e63_h2 at h
  refine xj_iconst (z := 1) dX9_readSteps_63 (by decide) ?_
  cases h
  exact xj_ireturn dX9_readSteps_64 rfl (by decide) (by decide)
noncomputable def r_X9_readSteps_l2 (rec : Nat → Nat → List Int32 → Mem → Option (Bool × Mem)) (x2 : Int32) (x3 : Int32) (m : Mem) : Option (Bool × Mem) :=
  bdS (loopO (fun s => r_X9_readSteps_b2 rec x2 s.1 s.2) (x3, m)) (fun e => r_X9_readSteps_e63_h2 rec e) (fun q => some q)
set_option maxHeartbeats 4000000 in
set_option maxRecDepth 20000 in
theorem ok_X9_readSteps_l2 (rec : Nat → Nat → List Int32 → Mem → Option (Bool × Mem)) {f0 l0 f9 l9 : Nat} (hrec : RG_stp f0 l0 rec) (hf : f0 + 1 ≤ f9) (hf2 : 3 ≤ f9) (hl : l0 + 24 ≤ l9) (hl2 : 43 ≤ l9) (x2 : Int32) (x3 : Int32) (m : Mem) {z : Bool} {m' : Mem} (h : r_X9_readSteps_l2 rec x2 x3 m = some (z, m')) : Xj RX9 cX9_readSteps 5 (some .boolean) f9 l9 0 0 0 0 2 [(0, vR 9 0), (1, vR 8 0), (2, vI x2), (3, vI x3)] [] m (oB z) m' := by
  unfold r_X9_readSteps_l2 at h
  rcases bdS_some h with ⟨e, e1, h⟩ | ⟨q, e1, h⟩
  · refine loopO_ok (P := fun s : (Int32 × Mem) => Xj RX9 cX9_readSteps 5 (some .boolean) f9 l9 0 0 0 0 2 [(0, vR 9 0), (1, vR 8 0), (2, vI x2), (3, vI s.1)] [] s.2 (oB z) m') (Q := Sum.elim (fun e : (Mem) => Xj RX9 cX9_readSteps 5 (some .boolean) f9 l9 0 0 0 0 63 [] [] e (oB z) m') (fun q : (Bool × Mem) => (oB z) = (oB q.1) ∧ m' = q.2)) ?_ _ _ e1 ?_
    · intro s r9 h9 hi hx
      exact ok_X9_readSteps_b2 rec hrec hf hf2 hl hl2 x2 s.1 s.2 h9 (by rintro _ _ rfl; exact hi _ rfl) (by rintro _ rfl; exact hx _ rfl) (by rintro _ _ rfl; exact hx _ rfl)
    · exact ok_X9_readSteps_e63_h2 rec hrec hf hf2 hl hl2 e h 
  · refine loopO_ok (P := fun s : (Int32 × Mem) => Xj RX9 cX9_readSteps 5 (some .boolean) f9 l9 0 0 0 0 2 [(0, vR 9 0), (1, vR 8 0), (2, vI x2), (3, vI s.1)] [] s.2 (oB z) m') (Q := Sum.elim (fun e : (Mem) => Xj RX9 cX9_readSteps 5 (some .boolean) f9 l9 0 0 0 0 63 [] [] e (oB z) m') (fun q : (Bool × Mem) => (oB z) = (oB q.1) ∧ m' = q.2)) ?_ _ _ e1 ?_
    · intro s r9 h9 hi hx
      exact ok_X9_readSteps_b2 rec hrec hf hf2 hl hl2 x2 s.1 s.2 h9 (by rintro _ _ rfl; exact hi _ rfl) (by rintro _ rfl; exact hx _ rfl) (by rintro _ _ rfl; exact hx _ rfl)
    · cases h; exact ⟨rfl, rfl⟩
noncomputable def r_X9_readSteps (rec : Nat → Nat → List Int32 → Mem → Option (Bool × Mem)) (x2 : Int32) (m : Mem) : Option (Bool × Mem) :=
  r_X9_readSteps_l2 rec x2 0 m
set_option maxHeartbeats 4000000 in
set_option maxRecDepth 20000 in
theorem ok_X9_readSteps (rec : Nat → Nat → List Int32 → Mem → Option (Bool × Mem)) {f0 l0 f9 l9 : Nat} (hrec : RG_stp f0 l0 rec) (hf : f0 + 1 ≤ f9) (hf2 : 3 ≤ f9) (hl : l0 + 24 ≤ l9) (hl2 : 43 ≤ l9) (x2 : Int32) (m : Mem) {z : Bool} {m' : Mem} (h : r_X9_readSteps rec x2 m = some (z, m')) : Mt yX9_readSteps cX9_readSteps 5 (some .boolean) f9 l9 0 0 [vR 9 0, vR 8 0, vI x2] m (oB z) m' := by
  refine Mt.of (by decide) (Nat.le_of_ble_eq_true rfl) (by decide +kernel) (hhF_ne (by decide)) ?_
  show Xj RX9 cX9_readSteps 5 (some .boolean) f9 l9 0 0 0 0 0 [(0, vR 9 0), (1, vR 8 0), (2, vI x2)] [] m (oB z) m'
  unfold r_X9_readSteps at h
  refine xj_iconst (z := 0) dX9_readSteps_0 (by decide) ?_
  refine xj_istore_n (ls' := [(3, vI 0), (0, vR 9 0), (1, vR 8 0), (2, vI x2)]) dX9_readSteps_1 rfl (by decide) rfl ?_
  refine xj_pick (ls' := [(0, vR 9 0), (1, vR 8 0), (2, vI x2), (3, vI 0)]) [1, 2, 3, 0] rfl ?_
  exact ok_X9_readSteps_l2 rec hrec hf hf2 hl hl2 x2 0 m h 
noncomputable def r_X9_readStep_j50 (rec : Nat → Nat → List Int32 → Mem → Option (Bool × Mem)) (m : Mem) : Option (Bool × Mem) :=
  bd2 (r_X8_wrong 3 (m 8 0 2) m) fun z15 m14 => (some (z15, m14))
set_option maxHeartbeats 4000000 in
set_option maxRecDepth 20000 in
theorem ok_X9_readStep_j50 (rec : Nat → Nat → List Int32 → Mem → Option (Bool × Mem)) {f0 l0 f9 l9 : Nat} (hrec : RG_stp f0 l0 rec) (hf : f0 + 1 ≤ f9) (hf2 : 7 ≤ f9) (hl : l0 + 24 ≤ l9) (hl2 : 128 ≤ l9) (m : Mem) {z : Bool} {m' : Mem} (h : r_X9_readStep_j50 rec m = some (z, m')) : Xj RX9 cX9_readStep 5 (some .boolean) f9 l9 0 0 0 0 50 [(1, vR 8 0)] [] m (oB z) m' := by
  unfold r_X9_readStep_j50 at h
  refine xj_aload_n 0 dX9_readStep_50 rfl ?_
  refine xj_iconst (z := 3) dX9_readStep_51 (by decide) ?_
  refine xj_aload_n 0 dX9_readStep_52 rfl ?_
  refine xg_getI (x := (m 8 0 2)) dX9_readStep_53 fl_X9_68 rfl rfl ?_
  obtain ⟨z15, m14, e13, h⟩ := bd2_some h
  refine xc_Vb0 (st := []) (ok_X8_wrong 3 (m 8 0 2) m e13) dX9_readStep_56 cv_X9_71 rfl rfl (Nat.le_of_ble_eq_true rfl) (by omega) (by omega) (by decide) (by decide) ?_
  cases h
  exact xj_ireturn dX9_readStep_59 (nar_b2i _) (by decide) (by decide)
noncomputable def r_X9_readStep_j160 (rec : Nat → Nat → List Int32 → Mem → Option (Bool × Mem)) (x4 : Int32) (m : Mem) : Option (Bool × Mem) :=
  bd2 (r_X9_readWho x4 m) fun z34 m33 => (if z34 = true then (bd2 (r_X9_readStart x4 m33) fun z38 m37 => (if z38 = true then (some (true, m37)) else (some (false, m37)))) else (some (false, m33)))
set_option maxHeartbeats 4000000 in
set_option maxRecDepth 20000 in
theorem ok_X9_readStep_j160 (rec : Nat → Nat → List Int32 → Mem → Option (Bool × Mem)) {f0 l0 f9 l9 : Nat} (hrec : RG_stp f0 l0 rec) (hf : f0 + 1 ≤ f9) (hf2 : 7 ≤ f9) (hl : l0 + 24 ≤ l9) (hl2 : 128 ≤ l9) (x4 : Int32) (m : Mem) {z : Bool} {m' : Mem} (h : r_X9_readStep_j160 rec x4 m = some (z, m')) : Xj RX9 cX9_readStep 5 (some .boolean) f9 l9 0 0 0 0 160 [(0, vR 9 0), (1, vR 8 0), (4, vI x4)] [] m (oB z) m' := by
  unfold r_X9_readStep_j160 at h
  refine xj_aload_n 0 dX9_readStep_160 rfl ?_
  refine xj_aload_n 1 dX9_readStep_161 rfl ?_
  refine xj_iload 2 dX9_readStep_162 rfl ?_
  obtain ⟨z34, m33, e32, h⟩ := bd2_some h
  refine xc_Vb0 (st := []) (ok_X9_readWho x4 m e32) dX9_readStep_164 cv_X9_75 rfl rfl (Nat.le_of_ble_eq_true rfl) (by omega) (by omega) (by decide) (by decide) ?_
  refine xj_if_eq (tgt := 184) dX9_readStep_167 (by decide) (fun c35 => ?_) (fun c35 => ?_)
  · rw [if_neg (b2i_f c35)] at h
    refine xj_iconst (z := 0) dX9_readStep_184 (by decide) ?_
    cases h
    exact xj_ireturn dX9_readStep_185 rfl (by decide) (by decide)
  · rw [if_pos (b2i_t c35)] at h
    refine xj_aload_n 0 dX9_readStep_170 rfl ?_
    refine xj_aload_n 1 dX9_readStep_171 rfl ?_
    refine xj_iload 2 dX9_readStep_172 rfl ?_
    obtain ⟨z38, m37, e36, h⟩ := bd2_some h
    refine xc_Vb0 (st := []) (ok_X9_readStart x4 m33 e36) dX9_readStep_174 cv_X9_78 rfl rfl (Nat.le_of_ble_eq_true rfl) (by omega) (by omega) (by decide) (by decide) ?_
    refine xj_if_eq (tgt := 184) dX9_readStep_177 (by decide) (fun c39 => ?_) (fun c39 => ?_)
    · rw [if_neg (b2i_f c39)] at h
      refine xj_iconst (z := 0) dX9_readStep_184 (by decide) ?_
      cases h
      exact xj_ireturn dX9_readStep_185 rfl (by decide) (by decide)
    · rw [if_pos (b2i_t c39)] at h
      refine xj_iconst (z := 1) dX9_readStep_180 (by decide) ?_
      refine xj_goto (tgt := 185) dX9_readStep_181 (by decide) ?_
      cases h
      exact xj_ireturn dX9_readStep_185 rfl (by decide) (by decide)
noncomputable def r_X9_readStep_j41 (rec : Nat → Nat → List Int32 → Mem → Option (Bool × Mem)) (x2 : Int32) (x3 : Int32) (m : Mem) : Option (Bool × Mem) :=
  if (m 9 0 3) < 38 then (if inb (m 9 0 3) 38 = true then (if x3 = 0 then (bd2 (r_X9_readWho (m 9 0 3) (wr (wr m 9 0 3 ((m 9 0 3) + 1)) 39 0 ((m 9 0 3).toNatClampNeg) x3)) fun z21 m20 => (if z21 = true then (bd2 (r_X9_readStart (m 9 0 3) m20) fun z25 m24 => (if z25 = true then (bd2 (r_X9_readGoal (m 9 0 3) m24) fun z29 m28 => (if z29 = true then (some (true, m28)) else (some (false, m28)))) else (some (false, m24)))) else (some (false, m20)))) else if x3 = 1 then (r_X9_readStep_j160 rec (m 9 0 3) (wr (wr m 9 0 3 ((m 9 0 3) + 1)) 39 0 ((m 9 0 3).toNatClampNeg) x3)) else if x3 = 2 then (r_X9_readStep_j160 rec (m 9 0 3) (wr (wr m 9 0 3 ((m 9 0 3) + 1)) 39 0 ((m 9 0 3).toNatClampNeg) x3)) else if x3 = 3 then (bd2 (r_X9_readStart (m 9 0 3) (wr (wr m 9 0 3 ((m 9 0 3) + 1)) 39 0 ((m 9 0 3).toNatClampNeg) x3)) fun z44 m43 => (if z44 = true then (bd2 (r_X9_readGoal (m 9 0 3) m43) fun z48 m47 => (if z48 = true then (some (true, m47)) else (some (false, m47)))) else (some (false, m43)))) else if x3 = 4 then (some (true, (wr (wr m 9 0 3 ((m 9 0 3) + 1)) 39 0 ((m 9 0 3).toNatClampNeg) x3))) else if x3 = 5 then (bd2 (rec 2 0 [x2, (m 9 0 3)] (wr (wr m 9 0 3 ((m 9 0 3) + 1)) 39 0 ((m 9 0 3).toNatClampNeg) x3)) fun z54 m53 => (some (z54, m53))) else (some (true, (wr (wr m 9 0 3 ((m 9 0 3) + 1)) 39 0 ((m 9 0 3).toNatClampNeg) x3)))) else none) else (r_X9_readStep_j50 rec m)
set_option maxHeartbeats 4000000 in
set_option maxRecDepth 20000 in
theorem ok_X9_readStep_j41 (rec : Nat → Nat → List Int32 → Mem → Option (Bool × Mem)) {f0 l0 f9 l9 : Nat} (hrec : RG_stp f0 l0 rec) (hf : f0 + 1 ≤ f9) (hf2 : 7 ≤ f9) (hl : l0 + 24 ≤ l9) (hl2 : 128 ≤ l9) (x2 : Int32) (x3 : Int32) (m : Mem) {z : Bool} {m' : Mem} (h : r_X9_readStep_j41 rec x2 x3 m = some (z, m')) : Xj RX9 cX9_readStep 5 (some .boolean) f9 l9 0 0 0 0 41 [(0, vR 9 0), (1, vR 8 0), (2, vI x2), (3, vI x3)] [] m (oB z) m' := by
  unfold r_X9_readStep_j41 at h
  refine xj_aload_n 0 dX9_readStep_41 rfl ?_
  refine xg_getI (x := (m 9 0 3)) dX9_readStep_42 fl_X9_36 rfl rfl ?_
  refine xj_bipush (z := 38) dX9_readStep_45 (by decide) ?_
  refine xj_icmp_lt (tgt := 60) dX9_readStep_47 (by decide) (fun c16 => ?_) (fun c16 => ?_)
  · rw [if_pos c16] at h
    refine xj_aload_n 0 dX9_readStep_60 rfl ?_
    refine xg_getI (x := (m 9 0 3)) dX9_readStep_61 fl_X9_36 rfl rfl ?_
    refine xj_istore (ls' := [(4, vI (m 9 0 3)), (0, vR 9 0), (1, vR 8 0), (2, vI x2), (3, vI x3)]) dX9_readStep_64 (by decide) rfl ?_
    refine xj_aload_n 1 dX9_readStep_66 rfl ?_
    refine xj_dup dX9_readStep_67 rfl ?_
    refine xg_getI (x := (m 9 0 3)) dX9_readStep_68 fl_X9_36 rfl rfl ?_
    refine xj_iconst (z := 1) dX9_readStep_71 (by decide) ?_
    refine xj_iadd dX9_readStep_72 ?_
    refine xj_putI dX9_readStep_73 fw_X9_36 rfl ?_
    refine xj_aload_n 1 dX9_readStep_76 rfl ?_
    refine xg_getR (k' := 39) (i' := 0) dX9_readStep_77 fl_X9_11 rfl ?_
    refine xj_iload 0 dX9_readStep_80 rfl ?_
    refine xj_iload_n 4 dX9_readStep_82 rfl ?_
    by_cases c17 : inb (m 9 0 3) 38 = true
    case neg => rw [if_neg c17] at h; cases h
    rw [if_pos c17] at h
    refine xg_iast (n := (m 9 0 3).toNatClampNeg) dX9_readStep_83 rfl (by decide) (inb_in c17) rfl ?_
    refine xj_iload_n 4 dX9_readStep_84 rfl ?_
    by_cases c18 : x3 = 0
    · rw [if_pos c18] at h
      refine xj_tableIn (off := 39) (tgt := 124) dX9_readStep_85 (by rw [c18]; decide) (by rw [c18]; decide) (by rw [c18]; decide) (by decide) ?_
      refine xj_aload_n 1 dX9_readStep_124 rfl ?_
      refine xj_aload_n 2 dX9_readStep_125 rfl ?_
      refine xj_iload 0 dX9_readStep_126 rfl ?_
      obtain ⟨z21, m20, e19, h⟩ := bd2_some h
      refine xc_Vb0 (st := []) (ok_X9_readWho (m 9 0 3) (wr (wr m 9 0 3 ((m 9 0 3) + 1)) 39 0 ((m 9 0 3).toNatClampNeg) x3) e19) dX9_readStep_128 cv_X9_75 rfl rfl (Nat.le_of_ble_eq_true rfl) (by omega) (by omega) (by decide) (by decide) ?_
      refine xj_if_eq (tgt := 158) dX9_readStep_131 (by decide) (fun c22 => ?_) (fun c22 => ?_)
      · rw [if_neg (b2i_f c22)] at h
        refine xj_iconst (z := 0) dX9_readStep_158 (by decide) ?_
        cases h
        exact xj_ireturn dX9_readStep_159 rfl (by decide) (by decide)
      · rw [if_pos (b2i_t c22)] at h
        refine xj_aload_n 1 dX9_readStep_134 rfl ?_
        refine xj_aload_n 2 dX9_readStep_135 rfl ?_
        refine xj_iload 0 dX9_readStep_136 rfl ?_
        obtain ⟨z25, m24, e23, h⟩ := bd2_some h
        refine xc_Vb0 (st := []) (ok_X9_readStart (m 9 0 3) m20 e23) dX9_readStep_138 cv_X9_78 rfl rfl (Nat.le_of_ble_eq_true rfl) (by omega) (by omega) (by decide) (by decide) ?_
        refine xj_if_eq (tgt := 158) dX9_readStep_141 (by decide) (fun c26 => ?_) (fun c26 => ?_)
        · rw [if_neg (b2i_f c26)] at h
          refine xj_iconst (z := 0) dX9_readStep_158 (by decide) ?_
          cases h
          exact xj_ireturn dX9_readStep_159 rfl (by decide) (by decide)
        · rw [if_pos (b2i_t c26)] at h
          refine xj_aload_n 1 dX9_readStep_144 rfl ?_
          refine xj_aload_n 2 dX9_readStep_145 rfl ?_
          refine xj_iload 0 dX9_readStep_146 rfl ?_
          obtain ⟨z29, m28, e27, h⟩ := bd2_some h
          refine xc_Vb0 (st := []) (ok_X9_readGoal (m 9 0 3) m24 e27) dX9_readStep_148 cv_X9_81 rfl rfl (Nat.le_of_ble_eq_true rfl) (by omega) (by omega) (by decide) (by decide) ?_
          refine xj_if_eq (tgt := 158) dX9_readStep_151 (by decide) (fun c30 => ?_) (fun c30 => ?_)
          · rw [if_neg (b2i_f c30)] at h
            refine xj_iconst (z := 0) dX9_readStep_158 (by decide) ?_
            cases h
            exact xj_ireturn dX9_readStep_159 rfl (by decide) (by decide)
          · rw [if_pos (b2i_t c30)] at h
            refine xj_iconst (z := 1) dX9_readStep_154 (by decide) ?_
            refine xj_goto (tgt := 159) dX9_readStep_155 (by decide) ?_
            cases h
            exact xj_ireturn dX9_readStep_159 rfl (by decide) (by decide)
    rw [if_neg c18] at h
    by_cases c31 : x3 = 1
    · rw [if_pos c31] at h
      refine xj_tableIn (off := 75) (tgt := 160) dX9_readStep_85 (by rw [c31]; decide) (by rw [c31]; decide) (by rw [c31]; decide) (by decide) ?_
      refine xj_pick (ls' := [(0, vR 9 0), (1, vR 8 0), (4, vI (m 9 0 3))]) [1, 2, 0] rfl ?_
      exact ok_X9_readStep_j160 rec hrec hf hf2 hl hl2 (m 9 0 3) (wr (wr m 9 0 3 ((m 9 0 3) + 1)) 39 0 ((m 9 0 3).toNatClampNeg) x3) h 
    rw [if_neg c31] at h
    by_cases c40 : x3 = 2
    · rw [if_pos c40] at h
      refine xj_tableIn (off := 75) (tgt := 160) dX9_readStep_85 (by rw [c40]; decide) (by rw [c40]; decide) (by rw [c40]; decide) (by decide) ?_
      refine xj_pick (ls' := [(0, vR 9 0), (1, vR 8 0), (4, vI (m 9 0 3))]) [1, 2, 0] rfl ?_
      exact ok_X9_readStep_j160 rec hrec hf hf2 hl hl2 (m 9 0 3) (wr (wr m 9 0 3 ((m 9 0 3) + 1)) 39 0 ((m 9 0 3).toNatClampNeg) x3) h 
    rw [if_neg c40] at h
    by_cases c41 : x3 = 3
    · rw [if_pos c41] at h
      refine xj_tableIn (off := 101) (tgt := 186) dX9_readStep_85 (by rw [c41]; decide) (by rw [c41]; decide) (by rw [c41]; decide) (by decide) ?_
      refine xj_aload_n 1 dX9_readStep_186 rfl ?_
      refine xj_aload_n 2 dX9_readStep_187 rfl ?_
      refine xj_iload 0 dX9_readStep_188 rfl ?_
      obtain ⟨z44, m43, e42, h⟩ := bd2_some h
      refine xc_Vb0 (st := []) (ok_X9_readStart (m 9 0 3) (wr (wr m 9 0 3 ((m 9 0 3) + 1)) 39 0 ((m 9 0 3).toNatClampNeg) x3) e42) dX9_readStep_190 cv_X9_78 rfl rfl (Nat.le_of_ble_eq_true rfl) (by omega) (by omega) (by decide) (by decide) ?_
      refine xj_if_eq (tgt := 210) dX9_readStep_193 (by decide) (fun c45 => ?_) (fun c45 => ?_)
      · rw [if_neg (b2i_f c45)] at h
        refine xj_iconst (z := 0) dX9_readStep_210 (by decide) ?_
        cases h
        exact xj_ireturn dX9_readStep_211 rfl (by decide) (by decide)
      · rw [if_pos (b2i_t c45)] at h
        refine xj_aload_n 1 dX9_readStep_196 rfl ?_
        refine xj_aload_n 2 dX9_readStep_197 rfl ?_
        refine xj_iload 0 dX9_readStep_198 rfl ?_
        obtain ⟨z48, m47, e46, h⟩ := bd2_some h
        refine xc_Vb0 (st := []) (ok_X9_readGoal (m 9 0 3) m43 e46) dX9_readStep_200 cv_X9_81 rfl rfl (Nat.le_of_ble_eq_true rfl) (by omega) (by omega) (by decide) (by decide) ?_
        refine xj_if_eq (tgt := 210) dX9_readStep_203 (by decide) (fun c49 => ?_) (fun c49 => ?_)
        · rw [if_neg (b2i_f c49)] at h
          refine xj_iconst (z := 0) dX9_readStep_210 (by decide) ?_
          cases h
          exact xj_ireturn dX9_readStep_211 rfl (by decide) (by decide)
        · rw [if_pos (b2i_t c49)] at h
          refine xj_iconst (z := 1) dX9_readStep_206 (by decide) ?_
          refine xj_goto (tgt := 211) dX9_readStep_207 (by decide) ?_
          cases h
          exact xj_ireturn dX9_readStep_211 rfl (by decide) (by decide)
    rw [if_neg c41] at h
    by_cases c50 : x3 = 4
    · rw [if_pos c50] at h
      refine xj_tableIn (off := 136) (tgt := 221) dX9_readStep_85 (by rw [c50]; decide) (by rw [c50]; decide) (by rw [c50]; decide) (by decide) ?_
      refine xj_iconst (z := 1) dX9_readStep_221 (by decide) ?_
      cases h
      exact xj_ireturn dX9_readStep_222 rfl (by decide) (by decide)
    rw [if_neg c50] at h
    by_cases c51 : x3 = 5
    · rw [if_pos c51] at h
      refine xj_tableIn (off := 127) (tgt := 212) dX9_readStep_85 (by rw [c51]; decide) (by rw [c51]; decide) (by rw [c51]; decide) (by decide) ?_
      refine xj_aload_n 1 dX9_readStep_212 rfl ?_
      refine xj_aload_n 2 dX9_readStep_213 rfl ?_
      refine xj_iload_n 3 dX9_readStep_214 rfl ?_
      refine xj_iload 0 dX9_readStep_215 rfl ?_
      obtain ⟨z54, m53, e52, h⟩ := bd2_some h
      refine xc_Vb0 (st := []) (hrec 2 0 [x2, (m 9 0 3)] (wr (wr m 9 0 3 ((m 9 0 3) + 1)) 39 0 ((m 9 0 3).toNatClampNeg) x3) _ _ e52) dX9_readStep_217 cv_X9_84 rfl rfl (Nat.le_of_ble_eq_true rfl) (by omega) (by omega) (by decide) (by decide) ?_
      cases h
      exact xj_ireturn dX9_readStep_220 (nar_b2i _) (by decide) (by decide)
    rw [if_neg c51] at h
    refine xj_tableOut (tgt := 221) dX9_readStep_85 ?_ (by decide) ?_
    · have nc18 := lv_neT c18 (show (0 : Int32).toInt = 0 by decide)
      have nc31 := lv_neT c31 (show (1 : Int32).toInt = 1 by decide)
      have nc40 := lv_neT c40 (show (2 : Int32).toInt = 2 by decide)
      have nc41 := lv_neT c41 (show (3 : Int32).toInt = 3 by decide)
      have nc50 := lv_neT c50 (show (4 : Int32).toInt = 4 by decide)
      have nc51 := lv_neT c51 (show (5 : Int32).toInt = 5 by decide)
      omega
    refine xj_iconst (z := 1) dX9_readStep_221 (by decide) ?_
    cases h
    exact xj_ireturn dX9_readStep_222 rfl (by decide) (by decide)
  · rw [if_neg c16] at h
    refine xj_pick (ls' := [(1, vR 8 0)]) [1] rfl ?_
    exact ok_X9_readStep_j50 rec hrec hf hf2 hl hl2 m h 
noncomputable def r_X9_readStep (rec : Nat → Nat → List Int32 → Mem → Option (Bool × Mem)) (x2 : Int32) (m : Mem) : Option (Bool × Mem) :=
  bd2 (r_X8_word m) fun z3 m2 => (if z3 = true then (bd1 (r_X9_kindOf m2) fun z6 => (if z6 = (-1) then (bd2 (r_X8_wrong 1 (m2 8 0 2) m2) fun z10 m9 => (some (z10, m9))) else (if z6 = 5 then (if 6 ≤ x2 then (r_X9_readStep_j50 rec m2) else (r_X9_readStep_j41 rec x2 z6 m2)) else (r_X9_readStep_j41 rec x2 z6 m2)))) else (some (false, m2)))
set_option maxHeartbeats 4000000 in
set_option maxRecDepth 20000 in
theorem ok_X9_readStep (rec : Nat → Nat → List Int32 → Mem → Option (Bool × Mem)) {f0 l0 f9 l9 : Nat} (hrec : RG_stp f0 l0 rec) (hf : f0 + 1 ≤ f9) (hf2 : 7 ≤ f9) (hl : l0 + 24 ≤ l9) (hl2 : 128 ≤ l9) (x2 : Int32) (m : Mem) {z : Bool} {m' : Mem} (h : r_X9_readStep rec x2 m = some (z, m')) : Mt yX9_readStep cX9_readStep 5 (some .boolean) f9 l9 0 0 [vR 9 0, vR 8 0, vI x2] m (oB z) m' := by
  refine Mt.of (by decide) (Nat.le_of_ble_eq_true rfl) (by decide +kernel) (hhF_ne (by decide)) ?_
  show Xj RX9 cX9_readStep 5 (some .boolean) f9 l9 0 0 0 0 0 [(0, vR 9 0), (1, vR 8 0), (2, vI x2)] [] m (oB z) m'
  unfold r_X9_readStep at h
  refine xj_aload_n 1 dX9_readStep_0 rfl ?_
  obtain ⟨z3, m2, e1, h⟩ := bd2_some h
  refine xc_Vb0 (st := []) (ok_X8_word m e1) dX9_readStep_1 cv_X9_61 rfl rfl (Nat.le_of_ble_eq_true rfl) (by omega) (by omega) (by decide) (by decide) ?_
  refine xj_if_ne (tgt := 9) dX9_readStep_4 (by decide) (fun c4 => ?_) (fun c4 => ?_)
  · rw [if_pos (b2i_t c4)] at h
    refine xj_aload_n 0 dX9_readStep_9 rfl ?_
    refine xj_aload_n 1 dX9_readStep_10 rfl ?_
    obtain ⟨z6, e5, h⟩ := bd1_some h
    refine xc_Vi0 (st := []) (ok_X9_kindOf m2 e5) dX9_readStep_11 cv_X9_64 rfl rfl (Nat.le_of_ble_eq_true rfl) (by omega) (by omega) (by decide) (by decide) ?_
    refine xj_istore_n (ls' := [(3, vI z6), (0, vR 9 0), (1, vR 8 0), (2, vI x2)]) dX9_readStep_14 rfl (by decide) rfl ?_
    refine xj_iload_n 0 dX9_readStep_15 rfl ?_
    refine xj_iconst (z := (-1)) dX9_readStep_16 (by decide) ?_
    refine xj_icmp_ne (tgt := 30) dX9_readStep_17 (by decide) (fun c7 => ?_) (fun c7 => ?_)
    · rw [if_neg c7] at h
      refine xj_iload_n 0 dX9_readStep_30 rfl ?_
      refine xj_iconst (z := 5) dX9_readStep_31 (by decide) ?_
      refine xj_icmp_ne (tgt := 41) dX9_readStep_32 (by decide) (fun c11 => ?_) (fun c11 => ?_)
      · rw [if_neg c11] at h
        refine xj_pick (ls' := [(0, vR 9 0), (1, vR 8 0), (2, vI x2), (3, vI z6)]) [1, 2, 3, 0] rfl ?_
        exact ok_X9_readStep_j41 rec hrec hf hf2 hl hl2 x2 z6 m2 h 
      · rw [if_pos c11] at h
        refine xj_iload_n 3 dX9_readStep_35 rfl ?_
        refine xj_bipush (z := 6) dX9_readStep_36 (by decide) ?_
        refine xj_icmp_ge (tgt := 50) dX9_readStep_38 (by decide) (fun c12 => ?_) (fun c12 => ?_)
        · rw [if_pos c12] at h
          refine xj_pick (ls' := [(1, vR 8 0)]) [2] rfl ?_
          exact ok_X9_readStep_j50 rec hrec hf hf2 hl hl2 m2 h 
        · rw [if_neg c12] at h
          refine xj_pick (ls' := [(0, vR 9 0), (1, vR 8 0), (2, vI x2), (3, vI z6)]) [1, 2, 3, 0] rfl ?_
          exact ok_X9_readStep_j41 rec hrec hf hf2 hl hl2 x2 z6 m2 h 
    · rw [if_pos c7] at h
      refine xj_aload_n 2 dX9_readStep_20 rfl ?_
      refine xj_iconst (z := 1) dX9_readStep_21 (by decide) ?_
      refine xj_aload_n 2 dX9_readStep_22 rfl ?_
      refine xg_getI (x := (m2 8 0 2)) dX9_readStep_23 fl_X9_68 rfl rfl ?_
      obtain ⟨z10, m9, e8, h⟩ := bd2_some h
      refine xc_Vb0 (st := []) (ok_X8_wrong 1 (m2 8 0 2) m2 e8) dX9_readStep_26 cv_X9_71 rfl rfl (Nat.le_of_ble_eq_true rfl) (by omega) (by omega) (by decide) (by decide) ?_
      cases h
      exact xj_ireturn dX9_readStep_29 (nar_b2i _) (by decide) (by decide)
  · rw [if_neg (b2i_f c4)] at h
    refine xj_iconst (z := 0) dX9_readStep_7 (by decide) ?_
    cases h
    exact xj_ireturn dX9_readStep_8 rfl (by decide) (by decide)
noncomputable def r_X9_readAgain (rec : Nat → Nat → List Int32 → Mem → Option (Bool × Mem)) (x2 : Int32) (x3 : Int32) (m : Mem) : Option (Bool × Mem) :=
  bd2 (r_X8_number 0 60 m) fun z3 m2 => (if inb x3 38 = true then (if z3 = (-1) then (some (false, (wr m2 40 0 x3.toNatClampNeg z3))) else (bd2 (r_X8_sign 91 (wr m2 40 0 x3.toNatClampNeg z3)) fun z8 m7 => (if z8 = true then (bd2 (rec 0 0 [(x2 + 1)] m7) fun z12 m11 => (if z12 = true then (bd2 (r_X8_sign 93 (wr m11 42 0 x3.toNatClampNeg (m11 9 0 3))) fun z16 m15 => (some (z16, m15))) else (some (false, m11)))) else (some (false, m7))))) else none)
set_option maxHeartbeats 4000000 in
set_option maxRecDepth 20000 in
theorem ok_X9_readAgain (rec : Nat → Nat → List Int32 → Mem → Option (Bool × Mem)) {f0 l0 f9 l9 : Nat} (hrec : RG_stp f0 l0 rec) (hf : f0 + 1 ≤ f9) (hf2 : 3 ≤ f9) (hl : l0 + 24 ≤ l9) (hl2 : 45 ≤ l9) (x2 : Int32) (x3 : Int32) (m : Mem) {z : Bool} {m' : Mem} (h : r_X9_readAgain rec x2 x3 m = some (z, m')) : Mt yX9_readAgain cX9_readAgain 4 (some .boolean) f9 l9 0 0 [vR 9 0, vR 8 0, vI x2, vI x3] m (oB z) m' := by
  refine Mt.of (by decide) (Nat.le_of_ble_eq_true rfl) (by decide +kernel) (hhF_ne (by decide)) ?_
  show Xj RX9 cX9_readAgain 4 (some .boolean) f9 l9 0 0 0 0 0 [(0, vR 9 0), (1, vR 8 0), (2, vI x2), (3, vI x3)] [] m (oB z) m'
  unfold r_X9_readAgain at h
  refine xj_aload_n 0 dX9_readAgain_0 rfl ?_
  refine xg_getR (k' := 40) (i' := 0) dX9_readAgain_1 fl_X9_15 rfl ?_
  refine xj_iload_n 3 dX9_readAgain_4 rfl ?_
  refine xj_aload_n 1 dX9_readAgain_5 rfl ?_
  refine xj_iconst (z := 0) dX9_readAgain_6 (by decide) ?_
  refine xj_bipush (z := 60) dX9_readAgain_7 (by decide) ?_
  obtain ⟨z3, m2, e1, h⟩ := bd2_some h
  refine xc_Vi0 (st := [vI x3, vR 40 0]) (ok_X8_number 0 60 m e1) dX9_readAgain_9 cv_X9_109 rfl rfl (Nat.le_of_ble_eq_true rfl) (by omega) (by omega) (by decide) (by decide) ?_
  by_cases c4 : inb x3 38 = true
  case neg => rw [if_neg c4] at h; cases h
  rw [if_pos c4] at h
  refine xg_iast (n := x3.toNatClampNeg) dX9_readAgain_12 rfl (by decide) (inb_in c4) rfl ?_
  refine xj_aload_n 0 dX9_readAgain_13 rfl ?_
  refine xg_getR (k' := 40) (i' := 0) dX9_readAgain_14 fl_X9_15 rfl ?_
  refine xj_iload_n 3 dX9_readAgain_17 rfl ?_
  refine xg_iald (z := z3) (n := x3.toNatClampNeg) dX9_readAgain_18 rfl (by decide) (inb_in c4) rfl (by first | rfl | simp [wr]) ?_
  refine xj_iconst (z := (-1)) dX9_readAgain_19 (by decide) ?_
  refine xj_icmp_eq (tgt := 43) dX9_readAgain_20 (by decide) (fun c5 => ?_) (fun c5 => ?_)
  · rw [if_pos c5] at h
    refine xj_iconst (z := 0) dX9_readAgain_43 (by decide) ?_
    cases h
    exact xj_ireturn dX9_readAgain_44 rfl (by decide) (by decide)
  · rw [if_neg c5] at h
    refine xj_aload_n 1 dX9_readAgain_23 rfl ?_
    refine xj_bipush (z := 91) dX9_readAgain_24 (by decide) ?_
    obtain ⟨z8, m7, e6, h⟩ := bd2_some h
    refine xc_Vb0 (st := []) (ok_X8_sign 91 (wr m2 40 0 x3.toNatClampNeg z3) e6) dX9_readAgain_26 cv_X9_57 rfl rfl (Nat.le_of_ble_eq_true rfl) (by omega) (by omega) (by decide) (by decide) ?_
    refine xj_if_eq (tgt := 43) dX9_readAgain_29 (by decide) (fun c9 => ?_) (fun c9 => ?_)
    · rw [if_neg (b2i_f c9)] at h
      refine xj_iconst (z := 0) dX9_readAgain_43 (by decide) ?_
      cases h
      exact xj_ireturn dX9_readAgain_44 rfl (by decide) (by decide)
    · rw [if_pos (b2i_t c9)] at h
      refine xj_aload_n 0 dX9_readAgain_32 rfl ?_
      refine xj_aload_n 1 dX9_readAgain_33 rfl ?_
      refine xj_iload_n 2 dX9_readAgain_34 rfl ?_
      refine xj_iconst (z := 1) dX9_readAgain_35 (by decide) ?_
      refine xj_iadd dX9_readAgain_36 ?_
      obtain ⟨z12, m11, e10, h⟩ := bd2_some h
      refine xc_Vb0 (st := []) (hrec 0 0 [(x2 + 1)] m7 _ _ e10) dX9_readAgain_37 cv_X9_40 rfl rfl (Nat.le_of_ble_eq_true rfl) (by omega) (by omega) (by decide) (by decide) ?_
      refine xj_if_ne (tgt := 45) dX9_readAgain_40 (by decide) (fun c13 => ?_) (fun c13 => ?_)
      · rw [if_pos (b2i_t c13)] at h
        refine xj_aload_n 0 dX9_readAgain_45 rfl ?_
        refine xg_getR (k' := 42) (i' := 0) dX9_readAgain_46 fl_X9_21 rfl ?_
        refine xj_iload_n 3 dX9_readAgain_49 rfl ?_
        refine xj_aload_n 0 dX9_readAgain_50 rfl ?_
        refine xg_getI (x := (m11 9 0 3)) dX9_readAgain_51 fl_X9_36 rfl rfl ?_
        refine xg_iast (n := x3.toNatClampNeg) dX9_readAgain_54 rfl (by decide) (inb_in c4) rfl ?_
        refine xj_aload_n 1 dX9_readAgain_55 rfl ?_
        refine xj_bipush (z := 93) dX9_readAgain_56 (by decide) ?_
        obtain ⟨z16, m15, e14, h⟩ := bd2_some h
        refine xc_Vb0 (st := []) (ok_X8_sign 93 (wr m11 42 0 x3.toNatClampNeg (m11 9 0 3)) e14) dX9_readAgain_58 cv_X9_57 rfl rfl (Nat.le_of_ble_eq_true rfl) (by omega) (by omega) (by decide) (by decide) ?_
        cases h
        exact xj_ireturn dX9_readAgain_61 (nar_b2i _) (by decide) (by decide)
      · rw [if_neg (b2i_f c13)] at h
        refine xj_iconst (z := 0) dX9_readAgain_43 (by decide) ?_
        cases h
        exact xj_ireturn dX9_readAgain_44 rfl (by decide) (by decide)
noncomputable def rec_stp : Nat → Nat → Nat → List Int32 → Mem → Option (Bool × Mem)
  | 0 => fun _ _ _ _ => none
  | g + 1 => fun sel i as m => match sel, as with
    | 0, [x2] => r_X9_readSteps (rec_stp g) x2 m
    | 1, [x2] => r_X9_readStep (rec_stp g) x2 m
    | 2, [x2, x3] => r_X9_readAgain (rec_stp g) x2 x3 m
    | _, _ => none
theorem ok_rec_stp : ∀ g : Nat, RG_stp (7 + g) (128 + g * 24) (rec_stp g)
  | 0 => fun _ _ _ _ _ _ h => nomatch h
  | g + 1 => fun sel i as m z m' h => by
    have ih := ok_rec_stp g
    unfold rec_stp at h
    split at h
    · exact ok_X9_readSteps (rec_stp g) ih (by omega) (by omega) (by omega) (by omega) _ m h
    · exact ok_X9_readStep (rec_stp g) ih (by omega) (by omega) (by omega) (by omega) _ m h
    · exact ok_X9_readAgain (rec_stp g) ih (by omega) (by omega) (by omega) (by omega) _ _ m h
    · cases h
noncomputable def r_X9_readSteps_t (x2 : Int32) (m : Mem) : Option (Bool × Mem) := rec_stp 24 0 0 [x2] m
theorem ok_X9_readSteps_t (x2 : Int32) (m : Mem) {z : Bool} {m' : Mem} (h : r_X9_readSteps_t x2 m = some (z, m')) : Mt yX9_readSteps cX9_readSteps 5 (some .boolean) 31 704 0 0 [vR 9 0, vR 8 0, vI x2] m (oB z) m' := ok_rec_stp 24 0 0 [x2] m _ _ h
noncomputable def r_X9_readStep_t (x2 : Int32) (m : Mem) : Option (Bool × Mem) := rec_stp 24 1 0 [x2] m
theorem ok_X9_readStep_t (x2 : Int32) (m : Mem) {z : Bool} {m' : Mem} (h : r_X9_readStep_t x2 m = some (z, m')) : Mt yX9_readStep cX9_readStep 5 (some .boolean) 31 704 0 0 [vR 9 0, vR 8 0, vI x2] m (oB z) m' := ok_rec_stp 24 1 0 [x2] m _ _ h
noncomputable def r_X9_readAgain_t (x2 : Int32) (x3 : Int32) (m : Mem) : Option (Bool × Mem) := rec_stp 24 2 0 [x2, x3] m
theorem ok_X9_readAgain_t (x2 : Int32) (x3 : Int32) (m : Mem) {z : Bool} {m' : Mem} (h : r_X9_readAgain_t x2 x3 m = some (z, m')) : Mt yX9_readAgain cX9_readAgain 4 (some .boolean) 31 704 0 0 [vR 9 0, vR 8 0, vI x2, vI x3] m (oB z) m' := ok_rec_stp 24 2 0 [x2, x3] m _ _ h


noncomputable def r_X9_readFrom (m : Mem) : Option (Bool × Mem) :=
  bd2 (r_X9_readSteps_t 0 (wr m 9 0 3 0)) fun z3 m2 => (if z3 = true then (bd2 (r_X8_endsHere m2) fun z7 m6 => (if z7 = true then (some (true, m6)) else (some (false, m6)))) else (some (false, m2)))
set_option maxHeartbeats 4000000 in
set_option maxRecDepth 20000 in
theorem ok_X9_readFrom (m : Mem) {z : Bool} {m' : Mem} (h : r_X9_readFrom m = some (z, m')) : Mt yX9_readFrom cX9_readFrom 2 (some .boolean) 32 728 0 0 [vR 9 0, vR 8 0] m (oB z) m' := by
  refine Mt.of (by decide) (Nat.le_of_ble_eq_true rfl) (by decide +kernel) (hhF_ne (by decide)) ?_
  show Xj RX9 cX9_readFrom 2 (some .boolean) 32 728 0 0 0 0 0 [(0, vR 9 0), (1, vR 8 0)] [] m (oB z) m'
  unfold r_X9_readFrom at h
  refine xj_aload_n 0 dX9_readFrom_0 rfl ?_
  refine xj_iconst (z := 0) dX9_readFrom_1 (by decide) ?_
  refine xj_putI dX9_readFrom_2 fw_X9_36 rfl ?_
  refine xj_aload_n 0 dX9_readFrom_5 rfl ?_
  refine xj_aload_n 1 dX9_readFrom_6 rfl ?_
  refine xj_iconst (z := 0) dX9_readFrom_7 (by decide) ?_
  obtain ⟨z3, m2, e1, h⟩ := bd2_some h
  refine xc_Vb0 (st := []) (ok_X9_readSteps_t 0 (wr m 9 0 3 0) e1) dX9_readFrom_8 cv_X9_40 rfl rfl (Nat.le_of_ble_eq_true rfl) (by decide) (by decide) (by decide) (by decide) ?_
  refine xj_if_eq (tgt := 25) dX9_readFrom_11 (by decide) (fun c4 => ?_) (fun c4 => ?_)
  · rw [if_neg (b2i_f c4)] at h
    refine xj_iconst (z := 0) dX9_readFrom_25 (by decide) ?_
    cases h
    exact xj_ireturn dX9_readFrom_26 rfl (by decide) (by decide)
  · rw [if_pos (b2i_t c4)] at h
    refine xj_aload_n 1 dX9_readFrom_14 rfl ?_
    obtain ⟨z7, m6, e5, h⟩ := bd2_some h
    refine xc_Vb0 (st := []) (ok_X8_endsHere m2 e5) dX9_readFrom_15 cv_X9_44 rfl rfl (Nat.le_of_ble_eq_true rfl) (by decide) (by decide) (by decide) (by decide) ?_
    refine xj_if_eq (tgt := 25) dX9_readFrom_18 (by decide) (fun c8 => ?_) (fun c8 => ?_)
    · rw [if_neg (b2i_f c8)] at h
      refine xj_iconst (z := 0) dX9_readFrom_25 (by decide) ?_
      cases h
      exact xj_ireturn dX9_readFrom_26 rfl (by decide) (by decide)
    · rw [if_pos (b2i_t c8)] at h
      refine xj_iconst (z := 1) dX9_readFrom_21 (by decide) ?_
      refine xj_goto (tgt := 26) dX9_readFrom_22 (by decide) ?_
      cases h
      exact xj_ireturn dX9_readFrom_26 rfl (by decide) (by decide)
