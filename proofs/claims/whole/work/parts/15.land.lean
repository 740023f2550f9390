theorem dX3_between_0 : decode cX3_between 0 = .ok (.aload_n 0, 1) := by decide +kernel
theorem dX3_between_1 : decode cX3_between 1 = .ok (.getfield 24, 3) := by decide +kernel
theorem dX3_between_4 : decode cX3_between 4 = .ok (.iload_n 1, 1) := by decide +kernel
theorem dX3_between_5 : decode cX3_between 5 = .ok (.bipush 12, 2) := by decide +kernel
theorem dX3_between_7 : decode cX3_between 7 = .ok (.imul, 1) := by decide +kernel
theorem dX3_between_8 : decode cX3_between 8 = .ok (.iload_n 2, 1) := by decide +kernel
theorem dX3_between_9 : decode cX3_between 9 = .ok (.iadd, 1) := by decide +kernel
theorem dX3_between_10 : decode cX3_between 10 = .ok (.iaload, 1) := by decide +kernel
theorem dX3_between_11 : decode cX3_between 11 = .ok (.ireturn, 1) := by decide +kernel
theorem dX11_fillWithNone_0 : decode cX11_fillWithNone 0 = .ok (.iconst 0, 1) := by decide +kernel
theorem dX11_fillWithNone_1 : decode cX11_fillWithNone 1 = .ok (.istore_n 1, 1) := by decide +kernel
theorem dX11_fillWithNone_2 : decode cX11_fillWithNone 2 = .ok (.iload_n 1, 1) := by decide +kernel
theorem dX11_fillWithNone_3 : decode cX11_fillWithNone 3 = .ok (.aload_n 0, 1) := by decide +kernel
theorem dX11_fillWithNone_4 : decode cX11_fillWithNone 4 = .ok (.arraylength, 1) := by decide +kernel
theorem dX11_fillWithNone_5 : decode cX11_fillWithNone 5 = .ok (.if_icmp .ge 13, 3) := by decide +kernel
theorem dX11_fillWithNone_8 : decode cX11_fillWithNone 8 = .ok (.aload_n 0, 1) := by decide +kernel
theorem dX11_fillWithNone_9 : decode cX11_fillWithNone 9 = .ok (.iload_n 1, 1) := by decide +kernel
theorem dX11_fillWithNone_10 : decode cX11_fillWithNone 10 = .ok (.iconst (-1), 1) := by decide +kernel
theorem dX11_fillWithNone_11 : decode cX11_fillWithNone 11 = .ok (.iastore, 1) := by decide +kernel
theorem dX11_fillWithNone_12 : decode cX11_fillWithNone 12 = .ok (.iinc 1 1, 3) := by decide +kernel
theorem dX11_fillWithNone_15 : decode cX11_fillWithNone 15 = .ok (.goto (-13), 3) := by decide +kernel
theorem dX11_fillWithNone_18 : decode cX11_fillWithNone 18 = .ok (.return_, 1) := by decide +kernel
theorem dX3_clear_0 : decode cX3_clear 0 = .ok (.aload_n 0, 1) := by decide +kernel
theorem dX3_clear_1 : decode cX3_clear 1 = .ok (.iconst 0, 1) := by decide +kernel
theorem dX3_clear_2 : decode cX3_clear 2 = .ok (.putfield 36, 3) := by decide +kernel
theorem dX3_clear_5 : decode cX3_clear 5 = .ok (.aload_n 0, 1) := by decide +kernel
theorem dX3_clear_6 : decode cX3_clear 6 = .ok (.iconst 0, 1) := by decide +kernel
theorem dX3_clear_7 : decode cX3_clear 7 = .ok (.putfield 40, 3) := by decide +kernel
theorem dX3_clear_10 : decode cX3_clear 10 = .ok (.aload_n 0, 1) := by decide +kernel
theorem dX3_clear_11 : decode cX3_clear 11 = .ok (.iconst 0, 1) := by decide +kernel
theorem dX3_clear_12 : decode cX3_clear 12 = .ok (.putfield 43, 3) := by decide +kernel
theorem dX3_clear_15 : decode cX3_clear 15 = .ok (.aload_n 0, 1) := by decide +kernel
theorem dX3_clear_16 : decode cX3_clear 16 = .ok (.iconst 0, 1) := by decide +kernel
theorem dX3_clear_17 : decode cX3_clear 17 = .ok (.putfield 46, 3) := by decide +kernel
theorem dX3_clear_20 : decode cX3_clear 20 = .ok (.iconst 0, 1) := by decide +kernel
theorem dX3_clear_21 : decode cX3_clear 21 = .ok (.istore_n 1, 1) := by decide +kernel
theorem dX3_clear_22 : decode cX3_clear 22 = .ok (.iload_n 1, 1) := by decide +kernel
theorem dX3_clear_23 : decode cX3_clear 23 = .ok (.bipush 12, 2) := by decide +kernel
theorem dX3_clear_25 : decode cX3_clear 25 = .ok (.if_icmp .ge 16, 3) := by decide +kernel
theorem dX3_clear_28 : decode cX3_clear 28 = .ok (.aload_n 0, 1) := by decide +kernel
theorem dX3_clear_29 : decode cX3_clear 29 = .ok (.getfield 15, 3) := by decide +kernel
theorem dX3_clear_32 : decode cX3_clear 32 = .ok (.iload_n 1, 1) := by decide +kernel
theorem dX3_clear_33 : decode cX3_clear 33 = .ok (.iconst 0, 1) := by decide +kernel
theorem dX3_clear_34 : decode cX3_clear 34 = .ok (.iastore, 1) := by decide +kernel
theorem dX3_clear_35 : decode cX3_clear 35 = .ok (.iinc 1 1, 3) := by decide +kernel
theorem dX3_clear_38 : decode cX3_clear 38 = .ok (.goto (-16), 3) := by decide +kernel
theorem dX3_clear_41 : decode cX3_clear 41 = .ok (.aload_n 0, 1) := by decide +kernel
theorem dX3_clear_42 : decode cX3_clear 42 = .ok (.getfield 24, 3) := by decide +kernel
theorem dX3_clear_45 : decode cX3_clear 45 = .ok (.invokestatic 49, 3) := by decide +kernel
theorem dX3_clear_48 : decode cX3_clear 48 = .ok (.aload_n 0, 1) := by decide +kernel
theorem dX3_clear_49 : decode cX3_clear 49 = .ok (.getfield 33, 3) := by decide +kernel
theorem dX3_clear_52 : decode cX3_clear 52 = .ok (.invokestatic 49, 3) := by decide +kernel
theorem dX3_clear_55 : decode cX3_clear 55 = .ok (.return_, 1) := by decide +kernel
theorem dX3_copyFrom_0 : decode cX3_copyFrom 0 = .ok (.aload_n 0, 1) := by decide +kernel
theorem dX3_copyFrom_1 : decode cX3_copyFrom 1 = .ok (.aload_n 1, 1) := by decide +kernel
theorem dX3_copyFrom_2 : decode cX3_copyFrom 2 = .ok (.getfield 36, 3) := by decide +kernel
theorem dX3_copyFrom_5 : decode cX3_copyFrom 5 = .ok (.putfield 36, 3) := by decide +kernel
theorem dX3_copyFrom_8 : decode cX3_copyFrom 8 = .ok (.aload_n 0, 1) := by decide +kernel
theorem dX3_copyFrom_9 : decode cX3_copyFrom 9 = .ok (.aload_n 1, 1) := by decide +kernel
theorem dX3_copyFrom_10 : decode cX3_copyFrom 10 = .ok (.getfield 40, 3) := by decide +kernel
theorem dX3_copyFrom_13 : decode cX3_copyFrom 13 = .ok (.putfield 40, 3) := by decide +kernel
theorem dX3_copyFrom_16 : decode cX3_copyFrom 16 = .ok (.aload_n 0, 1) := by decide +kernel
theorem dX3_copyFrom_17 : decode cX3_copyFrom 17 = .ok (.aload_n 1, 1) := by decide +kernel
theorem dX3_copyFrom_18 : decode cX3_copyFrom 18 = .ok (.getfield 43, 3) := by decide +kernel
theorem dX3_copyFrom_21 : decode cX3_copyFrom 21 = .ok (.putfield 43, 3) := by decide +kernel
theorem dX3_copyFrom_24 : decode cX3_copyFrom 24 = .ok (.aload_n 0, 1) := by decide +kernel
theorem dX3_copyFrom_25 : decode cX3_copyFrom 25 = .ok (.aload_n 1, 1) := by decide +kernel
theorem dX3_copyFrom_26 : decode cX3_copyFrom 26 = .ok (.getfield 46, 3) := by decide +kernel
theorem dX3_copyFrom_29 : decode cX3_copyFrom 29 = .ok (.putfield 46, 3) := by decide +kernel
theorem dX3_copyFrom_32 : decode cX3_copyFrom 32 = .ok (.aload_n 1, 1) := by decide +kernel
theorem dX3_copyFrom_33 : decode cX3_copyFrom 33 = .ok (.getfield 9, 3) := by decide +kernel
theorem dX3_copyFrom_36 : decode cX3_copyFrom 36 = .ok (.iconst 0, 1) := by decide +kernel
theorem dX3_copyFrom_37 : decode cX3_copyFrom 37 = .ok (.aload_n 0, 1) := by decide +kernel
theorem dX3_copyFrom_38 : decode cX3_copyFrom 38 = .ok (.getfield 9, 3) := by decide +kernel
theorem dX3_copyFrom_41 : decode cX3_copyFrom 41 = .ok (.iconst 0, 1) := by decide +kernel
theorem dX3_copyFrom_42 : decode cX3_copyFrom 42 = .ok (.aload_n 0, 1) := by decide +kernel
theorem dX3_copyFrom_43 : decode cX3_copyFrom 43 = .ok (.getfield 9, 3) := by decide +kernel
theorem dX3_copyFrom_46 : decode cX3_copyFrom 46 = .ok (.arraylength, 1) := by decide +kernel
theorem dX3_copyFrom_47 : decode cX3_copyFrom 47 = .ok (.invokestatic 53, 3) := by decide +kernel
theorem dX3_copyFrom_50 : decode cX3_copyFrom 50 = .ok (.aload_n 1, 1) := by decide +kernel
theorem dX3_copyFrom_51 : decode cX3_copyFrom 51 = .ok (.getfield 15, 3) := by decide +kernel
theorem dX3_copyFrom_54 : decode cX3_copyFrom 54 = .ok (.iconst 0, 1) := by decide +kernel
theorem dX3_copyFrom_55 : decode cX3_copyFrom 55 = .ok (.aload_n 0, 1) := by decide +kernel
theorem dX3_copyFrom_56 : decode cX3_copyFrom 56 = .ok (.getfield 15, 3) := by decide +kernel
theorem dX3_copyFrom_59 : decode cX3_copyFrom 59 = .ok (.iconst 0, 1) := by decide +kernel
theorem dX3_copyFrom_60 : decode cX3_copyFrom 60 = .ok (.aload_n 0, 1) := by decide +kernel
theorem dX3_copyFrom_61 : decode cX3_copyFrom 61 = .ok (.getfield 15, 3) := by decide +kernel
theorem dX3_copyFrom_64 : decode cX3_copyFrom 64 = .ok (.arraylength, 1) := by decide +kernel
theorem dX3_copyFrom_65 : decode cX3_copyFrom 65 = .ok (.invokestatic 53, 3) := by decide +kernel
theorem dX3_copyFrom_68 : decode cX3_copyFrom 68 = .ok (.aload_n 1, 1) := by decide +kernel
theorem dX3_copyFrom_69 : decode cX3_copyFrom 69 = .ok (.getfield 18, 3) := by decide +kernel
theorem dX3_copyFrom_72 : decode cX3_copyFrom 72 = .ok (.iconst 0, 1) := by decide +kernel
theorem dX3_copyFrom_73 : decode cX3_copyFrom 73 = .ok (.aload_n 0, 1) := by decide +kernel
theorem dX3_copyFrom_74 : decode cX3_copyFrom 74 = .ok (.getfield 18, 3) := by decide +kernel
theorem dX3_copyFrom_77 : decode cX3_copyFrom 77 = .ok (.iconst 0, 1) := by decide +kernel
theorem dX3_copyFrom_78 : decode cX3_copyFrom 78 = .ok (.aload_n 0, 1) := by decide +kernel
theorem dX3_copyFrom_79 : decode cX3_copyFrom 79 = .ok (.getfield 18, 3) := by decide +kernel
theorem dX3_copyFrom_82 : decode cX3_copyFrom 82 = .ok (.arraylength, 1) := by decide +kernel
theorem dX3_copyFrom_83 : decode cX3_copyFrom 83 = .ok (.invokestatic 53, 3) := by decide +kernel
theorem dX3_copyFrom_86 : decode cX3_copyFrom 86 = .ok (.aload_n 1, 1) := by decide +kernel
theorem dX3_copyFrom_87 : decode cX3_copyFrom 87 = .ok (.getfield 21, 3) := by decide +kernel
theorem dX3_copyFrom_90 : decode cX3_copyFrom 90 = .ok (.iconst 0, 1) := by decide +kernel
theorem dX3_copyFrom_91 : decode cX3_copyFrom 91 = .ok (.aload_n 0, 1) := by decide +kernel
theorem dX3_copyFrom_92 : decode cX3_copyFrom 92 = .ok (.getfield 21, 3) := by decide +kernel
theorem dX3_copyFrom_95 : decode cX3_copyFrom 95 = .ok (.iconst 0, 1) := by decide +kernel
theorem dX3_copyFrom_96 : decode cX3_copyFrom 96 = .ok (.aload_n 0, 1) := by decide +kernel
theorem dX3_copyFrom_97 : decode cX3_copyFrom 97 = .ok (.getfield 21, 3) := by decide +kernel
theorem dX3_copyFrom_100 : decode cX3_copyFrom 100 = .ok (.arraylength, 1) := by decide +kernel
theorem dX3_copyFrom_101 : decode cX3_copyFrom 101 = .ok (.invokestatic 53, 3) := by decide +kernel
theorem dX3_copyFrom_104 : decode cX3_copyFrom 104 = .ok (.aload_n 1, 1) := by decide +kernel
theorem dX3_copyFrom_105 : decode cX3_copyFrom 105 = .ok (.getfield 24, 3) := by decide +kernel
theorem dX3_copyFrom_108 : decode cX3_copyFrom 108 = .ok (.iconst 0, 1) := by decide +kernel
theorem dX3_copyFrom_109 : decode cX3_copyFrom 109 = .ok (.aload_n 0, 1) := by decide +kernel
theorem dX3_copyFrom_110 : decode cX3_copyFrom 110 = .ok (.getfield 24, 3) := by decide +kernel
theorem dX3_copyFrom_113 : decode cX3_copyFrom 113 = .ok (.iconst 0, 1) := by decide +kernel
theorem dX3_copyFrom_114 : decode cX3_copyFrom 114 = .ok (.aload_n 0, 1) := by decide +kernel
theorem dX3_copyFrom_115 : decode cX3_copyFrom 115 = .ok (.getfield 24, 3) := by decide +kernel
theorem dX3_copyFrom_118 : decode cX3_copyFrom 118 = .ok (.arraylength, 1) := by decide +kernel
theorem dX3_copyFrom_119 : decode cX3_copyFrom 119 = .ok (.invokestatic 53, 3) := by decide +kernel
theorem dX3_copyFrom_122 : decode cX3_copyFrom 122 = .ok (.aload_n 1, 1) := by decide +kernel
theorem dX3_copyFrom_123 : decode cX3_copyFrom 123 = .ok (.getfield 27, 3) := by decide +kernel
theorem dX3_copyFrom_126 : decode cX3_copyFrom 126 = .ok (.iconst 0, 1) := by decide +kernel
theorem dX3_copyFrom_127 : decode cX3_copyFrom 127 = .ok (.aload_n 0, 1) := by decide +kernel
theorem dX3_copyFrom_128 : decode cX3_copyFrom 128 = .ok (.getfield 27, 3) := by decide +kernel
theorem dX3_copyFrom_131 : decode cX3_copyFrom 131 = .ok (.iconst 0, 1) := by decide +kernel
theorem dX3_copyFrom_132 : decode cX3_copyFrom 132 = .ok (.aload_n 0, 1) := by decide +kernel
theorem dX3_copyFrom_133 : decode cX3_copyFrom 133 = .ok (.getfield 27, 3) := by decide +kernel
theorem dX3_copyFrom_136 : decode cX3_copyFrom 136 = .ok (.arraylength, 1) := by decide +kernel
theorem dX3_copyFrom_137 : decode cX3_copyFrom 137 = .ok (.invokestatic 53, 3) := by decide +kernel
theorem dX3_copyFrom_140 : decode cX3_copyFrom 140 = .ok (.aload_n 1, 1) := by decide +kernel
theorem dX3_copyFrom_141 : decode cX3_copyFrom 141 = .ok (.getfield 30, 3) := by decide +kernel
theorem dX3_copyFrom_144 : decode cX3_copyFrom 144 = .ok (.iconst 0, 1) := by decide +kernel
theorem dX3_copyFrom_145 : decode cX3_copyFrom 145 = .ok (.aload_n 0, 1) := by decide +kernel
theorem dX3_copyFrom_146 : decode cX3_copyFrom 146 = .ok (.getfield 30, 3) := by decide +kernel
theorem dX3_copyFrom_149 : decode cX3_copyFrom 149 = .ok (.iconst 0, 1) := by decide +kernel
theorem dX3_copyFrom_150 : decode cX3_copyFrom 150 = .ok (.aload_n 0, 1) := by decide +kernel
theorem dX3_copyFrom_151 : decode cX3_copyFrom 151 = .ok (.getfield 30, 3) := by decide +kernel
theorem dX3_copyFrom_154 : decode cX3_copyFrom 154 = .ok (.arraylength, 1) := by decide +kernel
theorem dX3_copyFrom_155 : decode cX3_copyFrom 155 = .ok (.invokestatic 53, 3) := by decide +kernel
theorem dX3_copyFrom_158 : decode cX3_copyFrom 158 = .ok (.aload_n 1, 1) := by decide +kernel
theorem dX3_copyFrom_159 : decode cX3_copyFrom 159 = .ok (.getfield 33, 3) := by decide +kernel
theorem dX3_copyFrom_162 : decode cX3_copyFrom 162 = .ok (.iconst 0, 1) := by decide +kernel
theorem dX3_copyFrom_163 : decode cX3_copyFrom 163 = .ok (.aload_n 0, 1) := by decide +kernel
theorem dX3_copyFrom_164 : decode cX3_copyFrom 164 = .ok (.getfield 33, 3) := by decide +kernel
theorem dX3_copyFrom_167 : decode cX3_copyFrom 167 = .ok (.iconst 0, 1) := by decide +kernel
theorem dX3_copyFrom_168 : decode cX3_copyFrom 168 = .ok (.aload_n 0, 1) := by decide +kernel
theorem dX3_copyFrom_169 : decode cX3_copyFrom 169 = .ok (.getfield 33, 3) := by decide +kernel
theorem dX3_copyFrom_172 : decode cX3_copyFrom 172 = .ok (.arraylength, 1) := by decide +kernel
theorem dX3_copyFrom_173 : decode cX3_copyFrom 173 = .ok (.invokestatic 53, 3) := by decide +kernel
theorem dX3_copyFrom_176 : decode cX3_copyFrom 176 = .ok (.return_, 1) := by decide +kernel
theorem dX3_isFull_0 : decode cX3_isFull 0 = .ok (.iload_n 1, 1) := by decide +kernel
theorem dX3_isFull_1 : decode cX3_isFull 1 = .ok (.tableswitch 72 0 2 #[27, 42, 57], 27) := by decide +kernel
theorem dX3_isFull_28 : decode cX3_isFull 28 = .ok (.aload_n 0, 1) := by decide +kernel
theorem dX3_isFull_29 : decode cX3_isFull 29 = .ok (.getfield 36, 3) := by decide +kernel
theorem dX3_isFull_32 : decode cX3_isFull 32 = .ok (.bipush 12, 2) := by decide +kernel
theorem dX3_isFull_34 : decode cX3_isFull 34 = .ok (.if_icmp .lt 7, 3) := by decide +kernel
theorem dX3_isFull_37 : decode cX3_isFull 37 = .ok (.iconst 1, 1) := by decide +kernel
theorem dX3_isFull_38 : decode cX3_isFull 38 = .ok (.goto 4, 3) := by decide +kernel
theorem dX3_isFull_41 : decode cX3_isFull 41 = .ok (.iconst 0, 1) := by decide +kernel
theorem dX3_isFull_42 : decode cX3_isFull 42 = .ok (.ireturn, 1) := by decide +kernel
theorem dX3_isFull_43 : decode cX3_isFull 43 = .ok (.aload_n 0, 1) := by decide +kernel
theorem dX3_isFull_44 : decode cX3_isFull 44 = .ok (.getfield 40, 3) := by decide +kernel
theorem dX3_isFull_47 : decode cX3_isFull 47 = .ok (.bipush 16, 2) := by decide +kernel
theorem dX3_isFull_49 : decode cX3_isFull 49 = .ok (.if_icmp .lt 7, 3) := by decide +kernel
theorem dX3_isFull_52 : decode cX3_isFull 52 = .ok (.iconst 1, 1) := by decide +kernel
theorem dX3_isFull_53 : decode cX3_isFull 53 = .ok (.goto 4, 3) := by decide +kernel
theorem dX3_isFull_56 : decode cX3_isFull 56 = .ok (.iconst 0, 1) := by decide +kernel
theorem dX3_isFull_57 : decode cX3_isFull 57 = .ok (.ireturn, 1) := by decide +kernel
theorem dX3_isFull_58 : decode cX3_isFull 58 = .ok (.aload_n 0, 1) := by decide +kernel
theorem dX3_isFull_59 : decode cX3_isFull 59 = .ok (.getfield 43, 3) := by decide +kernel
theorem dX3_isFull_62 : decode cX3_isFull 62 = .ok (.bipush 6, 2) := by decide +kernel
theorem dX3_isFull_64 : decode cX3_isFull 64 = .ok (.if_icmp .lt 7, 3) := by decide +kernel
theorem dX3_isFull_67 : decode cX3_isFull 67 = .ok (.iconst 1, 1) := by decide +kernel
theorem dX3_isFull_68 : decode cX3_isFull 68 = .ok (.goto 4, 3) := by decide +kernel
theorem dX3_isFull_71 : decode cX3_isFull 71 = .ok (.iconst 0, 1) := by decide +kernel
theorem dX3_isFull_72 : decode cX3_isFull 72 = .ok (.ireturn, 1) := by decide +kernel
theorem dX3_isFull_73 : decode cX3_isFull 73 = .ok (.iconst 0, 1) := by decide +kernel
theorem dX3_isFull_74 : decode cX3_isFull 74 = .ok (.ireturn, 1) := by decide +kernel
theorem dX3_linkedTo_0 : decode cX3_linkedTo 0 = .ok (.iconst 0, 1) := by decide +kernel
theorem dX3_linkedTo_1 : decode cX3_linkedTo 1 = .ok (.istore_n 2, 1) := by decide +kernel
theorem dX3_linkedTo_2 : decode cX3_linkedTo 2 = .ok (.iconst 0, 1) := by decide +kernel
theorem dX3_linkedTo_3 : decode cX3_linkedTo 3 = .ok (.istore_n 3, 1) := by decide +kernel
theorem dX3_linkedTo_4 : decode cX3_linkedTo 4 = .ok (.iload_n 3, 1) := by decide +kernel
theorem dX3_linkedTo_5 : decode cX3_linkedTo 5 = .ok (.aload_n 0, 1) := by decide +kernel
theorem dX3_linkedTo_6 : decode cX3_linkedTo 6 = .ok (.getfield 36, 3) := by decide +kernel
theorem dX3_linkedTo_9 : decode cX3_linkedTo 9 = .ok (.if_icmp .ge 26, 3) := by decide +kernel
theorem dX3_linkedTo_12 : decode cX3_linkedTo 12 = .ok (.iload_n 1, 1) := by decide +kernel
theorem dX3_linkedTo_13 : decode cX3_linkedTo 13 = .ok (.iload_n 3, 1) := by decide +kernel
theorem dX3_linkedTo_14 : decode cX3_linkedTo 14 = .ok (.ishr, 1) := by decide +kernel
theorem dX3_linkedTo_15 : decode cX3_linkedTo 15 = .ok (.iconst 1, 1) := by decide +kernel
theorem dX3_linkedTo_16 : decode cX3_linkedTo 16 = .ok (.iand, 1) := by decide +kernel
theorem dX3_linkedTo_17 : decode cX3_linkedTo 17 = .ok (.ifCond .eq 12, 3) := by decide +kernel
theorem dX3_linkedTo_20 : decode cX3_linkedTo 20 = .ok (.iload_n 2, 1) := by decide +kernel
theorem dX3_linkedTo_21 : decode cX3_linkedTo 21 = .ok (.aload_n 0, 1) := by decide +kernel
theorem dX3_linkedTo_22 : decode cX3_linkedTo 22 = .ok (.getfield 15, 3) := by decide +kernel
theorem dX3_linkedTo_25 : decode cX3_linkedTo 25 = .ok (.iload_n 3, 1) := by decide +kernel
theorem dX3_linkedTo_26 : decode cX3_linkedTo 26 = .ok (.iaload, 1) := by decide +kernel
theorem dX3_linkedTo_27 : decode cX3_linkedTo 27 = .ok (.ior, 1) := by decide +kernel
theorem dX3_linkedTo_28 : decode cX3_linkedTo 28 = .ok (.istore_n 2, 1) := by decide +kernel
theorem dX3_linkedTo_29 : decode cX3_linkedTo 29 = .ok (.iinc 3 1, 3) := by decide +kernel
theorem dX3_linkedTo_32 : decode cX3_linkedTo 32 = .ok (.goto (-28), 3) := by decide +kernel
theorem dX3_linkedTo_35 : decode cX3_linkedTo 35 = .ok (.iload_n 2, 1) := by decide +kernel
theorem dX3_linkedTo_36 : decode cX3_linkedTo 36 = .ok (.ireturn, 1) := by decide +kernel
theorem dX3_wayLength_0 : decode cX3_wayLength 0 = .ok (.iconst 1, 1) := by decide +kernel
theorem dX3_wayLength_1 : decode cX3_wayLength 1 = .ok (.iload_n 1, 1) := by decide +kernel
theorem dX3_wayLength_2 : decode cX3_wayLength 2 = .ok (.ishl, 1) := by decide +kernel
theorem dX3_wayLength_3 : decode cX3_wayLength 3 = .ok (.istore_n 3, 1) := by decide +kernel
theorem dX3_wayLength_4 : decode cX3_wayLength 4 = .ok (.iconst 0, 1) := by decide +kernel
theorem dX3_wayLength_5 : decode cX3_wayLength 5 = .ok (.istore 4, 2) := by decide +kernel
theorem dX3_wayLength_7 : decode cX3_wayLength 7 = .ok (.iload 4, 2) := by decide +kernel
theorem dX3_wayLength_9 : decode cX3_wayLength 9 = .ok (.aload_n 0, 1) := by decide +kernel
theorem dX3_wayLength_10 : decode cX3_wayLength 10 = .ok (.getfield 36, 3) := by decide +kernel
theorem dX3_wayLength_13 : decode cX3_wayLength 13 = .ok (.if_icmp .ge 28, 3) := by decide +kernel
theorem dX3_wayLength_16 : decode cX3_wayLength 16 = .ok (.iload_n 3, 1) := by decide +kernel
theorem dX3_wayLength_17 : decode cX3_wayLength 17 = .ok (.iload_n 2, 1) := by decide +kernel
theorem dX3_wayLength_18 : decode cX3_wayLength 18 = .ok (.ishr, 1) := by decide +kernel
theorem dX3_wayLength_19 : decode cX3_wayLength 19 = .ok (.iconst 1, 1) := by decide +kernel
theorem dX3_wayLength_20 : decode cX3_wayLength 20 = .ok (.iand, 1) := by decide +kernel
theorem dX3_wayLength_21 : decode cX3_wayLength 21 = .ok (.ifCond .eq 6, 3) := by decide +kernel
theorem dX3_wayLength_24 : decode cX3_wayLength 24 = .ok (.iload 4, 2) := by decide +kernel
theorem dX3_wayLength_26 : decode cX3_wayLength 26 = .ok (.ireturn, 1) := by decide +kernel
theorem dX3_wayLength_27 : decode cX3_wayLength 27 = .ok (.iload_n 3, 1) := by decide +kernel
theorem dX3_wayLength_28 : decode cX3_wayLength 28 = .ok (.aload_n 0, 1) := by decide +kernel
theorem dX3_wayLength_29 : decode cX3_wayLength 29 = .ok (.iload_n 3, 1) := by decide +kernel
theorem dX3_wayLength_30 : decode cX3_wayLength 30 = .ok (.invokevirtual 59, 3) := by decide +kernel
theorem dX3_wayLength_33 : decode cX3_wayLength 33 = .ok (.ior, 1) := by decide +kernel
theorem dX3_wayLength_34 : decode cX3_wayLength 34 = .ok (.istore_n 3, 1) := by decide +kernel
theorem dX3_wayLength_35 : decode cX3_wayLength 35 = .ok (.iinc 4 1, 3) := by decide +kernel
theorem dX3_wayLength_38 : decode cX3_wayLength 38 = .ok (.goto (-31), 3) := by decide +kernel
theorem dX3_wayLength_41 : decode cX3_wayLength 41 = .ok (.iconst (-1), 1) := by decide +kernel
theorem dX3_wayLength_42 : decode cX3_wayLength 42 = .ok (.ireturn, 1) := by decide +kernel
noncomputable def r_X3_between (i0 : Nat) (x1 : Int32) (x2 : Int32) (m : Mem) : Option Int32 :=
  if inb ((x1 * 12) + x2) 144 = true then (some (m 29 i0 (((x1 * 12) + x2).toNatClampNeg))) else none
set_option maxHeartbeats 4000000 in
set_option maxRecDepth 20000 in
theorem ok_X3_between (i0 : Nat) (x1 : Int32) (x2 : Int32) (m : Mem) {z : Int32} (h : r_X3_between i0 x1 x2 m = some z) : Mt yX3_between cX3_between 3 (some .int) 1 0 0 0 [vR 3 i0, vI x1, vI x2] m (oI z) m := by
  refine Mt.of (by decide) (Nat.le_of_ble_eq_true rfl) (by decide +kernel) (hhF_ne (by decide)) ?_
  show Xj RX3 cX3_between 3 (some .int) 1 0 0 0 0 0 0 [(0, vR 3 i0), (1, vI x1), (2, vI x2)] [] m (oI z) m
  unfold r_X3_between at h
  refine xj_aload_n 0 dX3_between_0 rfl ?_
  refine xg_getR (k' := 29) (i' := i0) dX3_between_1 fl_X3_24 rfl ?_
  refine xj_iload_n 1 dX3_between_4 rfl ?_
  refine xj_bipush (z := 12) dX3_between_5 (by decide) ?_
  refine xj_imul dX3_between_7 ?_
  refine xj_iload_n 2 dX3_between_8 rfl ?_
  refine xj_iadd dX3_between_9 ?_
  by_cases c1 : inb ((x1 * 12) + x2) 144 = true
  case neg => rw [if_neg c1] at h; cases h
  rw [if_pos c1] at h
  refine xg_iald (z := (m 29 i0 (((x1 * 12) + x2).toNatClampNeg))) (n := ((x1 * 12) + x2).toNatClampNeg) dX3_between_10 rfl (by decide) (inb_in c1) rfl rfl ?_
  cases h
  exact xj_ireturn dX3_between_11 rfl (by decide) (by decide)
noncomputable def r_X11_fillWithNone_29_b2 (i0 : Nat) (x1 : Int32) (m : Mem) : Option ((Int32 × Mem) ⊕ (Mem)) :=
  if 144 ≤ x1 then (some (Sum.inr m)) else (if inb x1 144 = true then (some (Sum.inl (x1 + 1, (wr m 29 i0 x1.toNatClampNeg (-1))))) else none)
set_option maxHeartbeats 4000000 in
set_option maxRecDepth 20000 in
theorem ok_X11_fillWithNone_29_b2 (i0 : Nat) (x1 : Int32) (m : Mem) {r : (Int32 × Mem) ⊕ (Mem)} (h : r_X11_fillWithNone_29_b2 i0 x1 m = some r) {o : Ou} {M' : Mem} (kb : ∀ (x1' : Int32) (m'' : Mem), r = Sum.inl (x1', m'') → Xj RX11 cX11_fillWithNone 2 none 1 0 0 0 0 0 2 [(0, vR 29 i0), (1, vI x1')] [] m'' o M') (ke : ∀ (m'' : Mem), r = Sum.inr m'' → Xj RX11 cX11_fillWithNone 2 none 1 0 0 0 0 0 18 [] [] m'' o M') : Xj RX11 cX11_fillWithNone 2 none 1 0 0 0 0 0 2 [(0, vR 29 i0), (1, vI x1)] [] m o M' := by
  unfold r_X11_fillWithNone_29_b2 at h
  refine xj_iload_n 1 dX11_fillWithNone_2 rfl ?_
  refine xj_aload_n 0 dX11_fillWithNone_3 rfl ?_
  refine xj_alen (x := 144) dX11_fillWithNone_4 (by decide) (by decide) (by decide) (by decide) ?_
  refine xj_icmp_ge (tgt := 18) dX11_fillWithNone_5 (by decide) (fun c1 => ?_) (fun c1 => ?_)
  · rw [if_pos c1] at h
    cases h
    refine xj_pick (ls' := []) [] rfl ?_
    exact ke m rfl
  · rw [if_neg c1] at h
    refine xj_aload_n 0 dX11_fillWithNone_8 rfl ?_
    refine xj_iload_n 1 dX11_fillWithNone_9 rfl ?_
    refine xj_iconst (z := (-1)) dX11_fillWithNone_10 (by decide) ?_
    by_cases c2 : inb x1 144 = true
    case neg => rw [if_neg c2] at h; cases h
    rw [if_pos c2] at h
    refine xg_iast (n := x1.toNatClampNeg) dX11_fillWithNone_11 rfl (by decide) (inb_in c2) rfl ?_
    refine xj_iinc (z := x1 + 1) (ls' := [(1, vI (x1 + 1)), (0, vR 29 i0)]) 1 dX11_fillWithNone_12 rfl rfl (by decide) rfl ?_
    refine xj_goto (tgt := 2) dX11_fillWithNone_15 (by decide) ?_
    cases h
    refine xj_pick (ls' := [(0, vR 29 i0), (1, vI (x1 + 1))]) [1, 0] rfl ?_
    exact kb (x1 + 1) (wr m 29 i0 x1.toNatClampNeg (-1)) rfl
noncomputable def r_X11_fillWithNone_29_e18_h2 (m : Mem) : Option Mem :=
  some m
set_option maxHeartbeats 4000000 in
set_option maxRecDepth 20000 in
theorem ok_X11_fillWithNone_29_e18_h2 (m : Mem) {m' : Mem} (h : r_X11_fillWithNone_29_e18_h2 m = some m') : Xj RX11 cX11_fillWithNone 2 none 1 0 0 0 0 0 18 [] [] m oV m' := by
  unfold r_X11_fillWithNone_29_e18_h2 at h
  cases h
  exact xj_return dX11_fillWithNone_18 (by decide) (by decide)
noncomputable def r_X11_fillWithNone_29_l2 (i0 : Nat) (x1 : Int32) (m : Mem) : Option Mem :=
  bd1 (loopO (fun s => r_X11_fillWithNone_29_b2 i0 s.1 s.2) (x1, m)) (fun e => r_X11_fillWithNone_29_e18_h2 e)
set_option maxHeartbeats 4000000 in
set_option maxRecDepth 20000 in
theorem ok_X11_fillWithNone_29_l2 (i0 : Nat) (x1 : Int32) (m : Mem) {m' : Mem} (h : r_X11_fillWithNone_29_l2 i0 x1 m = some m') : Xj RX11 cX11_fillWithNone 2 none 1 0 0 0 0 0 2 [(0, vR 29 i0), (1, vI x1)] [] m oV m' := by
  unfold r_X11_fillWithNone_29_l2 at h
  obtain ⟨e, e1, h⟩ := bd1_some h
  refine loopO_ok (P := fun s : (Int32 × Mem) => Xj RX11 cX11_fillWithNone 2 none 1 0 0 0 0 0 2 [(0, vR 29 i0), (1, vI s.1)] [] s.2 oV m') (Q := fun e : (Mem) => Xj RX11 cX11_fillWithNone 2 none 1 0 0 0 0 0 18 [] [] e oV m') ?_ _ _ e1 ?_
  · intro s r9 h9 hi hx
    exact ok_X11_fillWithNone_29_b2 i0 s.1 s.2 h9 (by rintro _ _ rfl; exact hi _ rfl) (by rintro _ rfl; exact hx _ rfl)
  · exact ok_X11_fillWithNone_29_e18_h2 e h 
noncomputable def r_X11_fillWithNone_29 (i0 : Nat) (m : Mem) : Option Mem :=
  r_X11_fillWithNone_29_l2 i0 0 m
set_option maxHeartbeats 4000000 in
set_option maxRecDepth 20000 in
theorem ok_X11_fillWithNone_29 (i0 : Nat) (m : Mem) {m' : Mem} (h : r_X11_fillWithNone_29 i0 m = some m') : Mt yX11_fillWithNone cX11_fillWithNone 2 none 1 0 0 0 [vR 29 i0] m oV m' := by
  refine Mt.of (by decide) (Nat.le_of_ble_eq_true rfl) (by decide +kernel) (hhF_ne (by decide)) ?_
  show Xj RX11 cX11_fillWithNone 2 none 1 0 0 0 0 0 0 [(0, vR 29 i0)] [] m oV m'
  unfold r_X11_fillWithNone_29 at h
  refine xj_iconst (z := 0) dX11_fillWithNone_0 (by decide) ?_
  refine xj_istore_n (ls' := [(1, vI 0), (0, vR 29 i0)]) dX11_fillWithNone_1 rfl (by decide) rfl ?_
  refine xj_pick (ls' := [(0, vR 29 i0), (1, vI 0)]) [1, 0] rfl ?_
  exact ok_X11_fillWithNone_29_l2 i0 0 m h 
noncomputable def r_X11_fillWithNone_32_b2 (i0 : Nat) (x1 : Int32) (m : Mem) : Option ((Int32 × Mem) ⊕ (Mem)) :=
  if 72 ≤ x1 then (some (Sum.inr m)) else (if inb x1 72 = true then (some (Sum.inl (x1 + 1, (wr m 32 i0 x1.toNatClampNeg (-1))))) else none)
set_option maxHeartbeats 4000000 in
set_option maxRecDepth 20000 in
theorem ok_X11_fillWithNone_32_b2 (i0 : Nat) (x1 : Int32) (m : Mem) {r : (Int32 × Mem) ⊕ (Mem)} (h : r_X11_fillWithNone_32_b2 i0 x1 m = some r) {o : Ou} {M' : Mem} (kb : ∀ (x1' : Int32) (m'' : Mem), r = Sum.inl (x1', m'') → Xj RX11 cX11_fillWithNone 2 none 1 0 0 0 0 0 2 [(0, vR 32 i0), (1, vI x1')] [] m'' o M') (ke : ∀ (m'' : Mem), r = Sum.inr m'' → Xj RX11 cX11_fillWithNone 2 none 1 0 0 0 0 0 18 [] [] m'' o M') : Xj RX11 cX11_fillWithNone 2 none 1 0 0 0 0 0 2 [(0, vR 32 i0), (1, vI x1)] [] m o M' := by
  unfold r_X11_fillWithNone_32_b2 at h
  refine xj_iload_n 1 dX11_fillWithNone_2 rfl ?_
  refine xj_aload_n 0 dX11_fillWithNone_3 rfl ?_
  refine xj_alen (x := 72) dX11_fillWithNone_4 (by decide) (by decide) (by decide) (by decide) ?_
  refine xj_icmp_ge (tgt := 18) dX11_fillWithNone_5 (by decide) (fun c1 => ?_) (fun c1 => ?_)
  · rw [if_pos c1] at h
    cases h
    refine xj_pick (ls' := []) [] rfl ?_
    exact ke m rfl
  · rw [if_neg c1] at h
    refine xj_aload_n 0 dX11_fillWithNone_8 rfl ?_
    refine xj_iload_n 1 dX11_fillWithNone_9 rfl ?_
    refine xj_iconst (z := (-1)) dX11_fillWithNone_10 (by decide) ?_
    by_cases c2 : inb x1 72 = true
    case neg => rw [if_neg c2] at h; cases h
    rw [if_pos c2] at h
    refine xg_iast (n := x1.toNatClampNeg) dX11_fillWithNone_11 rfl (by decide) (inb_in c2) rfl ?_
    refine xj_iinc (z := x1 + 1) (ls' := [(1, vI (x1 + 1)), (0, vR 32 i0)]) 1 dX11_fillWithNone_12 rfl rfl (by decide) rfl ?_
    refine xj_goto (tgt := 2) dX11_fillWithNone_15 (by decide) ?_
    cases h
    refine xj_pick (ls' := [(0, vR 32 i0), (1, vI (x1 + 1))]) [1, 0] rfl ?_
    exact kb (x1 + 1) (wr m 32 i0 x1.toNatClampNeg (-1)) rfl
noncomputable def r_X11_fillWithNone_32_e18_h2 (m : Mem) : Option Mem :=
  some m
set_option maxHeartbeats 4000000 in
set_option maxRecDepth 20000 in
theorem ok_X11_fillWithNone_32_e18_h2 (m : Mem) {m' : Mem} (h : r_X11_fillWithNone_32_e18_h2 m = some m') : Xj RX11 cX11_fillWithNone 2 none 1 0 0 0 0 0 18 [] [] m oV m' := by
  unfold r_X11_fillWithNone_32_e18_h2 at h
  cases h
  exact xj_return dX11_fillWithNone_18 (by decide) (by decide)
noncomputable def r_X11_fillWithNone_32_l2 (i0 : Nat) (x1 : Int32) (m : Mem) : Option Mem :=
  bd1 (loopO (fun s => r_X11_fillWithNone_32_b2 i0 s.1 s.2) (x1, m)) (fun e => r_X11_fillWithNone_32_e18_h2 e)
set_option maxHeartbeats 4000000 in
set_option maxRecDepth 20000 in
theorem ok_X11_fillWithNone_32_l2 (i0 : Nat) (x1 : Int32) (m : Mem) {m' : Mem} (h : r_X11_fillWithNone_32_l2 i0 x1 m = some m') : Xj RX11 cX11_fillWithNone 2 none 1 0 0 0 0 0 2 [(0, vR 32 i0), (1, vI x1)] [] m oV m' := by
  unfold r_X11_fillWithNone_32_l2 at h
  obtain ⟨e, e1, h⟩ := bd1_some h
  refine loopO_ok (P := fun s : (Int32 × Mem) => Xj RX11 cX11_fillWithNone 2 none 1 0 0 0 0 0 2 [(0, vR 32 i0), (1, vI s.1)] [] s.2 oV m') (Q := fun e : (Mem) => Xj RX11 cX11_fillWithNone 2 none 1 0 0 0 0 0 18 [] [] e oV m') ?_ _ _ e1 ?_
  · intro s r9 h9 hi hx
    exact ok_X11_fillWithNone_32_b2 i0 s.1 s.2 h9 (by rintro _ _ rfl; exact hi _ rfl) (by rintro _ rfl; exact hx _ rfl)
  · exact ok_X11_fillWithNone_32_e18_h2 e h 
noncomputable def r_X11_fillWithNone_32 (i0 : Nat) (m : Mem) : Option Mem :=
  r_X11_fillWithNone_32_l2 i0 0 m
set_option maxHeartbeats 4000000 in
set_option maxRecDepth 20000 in
theorem ok_X11_fillWithNone_32 (i0 : Nat) (m : Mem) {m' : Mem} (h : r_X11_fillWithNone_32 i0 m = some m') : Mt yX11_fillWithNone cX11_fillWithNone 2 none 1 0 0 0 [vR 32 i0] m oV m' := by
  refine Mt.of (by decide) (Nat.le_of_ble_eq_true rfl) (by decide +kernel) (hhF_ne (by decide)) ?_
  show Xj RX11 cX11_fillWithNone 2 none 1 0 0 0 0 0 0 [(0, vR 32 i0)] [] m oV m'
  unfold r_X11_fillWithNone_32 at h
  refine xj_iconst (z := 0) dX11_fillWithNone_0 (by decide) ?_
  refine xj_istore_n (ls' := [(1, vI 0), (0, vR 32 i0)]) dX11_fillWithNone_1 rfl (by decide) rfl ?_
  refine xj_pick (ls' := [(0, vR 32 i0), (1, vI 0)]) [1, 0] rfl ?_
  exact ok_X11_fillWithNone_32_l2 i0 0 m h 
noncomputable def r_X3_clear_b22 (i0 : Nat) (x1 : Int32) (m : Mem) : Option ((Int32 × Mem) ⊕ (Mem)) :=
  if 12 ≤ x1 then (some (Sum.inr m)) else (if inb x1 12 = true then (some (Sum.inl (x1 + 1, (wr m 26 i0 x1.toNatClampNeg 0)))) else none)
set_option maxHeartbeats 4000000 in
set_option maxRecDepth 20000 in
theorem ok_X3_clear_b22 (i0 : Nat) (x1 : Int32) (m : Mem) {r : (Int32 × Mem) ⊕ (Mem)} (h : r_X3_clear_b22 i0 x1 m = some r) {o : Ou} {M' : Mem} (kb : ∀ (x1' : Int32) (m'' : Mem), r = Sum.inl (x1', m'') → Xj RX3 cX3_clear 2 none 2 21 0 0 0 0 22 [(0, vR 3 i0), (1, vI x1')] [] m'' o M') (ke : ∀ (m'' : Mem), r = Sum.inr m'' → Xj RX3 cX3_clear 2 none 2 21 0 0 0 0 41 [(0, vR 3 i0)] [] m'' o M') : Xj RX3 cX3_clear 2 none 2 21 0 0 0 0 22 [(0, vR 3 i0), (1, vI x1)] [] m o M' := by
  unfold r_X3_clear_b22 at h
  refine xj_iload_n 1 dX3_clear_22 rfl ?_
  refine xj_bipush (z := 12) dX3_clear_23 (by decide) ?_
  refine xj_icmp_ge (tgt := 41) dX3_clear_25 (by decide) (fun c1 => ?_) (fun c1 => ?_)
  · rw [if_pos c1] at h
    cases h
    refine xj_pick (ls' := [(0, vR 3 i0)]) [0] rfl ?_
    exact ke m rfl
  · rw [if_neg c1] at h
    refine xj_aload_n 0 dX3_clear_28 rfl ?_
    refine xg_getR (k' := 26) (i' := i0) dX3_clear_29 fl_X3_15 rfl ?_
    refine xj_iload_n 1 dX3_clear_32 rfl ?_
    refine xj_iconst (z := 0) dX3_clear_33 (by decide) ?_
    by_cases c2 : inb x1 12 = true
    case neg => rw [if_neg c2] at h; cases h
    rw [if_pos c2] at h
    refine xg_iast (n := x1.toNatClampNeg) dX3_clear_34 rfl (by decide) (inb_in c2) rfl ?_
    refine xj_iinc (z := x1 + 1) (ls' := [(1, vI (x1 + 1)), (0, vR 3 i0)]) 1 dX3_clear_35 rfl rfl (by decide) rfl ?_
    refine xj_goto (tgt := 22) dX3_clear_38 (by decide) ?_
    cases h
    refine xj_pick (ls' := [(0, vR 3 i0), (1, vI (x1 + 1))]) [1, 0] rfl ?_
    exact kb (x1 + 1) (wr m 26 i0 x1.toNatClampNeg 0) rfl
noncomputable def r_X3_clear_e41_h22 (i0 : Nat) (m : Mem) : Option Mem :=
  bd1 (r_X11_fillWithNone_29 i0 m) fun m4 => (bd1 (r_X11_fillWithNone_32 i0 m4) fun m6 => (some m6))
set_option maxHeartbeats 4000000 in
set_option maxRecDepth 20000 in
theorem ok_X3_clear_e41_h22 (i0 : Nat) (m : Mem) {m' : Mem} (h : r_X3_clear_e41_h22 i0 m = some m') : Xj RX3 cX3_clear 2 none 2 21 0 0 0 0 41 [(0, vR 3 i0)] [] m oV m' := by
  unfold r_X3_clear_e41_h22 at h
  refine xj_aload_n 0 dX3_clear_41 rfl ?_
  refine xg_getR (k' := 29) (i' := i0) dX3_clear_42 fl_X3_24 rfl ?_
  obtain ⟨m4, e3, h⟩ := bd1_some h
  refine xc_Nv0 (st := []) (ok_X11_fillWithNone_29 i0 m e3) dX3_clear_45 cn_X3_49 rfl rfl (Nat.le_of_ble_eq_true rfl) (by decide) (by decide) (by decide) (by decide) ?_
  refine xj_aload_n 0 dX3_clear_48 rfl ?_
  refine xg_getR (k' := 32) (i' := i0) dX3_clear_49 fl_X3_33 rfl ?_
  obtain ⟨m6, e5, h⟩ := bd1_some h
  refine xc_Nv0 (st := []) (ok_X11_fillWithNone_32 i0 m4 e5) dX3_clear_52 cn_X3_49 rfl rfl (Nat.le_of_ble_eq_true rfl) (by decide) (by decide) (by decide) (by decide) ?_
  cases h
  exact xj_return dX3_clear_55 (by decide) (by decide)
noncomputable def r_X3_clear_l22 (i0 : Nat) (x1 : Int32) (m : Mem) : Option Mem :=
  bd1 (loopO (fun s => r_X3_clear_b22 i0 s.1 s.2) (x1, m)) (fun e => r_X3_clear_e41_h22 i0 e)
set_option maxHeartbeats 4000000 in
set_option maxRecDepth 20000 in
theorem ok_X3_clear_l22 (i0 : Nat) (x1 : Int32) (m : Mem) {m' : Mem} (h : r_X3_clear_l22 i0 x1 m = some m') : Xj RX3 cX3_clear 2 none 2 21 0 0 0 0 22 [(0, vR 3 i0), (1, vI x1)] [] m oV m' := by
  unfold r_X3_clear_l22 at h
  obtain ⟨e, e1, h⟩ := bd1_some h
  refine loopO_ok (P := fun s : (Int32 × Mem) => Xj RX3 cX3_clear 2 none 2 21 0 0 0 0 22 [(0, vR 3 i0), (1, vI s.1)] [] s.2 oV m') (Q := fun e : (Mem) => Xj RX3 cX3_clear 2 none 2 21 0 0 0 0 41 [(0, vR 3 i0)] [] e oV m') ?_ _ _ e1 ?_
  · intro s r9 h9 hi hx
    exact ok_X3_clear_b22 i0 s.1 s.2 h9 (by rintro _ _ rfl; exact hi _ rfl) (by rintro _ rfl; exact hx _ rfl)
  · exact ok_X3_clear_e41_h22 i0 e h 
noncomputable def r_X3_clear (i0 : Nat) (m : Mem) : Option Mem :=
  r_X3_clear_l22 i0 0 (wr (wr (wr (wr m 3 i0 0 0) 3 i0 1 0) 3 i0 2 0) 3 i0 3 0)
set_option maxHeartbeats 4000000 in
set_option maxRecDepth 20000 in
theorem ok_X3_clear (i0 : Nat) (m : Mem) {m' : Mem} (h : r_X3_clear i0 m = some m') : Mt yX3_clear cX3_clear 2 none 2 21 0 0 [vR 3 i0] m oV m' := by
  refine Mt.of (by decide) (Nat.le_of_ble_eq_true rfl) (by decide +kernel) (hhF_ne (by decide)) ?_
  show Xj RX3 cX3_clear 2 none 2 21 0 0 0 0 0 [(0, vR 3 i0)] [] m oV m'
  unfold r_X3_clear at h
  refine xj_aload_n 0 dX3_clear_0 rfl ?_
  refine xj_iconst (z := 0) dX3_clear_1 (by decide) ?_
  refine xj_putI dX3_clear_2 fw_X3_36 rfl ?_
  refine xj_aload_n 0 dX3_clear_5 rfl ?_
  refine xj_iconst (z := 0) dX3_clear_6 (by decide) ?_
  refine xj_putI dX3_clear_7 fw_X3_40 rfl ?_
  refine xj_aload_n 0 dX3_clear_10 rfl ?_
  refine xj_iconst (z := 0) dX3_clear_11 (by decide) ?_
  refine xj_putI dX3_clear_12 fw_X3_43 rfl ?_
  refine xj_aload_n 0 dX3_clear_15 rfl ?_
  refine xj_iconst (z := 0) dX3_clear_16 (by decide) ?_
  refine xj_putI dX3_clear_17 fw_X3_46 rfl ?_
  refine xj_iconst (z := 0) dX3_clear_20 (by decide) ?_
  refine xj_istore_n (ls' := [(1, vI 0), (0, vR 3 i0)]) dX3_clear_21 rfl (by decide) rfl ?_
  refine xj_pick (ls' := [(0, vR 3 i0), (1, vI 0)]) [1, 0] rfl ?_
  exact ok_X3_clear_l22 i0 0 (wr (wr (wr (wr m 3 i0 0 0) 3 i0 1 0) 3 i0 2 0) 3 i0 3 0) h 
noncomputable def r_X3_copyFrom (i0 : Nat) (i1 : Nat) (m : Mem) : Option Mem :=
  some (cpM (cpM (cpM (cpM (cpM (cpM (cpM (cpM (wr (wr (wr (wr m 3 i0 0 (m 3 i1 0)) 3 i0 1 ((wr m 3 i0 0 (m 3 i1 0)) 3 i1 1)) 3 i0 2 ((wr (wr m 3 i0 0 (m 3 i1 0)) 3 i0 1 ((wr m 3 i0 0 (m 3 i1 0)) 3 i1 1)) 3 i1 2)) 3 i0 3 ((wr (wr (wr m 3 i0 0 (m 3 i1 0)) 3 i0 1 ((wr m 3 i0 0 (m 3 i1 0)) 3 i1 1)) 3 i0 2 ((wr (wr m 3 i0 0 (m 3 i1 0)) 3 i0 1 ((wr m 3 i0 0 (m 3 i1 0)) 3 i1 1)) 3 i1 2)) 3 i1 3)) 25 i1 0 25 i0 0 12) 26 i1 0 26 i0 0 12) 27 i1 0 27 i0 0 16) 28 i1 0 28 i0 0 16) 29 i1 0 29 i0 0 144) 30 i1 0 30 i0 0 6) 31 i1 0 31 i0 0 6) 32 i1 0 32 i0 0 72)
set_option maxHeartbeats 4000000 in
set_option maxRecDepth 20000 in
theorem ok_X3_copyFrom (i0 : Nat) (i1 : Nat) (m : Mem) {m' : Mem} (h : r_X3_copyFrom i0 i1 m = some m') : Mt yX3_copyFrom cX3_copyFrom 2 none 1 88 0 0 [vR 3 i0, vR 3 i1] m oV m' := by
  refine Mt.of (by decide) (Nat.le_of_ble_eq_true rfl) (by decide +kernel) (hhF_ne (by decide)) ?_
  show Xj RX3 cX3_copyFrom 2 none 1 88 0 0 0 0 0 [(0, vR 3 i0), (1, vR 3 i1)] [] m oV m'
  unfold r_X3_copyFrom at h
  refine xj_aload_n 0 dX3_copyFrom_0 rfl ?_
  refine xj_aload_n 1 dX3_copyFrom_1 rfl ?_
  refine xg_getI (x := (m 3 i1 0)) dX3_copyFrom_2 fl_X3_36 rfl rfl ?_
  refine xj_putI dX3_copyFrom_5 fw_X3_36 rfl ?_
  refine xj_aload_n 0 dX3_copyFrom_8 rfl ?_
  refine xj_aload_n 1 dX3_copyFrom_9 rfl ?_
  refine xg_getI (x := ((wr m 3 i0 0 (m 3 i1 0)) 3 i1 1)) dX3_copyFrom_10 fl_X3_40 rfl (by first | rfl | simp [wr]) ?_
  refine xj_putI dX3_copyFrom_13 fw_X3_40 rfl ?_
  refine xj_aload_n 0 dX3_copyFrom_16 rfl ?_
  refine xj_aload_n 1 dX3_copyFrom_17 rfl ?_
  refine xg_getI (x := ((wr (wr m 3 i0 0 (m 3 i1 0)) 3 i0 1 ((wr m 3 i0 0 (m 3 i1 0)) 3 i1 1)) 3 i1 2)) dX3_copyFrom_18 fl_X3_43 rfl (by first | rfl | simp [wr]) ?_
  refine xj_putI dX3_copyFrom_21 fw_X3_43 rfl ?_
  refine xj_aload_n 0 dX3_copyFrom_24 rfl ?_
  refine xj_aload_n 1 dX3_copyFrom_25 rfl ?_
  refine xg_getI (x := ((wr (wr (wr m 3 i0 0 (m 3 i1 0)) 3 i0 1 ((wr m 3 i0 0 (m 3 i1 0)) 3 i1 1)) 3 i0 2 ((wr (wr m 3 i0 0 (m 3 i1 0)) 3 i0 1 ((wr m 3 i0 0 (m 3 i1 0)) 3 i1 1)) 3 i1 2)) 3 i1 3)) dX3_copyFrom_26 fl_X3_46 rfl (by first | rfl | simp [wr]) ?_
  refine xj_putI dX3_copyFrom_29 fw_X3_46 rfl ?_
  refine xj_aload_n 1 dX3_copyFrom_32 rfl ?_
  refine xg_getR (k' := 25) (i' := i1) dX3_copyFrom_33 fl_X3_9 rfl ?_
  refine xj_iconst (z := 0) dX3_copyFrom_36 (by decide) ?_
  refine xj_aload_n 0 dX3_copyFrom_37 rfl ?_
  refine xg_getR (k' := 25) (i' := i0) dX3_copyFrom_38 fl_X3_9 rfl ?_
  refine xj_iconst (z := 0) dX3_copyFrom_41 (by decide) ?_
  refine xj_aload_n 0 dX3_copyFrom_42 rfl ?_
  refine xg_getR (k' := 25) (i' := i0) dX3_copyFrom_43 fl_X3_9 rfl ?_
  refine xj_alen (x := 12) dX3_copyFrom_46 (by decide) (by decide) (by decide) (by decide) ?_
  refine xg_copy (s' := 0) (d' := 0) (n' := 12) dX3_copyFrom_47 cp_X3_53 rfl rfl (by decide) (by decide) (by decide) (by decide) (by decide) (by decide) (by decide) (by decide) (by decide) (by decide) (by decide) (Nat.le_of_ble_eq_true rfl) ?_
  refine xj_aload_n 1 dX3_copyFrom_50 rfl ?_
  refine xg_getR (k' := 26) (i' := i1) dX3_copyFrom_51 fl_X3_15 rfl ?_
  refine xj_iconst (z := 0) dX3_copyFrom_54 (by decide) ?_
  refine xj_aload_n 0 dX3_copyFrom_55 rfl ?_
  refine xg_getR (k' := 26) (i' := i0) dX3_copyFrom_56 fl_X3_15 rfl ?_
  refine xj_iconst (z := 0) dX3_copyFrom_59 (by decide) ?_
  refine xj_aload_n 0 dX3_copyFrom_60 rfl ?_
  refine xg_getR (k' := 26) (i' := i0) dX3_copyFrom_61 fl_X3_15 rfl ?_
  refine xj_alen (x := 12) dX3_copyFrom_64 (by decide) (by decide) (by decide) (by decide) ?_
  refine xg_copy (s' := 0) (d' := 0) (n' := 12) dX3_copyFrom_65 cp_X3_53 rfl rfl (by decide) (by decide) (by decide) (by decide) (by decide) (by decide) (by decide) (by decide) (by decide) (by decide) (by decide) (Nat.le_of_ble_eq_true rfl) ?_
  refine xj_aload_n 1 dX3_copyFrom_68 rfl ?_
  refine xg_getR (k' := 27) (i' := i1) dX3_copyFrom_69 fl_X3_18 rfl ?_
  refine xj_iconst (z := 0) dX3_copyFrom_72 (by decide) ?_
  refine xj_aload_n 0 dX3_copyFrom_73 rfl ?_
  refine xg_getR (k' := 27) (i' := i0) dX3_copyFrom_74 fl_X3_18 rfl ?_
  refine xj_iconst (z := 0) dX3_copyFrom_77 (by decide) ?_
  refine xj_aload_n 0 dX3_copyFrom_78 rfl ?_
  refine xg_getR (k' := 27) (i' := i0) dX3_copyFrom_79 fl_X3_18 rfl ?_
  refine xj_alen (x := 16) dX3_copyFrom_82 (by decide) (by decide) (by decide) (by decide) ?_
  refine xg_copy (s' := 0) (d' := 0) (n' := 16) dX3_copyFrom_83 cp_X3_53 rfl rfl (by decide) (by decide) (by decide) (by decide) (by decide) (by decide) (by decide) (by decide) (by decide) (by decide) (by decide) (Nat.le_of_ble_eq_true rfl) ?_
  refine xj_aload_n 1 dX3_copyFrom_86 rfl ?_
  refine xg_getR (k' := 28) (i' := i1) dX3_copyFrom_87 fl_X3_21 rfl ?_
  refine xj_iconst (z := 0) dX3_copyFrom_90 (by decide) ?_
  refine xj_aload_n 0 dX3_copyFrom_91 rfl ?_
  refine xg_getR (k' := 28) (i' := i0) dX3_copyFrom_92 fl_X3_21 rfl ?_
  refine xj_iconst (z := 0) dX3_copyFrom_95 (by decide) ?_
  refine xj_aload_n 0 dX3_copyFrom_96 rfl ?_
  refine xg_getR (k' := 28) (i' := i0) dX3_copyFrom_97 fl_X3_21 rfl ?_
  refine xj_alen (x := 16) dX3_copyFrom_100 (by decide) (by decide) (by decide) (by decide) ?_
  refine xg_copy (s' := 0) (d' := 0) (n' := 16) dX3_copyFrom_101 cp_X3_53 rfl rfl (by decide) (by decide) (by decide) (by decide) (by decide) (by decide) (by decide) (by decide) (by decide) (by decide) (by decide) (Nat.le_of_ble_eq_true rfl) ?_
  refine xj_aload_n 1 dX3_copyFrom_104 rfl ?_
  refine xg_getR (k' := 29) (i' := i1) dX3_copyFrom_105 fl_X3_24 rfl ?_
  refine xj_iconst (z := 0) dX3_copyFrom_108 (by decide) ?_
  refine xj_aload_n 0 dX3_copyFrom_109 rfl ?_
  refine xg_getR (k' := 29) (i' := i0) dX3_copyFrom_110 fl_X3_24 rfl ?_
  refine xj_iconst (z := 0) dX3_copyFrom_113 (by decide) ?_
  refine xj_aload_n 0 dX3_copyFrom_114 rfl ?_
  refine xg_getR (k' := 29) (i' := i0) dX3_copyFrom_115 fl_X3_24 rfl ?_
  refine xj_alen (x := 144) dX3_copyFrom_118 (by decide) (by decide) (by decide) (by decide) ?_
  refine xg_copy (s' := 0) (d' := 0) (n' := 144) dX3_copyFrom_119 cp_X3_53 rfl rfl (by decide) (by decide) (by decide) (by decide) (by decide) (by decide) (by decide) (by decide) (by decide) (by decide) (by decide) (Nat.le_of_ble_eq_true rfl) ?_
  refine xj_aload_n 1 dX3_copyFrom_122 rfl ?_
  refine xg_getR (k' := 30) (i' := i1) dX3_copyFrom_123 fl_X3_27 rfl ?_
  refine xj_iconst (z := 0) dX3_copyFrom_126 (by decide) ?_
  refine xj_aload_n 0 dX3_copyFrom_127 rfl ?_
  refine xg_getR (k' := 30) (i' := i0) dX3_copyFrom_128 fl_X3_27 rfl ?_
  refine xj_iconst (z := 0) dX3_copyFrom_131 (by decide) ?_
  refine xj_aload_n 0 dX3_copyFrom_132 rfl ?_
  refine xg_getR (k' := 30) (i' := i0) dX3_copyFrom_133 fl_X3_27 rfl ?_
  refine xj_alen (x := 6) dX3_copyFrom_136 (by decide) (by decide) (by decide) (by decide) ?_
  refine xg_copy (s' := 0) (d' := 0) (n' := 6) dX3_copyFrom_137 cp_X3_53 rfl rfl (by decide) (by decide) (by decide) (by decide) (by decide) (by decide) (by decide) (by decide) (by decide) (by decide) (by decide) (Nat.le_of_ble_eq_true rfl) ?_
  refine xj_aload_n 1 dX3_copyFrom_140 rfl ?_
  refine xg_getR (k' := 31) (i' := i1) dX3_copyFrom_141 fl_X3_30 rfl ?_
  refine xj_iconst (z := 0) dX3_copyFrom_144 (by decide) ?_
  refine xj_aload_n 0 dX3_copyFrom_145 rfl ?_
  refine xg_getR (k' := 31) (i' := i0) dX3_copyFrom_146 fl_X3_30 rfl ?_
  refine xj_iconst (z := 0) dX3_copyFrom_149 (by decide) ?_
  refine xj_aload_n 0 dX3_copyFrom_150 rfl ?_
  refine xg_getR (k' := 31) (i' := i0) dX3_copyFrom_151 fl_X3_30 rfl ?_
  refine xj_alen (x := 6) dX3_copyFrom_154 (by decide) (by decide) (by decide) (by decide) ?_
  refine xg_copy (s' := 0) (d' := 0) (n' := 6) dX3_copyFrom_155 cp_X3_53 rfl rfl (by decide) (by decide) (by decide) (by decide) (by decide) (by decide) (by decide) (by decide) (by decide) (by decide) (by decide) (Nat.le_of_ble_eq_true rfl) ?_
  refine xj_aload_n 1 dX3_copyFrom_158 rfl ?_
  refine xg_getR (k' := 32) (i' := i1) dX3_copyFrom_159 fl_X3_33 rfl ?_
  refine xj_iconst (z := 0) dX3_copyFrom_162 (by decide) ?_
  refine xj_aload_n 0 dX3_copyFrom_163 rfl ?_
  refine xg_getR (k' := 32) (i' := i0) dX3_copyFrom_164 fl_X3_33 rfl ?_
  refine xj_iconst (z := 0) dX3_copyFrom_167 (by decide) ?_
  refine xj_aload_n 0 dX3_copyFrom_168 rfl ?_
  refine xg_getR (k' := 32) (i' := i0) dX3_copyFrom_169 fl_X3_33 rfl ?_
  refine xj_alen (x := 72) dX3_copyFrom_172 (by decide) (by decide) (by decide) (by decide) ?_
  refine xg_copy (s' := 0) (d' := 0) (n' := 72) dX3_copyFrom_173 cp_X3_53 rfl rfl (by decide) (by decide) (by decide) (by decide) (by decide) (by decide) (by decide) (by decide) (by decide) (by decide) (by decide) (Nat.le_of_ble_eq_true rfl) ?_
  cases h
  exact xj_return dX3_copyFrom_176 (by decide) (by decide)
noncomputable def r_X3_isFull (i0 : Nat) (x1 : Int32) (m : Mem) : Bool :=
  if x1 = 0 then (if (m 3 i0 0) < 12 then (false) else (true)) else if x1 = 1 then (if (m 3 i0 1) < 16 then (false) else (true)) else if x1 = 2 then (if (m 3 i0 2) < 6 then (false) else (true)) else (false)
set_option maxHeartbeats 4000000 in
set_option maxRecDepth 20000 in
theorem ok_X3_isFull (i0 : Nat) (x1 : Int32) (m : Mem) {z : Bool} (h : r_X3_isFull i0 x1 m = z) : Mt yX3_isFull cX3_isFull 2 (some .boolean) 1 0 0 0 [vR 3 i0, vI x1] m (oB z) m := by
  refine Mt.of (by decide) (Nat.le_of_ble_eq_true rfl) (by decide +kernel) (hhF_ne (by decide)) ?_
  show Xj RX3 cX3_isFull 2 (some .boolean) 1 0 0 0 0 0 0 [(0, vR 3 i0), (1, vI x1)] [] m (oB z) m
  unfold r_X3_isFull at h
  refine xj_iload_n 1 dX3_isFull_0 rfl ?_
  by_cases c1 : x1 = 0
  · rw [if_pos c1] at h
    refine xj_tableIn (off := 27) (tgt := 28) dX3_isFull_1 (by rw [c1]; decide) (by rw [c1]; decide) (by rw [c1]; decide) (by decide) ?_
    refine xj_aload_n 0 dX3_isFull_28 rfl ?_
    refine xg_getI (x := (m 3 i0 0)) dX3_isFull_29 fl_X3_36 rfl rfl ?_
    refine xj_bipush (z := 12) dX3_isFull_32 (by decide) ?_
    refine xj_icmp_lt (tgt := 41) dX3_isFull_34 (by decide) (fun c2 => ?_) (fun c2 => ?_)
    · rw [if_pos c2] at h
      refine xj_iconst (z := 0) dX3_isFull_41 (by decide) ?_
      subst h
      exact xj_ireturn dX3_isFull_42 rfl (by decide) (by decide)
    · rw [if_neg c2] at h
      refine xj_iconst (z := 1) dX3_isFull_37 (by decide) ?_
      refine xj_goto (tgt := 42) dX3_isFull_38 (by decide) ?_
      subst h
      exact xj_ireturn dX3_isFull_42 rfl (by decide) (by decide)
  rw [if_neg c1] at h
  by_cases c3 : x1 = 1
  · rw [if_pos c3] at h
    refine xj_tableIn (off := 42) (tgt := 43) dX3_isFull_1 (by rw [c3]; decide) (by rw [c3]; decide) (by rw [c3]; decide) (by decide) ?_
    refine xj_aload_n 0 dX3_isFull_43 rfl ?_
    refine xg_getI (x := (m 3 i0 1)) dX3_isFull_44 fl_X3_40 rfl rfl ?_
    refine xj_bipush (z := 16) dX3_isFull_47 (by decide) ?_
    refine xj_icmp_lt (tgt := 56) dX3_isFull_49 (by decide) (fun c4 => ?_) (fun c4 => ?_)
    · rw [if_pos c4] at h
      refine xj_iconst (z := 0) dX3_isFull_56 (by decide) ?_
      subst h
      exact xj_ireturn dX3_isFull_57 rfl (by decide) (by decide)
    · rw [if_neg c4] at h
      refine xj_iconst (z := 1) dX3_isFull_52 (by decide) ?_
      refine xj_goto (tgt := 57) dX3_isFull_53 (by decide) ?_
      subst h
      exact xj_ireturn dX3_isFull_57 rfl (by decide) (by decide)
  rw [if_neg c3] at h
  by_cases c5 : x1 = 2
  · rw [if_pos c5] at h
    refine xj_tableIn (off := 57) (tgt := 58) dX3_isFull_1 (by rw [c5]; decide) (by rw [c5]; decide) (by rw [c5]; decide) (by decide) ?_
    refine xj_aload_n 0 dX3_isFull_58 rfl ?_
    refine xg_getI (x := (m 3 i0 2)) dX3_isFull_59 fl_X3_43 rfl rfl ?_
    refine xj_bipush (z := 6) dX3_isFull_62 (by decide) ?_
    refine xj_icmp_lt (tgt := 71) dX3_isFull_64 (by decide) (fun c6 => ?_) (fun c6 => ?_)
    · rw [if_pos c6] at h
      refine xj_iconst (z := 0) dX3_isFull_71 (by decide) ?_
      subst h
      exact xj_ireturn dX3_isFull_72 rfl (by decide) (by decide)
    · rw [if_neg c6] at h
      refine xj_iconst (z := 1) dX3_isFull_67 (by decide) ?_
      refine xj_goto (tgt := 72) dX3_isFull_68 (by decide) ?_
      subst h
      exact xj_ireturn dX3_isFull_72 rfl (by decide) (by decide)
  rw [if_neg c5] at h
  refine xj_tableOut (tgt := 73) dX3_isFull_1 ?_ (by decide) ?_
  · have nc1 := lv_neT c1 (show (0 : Int32).toInt = 0 by decide)
    have nc3 := lv_neT c3 (show (1 : Int32).toInt = 1 by decide)
    have nc5 := lv_neT c5 (show (2 : Int32).toInt = 2 by decide)
    omega
  refine xj_iconst (z := 0) dX3_isFull_73 (by decide) ?_
  subst h
  exact xj_ireturn dX3_isFull_74 rfl (by decide) (by decide)
noncomputable def r_X3_linkedTo_j29_c4 (i0 : Nat) (x1 : Int32) (x2 : Int32) (x3 : Int32) (m : Mem) : Option ((Int32 × Int32) ⊕ (Int32)) :=
  some (Sum.inl (x2, x3 + 1))
set_option maxHeartbeats 4000000 in
set_option maxRecDepth 20000 in
theorem ok_X3_linkedTo_j29_c4 (i0 : Nat) (x1 : Int32) (x2 : Int32) (x3 : Int32) (m : Mem) {r : (Int32 × Int32) ⊕ (Int32)} (h : r_X3_linkedTo_j29_c4 i0 x1 x2 x3 m = some r) {o : Ou} {M' : Mem} (kb : ∀ (x2' : Int32) (x3' : Int32), r = Sum.inl (x2', x3') → Xj RX3 cX3_linkedTo 4 (some .int) 1 0 0 0 0 0 4 [(0, vR 3 i0), (1, vI x1), (2, vI x2'), (3, vI x3')] [] m o M') (ke : ∀ (x2' : Int32), r = Sum.inr x2' → Xj RX3 cX3_linkedTo 4 (some .int) 1 0 0 0 0 0 35 [(2, vI x2')] [] m o M') : Xj RX3 cX3_linkedTo 4 (some .int) 1 0 0 0 0 0 29 [(0, vR 3 i0), (1, vI x1), (2, vI x2), (3, vI x3)] [] m o M' := by
  unfold r_X3_linkedTo_j29_c4 at h
  refine xj_iinc (z := x3 + 1) (ls' := [(3, vI (x3 + 1)), (0, vR 3 i0), (1, vI x1), (2, vI x2)]) 3 dX3_linkedTo_29 rfl rfl (by decide) rfl ?_
  refine xj_goto (tgt := 4) dX3_linkedTo_32 (by decide) ?_
  cases h
  refine xj_pick (ls' := [(0, vR 3 i0), (1, vI x1), (2, vI x2), (3, vI (x3 + 1))]) [1, 2, 3, 0] rfl ?_
  exact kb x2 (x3 + 1) rfl
noncomputable def r_X3_linkedTo_b4 (i0 : Nat) (x1 : Int32) (m : Mem) (x2 : Int32) (x3 : Int32) : Option ((Int32 × Int32) ⊕ (Int32)) :=
  if (m 3 i0 0) ≤ x3 then (some (Sum.inr x2)) else (if ((x1 >>> (x3 &&& 31)) &&& 1) = 0 then (r_X3_linkedTo_j29_c4 i0 x1 x2 x3 m) else (if inb x3 12 = true then (r_X3_linkedTo_j29_c4 i0 x1 (x2 ||| (m 26 i0 x3.toNatClampNeg)) x3 m) else none))
set_option maxHeartbeats 4000000 in
set_option maxRecDepth 20000 in
theorem ok_X3_linkedTo_b4 (i0 : Nat) (x1 : Int32) (m : Mem) (x2 : Int32) (x3 : Int32) {r : (Int32 × Int32) ⊕ (Int32)} (h : r_X3_linkedTo_b4 i0 x1 m x2 x3 = some r) {o : Ou} {M' : Mem} (kb : ∀ (x2' : Int32) (x3' : Int32), r = Sum.inl (x2', x3') → Xj RX3 cX3_linkedTo 4 (some .int) 1 0 0 0 0 0 4 [(0, vR 3 i0), (1, vI x1), (2, vI x2'), (3, vI x3')] [] m o M') (ke : ∀ (x2' : Int32), r = Sum.inr x2' → Xj RX3 cX3_linkedTo 4 (some .int) 1 0 0 0 0 0 35 [(2, vI x2')] [] m o M') : Xj RX3 cX3_linkedTo 4 (some .int) 1 0 0 0 0 0 4 [(0, vR 3 i0), (1, vI x1), (2, vI x2), (3, vI x3)] [] m o M' := by
  unfold r_X3_linkedTo_b4 at h
  refine xj_iload_n 3 dX3_linkedTo_4 rfl ?_
  refine xj_aload_n 0 dX3_linkedTo_5 rfl ?_
  refine xg_getI (x := (m 3 i0 0)) dX3_linkedTo_6 fl_X3_36 rfl rfl ?_
  refine xj_icmp_ge (tgt := 35) dX3_linkedTo_9 (by decide) (fun c1 => ?_) (fun c1 => ?_)
  · rw [if_pos c1] at h
    cases h
    refine xj_pick (ls' := [(2, vI x2)]) [2] rfl ?_
    exact ke x2 rfl
  · rw [if_neg c1] at h
    refine xj_iload_n 1 dX3_linkedTo_12 rfl ?_
    refine xj_iload_n 3 dX3_linkedTo_13 rfl ?_
    refine xj_ishr dX3_linkedTo_14 ?_
    refine xj_iconst (z := 1) dX3_linkedTo_15 (by decide) ?_
    refine xj_iand dX3_linkedTo_16 ?_
    refine xj_if_eq (tgt := 29) dX3_linkedTo_17 (by decide) (fun c2 => ?_) (fun c2 => ?_)
    · rw [if_pos c2] at h
      exact ok_X3_linkedTo_j29_c4 i0 x1 x2 x3 m h kb ke
    · rw [if_neg c2] at h
      refine xj_iload_n 2 dX3_linkedTo_20 rfl ?_
      refine xj_aload_n 0 dX3_linkedTo_21 rfl ?_
      refine xg_getR (k' := 26) (i' := i0) dX3_linkedTo_22 fl_X3_15 rfl ?_
      refine xj_iload_n 3 dX3_linkedTo_25 rfl ?_
      by_cases c3 : inb x3 12 = true
      case neg => rw [if_neg c3] at h; cases h
      rw [if_pos c3] at h
      refine xg_iald (z := (m 26 i0 x3.toNatClampNeg)) (n := x3.toNatClampNeg) dX3_linkedTo_26 rfl (by decide) (inb_in c3) rfl rfl ?_
      refine xj_ior dX3_linkedTo_27 ?_
      refine xj_istore_n (ls' := [(2, vI (x2 ||| (m 26 i0 x3.toNatClampNeg))), (0, vR 3 i0), (1, vI x1), (3, vI x3)]) dX3_linkedTo_28 rfl (by decide) rfl ?_
      refine xj_pick (ls' := [(0, vR 3 i0), (1, vI x1), (2, vI (x2 ||| (m 26 i0 x3.toNatClampNeg))), (3, vI x3)]) [1, 2, 0, 3] rfl ?_
      exact ok_X3_linkedTo_j29_c4 i0 x1 (x2 ||| (m 26 i0 x3.toNatClampNeg)) x3 m h kb ke
noncomputable def r_X3_linkedTo_e35_h4 (x2 : Int32) (m : Mem) : Option Int32 :=
  some x2
set_option maxHeartbeats 4000000 in
set_option maxRecDepth 20000 in
theorem ok_X3_linkedTo_e35_h4 (x2 : Int32) (m : Mem) {z : Int32} (h : r_X3_linkedTo_e35_h4 x2 m = some z) : Xj RX3 cX3_linkedTo 4 (some .int) 1 0 0 0 0 0 35 [(2, vI x2)] [] m (oI z) m := by
  unfold r_X3_linkedTo_e35_h4 at h
  refine xj_iload_n 0 dX3_linkedTo_35 rfl ?_
  cases h
  exact xj_ireturn dX3_linkedTo_36 rfl (by decide) (by decide)
noncomputable def r_X3_linkedTo_l4 (i0 : Nat) (x1 : Int32) (x2 : Int32) (x3 : Int32) (m : Mem) : Option Int32 :=
  bd1 (loopO (fun s => r_X3_linkedTo_b4 i0 x1 m s.1 s.2) (x2, x3)) (fun e => r_X3_linkedTo_e35_h4 e m)
set_option maxHeartbeats 4000000 in
set_option maxRecDepth 20000 in
theorem ok_X3_linkedTo_l4 (i0 : Nat) (x1 : Int32) (x2 : Int32) (x3 : Int32) (m : Mem) {z : Int32} (h : r_X3_linkedTo_l4 i0 x1 x2 x3 m = some z) : Xj RX3 cX3_linkedTo 4 (some .int) 1 0 0 0 0 0 4 [(0, vR 3 i0), (1, vI x1), (2, vI x2), (3, vI x3)] [] m (oI z) m := by
  unfold r_X3_linkedTo_l4 at h
  obtain ⟨e, e1, h⟩ := bd1_some h
  refine loopO_ok (P := fun s : (Int32 × Int32) => Xj RX3 cX3_linkedTo 4 (some .int) 1 0 0 0 0 0 4 [(0, vR 3 i0), (1, vI x1), (2, vI s.1), (3, vI s.2)] [] m (oI z) m) (Q := fun e : (Int32) => Xj RX3 cX3_linkedTo 4 (some .int) 1 0 0 0 0 0 35 [(2, vI e)] [] m (oI z) m) ?_ _ _ e1 ?_
  · intro s r9 h9 hi hx
    exact ok_X3_linkedTo_b4 i0 x1 m s.1 s.2 h9 (by rintro _ _ rfl; exact hi _ rfl) (by rintro _ rfl; exact hx _ rfl)
  · exact ok_X3_linkedTo_e35_h4 e m h 
noncomputable def r_X3_linkedTo (i0 : Nat) (x1 : Int32) (m : Mem) : Option Int32 :=
  r_X3_linkedTo_l4 i0 x1 0 0 m
set_option maxHeartbeats 4000000 in
set_option maxRecDepth 20000 in
theorem ok_X3_linkedTo (i0 : Nat) (x1 : Int32) (m : Mem) {z : Int32} (h : r_X3_linkedTo i0 x1 m = some z) : Mt yX3_linkedTo cX3_linkedTo 4 (some .int) 1 0 0 0 [vR 3 i0, vI x1] m (oI z) m := by
  refine Mt.of (by decide) (Nat.le_of_ble_eq_true rfl) (by decide +kernel) (hhF_ne (by decide)) ?_
  show Xj RX3 cX3_linkedTo 4 (some .int) 1 0 0 0 0 0 0 [(0, vR 3 i0), (1, vI x1)] [] m (oI z) m
  unfold r_X3_linkedTo at h
  refine xj_iconst (z := 0) dX3_linkedTo_0 (by decide) ?_
  refine xj_istore_n (ls' := [(2, vI 0), (0, vR 3 i0), (1, vI x1)]) dX3_linkedTo_1 rfl (by decide) rfl ?_
  refine xj_iconst (z := 0) dX3_linkedTo_2 (by decide) ?_
  refine xj_istore_n (ls' := [(3, vI 0), (2, vI 0), (0, vR 3 i0), (1, vI x1)]) dX3_linkedTo_3 rfl (by decide) rfl ?_
  refine xj_pick (ls' := [(0, vR 3 i0), (1, vI x1), (2, vI 0), (3, vI 0)]) [2, 3, 1, 0] rfl ?_
  exact ok_X3_linkedTo_l4 i0 x1 0 0 m h 
noncomputable def r_X3_wayLength_b7 (i0 : Nat) (x2 : Int32) (m : Mem) (x3 : Int32) (x4 : Int32) : Option ((Int32 × Int32) ⊕ (Unit ⊕ Int32)) :=
  if (m 3 i0 0) ≤ x4 then (some (Sum.inr (Sum.inl ()))) else (if ((x3 >>> (x2 &&& 31)) &&& 1) = 0 then (bd1 (r_X3_linkedTo i0 x3 m) fun z4 => (some (Sum.inl ((x3 ||| z4), x4 + 1)))) else (some (Sum.inr (Sum.inr x4))))
set_option maxHeartbeats 4000000 in
set_option maxRecDepth 20000 in
theorem ok_X3_wayLength_b7 (i0 : Nat) (x2 : Int32) (m : Mem) (x3 : Int32) (x4 : Int32) {r : (Int32 × Int32) ⊕ (Unit ⊕ Int32)} (h : r_X3_wayLength_b7 i0 x2 m x3 x4 = some r) {o : Ou} {M' : Mem} (kb : ∀ (x3' : Int32) (x4' : Int32), r = Sum.inl (x3', x4') → Xj RX3 cX3_wayLength 5 (some .int) 2 23 0 0 0 0 7 [(0, vR 3 i0), (2, vI x2), (3, vI x3'), (4, vI x4')] [] m o M') (ke : r = Sum.inr (Sum.inl ()) → Xj RX3 cX3_wayLength 5 (some .int) 2 23 0 0 0 0 41 [] [] m o M') (kr : ∀ (z : Int32), r = Sum.inr (Sum.inr z) → o = (oI z) ∧ M' = m) : Xj RX3 cX3_wayLength 5 (some .int) 2 23 0 0 0 0 7 [(0, vR 3 i0), (2, vI x2), (3, vI x3), (4, vI x4)] [] m o M' := by
  unfold r_X3_wayLength_b7 at h
  refine xj_iload 3 dX3_wayLength_7 rfl ?_
  refine xj_aload_n 0 dX3_wayLength_9 rfl ?_
  refine xg_getI (x := (m 3 i0 0)) dX3_wayLength_10 fl_X3_36 rfl rfl ?_
  refine xj_icmp_ge (tgt := 41) dX3_wayLength_13 (by decide) (fun c1 => ?_) (fun c1 => ?_)
  · rw [if_pos c1] at h
    cases h
    refine xj_pick (ls' := []) [] rfl ?_
    exact ke  rfl
  · rw [if_neg c1] at h
    refine xj_iload_n 2 dX3_wayLength_16 rfl ?_
    refine xj_iload_n 1 dX3_wayLength_17 rfl ?_
    refine xj_ishr dX3_wayLength_18 ?_
    refine xj_iconst (z := 1) dX3_wayLength_19 (by decide) ?_
    refine xj_iand dX3_wayLength_20 ?_
    refine xj_if_eq (tgt := 27) dX3_wayLength_21 (by decide) (fun c2 => ?_) (fun c2 => ?_)
    · rw [if_pos c2] at h
      refine xj_iload_n 2 dX3_wayLength_27 rfl ?_
      refine xj_aload_n 0 dX3_wayLength_28 rfl ?_
      refine xj_iload_n 2 dX3_wayLength_29 rfl ?_
      obtain ⟨z4, e3, h⟩ := bd1_some h
      refine xc_Vi0 (st := [vI x3]) (ok_X3_linkedTo i0 x3 m e3) dX3_wayLength_30 cv_X3_59 rfl rfl (Nat.le_of_ble_eq_true rfl) (by decide) (by decide) (by decide) (by decide) ?_
      refine xj_ior dX3_wayLength_33 ?_
      refine xj_istore_n (ls' := [(3, vI (x3 ||| z4)), (0, vR 3 i0), (2, vI x2), (4, vI x4)]) dX3_wayLength_34 rfl (by decide) rfl ?_
      refine xj_iinc (z := x4 + 1) (ls' := [(4, vI (x4 + 1)), (3, vI (x3 ||| z4)), (0, vR 3 i0), (2, vI x2)]) 3 dX3_wayLength_35 rfl rfl (by decide) rfl ?_
      refine xj_goto (tgt := 7) dX3_wayLength_38 (by decide) ?_
      cases h
      refine xj_pick (ls' := [(0, vR 3 i0), (2, vI x2), (3, vI (x3 ||| z4)), (4, vI (x4 + 1))]) [2, 3, 1, 0] rfl ?_
      exact kb (x3 ||| z4) (x4 + 1) rfl
    · rw [if_neg c2] at h
      refine xj_iload 3 dX3_wayLength_24 rfl ?_
      cases h
      obtain ⟨rfl, rfl⟩ := kr _ rfl
      exact xj_ireturn dX3_wayLength_26 rfl (by decide) (by decide)
noncomputable def r_X3_wayLength_e41_h7 (m : Mem) : Option Int32 :=
  some (-1)
set_option maxHeartbeats 4000000 in
set_option maxRecDepth 20000 in
theorem ok_X3_wayLength_e41_h7 (m : Mem) {z : Int32} (h : r_X3_wayLength_e41_h7 m = some z) : Xj RX3 cX3_wayLength 5 (some .int) 2 23 0 0 0 0 41 [] [] m (oI z) m := by
  unfold r_X3_wayLength_e41_h7 at h
  refine xj_iconst (z := (-1)) dX3_wayLength_41 (by decide) ?_
  cases h
  exact xj_ireturn dX3_wayLength_42 rfl (by decide) (by decide)
noncomputable def r_X3_wayLength_l7 (i0 : Nat) (x2 : Int32) (x3 : Int32) (x4 : Int32) (m : Mem) : Option Int32 :=
  bdS (loopO (fun s => r_X3_wayLength_b7 i0 x2 m s.1 s.2) (x3, x4)) (fun e => r_X3_wayLength_e41_h7 m) (fun q => some q)
set_option maxHeartbeats 4000000 in
set_option maxRecDepth 20000 in
theorem ok_X3_wayLength_l7 (i0 : Nat) (x2 : Int32) (x3 : Int32) (x4 : Int32) (m : Mem) {z : Int32} (h : r_X3_wayLength_l7 i0 x2 x3 x4 m = some z) : Xj RX3 cX3_wayLength 5 (some .int) 2 23 0 0 0 0 7 [(0, vR 3 i0), (2, vI x2), (3, vI x3), (4, vI x4)] [] m (oI z) m := by
  unfold r_X3_wayLength_l7 at h
  rcases bdS_some h with ⟨e, e1, h⟩ | ⟨q, e1, h⟩
  · refine loopO_ok (P := fun s : (Int32 × Int32) => Xj RX3 cX3_wayLength 5 (some .int) 2 23 0 0 0 0 7 [(0, vR 3 i0), (2, vI x2), (3, vI s.1), (4, vI s.2)] [] m (oI z) m) (Q := Sum.elim (fun e : Unit => Xj RX3 cX3_wayLength 5 (some .int) 2 23 0 0 0 0 41 [] [] m (oI z) m) (fun q : Int32 => (oI z) = (oI q) ∧ m = m)) ?_ _ _ e1 ?_
    · intro s r9 h9 hi hx
      exact ok_X3_wayLength_b7 i0 x2 m s.1 s.2 h9 (by rintro _ _ rfl; exact hi _ rfl) (by rintro rfl; exact hx _ rfl) (by rintro _ rfl; exact hx _ rfl)
    · exact ok_X3_wayLength_e41_h7 m h 
  · refine loopO_ok (P := fun s : (Int32 × Int32) => Xj RX3 cX3_wayLength 5 (some .int) 2 23 0 0 0 0 7 [(0, vR 3 i0), (2, vI x2), (3, vI s.1), (4, vI s.2)] [] m (oI z) m) (Q := Sum.elim (fun e : Unit => Xj RX3 cX3_wayLength 5 (some .int) 2 23 0 0 0 0 41 [] [] m (oI z) m) (fun q : Int32 => (oI z) = (oI q) ∧ m = m)) ?_ _ _ e1 ?_
    · intro s r9 h9 hi hx
      exact ok_X3_wayLength_b7 i0 x2 m s.1 s.2 h9 (by rintro _ _ rfl; exact hi _ rfl) (by rintro rfl; exact hx _ rfl) (by rintro _ rfl; exact hx _ rfl)
    · cases h; exact ⟨rfl, rfl⟩
noncomputable def r_X3_wayLength (i0 : Nat) (x1 : Int32) (x2 : Int32) (m : Mem) : Option Int32 :=
  r_X3_wayLength_l7 i0 x2 (1 <<< (x1 &&& 31)) 0 m
set_option maxHeartbeats 4000000 in
set_option maxRecDepth 20000 in
theorem ok_X3_wayLength (i0 : Nat) (x1 : Int32) (x2 : Int32) (m : Mem) {z : Int32} (h : r_X3_wayLength i0 x1 x2 m = some z) : Mt yX3_wayLength cX3_wayLength 5 (some .int) 2 23 0 0 [vR 3 i0, vI x1, vI x2] m (oI z) m := by
  refine Mt.of (by decide) (Nat.le_of_ble_eq_true rfl) (by decide +kernel) (hhF_ne (by decide)) ?_
  show Xj RX3 cX3_wayLength 5 (some .int) 2 23 0 0 0 0 0 [(0, vR 3 i0), (1, vI x1), (2, vI x2)] [] m (oI z) m
  unfold r_X3_wayLength at h
  refine xj_iconst (z := 1) dX3_wayLength_0 (by decide) ?_
  refine xj_iload_n 1 dX3_wayLength_1 rfl ?_
  refine xj_ishl dX3_wayLength_2 ?_
  refine xj_istore_n (ls' := [(3, vI (1 <<< (x1 &&& 31))), (0, vR 3 i0), (1, vI x1), (2, vI x2)]) dX3_wayLength_3 rfl (by decide) rfl ?_
  refine xj_iconst (z := 0) dX3_wayLength_4 (by decide) ?_
  refine xj_istore (ls' := [(4, vI 0), (3, vI (1 <<< (x1 &&& 31))), (0, vR 3 i0), (1, vI x1), (2, vI x2)]) dX3_wayLength_5 (by decide) rfl ?_
  refine xj_pick (ls' := [(0, vR 3 i0), (2, vI x2), (3, vI (1 <<< (x1 &&& 31))), (4, vI 0)]) [2, 4, 1, 0] rfl ?_
  exact ok_X3_wayLength_l7 i0 x2 (1 <<< (x1 &&& 31)) 0 m h 
