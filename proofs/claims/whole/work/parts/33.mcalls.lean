theorem dX12_bad_0 : decode cX12_bad 0 = .ok (.iload_n 1, 1) := by decide +kernel
theorem dX12_bad_1 : decode cX12_bad 1 = .ok (.ifCond .eq 25, 3) := by decide +kernel
theorem dX12_bad_4 : decode cX12_bad 4 = .ok (.aload_n 0, 1) := by decide +kernel
theorem dX12_bad_5 : decode cX12_bad 5 = .ok (.getfield 109, 3) := by decide +kernel
theorem dX12_bad_8 : decode cX12_bad 8 = .ok (.ifCond .ne 18, 3) := by decide +kernel
theorem dX12_bad_11 : decode cX12_bad 11 = .ok (.aload_n 0, 1) := by decide +kernel
theorem dX12_bad_12 : decode cX12_bad 12 = .ok (.iload_n 2, 1) := by decide +kernel
theorem dX12_bad_13 : decode cX12_bad 13 = .ok (.putfield 109, 3) := by decide +kernel
theorem dX12_bad_16 : decode cX12_bad 16 = .ok (.aload_n 0, 1) := by decide +kernel
theorem dX12_bad_17 : decode cX12_bad 17 = .ok (.getfield 17, 3) := by decide +kernel
theorem dX12_bad_20 : decode cX12_bad 20 = .ok (.iload_n 3, 1) := by decide +kernel
theorem dX12_bad_21 : decode cX12_bad 21 = .ok (.dup2, 1) := by decide +kernel
theorem dX12_bad_22 : decode cX12_bad 22 = .ok (.iaload, 1) := by decide +kernel
theorem dX12_bad_23 : decode cX12_bad 23 = .ok (.iconst 1, 1) := by decide +kernel
theorem dX12_bad_24 : decode cX12_bad 24 = .ok (.iadd, 1) := by decide +kernel
theorem dX12_bad_25 : decode cX12_bad 25 = .ok (.iastore, 1) := by decide +kernel
theorem dX12_bad_26 : decode cX12_bad 26 = .ok (.aload_n 0, 1) := by decide +kernel
theorem dX12_bad_27 : decode cX12_bad 27 = .ok (.getfield 109, 3) := by decide +kernel
theorem dX12_bad_30 : decode cX12_bad 30 = .ok (.ifCond .eq 7, 3) := by decide +kernel
theorem dX12_bad_33 : decode cX12_bad 33 = .ok (.iconst 1, 1) := by decide +kernel
theorem dX12_bad_34 : decode cX12_bad 34 = .ok (.goto 4, 3) := by decide +kernel
theorem dX12_bad_37 : decode cX12_bad 37 = .ok (.iconst 0, 1) := by decide +kernel
theorem dX12_bad_38 : decode cX12_bad 38 = .ok (.ireturn, 1) := by decide +kernel
theorem dX12_endOf_0 : decode cX12_endOf 0 = .ok (.aload_n 0, 1) := by decide +kernel
theorem dX12_endOf_1 : decode cX12_endOf 1 = .ok (.aload_n 1, 1) := by decide +kernel
theorem dX12_endOf_2 : decode cX12_endOf 2 = .ok (.invokevirtual 315, 3) := by decide +kernel
theorem dX12_endOf_5 : decode cX12_endOf 5 = .ok (.pop, 1) := by decide +kernel
theorem dX12_endOf_6 : decode cX12_endOf 6 = .ok (.aload_n 0, 1) := by decide +kernel
theorem dX12_endOf_7 : decode cX12_endOf 7 = .ok (.getfield 305, 3) := by decide +kernel
theorem dX12_endOf_10 : decode cX12_endOf 10 = .ok (.ifCond .ne 7, 3) := by decide +kernel
theorem dX12_endOf_13 : decode cX12_endOf 13 = .ok (.iconst (-1), 1) := by decide +kernel
theorem dX12_endOf_14 : decode cX12_endOf 14 = .ok (.goto 14, 3) := by decide +kernel
theorem dX12_endOf_17 : decode cX12_endOf 17 = .ok (.aload_n 0, 1) := by decide +kernel
theorem dX12_endOf_18 : decode cX12_endOf 18 = .ok (.getfield 88, 3) := by decide +kernel
theorem dX12_endOf_21 : decode cX12_endOf 21 = .ok (.aload_n 0, 1) := by decide +kernel
theorem dX12_endOf_22 : decode cX12_endOf 22 = .ok (.getfield 305, 3) := by decide +kernel
theorem dX12_endOf_25 : decode cX12_endOf 25 = .ok (.iconst 1, 1) := by decide +kernel
theorem dX12_endOf_26 : decode cX12_endOf 26 = .ok (.isub, 1) := by decide +kernel
theorem dX12_endOf_27 : decode cX12_endOf 27 = .ok (.iaload, 1) := by decide +kernel
theorem dX12_endOf_28 : decode cX12_endOf 28 = .ok (.ireturn, 1) := by decide +kernel
theorem dX12_ahead_0 : decode cX12_ahead 0 = .ok (.aload_n 0, 1) := by decide +kernel
theorem dX12_ahead_1 : decode cX12_ahead 1 = .ok (.iconst 0, 1) := by decide +kernel
theorem dX12_ahead_2 : decode cX12_ahead 2 = .ok (.putfield 109, 3) := by decide +kernel
theorem dX12_ahead_5 : decode cX12_ahead 5 = .ok (.aload_n 0, 1) := by decide +kernel
theorem dX12_ahead_6 : decode cX12_ahead 6 = .ok (.iload_n 1, 1) := by decide +kernel
theorem dX12_ahead_7 : decode cX12_ahead 7 = .ok (.iconst 0, 1) := by decide +kernel
theorem dX12_ahead_8 : decode cX12_ahead 8 = .ok (.bipush 99, 2) := by decide +kernel
theorem dX12_ahead_10 : decode cX12_ahead 10 = .ok (.invokestatic 143, 3) := by decide +kernel
theorem dX12_ahead_13 : decode cX12_ahead 13 = .ok (.ifCond .eq 12, 3) := by decide +kernel
theorem dX12_ahead_16 : decode cX12_ahead 16 = .ok (.iload_n 2, 1) := by decide +kernel
theorem dX12_ahead_17 : decode cX12_ahead 17 = .ok (.iconst 0, 1) := by decide +kernel
theorem dX12_ahead_18 : decode cX12_ahead 18 = .ok (.iconst 1, 1) := by decide +kernel
theorem dX12_ahead_19 : decode cX12_ahead 19 = .ok (.invokestatic 143, 3) := by decide +kernel
theorem dX12_ahead_22 : decode cX12_ahead 22 = .ok (.ifCond .ne 7, 3) := by decide +kernel
theorem dX12_ahead_25 : decode cX12_ahead 25 = .ok (.iconst 1, 1) := by decide +kernel
theorem dX12_ahead_26 : decode cX12_ahead 26 = .ok (.goto 4, 3) := by decide +kernel
theorem dX12_ahead_29 : decode cX12_ahead 29 = .ok (.iconst 0, 1) := by decide +kernel
theorem dX12_ahead_30 : decode cX12_ahead 30 = .ok (.iconst 1, 1) := by decide +kernel
theorem dX12_ahead_31 : decode cX12_ahead 31 = .ok (.iconst 1, 1) := by decide +kernel
theorem dX12_ahead_32 : decode cX12_ahead 32 = .ok (.invokevirtual 191, 3) := by decide +kernel
theorem dX12_ahead_35 : decode cX12_ahead 35 = .ok (.ifCond .eq 5, 3) := by decide +kernel
theorem dX12_ahead_38 : decode cX12_ahead 38 = .ok (.iconst 0, 1) := by decide +kernel
theorem dX12_ahead_39 : decode cX12_ahead 39 = .ok (.ireturn, 1) := by decide +kernel
theorem dX12_ahead_40 : decode cX12_ahead 40 = .ok (.aload_n 0, 1) := by decide +kernel
theorem dX12_ahead_41 : decode cX12_ahead 41 = .ok (.getfield 73, 3) := by decide +kernel
theorem dX12_ahead_44 : decode cX12_ahead 44 = .ok (.aload_n 0, 1) := by decide +kernel
theorem dX12_ahead_45 : decode cX12_ahead 45 = .ok (.getfield 76, 3) := by decide +kernel
theorem dX12_ahead_48 : decode cX12_ahead 48 = .ok (.invokestatic 342, 3) := by decide +kernel
theorem dX12_ahead_51 : decode cX12_ahead 51 = .ok (.iconst 0, 1) := by decide +kernel
theorem dX12_ahead_52 : decode cX12_ahead 52 = .ok (.istore_n 3, 1) := by decide +kernel
theorem dX12_ahead_53 : decode cX12_ahead 53 = .ok (.iload_n 3, 1) := by decide +kernel
theorem dX12_ahead_54 : decode cX12_ahead 54 = .ok (.iload_n 1, 1) := by decide +kernel
theorem dX12_ahead_55 : decode cX12_ahead 55 = .ok (.if_icmp .ge 17, 3) := by decide +kernel
theorem dX12_ahead_58 : decode cX12_ahead 58 = .ok (.aload_n 0, 1) := by decide +kernel
theorem dX12_ahead_59 : decode cX12_ahead 59 = .ok (.aload_n 0, 1) := by decide +kernel
theorem dX12_ahead_60 : decode cX12_ahead 60 = .ok (.getfield 76, 3) := by decide +kernel
theorem dX12_ahead_63 : decode cX12_ahead 63 = .ok (.invokevirtual 326, 3) := by decide +kernel
theorem dX12_ahead_66 : decode cX12_ahead 66 = .ok (.iinc 3 1, 3) := by decide +kernel
theorem dX12_ahead_69 : decode cX12_ahead 69 = .ok (.goto (-16), 3) := by decide +kernel
theorem dX12_ahead_72 : decode cX12_ahead 72 = .ok (.iload_n 2, 1) := by decide +kernel
theorem dX12_ahead_73 : decode cX12_ahead 73 = .ok (.ifCond .ne 14, 3) := by decide +kernel
theorem dX12_ahead_76 : decode cX12_ahead 76 = .ok (.aload_n 0, 1) := by decide +kernel
theorem dX12_ahead_77 : decode cX12_ahead 77 = .ok (.aload_n 0, 1) := by decide +kernel
theorem dX12_ahead_78 : decode cX12_ahead 78 = .ok (.getfield 76, 3) := by decide +kernel
theorem dX12_ahead_81 : decode cX12_ahead 81 = .ok (.invokevirtual 315, 3) := by decide +kernel
theorem dX12_ahead_84 : decode cX12_ahead 84 = .ok (.goto 11, 3) := by decide +kernel
theorem dX12_ahead_87 : decode cX12_ahead 87 = .ok (.aload_n 0, 1) := by decide +kernel
theorem dX12_ahead_88 : decode cX12_ahead 88 = .ok (.aload_n 0, 1) := by decide +kernel
theorem dX12_ahead_89 : decode cX12_ahead 89 = .ok (.getfield 76, 3) := by decide +kernel
theorem dX12_ahead_92 : decode cX12_ahead 92 = .ok (.invokevirtual 346, 3) := by decide +kernel
theorem dX12_ahead_95 : decode cX12_ahead 95 = .ok (.ireturn, 1) := by decide +kernel
theorem dX12_lays_0 : decode cX12_lays 0 = .ok (.iconst 0, 1) := by decide +kernel
theorem dX12_lays_1 : decode cX12_lays 1 = .ok (.istore_n 3, 1) := by decide +kernel
theorem dX12_lays_2 : decode cX12_lays 2 = .ok (.iload_n 3, 1) := by decide +kernel
theorem dX12_lays_3 : decode cX12_lays 3 = .ok (.iload_n 2, 1) := by decide +kernel
theorem dX12_lays_4 : decode cX12_lays 4 = .ok (.if_icmp .ge 39, 3) := by decide +kernel
theorem dX12_lays_7 : decode cX12_lays 7 = .ok (.iconst 0, 1) := by decide +kernel
theorem dX12_lays_8 : decode cX12_lays 8 = .ok (.istore 4, 2) := by decide +kernel
theorem dX12_lays_10 : decode cX12_lays 10 = .ok (.iload 4, 2) := by decide +kernel
theorem dX12_lays_12 : decode cX12_lays 12 = .ok (.aload_n 1, 1) := by decide +kernel
theorem dX12_lays_13 : decode cX12_lays 13 = .ok (.iload_n 3, 1) := by decide +kernel
theorem dX12_lays_14 : decode cX12_lays 14 = .ok (.aaload, 1) := by decide +kernel
theorem dX12_lays_15 : decode cX12_lays 15 = .ok (.arraylength, 1) := by decide +kernel
theorem dX12_lays_16 : decode cX12_lays 16 = .ok (.if_icmp .ge 21, 3) := by decide +kernel
theorem dX12_lays_19 : decode cX12_lays 19 = .ok (.aload_n 1, 1) := by decide +kernel
theorem dX12_lays_20 : decode cX12_lays 20 = .ok (.iload_n 3, 1) := by decide +kernel
theorem dX12_lays_21 : decode cX12_lays 21 = .ok (.aaload, 1) := by decide +kernel
theorem dX12_lays_22 : decode cX12_lays 22 = .ok (.iload 4, 2) := by decide +kernel
theorem dX12_lays_24 : decode cX12_lays 24 = .ok (.aload_n 0, 1) := by decide +kernel
theorem dX12_lays_25 : decode cX12_lays 25 = .ok (.iload_n 3, 1) := by decide +kernel
theorem dX12_lays_26 : decode cX12_lays 26 = .ok (.aaload, 1) := by decide +kernel
theorem dX12_lays_27 : decode cX12_lays 27 = .ok (.iload 4, 2) := by decide +kernel
theorem dX12_lays_29 : decode cX12_lays 29 = .ok (.iaload, 1) := by decide +kernel
theorem dX12_lays_30 : decode cX12_lays 30 = .ok (.iastore, 1) := by decide +kernel
theorem dX12_lays_31 : decode cX12_lays 31 = .ok (.iinc 4 1, 3) := by decide +kernel
theorem dX12_lays_34 : decode cX12_lays 34 = .ok (.goto (-24), 3) := by decide +kernel
theorem dX12_lays_37 : decode cX12_lays 37 = .ok (.iinc 3 1, 3) := by decide +kernel
theorem dX12_lays_40 : decode cX12_lays 40 = .ok (.goto (-38), 3) := by decide +kernel
theorem dX12_lays_43 : decode cX12_lays 43 = .ok (.return_, 1) := by decide +kernel
theorem dX12_beginsAnew_0 : decode cX12_beginsAnew 0 = .ok (.iconst 0, 1) := by decide +kernel
theorem dX12_beginsAnew_1 : decode cX12_beginsAnew 1 = .ok (.istore_n 1, 1) := by decide +kernel
theorem dX12_beginsAnew_2 : decode cX12_beginsAnew 2 = .ok (.iload_n 1, 1) := by decide +kernel
theorem dX12_beginsAnew_3 : decode cX12_beginsAnew 3 = .ok (.iconst 4, 1) := by decide +kernel
theorem dX12_beginsAnew_4 : decode cX12_beginsAnew 4 = .ok (.if_icmp .ge 21, 3) := by decide +kernel
theorem dX12_beginsAnew_7 : decode cX12_beginsAnew 7 = .ok (.aload_n 0, 1) := by decide +kernel
theorem dX12_beginsAnew_8 : decode cX12_beginsAnew 8 = .ok (.getfield 23, 3) := by decide +kernel
theorem dX12_beginsAnew_11 : decode cX12_beginsAnew 11 = .ok (.iload_n 1, 1) := by decide +kernel
theorem dX12_beginsAnew_12 : decode cX12_beginsAnew 12 = .ok (.aload_n 0, 1) := by decide +kernel
theorem dX12_beginsAnew_13 : decode cX12_beginsAnew 13 = .ok (.getfield 20, 3) := by decide +kernel
theorem dX12_beginsAnew_16 : decode cX12_beginsAnew 16 = .ok (.iload_n 1, 1) := by decide +kernel
theorem dX12_beginsAnew_17 : decode cX12_beginsAnew 17 = .ok (.iaload, 1) := by decide +kernel
theorem dX12_beginsAnew_18 : decode cX12_beginsAnew 18 = .ok (.iastore, 1) := by decide +kernel
theorem dX12_beginsAnew_19 : decode cX12_beginsAnew 19 = .ok (.iinc 1 1, 3) := by decide +kernel
theorem dX12_beginsAnew_22 : decode cX12_beginsAnew 22 = .ok (.goto (-20), 3) := by decide +kernel
theorem dX12_beginsAnew_25 : decode cX12_beginsAnew 25 = .ok (.iconst 0, 1) := by decide +kernel
theorem dX12_beginsAnew_26 : decode cX12_beginsAnew 26 = .ok (.istore_n 1, 1) := by decide +kernel
theorem dX12_beginsAnew_27 : decode cX12_beginsAnew 27 = .ok (.iload_n 1, 1) := by decide +kernel
theorem dX12_beginsAnew_28 : decode cX12_beginsAnew 28 = .ok (.aload_n 0, 1) := by decide +kernel
theorem dX12_beginsAnew_29 : decode cX12_beginsAnew 29 = .ok (.getfield 23, 3) := by decide +kernel
theorem dX12_beginsAnew_32 : decode cX12_beginsAnew 32 = .ok (.iconst 0, 1) := by decide +kernel
theorem dX12_beginsAnew_33 : decode cX12_beginsAnew 33 = .ok (.iaload, 1) := by decide +kernel
theorem dX12_beginsAnew_34 : decode cX12_beginsAnew 34 = .ok (.if_icmp .ge 21, 3) := by decide +kernel
theorem dX12_beginsAnew_37 : decode cX12_beginsAnew 37 = .ok (.aload_n 0, 1) := by decide +kernel
theorem dX12_beginsAnew_38 : decode cX12_beginsAnew 38 = .ok (.getfield 29, 3) := by decide +kernel
theorem dX12_beginsAnew_41 : decode cX12_beginsAnew 41 = .ok (.iload_n 1, 1) := by decide +kernel
theorem dX12_beginsAnew_42 : decode cX12_beginsAnew 42 = .ok (.aload_n 0, 1) := by decide +kernel
theorem dX12_beginsAnew_43 : decode cX12_beginsAnew 43 = .ok (.getfield 26, 3) := by decide +kernel
theorem dX12_beginsAnew_46 : decode cX12_beginsAnew 46 = .ok (.iload_n 1, 1) := by decide +kernel
theorem dX12_beginsAnew_47 : decode cX12_beginsAnew 47 = .ok (.iaload, 1) := by decide +kernel
theorem dX12_beginsAnew_48 : decode cX12_beginsAnew 48 = .ok (.iastore, 1) := by decide +kernel
theorem dX12_beginsAnew_49 : decode cX12_beginsAnew 49 = .ok (.iinc 1 1, 3) := by decide +kernel
theorem dX12_beginsAnew_52 : decode cX12_beginsAnew 52 = .ok (.goto (-25), 3) := by decide +kernel
theorem dX12_beginsAnew_55 : decode cX12_beginsAnew 55 = .ok (.aload_n 0, 1) := by decide +kernel
theorem dX12_beginsAnew_56 : decode cX12_beginsAnew 56 = .ok (.getfield 34, 3) := by decide +kernel
theorem dX12_beginsAnew_59 : decode cX12_beginsAnew 59 = .ok (.aload_n 0, 1) := by decide +kernel
theorem dX12_beginsAnew_60 : decode cX12_beginsAnew 60 = .ok (.getfield 37, 3) := by decide +kernel
theorem dX12_beginsAnew_63 : decode cX12_beginsAnew 63 = .ok (.aload_n 0, 1) := by decide +kernel
theorem dX12_beginsAnew_64 : decode cX12_beginsAnew 64 = .ok (.getfield 23, 3) := by decide +kernel
theorem dX12_beginsAnew_67 : decode cX12_beginsAnew 67 = .ok (.iconst 1, 1) := by decide +kernel
theorem dX12_beginsAnew_68 : decode cX12_beginsAnew 68 = .ok (.iaload, 1) := by decide +kernel
theorem dX12_beginsAnew_69 : decode cX12_beginsAnew 69 = .ok (.invokestatic 204, 3) := by decide +kernel
theorem dX12_beginsAnew_72 : decode cX12_beginsAnew 72 = .ok (.aload_n 0, 1) := by decide +kernel
theorem dX12_beginsAnew_73 : decode cX12_beginsAnew 73 = .ok (.getfield 40, 3) := by decide +kernel
theorem dX12_beginsAnew_76 : decode cX12_beginsAnew 76 = .ok (.aload_n 0, 1) := by decide +kernel
theorem dX12_beginsAnew_77 : decode cX12_beginsAnew 77 = .ok (.getfield 43, 3) := by decide +kernel
theorem dX12_beginsAnew_80 : decode cX12_beginsAnew 80 = .ok (.aload_n 0, 1) := by decide +kernel
theorem dX12_beginsAnew_81 : decode cX12_beginsAnew 81 = .ok (.getfield 23, 3) := by decide +kernel
theorem dX12_beginsAnew_84 : decode cX12_beginsAnew 84 = .ok (.iconst 2, 1) := by decide +kernel
theorem dX12_beginsAnew_85 : decode cX12_beginsAnew 85 = .ok (.iaload, 1) := by decide +kernel
theorem dX12_beginsAnew_86 : decode cX12_beginsAnew 86 = .ok (.invokestatic 204, 3) := by decide +kernel
theorem dX12_beginsAnew_89 : decode cX12_beginsAnew 89 = .ok (.aload_n 0, 1) := by decide +kernel
theorem dX12_beginsAnew_90 : decode cX12_beginsAnew 90 = .ok (.getfield 46, 3) := by decide +kernel
theorem dX12_beginsAnew_93 : decode cX12_beginsAnew 93 = .ok (.aload_n 0, 1) := by decide +kernel
theorem dX12_beginsAnew_94 : decode cX12_beginsAnew 94 = .ok (.getfield 49, 3) := by decide +kernel
theorem dX12_beginsAnew_97 : decode cX12_beginsAnew 97 = .ok (.bipush 6, 2) := by decide +kernel
theorem dX12_beginsAnew_99 : decode cX12_beginsAnew 99 = .ok (.invokestatic 204, 3) := by decide +kernel
theorem dX12_beginsAnew_102 : decode cX12_beginsAnew 102 = .ok (.iconst 0, 1) := by decide +kernel
theorem dX12_beginsAnew_103 : decode cX12_beginsAnew 103 = .ok (.istore_n 1, 1) := by decide +kernel
theorem dX12_beginsAnew_104 : decode cX12_beginsAnew 104 = .ok (.iload_n 1, 1) := by decide +kernel
theorem dX12_beginsAnew_105 : decode cX12_beginsAnew 105 = .ok (.bipush 111, 2) := by decide +kernel
theorem dX12_beginsAnew_107 : decode cX12_beginsAnew 107 = .ok (.if_icmp .ge 16, 3) := by decide +kernel
theorem dX12_beginsAnew_110 : decode cX12_beginsAnew 110 = .ok (.aload_n 0, 1) := by decide +kernel
theorem dX12_beginsAnew_111 : decode cX12_beginsAnew 111 = .ok (.getfield 73, 3) := by decide +kernel
theorem dX12_beginsAnew_114 : decode cX12_beginsAnew 114 = .ok (.iload_n 1, 1) := by decide +kernel
theorem dX12_beginsAnew_115 : decode cX12_beginsAnew 115 = .ok (.iconst 0, 1) := by decide +kernel
theorem dX12_beginsAnew_116 : decode cX12_beginsAnew 116 = .ok (.iastore, 1) := by decide +kernel
theorem dX12_beginsAnew_117 : decode cX12_beginsAnew 117 = .ok (.iinc 1 1, 3) := by decide +kernel
theorem dX12_beginsAnew_120 : decode cX12_beginsAnew 120 = .ok (.goto (-16), 3) := by decide +kernel
theorem dX12_beginsAnew_123 : decode cX12_beginsAnew 123 = .ok (.iconst 0, 1) := by decide +kernel
theorem dX12_beginsAnew_124 : decode cX12_beginsAnew 124 = .ok (.istore_n 1, 1) := by decide +kernel
theorem dX12_beginsAnew_125 : decode cX12_beginsAnew 125 = .ok (.iload_n 1, 1) := by decide +kernel
theorem dX12_beginsAnew_126 : decode cX12_beginsAnew 126 = .ok (.bipush 6, 2) := by decide +kernel
theorem dX12_beginsAnew_128 : decode cX12_beginsAnew 128 = .ok (.if_icmp .ge 75, 3) := by decide +kernel
theorem dX12_beginsAnew_131 : decode cX12_beginsAnew 131 = .ok (.aload_n 0, 1) := by decide +kernel
theorem dX12_beginsAnew_132 : decode cX12_beginsAnew 132 = .ok (.getfield 73, 3) := by decide +kernel
theorem dX12_beginsAnew_135 : decode cX12_beginsAnew 135 = .ok (.bipush 72, 2) := by decide +kernel
theorem dX12_beginsAnew_137 : decode cX12_beginsAnew 137 = .ok (.iload_n 1, 1) := by decide +kernel
theorem dX12_beginsAnew_138 : decode cX12_beginsAnew 138 = .ok (.iadd, 1) := by decide +kernel
theorem dX12_beginsAnew_139 : decode cX12_beginsAnew 139 = .ok (.iload_n 1, 1) := by decide +kernel
theorem dX12_beginsAnew_140 : decode cX12_beginsAnew 140 = .ok (.aload_n 0, 1) := by decide +kernel
theorem dX12_beginsAnew_141 : decode cX12_beginsAnew 141 = .ok (.getfield 23, 3) := by decide +kernel
theorem dX12_beginsAnew_144 : decode cX12_beginsAnew 144 = .ok (.iconst 2, 1) := by decide +kernel
theorem dX12_beginsAnew_145 : decode cX12_beginsAnew 145 = .ok (.iaload, 1) := by decide +kernel
theorem dX12_beginsAnew_146 : decode cX12_beginsAnew 146 = .ok (.if_icmp .ge 14, 3) := by decide +kernel
theorem dX12_beginsAnew_149 : decode cX12_beginsAnew 149 = .ok (.aload_n 0, 1) := by decide +kernel
theorem dX12_beginsAnew_150 : decode cX12_beginsAnew 150 = .ok (.getfield 43, 3) := by decide +kernel
theorem dX12_beginsAnew_153 : decode cX12_beginsAnew 153 = .ok (.iload_n 1, 1) := by decide +kernel
theorem dX12_beginsAnew_154 : decode cX12_beginsAnew 154 = .ok (.aaload, 1) := by decide +kernel
theorem dX12_beginsAnew_155 : decode cX12_beginsAnew 155 = .ok (.iconst 1, 1) := by decide +kernel
theorem dX12_beginsAnew_156 : decode cX12_beginsAnew 156 = .ok (.iaload, 1) := by decide +kernel
theorem dX12_beginsAnew_157 : decode cX12_beginsAnew 157 = .ok (.goto 4, 3) := by decide +kernel
theorem dX12_beginsAnew_160 : decode cX12_beginsAnew 160 = .ok (.iconst (-1), 1) := by decide +kernel
theorem dX12_beginsAnew_161 : decode cX12_beginsAnew 161 = .ok (.iastore, 1) := by decide +kernel
theorem dX12_beginsAnew_162 : decode cX12_beginsAnew 162 = .ok (.iconst 0, 1) := by decide +kernel
theorem dX12_beginsAnew_163 : decode cX12_beginsAnew 163 = .ok (.istore_n 2, 1) := by decide +kernel
theorem dX12_beginsAnew_164 : decode cX12_beginsAnew 164 = .ok (.iload_n 2, 1) := by decide +kernel
theorem dX12_beginsAnew_165 : decode cX12_beginsAnew 165 = .ok (.bipush 12, 2) := by decide +kernel
theorem dX12_beginsAnew_167 : decode cX12_beginsAnew 167 = .ok (.if_icmp .ge 30, 3) := by decide +kernel
theorem dX12_beginsAnew_170 : decode cX12_beginsAnew 170 = .ok (.aload_n 0, 1) := by decide +kernel
theorem dX12_beginsAnew_171 : decode cX12_beginsAnew 171 = .ok (.getfield 73, 3) := by decide +kernel
theorem dX12_beginsAnew_174 : decode cX12_beginsAnew 174 = .ok (.iconst 0, 1) := by decide +kernel
theorem dX12_beginsAnew_175 : decode cX12_beginsAnew 175 = .ok (.bipush 12, 2) := by decide +kernel
theorem dX12_beginsAnew_177 : decode cX12_beginsAnew 177 = .ok (.iload_n 1, 1) := by decide +kernel
theorem dX12_beginsAnew_178 : decode cX12_beginsAnew 178 = .ok (.imul, 1) := by decide +kernel
theorem dX12_beginsAnew_179 : decode cX12_beginsAnew 179 = .ok (.iadd, 1) := by decide +kernel
theorem dX12_beginsAnew_180 : decode cX12_beginsAnew 180 = .ok (.iload_n 2, 1) := by decide +kernel
theorem dX12_beginsAnew_181 : decode cX12_beginsAnew 181 = .ok (.iadd, 1) := by decide +kernel
theorem dX12_beginsAnew_182 : decode cX12_beginsAnew 182 = .ok (.aload_n 0, 1) := by decide +kernel
theorem dX12_beginsAnew_183 : decode cX12_beginsAnew 183 = .ok (.getfield 49, 3) := by decide +kernel
theorem dX12_beginsAnew_186 : decode cX12_beginsAnew 186 = .ok (.iload_n 1, 1) := by decide +kernel
theorem dX12_beginsAnew_187 : decode cX12_beginsAnew 187 = .ok (.aaload, 1) := by decide +kernel
theorem dX12_beginsAnew_188 : decode cX12_beginsAnew 188 = .ok (.iload_n 2, 1) := by decide +kernel
theorem dX12_beginsAnew_189 : decode cX12_beginsAnew 189 = .ok (.iaload, 1) := by decide +kernel
theorem dX12_beginsAnew_190 : decode cX12_beginsAnew 190 = .ok (.iastore, 1) := by decide +kernel
theorem dX12_beginsAnew_191 : decode cX12_beginsAnew 191 = .ok (.iinc 2 1, 3) := by decide +kernel
theorem dX12_beginsAnew_194 : decode cX12_beginsAnew 194 = .ok (.goto (-30), 3) := by decide +kernel
theorem dX12_beginsAnew_197 : decode cX12_beginsAnew 197 = .ok (.iinc 1 1, 3) := by decide +kernel
theorem dX12_beginsAnew_200 : decode cX12_beginsAnew 200 = .ok (.goto (-75), 3) := by decide +kernel
theorem dX12_beginsAnew_203 : decode cX12_beginsAnew 203 = .ok (.aload_n 0, 1) := by decide +kernel
theorem dX12_beginsAnew_204 : decode cX12_beginsAnew 204 = .ok (.iconst 0, 1) := by decide +kernel
theorem dX12_beginsAnew_205 : decode cX12_beginsAnew 205 = .ok (.putfield 208, 3) := by decide +kernel
theorem dX12_beginsAnew_208 : decode cX12_beginsAnew 208 = .ok (.aload_n 0, 1) := by decide +kernel
theorem dX12_beginsAnew_209 : decode cX12_beginsAnew 209 = .ok (.iconst 0, 1) := by decide +kernel
theorem dX12_beginsAnew_210 : decode cX12_beginsAnew 210 = .ok (.putfield 211, 3) := by decide +kernel
theorem dX12_beginsAnew_213 : decode cX12_beginsAnew 213 = .ok (.aload_n 0, 1) := by decide +kernel
theorem dX12_beginsAnew_214 : decode cX12_beginsAnew 214 = .ok (.iconst 0, 1) := by decide +kernel
theorem dX12_beginsAnew_215 : decode cX12_beginsAnew 215 = .ok (.putfield 214, 3) := by decide +kernel
theorem dX12_beginsAnew_218 : decode cX12_beginsAnew 218 = .ok (.aload_n 0, 1) := by decide +kernel
theorem dX12_beginsAnew_219 : decode cX12_beginsAnew 219 = .ok (.iconst 0, 1) := by decide +kernel
theorem dX12_beginsAnew_220 : decode cX12_beginsAnew 220 = .ok (.putfield 217, 3) := by decide +kernel
theorem dX12_beginsAnew_223 : decode cX12_beginsAnew 223 = .ok (.aload_n 0, 1) := by decide +kernel
theorem dX12_beginsAnew_224 : decode cX12_beginsAnew 224 = .ok (.iconst 0, 1) := by decide +kernel
theorem dX12_beginsAnew_225 : decode cX12_beginsAnew 225 = .ok (.putfield 220, 3) := by decide +kernel
theorem dX12_beginsAnew_228 : decode cX12_beginsAnew 228 = .ok (.return_, 1) := by decide +kernel
theorem dX12_isPerson_0 : decode cX12_isPerson 0 = .ok (.iload_n 1, 1) := by decide +kernel
theorem dX12_isPerson_1 : decode cX12_isPerson 1 = .ok (.iconst 0, 1) := by decide +kernel
theorem dX12_isPerson_2 : decode cX12_isPerson 2 = .ok (.aload_n 0, 1) := by decide +kernel
theorem dX12_isPerson_3 : decode cX12_isPerson 3 = .ok (.getfield 23, 3) := by decide +kernel
theorem dX12_isPerson_6 : decode cX12_isPerson 6 = .ok (.iconst 2, 1) := by decide +kernel
theorem dX12_isPerson_7 : decode cX12_isPerson 7 = .ok (.iaload, 1) := by decide +kernel
theorem dX12_isPerson_8 : decode cX12_isPerson 8 = .ok (.iconst 1, 1) := by decide +kernel
theorem dX12_isPerson_9 : decode cX12_isPerson 9 = .ok (.isub, 1) := by decide +kernel
theorem dX12_isPerson_10 : decode cX12_isPerson 10 = .ok (.invokestatic 143, 3) := by decide +kernel
theorem dX12_isPerson_13 : decode cX12_isPerson 13 = .ok (.ireturn, 1) := by decide +kernel
theorem dX12_isPlace_0 : decode cX12_isPlace 0 = .ok (.iload_n 1, 1) := by decide +kernel
theorem dX12_isPlace_1 : decode cX12_isPlace 1 = .ok (.iconst 0, 1) := by decide +kernel
theorem dX12_isPlace_2 : decode cX12_isPlace 2 = .ok (.aload_n 0, 1) := by decide +kernel
theorem dX12_isPlace_3 : decode cX12_isPlace 3 = .ok (.getfield 23, 3) := by decide +kernel
theorem dX12_isPlace_6 : decode cX12_isPlace 6 = .ok (.iconst 0, 1) := by decide +kernel
theorem dX12_isPlace_7 : decode cX12_isPlace 7 = .ok (.iaload, 1) := by decide +kernel
theorem dX12_isPlace_8 : decode cX12_isPlace 8 = .ok (.iconst 1, 1) := by decide +kernel
theorem dX12_isPlace_9 : decode cX12_isPlace 9 = .ok (.isub, 1) := by decide +kernel
theorem dX12_isPlace_10 : decode cX12_isPlace 10 = .ok (.invokestatic 143, 3) := by decide +kernel
theorem dX12_isPlace_13 : decode cX12_isPlace 13 = .ok (.ireturn, 1) := by decide +kernel
theorem dX12_belief_0 : decode cX12_belief 0 = .ok (.aload_n 0, 1) := by decide +kernel
theorem dX12_belief_1 : decode cX12_belief 1 = .ok (.iconst 0, 1) := by decide +kernel
theorem dX12_belief_2 : decode cX12_belief 2 = .ok (.putfield 109, 3) := by decide +kernel
theorem dX12_belief_5 : decode cX12_belief 5 = .ok (.aload_n 0, 1) := by decide +kernel
theorem dX12_belief_6 : decode cX12_belief 6 = .ok (.aload_n 0, 1) := by decide +kernel
theorem dX12_belief_7 : decode cX12_belief 7 = .ok (.iload_n 1, 1) := by decide +kernel
theorem dX12_belief_8 : decode cX12_belief 8 = .ok (.invokevirtual 358, 3) := by decide +kernel
theorem dX12_belief_11 : decode cX12_belief 11 = .ok (.ifCond .eq 11, 3) := by decide +kernel
theorem dX12_belief_14 : decode cX12_belief 14 = .ok (.aload_n 0, 1) := by decide +kernel
theorem dX12_belief_15 : decode cX12_belief 15 = .ok (.iload_n 2, 1) := by decide +kernel
theorem dX12_belief_16 : decode cX12_belief 16 = .ok (.invokevirtual 352, 3) := by decide +kernel
theorem dX12_belief_19 : decode cX12_belief 19 = .ok (.ifCond .ne 7, 3) := by decide +kernel
theorem dX12_belief_22 : decode cX12_belief 22 = .ok (.iconst 1, 1) := by decide +kernel
theorem dX12_belief_23 : decode cX12_belief 23 = .ok (.goto 4, 3) := by decide +kernel
theorem dX12_belief_26 : decode cX12_belief 26 = .ok (.iconst 0, 1) := by decide +kernel
theorem dX12_belief_27 : decode cX12_belief 27 = .ok (.iconst 1, 1) := by decide +kernel
theorem dX12_belief_28 : decode cX12_belief 28 = .ok (.iconst 0, 1) := by decide +kernel
theorem dX12_belief_29 : decode cX12_belief 29 = .ok (.invokevirtual 191, 3) := by decide +kernel
theorem dX12_belief_32 : decode cX12_belief 32 = .ok (.ifCond .eq 5, 3) := by decide +kernel
theorem dX12_belief_35 : decode cX12_belief 35 = .ok (.iconst 0, 1) := by decide +kernel
theorem dX12_belief_36 : decode cX12_belief 36 = .ok (.ireturn, 1) := by decide +kernel
theorem dX12_belief_37 : decode cX12_belief 37 = .ok (.aload_n 0, 1) := by decide +kernel
theorem dX12_belief_38 : decode cX12_belief 38 = .ok (.getfield 73, 3) := by decide +kernel
theorem dX12_belief_41 : decode cX12_belief 41 = .ok (.iconst 0, 1) := by decide +kernel
theorem dX12_belief_42 : decode cX12_belief 42 = .ok (.bipush 12, 2) := by decide +kernel
theorem dX12_belief_44 : decode cX12_belief 44 = .ok (.iload_n 1, 1) := by decide +kernel
theorem dX12_belief_45 : decode cX12_belief 45 = .ok (.imul, 1) := by decide +kernel
theorem dX12_belief_46 : decode cX12_belief 46 = .ok (.iadd, 1) := by decide +kernel
theorem dX12_belief_47 : decode cX12_belief 47 = .ok (.iload_n 2, 1) := by decide +kernel
theorem dX12_belief_48 : decode cX12_belief 48 = .ok (.iadd, 1) := by decide +kernel
theorem dX12_belief_49 : decode cX12_belief 49 = .ok (.iaload, 1) := by decide +kernel
theorem dX12_belief_50 : decode cX12_belief 50 = .ok (.ireturn, 1) := by decide +kernel
theorem dX12_believedIn_0 : decode cX12_believedIn 0 = .ok (.iconst 0, 1) := by decide +kernel
theorem dX12_believedIn_1 : decode cX12_believedIn 1 = .ok (.istore_n 2, 1) := by decide +kernel
theorem dX12_believedIn_2 : decode cX12_believedIn 2 = .ok (.iconst 0, 1) := by decide +kernel
theorem dX12_believedIn_3 : decode cX12_believedIn 3 = .ok (.istore_n 3, 1) := by decide +kernel
theorem dX12_believedIn_4 : decode cX12_believedIn 4 = .ok (.iload_n 3, 1) := by decide +kernel
theorem dX12_believedIn_5 : decode cX12_believedIn 5 = .ok (.bipush 12, 2) := by decide +kernel
theorem dX12_believedIn_7 : decode cX12_believedIn 7 = .ok (.aload_n 0, 1) := by decide +kernel
theorem dX12_believedIn_8 : decode cX12_believedIn 8 = .ok (.getfield 23, 3) := by decide +kernel
theorem dX12_believedIn_11 : decode cX12_believedIn 11 = .ok (.iconst 2, 1) := by decide +kernel
theorem dX12_believedIn_12 : decode cX12_believedIn 12 = .ok (.iaload, 1) := by decide +kernel
theorem dX12_believedIn_13 : decode cX12_believedIn 13 = .ok (.imul, 1) := by decide +kernel
theorem dX12_believedIn_14 : decode cX12_believedIn 14 = .ok (.if_icmp .ge 26, 3) := by decide +kernel
theorem dX12_believedIn_17 : decode cX12_believedIn 17 = .ok (.iload_n 2, 1) := by decide +kernel
theorem dX12_believedIn_18 : decode cX12_believedIn 18 = .ok (.aload_n 1, 1) := by decide +kernel
theorem dX12_believedIn_19 : decode cX12_believedIn 19 = .ok (.iconst 0, 1) := by decide +kernel
theorem dX12_believedIn_20 : decode cX12_believedIn 20 = .ok (.iload_n 3, 1) := by decide +kernel
theorem dX12_believedIn_21 : decode cX12_believedIn 21 = .ok (.iadd, 1) := by decide +kernel
theorem dX12_believedIn_22 : decode cX12_believedIn 22 = .ok (.iaload, 1) := by decide +kernel
theorem dX12_believedIn_23 : decode cX12_believedIn 23 = .ok (.iconst (-1), 1) := by decide +kernel
theorem dX12_believedIn_24 : decode cX12_believedIn 24 = .ok (.if_icmp .ne 7, 3) := by decide +kernel
theorem dX12_believedIn_27 : decode cX12_believedIn 27 = .ok (.iconst 0, 1) := by decide +kernel
theorem dX12_believedIn_28 : decode cX12_believedIn 28 = .ok (.goto 4, 3) := by decide +kernel
theorem dX12_believedIn_31 : decode cX12_believedIn 31 = .ok (.iconst 1, 1) := by decide +kernel
theorem dX12_believedIn_32 : decode cX12_believedIn 32 = .ok (.iadd, 1) := by decide +kernel
theorem dX12_believedIn_33 : decode cX12_believedIn 33 = .ok (.istore_n 2, 1) := by decide +kernel
theorem dX12_believedIn_34 : decode cX12_believedIn 34 = .ok (.iinc 3 1, 3) := by decide +kernel
theorem dX12_believedIn_37 : decode cX12_believedIn 37 = .ok (.goto (-33), 3) := by decide +kernel
theorem dX12_believedIn_40 : decode cX12_believedIn 40 = .ok (.iload_n 2, 1) := by decide +kernel
theorem dX12_believedIn_41 : decode cX12_believedIn 41 = .ok (.ireturn, 1) := by decide +kernel
theorem dX12_blank_0 : decode cX12_blank 0 = .ok (.aload_n 0, 1) := by decide +kernel
theorem dX12_blank_1 : decode cX12_blank 1 = .ok (.iconst 0, 1) := by decide +kernel
theorem dX12_blank_2 : decode cX12_blank 2 = .ok (.putfield 109, 3) := by decide +kernel
theorem dX12_blank_5 : decode cX12_blank 5 = .ok (.aload_n 0, 1) := by decide +kernel
theorem dX12_blank_6 : decode cX12_blank 6 = .ok (.iload_n 1, 1) := by decide +kernel
theorem dX12_blank_7 : decode cX12_blank 7 = .ok (.iconst 0, 1) := by decide +kernel
theorem dX12_blank_8 : decode cX12_blank 8 = .ok (.iconst 1, 1) := by decide +kernel
theorem dX12_blank_9 : decode cX12_blank 9 = .ok (.invokestatic 143, 3) := by decide +kernel
theorem dX12_blank_12 : decode cX12_blank 12 = .ok (.ifCond .ne 7, 3) := by decide +kernel
theorem dX12_blank_15 : decode cX12_blank 15 = .ok (.iconst 1, 1) := by decide +kernel
theorem dX12_blank_16 : decode cX12_blank 16 = .ok (.goto 4, 3) := by decide +kernel
theorem dX12_blank_19 : decode cX12_blank 19 = .ok (.iconst 0, 1) := by decide +kernel
theorem dX12_blank_20 : decode cX12_blank 20 = .ok (.iconst 1, 1) := by decide +kernel
theorem dX12_blank_21 : decode cX12_blank 21 = .ok (.iconst 1, 1) := by decide +kernel
theorem dX12_blank_22 : decode cX12_blank 22 = .ok (.invokevirtual 191, 3) := by decide +kernel
theorem dX12_blank_25 : decode cX12_blank 25 = .ok (.ifCond .eq 5, 3) := by decide +kernel
theorem dX12_blank_28 : decode cX12_blank 28 = .ok (.iconst 0, 1) := by decide +kernel
theorem dX12_blank_29 : decode cX12_blank 29 = .ok (.ireturn, 1) := by decide +kernel
theorem dX12_blank_30 : decode cX12_blank 30 = .ok (.iconst (-1), 1) := by decide +kernel
theorem dX12_blank_31 : decode cX12_blank 31 = .ok (.istore_n 2, 1) := by decide +kernel
theorem dX12_blank_32 : decode cX12_blank 32 = .ok (.iconst (-1), 1) := by decide +kernel
theorem dX12_blank_33 : decode cX12_blank 33 = .ok (.istore_n 3, 1) := by decide +kernel
theorem dX12_blank_34 : decode cX12_blank 34 = .ok (.iconst 0, 1) := by decide +kernel
theorem dX12_blank_35 : decode cX12_blank 35 = .ok (.istore 4, 2) := by decide +kernel
theorem dX12_blank_37 : decode cX12_blank 37 = .ok (.iload 4, 2) := by decide +kernel
theorem dX12_blank_39 : decode cX12_blank 39 = .ok (.aload_n 0, 1) := by decide +kernel
theorem dX12_blank_40 : decode cX12_blank 40 = .ok (.getfield 23, 3) := by decide +kernel
theorem dX12_blank_43 : decode cX12_blank 43 = .ok (.iconst 2, 1) := by decide +kernel
theorem dX12_blank_44 : decode cX12_blank 44 = .ok (.iaload, 1) := by decide +kernel
theorem dX12_blank_45 : decode cX12_blank 45 = .ok (.if_icmp .ge 91, 3) := by decide +kernel
theorem dX12_blank_48 : decode cX12_blank 48 = .ok (.iconst 0, 1) := by decide +kernel
theorem dX12_blank_49 : decode cX12_blank 49 = .ok (.istore 5, 2) := by decide +kernel
theorem dX12_blank_51 : decode cX12_blank 51 = .ok (.iconst 0, 1) := by decide +kernel
theorem dX12_blank_52 : decode cX12_blank 52 = .ok (.istore 6, 2) := by decide +kernel
theorem dX12_blank_54 : decode cX12_blank 54 = .ok (.iload 6, 2) := by decide +kernel
theorem dX12_blank_56 : decode cX12_blank 56 = .ok (.bipush 12, 2) := by decide +kernel
theorem dX12_blank_58 : decode cX12_blank 58 = .ok (.if_icmp .ge 38, 3) := by decide +kernel
theorem dX12_blank_61 : decode cX12_blank 61 = .ok (.iload 5, 2) := by decide +kernel
theorem dX12_blank_63 : decode cX12_blank 63 = .ok (.aload_n 0, 1) := by decide +kernel
theorem dX12_blank_64 : decode cX12_blank 64 = .ok (.getfield 73, 3) := by decide +kernel
theorem dX12_blank_67 : decode cX12_blank 67 = .ok (.iconst 0, 1) := by decide +kernel
theorem dX12_blank_68 : decode cX12_blank 68 = .ok (.bipush 12, 2) := by decide +kernel
theorem dX12_blank_70 : decode cX12_blank 70 = .ok (.iload 4, 2) := by decide +kernel
theorem dX12_blank_72 : decode cX12_blank 72 = .ok (.imul, 1) := by decide +kernel
theorem dX12_blank_73 : decode cX12_blank 73 = .ok (.iadd, 1) := by decide +kernel
theorem dX12_blank_74 : decode cX12_blank 74 = .ok (.iload 6, 2) := by decide +kernel
theorem dX12_blank_76 : decode cX12_blank 76 = .ok (.iadd, 1) := by decide +kernel
theorem dX12_blank_77 : decode cX12_blank 77 = .ok (.iaload, 1) := by decide +kernel
theorem dX12_blank_78 : decode cX12_blank 78 = .ok (.iconst (-1), 1) := by decide +kernel
theorem dX12_blank_79 : decode cX12_blank 79 = .ok (.if_icmp .ne 7, 3) := by decide +kernel
theorem dX12_blank_82 : decode cX12_blank 82 = .ok (.iconst 0, 1) := by decide +kernel
theorem dX12_blank_83 : decode cX12_blank 83 = .ok (.goto 4, 3) := by decide +kernel
theorem dX12_blank_86 : decode cX12_blank 86 = .ok (.iconst 1, 1) := by decide +kernel
theorem dX12_blank_87 : decode cX12_blank 87 = .ok (.iadd, 1) := by decide +kernel
theorem dX12_blank_88 : decode cX12_blank 88 = .ok (.istore 5, 2) := by decide +kernel
theorem dX12_blank_90 : decode cX12_blank 90 = .ok (.iinc 6 1, 3) := by decide +kernel
theorem dX12_blank_93 : decode cX12_blank 93 = .ok (.goto (-39), 3) := by decide +kernel
theorem dX12_blank_96 : decode cX12_blank 96 = .ok (.iload 5, 2) := by decide +kernel
theorem dX12_blank_98 : decode cX12_blank 98 = .ok (.ifCond .gt 32, 3) := by decide +kernel
theorem dX12_blank_101 : decode cX12_blank 101 = .ok (.aload_n 0, 1) := by decide +kernel
theorem dX12_blank_102 : decode cX12_blank 102 = .ok (.getfield 43, 3) := by decide +kernel
theorem dX12_blank_105 : decode cX12_blank 105 = .ok (.iload 4, 2) := by decide +kernel
theorem dX12_blank_107 : decode cX12_blank 107 = .ok (.aaload, 1) := by decide +kernel
theorem dX12_blank_108 : decode cX12_blank 108 = .ok (.iconst 0, 1) := by decide +kernel
theorem dX12_blank_109 : decode cX12_blank 109 = .ok (.iaload, 1) := by decide +kernel
theorem dX12_blank_110 : decode cX12_blank 110 = .ok (.iload_n 3, 1) := by decide +kernel
theorem dX12_blank_111 : decode cX12_blank 111 = .ok (.if_icmp .gt 6, 3) := by decide +kernel
theorem dX12_blank_114 : decode cX12_blank 114 = .ok (.goto 16, 3) := by decide +kernel
theorem dX12_blank_117 : decode cX12_blank 117 = .ok (.iload 4, 2) := by decide +kernel
theorem dX12_blank_119 : decode cX12_blank 119 = .ok (.istore_n 2, 1) := by decide +kernel
theorem dX12_blank_120 : decode cX12_blank 120 = .ok (.aload_n 0, 1) := by decide +kernel
theorem dX12_blank_121 : decode cX12_blank 121 = .ok (.getfield 43, 3) := by decide +kernel
theorem dX12_blank_124 : decode cX12_blank 124 = .ok (.iload 4, 2) := by decide +kernel
theorem dX12_blank_126 : decode cX12_blank 126 = .ok (.aaload, 1) := by decide +kernel
theorem dX12_blank_127 : decode cX12_blank 127 = .ok (.iconst 0, 1) := by decide +kernel
theorem dX12_blank_128 : decode cX12_blank 128 = .ok (.iaload, 1) := by decide +kernel
theorem dX12_blank_129 : decode cX12_blank 129 = .ok (.istore_n 3, 1) := by decide +kernel
theorem dX12_blank_130 : decode cX12_blank 130 = .ok (.iinc 4 1, 3) := by decide +kernel
theorem dX12_blank_133 : decode cX12_blank 133 = .ok (.goto (-96), 3) := by decide +kernel
theorem dX12_blank_136 : decode cX12_blank 136 = .ok (.iload_n 1, 1) := by decide +kernel
theorem dX12_blank_137 : decode cX12_blank 137 = .ok (.ifCond .ne 7, 3) := by decide +kernel
theorem dX12_blank_140 : decode cX12_blank 140 = .ok (.iload_n 2, 1) := by decide +kernel
theorem dX12_blank_141 : decode cX12_blank 141 = .ok (.goto 4, 3) := by decide +kernel
theorem dX12_blank_144 : decode cX12_blank 144 = .ok (.iload_n 3, 1) := by decide +kernel
theorem dX12_blank_145 : decode cX12_blank 145 = .ok (.ireturn, 1) := by decide +kernel
theorem dX12_book_0 : decode cX12_book 0 = .ok (.aload_n 0, 1) := by decide +kernel
theorem dX12_book_1 : decode cX12_book 1 = .ok (.iconst 0, 1) := by decide +kernel
theorem dX12_book_2 : decode cX12_book 2 = .ok (.putfield 109, 3) := by decide +kernel
theorem dX12_book_5 : decode cX12_book 5 = .ok (.aload_n 0, 1) := by decide +kernel
theorem dX12_book_6 : decode cX12_book 6 = .ok (.iload_n 1, 1) := by decide +kernel
theorem dX12_book_7 : decode cX12_book 7 = .ok (.iconst 0, 1) := by decide +kernel
theorem dX12_book_8 : decode cX12_book 8 = .ok (.aload_n 0, 1) := by decide +kernel
theorem dX12_book_9 : decode cX12_book 9 = .ok (.getfield 112, 3) := by decide +kernel
theorem dX12_book_12 : decode cX12_book 12 = .ok (.invokestatic 143, 3) := by decide +kernel
theorem dX12_book_15 : decode cX12_book 15 = .ok (.ifCond .eq 9, 3) := by decide +kernel
theorem dX12_book_18 : decode cX12_book 18 = .ok (.iload_n 1, 1) := by decide +kernel
theorem dX12_book_19 : decode cX12_book 19 = .ok (.bipush 60, 2) := by decide +kernel
theorem dX12_book_21 : decode cX12_book 21 = .ok (.if_icmp .le 7, 3) := by decide +kernel
theorem dX12_book_24 : decode cX12_book 24 = .ok (.iconst 1, 1) := by decide +kernel
theorem dX12_book_25 : decode cX12_book 25 = .ok (.goto 4, 3) := by decide +kernel
theorem dX12_book_28 : decode cX12_book 28 = .ok (.iconst 0, 1) := by decide +kernel
theorem dX12_book_29 : decode cX12_book 29 = .ok (.iconst 1, 1) := by decide +kernel
theorem dX12_book_30 : decode cX12_book 30 = .ok (.iconst 1, 1) := by decide +kernel
theorem dX12_book_31 : decode cX12_book 31 = .ok (.invokevirtual 191, 3) := by decide +kernel
theorem dX12_book_34 : decode cX12_book 34 = .ok (.ifCond .eq 5, 3) := by decide +kernel
theorem dX12_book_37 : decode cX12_book 37 = .ok (.iconst 0, 1) := by decide +kernel
theorem dX12_book_38 : decode cX12_book 38 = .ok (.ireturn, 1) := by decide +kernel
theorem dX12_book_39 : decode cX12_book 39 = .ok (.aload_n 0, 1) := by decide +kernel
theorem dX12_book_40 : decode cX12_book 40 = .ok (.iload_n 1, 1) := by decide +kernel
theorem dX12_book_41 : decode cX12_book 41 = .ok (.invokevirtual 195, 3) := by decide +kernel
theorem dX12_book_44 : decode cX12_book 44 = .ok (.iconst 0, 1) := by decide +kernel
theorem dX12_book_45 : decode cX12_book 45 = .ok (.istore_n 2, 1) := by decide +kernel
theorem dX12_book_46 : decode cX12_book 46 = .ok (.iconst 0, 1) := by decide +kernel
theorem dX12_book_47 : decode cX12_book 47 = .ok (.istore_n 3, 1) := by decide +kernel
theorem dX12_book_48 : decode cX12_book 48 = .ok (.aload_n 0, 1) := by decide +kernel
theorem dX12_book_49 : decode cX12_book 49 = .ok (.getfield 125, 3) := by decide +kernel
theorem dX12_book_52 : decode cX12_book 52 = .ok (.ifCond .ne 107, 3) := by decide +kernel
theorem dX12_book_55 : decode cX12_book 55 = .ok (.aload_n 0, 1) := by decide +kernel
theorem dX12_book_56 : decode cX12_book 56 = .ok (.getfield 118, 3) := by decide +kernel
theorem dX12_book_59 : decode cX12_book 59 = .ok (.aload_n 0, 1) := by decide +kernel
theorem dX12_book_60 : decode cX12_book 60 = .ok (.getfield 115, 3) := by decide +kernel
theorem dX12_book_63 : decode cX12_book 63 = .ok (.if_icmp .ge 96, 3) := by decide +kernel
theorem dX12_book_66 : decode cX12_book 66 = .ok (.aload_n 0, 1) := by decide +kernel
theorem dX12_book_67 : decode cX12_book 67 = .ok (.getfield 118, 3) := by decide +kernel
theorem dX12_book_70 : decode cX12_book 70 = .ok (.istore 4, 2) := by decide +kernel
theorem dX12_book_72 : decode cX12_book 72 = .ok (.aload_n 0, 1) := by decide +kernel
theorem dX12_book_73 : decode cX12_book 73 = .ok (.invokevirtual 264, 3) := by decide +kernel
theorem dX12_book_76 : decode cX12_book 76 = .ok (.istore 5, 2) := by decide +kernel
theorem dX12_book_78 : decode cX12_book 78 = .ok (.aload_n 0, 1) := by decide +kernel
theorem dX12_book_79 : decode cX12_book 79 = .ok (.getfield 125, 3) := by decide +kernel
theorem dX12_book_82 : decode cX12_book 82 = .ok (.ifCond .ne 19, 3) := by decide +kernel
theorem dX12_book_85 : decode cX12_book 85 = .ok (.iload_n 3, 1) := by decide +kernel
theorem dX12_book_86 : decode cX12_book 86 = .ok (.iload 5, 2) := by decide +kernel
theorem dX12_book_88 : decode cX12_book 88 = .ok (.invokestatic 282, 3) := by decide +kernel
theorem dX12_book_91 : decode cX12_book 91 = .ok (.ifCond .eq 10, 3) := by decide +kernel
theorem dX12_book_94 : decode cX12_book 94 = .ok (.aload_n 0, 1) := by decide +kernel
theorem dX12_book_95 : decode cX12_book 95 = .ok (.iconst 2, 1) := by decide +kernel
theorem dX12_book_96 : decode cX12_book 96 = .ok (.iload 4, 2) := by decide +kernel
theorem dX12_book_98 : decode cX12_book 98 = .ok (.invokevirtual 138, 3) := by decide +kernel
theorem dX12_book_101 : decode cX12_book 101 = .ok (.aload_n 0, 1) := by decide +kernel
theorem dX12_book_102 : decode cX12_book 102 = .ok (.iload 5, 2) := by decide +kernel
theorem dX12_book_104 : decode cX12_book 104 = .ok (.invokevirtual 276, 3) := by decide +kernel
theorem dX12_book_107 : decode cX12_book 107 = .ok (.istore 6, 2) := by decide +kernel
theorem dX12_book_109 : decode cX12_book 109 = .ok (.aload_n 0, 1) := by decide +kernel
theorem dX12_book_110 : decode cX12_book 110 = .ok (.bipush 59, 2) := by decide +kernel
theorem dX12_book_112 : decode cX12_book 112 = .ok (.invokevirtual 187, 3) := by decide +kernel
theorem dX12_book_115 : decode cX12_book 115 = .ok (.aload_n 0, 1) := by decide +kernel
theorem dX12_book_116 : decode cX12_book 116 = .ok (.getfield 125, 3) := by decide +kernel
theorem dX12_book_119 : decode cX12_book 119 = .ok (.ifCond .ne 33, 3) := by decide +kernel
theorem dX12_book_122 : decode cX12_book 122 = .ok (.iload_n 3, 1) := by decide +kernel
theorem dX12_book_123 : decode cX12_book 123 = .ok (.iconst 1, 1) := by decide +kernel
theorem dX12_book_124 : decode cX12_book 124 = .ok (.iload 5, 2) := by decide +kernel
theorem dX12_book_126 : decode cX12_book 126 = .ok (.ishl, 1) := by decide +kernel
theorem dX12_book_127 : decode cX12_book 127 = .ok (.ior, 1) := by decide +kernel
theorem dX12_book_128 : decode cX12_book 128 = .ok (.istore_n 3, 1) := by decide +kernel
theorem dX12_book_129 : decode cX12_book 129 = .ok (.aload_n 0, 1) := by decide +kernel
theorem dX12_book_130 : decode cX12_book 130 = .ok (.getfield 61, 3) := by decide +kernel
theorem dX12_book_133 : decode cX12_book 133 = .ok (.iload_n 2, 1) := by decide +kernel
theorem dX12_book_134 : decode cX12_book 134 = .ok (.aaload, 1) := by decide +kernel
theorem dX12_book_135 : decode cX12_book 135 = .ok (.iconst 0, 1) := by decide +kernel
theorem dX12_book_136 : decode cX12_book 136 = .ok (.iload 5, 2) := by decide +kernel
theorem dX12_book_138 : decode cX12_book 138 = .ok (.iastore, 1) := by decide +kernel
theorem dX12_book_139 : decode cX12_book 139 = .ok (.aload_n 0, 1) := by decide +kernel
theorem dX12_book_140 : decode cX12_book 140 = .ok (.getfield 61, 3) := by decide +kernel
theorem dX12_book_143 : decode cX12_book 143 = .ok (.iload_n 2, 1) := by decide +kernel
theorem dX12_book_144 : decode cX12_book 144 = .ok (.aaload, 1) := by decide +kernel
theorem dX12_book_145 : decode cX12_book 145 = .ok (.iconst 1, 1) := by decide +kernel
theorem dX12_book_146 : decode cX12_book 146 = .ok (.iload 6, 2) := by decide +kernel
theorem dX12_book_148 : decode cX12_book 148 = .ok (.iastore, 1) := by decide +kernel
theorem dX12_book_149 : decode cX12_book 149 = .ok (.iinc 2 1, 3) := by decide +kernel
theorem dX12_book_152 : decode cX12_book 152 = .ok (.aload_n 0, 1) := by decide +kernel
theorem dX12_book_153 : decode cX12_book 153 = .ok (.invokevirtual 131, 3) := by decide +kernel
theorem dX12_book_156 : decode cX12_book 156 = .ok (.goto (-108), 3) := by decide +kernel
theorem dX12_book_159 : decode cX12_book 159 = .ok (.aload_n 0, 1) := by decide +kernel
theorem dX12_book_160 : decode cX12_book 160 = .ok (.getfield 125, 3) := by decide +kernel
theorem dX12_book_163 : decode cX12_book 163 = .ok (.ifCond .eq 8, 3) := by decide +kernel
theorem dX12_book_166 : decode cX12_book 166 = .ok (.aload_n 0, 1) := by decide +kernel
theorem dX12_book_167 : decode cX12_book 167 = .ok (.invokevirtual 201, 3) := by decide +kernel
theorem dX12_book_170 : decode cX12_book 170 = .ok (.ireturn, 1) := by decide +kernel
theorem dX12_book_171 : decode cX12_book 171 = .ok (.aload_n 0, 1) := by decide +kernel
theorem dX12_book_172 : decode cX12_book 172 = .ok (.iconst (-1), 1) := by decide +kernel
theorem dX12_book_173 : decode cX12_book 173 = .ok (.putfield 9, 3) := by decide +kernel
theorem dX12_book_176 : decode cX12_book 176 = .ok (.aload_n 0, 1) := by decide +kernel
theorem dX12_book_177 : decode cX12_book 177 = .ok (.iload_n 2, 1) := by decide +kernel
theorem dX12_book_178 : decode cX12_book 178 = .ok (.putfield 211, 3) := by decide +kernel
theorem dX12_book_181 : decode cX12_book 181 = .ok (.aload_n 0, 1) := by decide +kernel
theorem dX12_book_182 : decode cX12_book 182 = .ok (.getfield 61, 3) := by decide +kernel
theorem dX12_book_185 : decode cX12_book 185 = .ok (.aload_n 0, 1) := by decide +kernel
theorem dX12_book_186 : decode cX12_book 186 = .ok (.getfield 58, 3) := by decide +kernel
theorem dX12_book_189 : decode cX12_book 189 = .ok (.iload_n 2, 1) := by decide +kernel
theorem dX12_book_190 : decode cX12_book 190 = .ok (.invokestatic 204, 3) := by decide +kernel
theorem dX12_book_193 : decode cX12_book 193 = .ok (.iload_n 2, 1) := by decide +kernel
theorem dX12_book_194 : decode cX12_book 194 = .ok (.ireturn, 1) := by decide +kernel
theorem dX12_comesBy_0 : decode cX12_comesBy 0 = .ok (.aload_n 0, 1) := by decide +kernel
theorem dX12_comesBy_1 : decode cX12_comesBy 1 = .ok (.getfield 91, 3) := by decide +kernel
theorem dX12_comesBy_4 : decode cX12_comesBy 4 = .ok (.iload_n 1, 1) := by decide +kernel
theorem dX12_comesBy_5 : decode cX12_comesBy 5 = .ok (.aaload, 1) := by decide +kernel
theorem dX12_comesBy_6 : decode cX12_comesBy 6 = .ok (.iconst 0, 1) := by decide +kernel
theorem dX12_comesBy_7 : decode cX12_comesBy 7 = .ok (.iaload, 1) := by decide +kernel
theorem dX12_comesBy_8 : decode cX12_comesBy 8 = .ok (.istore 4, 2) := by decide +kernel
theorem dX12_comesBy_10 : decode cX12_comesBy 10 = .ok (.aload_n 0, 1) := by decide +kernel
theorem dX12_comesBy_11 : decode cX12_comesBy 11 = .ok (.getfield 91, 3) := by decide +kernel
theorem dX12_comesBy_14 : decode cX12_comesBy 14 = .ok (.iload_n 2, 1) := by decide +kernel
theorem dX12_comesBy_15 : decode cX12_comesBy 15 = .ok (.aaload, 1) := by decide +kernel
theorem dX12_comesBy_16 : decode cX12_comesBy 16 = .ok (.iconst 0, 1) := by decide +kernel
theorem dX12_comesBy_17 : decode cX12_comesBy 17 = .ok (.iaload, 1) := by decide +kernel
theorem dX12_comesBy_18 : decode cX12_comesBy 18 = .ok (.istore 5, 2) := by decide +kernel
theorem dX12_comesBy_20 : decode cX12_comesBy 20 = .ok (.aload_n 0, 1) := by decide +kernel
theorem dX12_comesBy_21 : decode cX12_comesBy 21 = .ok (.getfield 85, 3) := by decide +kernel
theorem dX12_comesBy_24 : decode cX12_comesBy 24 = .ok (.iload 4, 2) := by decide +kernel
theorem dX12_comesBy_26 : decode cX12_comesBy 26 = .ok (.iaload, 1) := by decide +kernel
theorem dX12_comesBy_27 : decode cX12_comesBy 27 = .ok (.istore 6, 2) := by decide +kernel
theorem dX12_comesBy_29 : decode cX12_comesBy 29 = .ok (.aload_n 0, 1) := by decide +kernel
theorem dX12_comesBy_30 : decode cX12_comesBy 30 = .ok (.getfield 85, 3) := by decide +kernel
theorem dX12_comesBy_33 : decode cX12_comesBy 33 = .ok (.iload 5, 2) := by decide +kernel
theorem dX12_comesBy_35 : decode cX12_comesBy 35 = .ok (.iaload, 1) := by decide +kernel
theorem dX12_comesBy_36 : decode cX12_comesBy 36 = .ok (.istore 7, 2) := by decide +kernel
theorem dX12_comesBy_38 : decode cX12_comesBy 38 = .ok (.aload_n 0, 1) := by decide +kernel
theorem dX12_comesBy_39 : decode cX12_comesBy 39 = .ok (.getfield 85, 3) := by decide +kernel
theorem dX12_comesBy_42 : decode cX12_comesBy 42 = .ok (.iload 4, 2) := by decide +kernel
theorem dX12_comesBy_44 : decode cX12_comesBy 44 = .ok (.aload_n 0, 1) := by decide +kernel
theorem dX12_comesBy_45 : decode cX12_comesBy 45 = .ok (.getfield 94, 3) := by decide +kernel
theorem dX12_comesBy_48 : decode cX12_comesBy 48 = .ok (.iload_n 1, 1) := by decide +kernel
theorem dX12_comesBy_49 : decode cX12_comesBy 49 = .ok (.iaload, 1) := by decide +kernel
theorem dX12_comesBy_50 : decode cX12_comesBy 50 = .ok (.iastore, 1) := by decide +kernel
theorem dX12_comesBy_51 : decode cX12_comesBy 51 = .ok (.aload_n 0, 1) := by decide +kernel
theorem dX12_comesBy_52 : decode cX12_comesBy 52 = .ok (.getfield 85, 3) := by decide +kernel
theorem dX12_comesBy_55 : decode cX12_comesBy 55 = .ok (.iload 5, 2) := by decide +kernel
theorem dX12_comesBy_57 : decode cX12_comesBy 57 = .ok (.aload_n 0, 1) := by decide +kernel
theorem dX12_comesBy_58 : decode cX12_comesBy 58 = .ok (.getfield 94, 3) := by decide +kernel
theorem dX12_comesBy_61 : decode cX12_comesBy 61 = .ok (.iload_n 2, 1) := by decide +kernel
theorem dX12_comesBy_62 : decode cX12_comesBy 62 = .ok (.iaload, 1) := by decide +kernel
theorem dX12_comesBy_63 : decode cX12_comesBy 63 = .ok (.iastore, 1) := by decide +kernel
theorem dX12_comesBy_64 : decode cX12_comesBy 64 = .ok (.aload_n 0, 1) := by decide +kernel
theorem dX12_comesBy_65 : decode cX12_comesBy 65 = .ok (.invokevirtual 312, 3) := by decide +kernel
theorem dX12_comesBy_68 : decode cX12_comesBy 68 = .ok (.iload_n 3, 1) := by decide +kernel
theorem dX12_comesBy_69 : decode cX12_comesBy 69 = .ok (.invokestatic 282, 3) := by decide +kernel
theorem dX12_comesBy_72 : decode cX12_comesBy 72 = .ok (.istore 8, 2) := by decide +kernel
theorem dX12_comesBy_74 : decode cX12_comesBy 74 = .ok (.aload_n 0, 1) := by decide +kernel
theorem dX12_comesBy_75 : decode cX12_comesBy 75 = .ok (.getfield 85, 3) := by decide +kernel
theorem dX12_comesBy_78 : decode cX12_comesBy 78 = .ok (.iload 5, 2) := by decide +kernel
theorem dX12_comesBy_80 : decode cX12_comesBy 80 = .ok (.iload 7, 2) := by decide +kernel
theorem dX12_comesBy_82 : decode cX12_comesBy 82 = .ok (.iastore, 1) := by decide +kernel
theorem dX12_comesBy_83 : decode cX12_comesBy 83 = .ok (.aload_n 0, 1) := by decide +kernel
theorem dX12_comesBy_84 : decode cX12_comesBy 84 = .ok (.getfield 85, 3) := by decide +kernel
theorem dX12_comesBy_87 : decode cX12_comesBy 87 = .ok (.iload 4, 2) := by decide +kernel
theorem dX12_comesBy_89 : decode cX12_comesBy 89 = .ok (.iload 6, 2) := by decide +kernel
theorem dX12_comesBy_91 : decode cX12_comesBy 91 = .ok (.iastore, 1) := by decide +kernel
theorem dX12_comesBy_92 : decode cX12_comesBy 92 = .ok (.iload 8, 2) := by decide +kernel
theorem dX12_comesBy_94 : decode cX12_comesBy 94 = .ok (.ireturn, 1) := by decide +kernel
theorem dX12_count_0 : decode cX12_count 0 = .ok (.aload_n 0, 1) := by decide +kernel
theorem dX12_count_1 : decode cX12_count 1 = .ok (.iconst 0, 1) := by decide +kernel
theorem dX12_count_2 : decode cX12_count 2 = .ok (.putfield 109, 3) := by decide +kernel
theorem dX12_count_5 : decode cX12_count 5 = .ok (.iload_n 1, 1) := by decide +kernel
theorem dX12_count_6 : decode cX12_count 6 = .ok (.ifCond .ne 10, 3) := by decide +kernel
theorem dX12_count_9 : decode cX12_count 9 = .ok (.aload_n 0, 1) := by decide +kernel
theorem dX12_count_10 : decode cX12_count 10 = .ok (.getfield 220, 3) := by decide +kernel
theorem dX12_count_13 : decode cX12_count 13 = .ok (.goto 28, 3) := by decide +kernel
theorem dX12_count_16 : decode cX12_count 16 = .ok (.iload_n 1, 1) := by decide +kernel
theorem dX12_count_17 : decode cX12_count 17 = .ok (.iconst 1, 1) := by decide +kernel
theorem dX12_count_18 : decode cX12_count 18 = .ok (.if_icmp .ne 10, 3) := by decide +kernel
theorem dX12_count_21 : decode cX12_count 21 = .ok (.aload_n 0, 1) := by decide +kernel
theorem dX12_count_22 : decode cX12_count 22 = .ok (.getfield 112, 3) := by decide +kernel
theorem dX12_count_25 : decode cX12_count 25 = .ok (.goto 16, 3) := by decide +kernel
theorem dX12_count_28 : decode cX12_count 28 = .ok (.iload_n 1, 1) := by decide +kernel
theorem dX12_count_29 : decode cX12_count 29 = .ok (.iconst 2, 1) := by decide +kernel
theorem dX12_count_30 : decode cX12_count 30 = .ok (.if_icmp .ne 10, 3) := by decide +kernel
theorem dX12_count_33 : decode cX12_count 33 = .ok (.aload_n 0, 1) := by decide +kernel
theorem dX12_count_34 : decode cX12_count 34 = .ok (.getfield 214, 3) := by decide +kernel
theorem dX12_count_37 : decode cX12_count 37 = .ok (.goto 4, 3) := by decide +kernel
theorem dX12_count_40 : decode cX12_count 40 = .ok (.iconst (-1), 1) := by decide +kernel
theorem dX12_count_41 : decode cX12_count 41 = .ok (.ireturn, 1) := by decide +kernel
theorem dX12_course_0 : decode cX12_course 0 = .ok (.aload_n 0, 1) := by decide +kernel
theorem dX12_course_1 : decode cX12_course 1 = .ok (.iconst 0, 1) := by decide +kernel
theorem dX12_course_2 : decode cX12_course 2 = .ok (.putfield 109, 3) := by decide +kernel
theorem dX12_course_5 : decode cX12_course 5 = .ok (.aload_n 0, 1) := by decide +kernel
theorem dX12_course_6 : decode cX12_course 6 = .ok (.iload_n 1, 1) := by decide +kernel
theorem dX12_course_7 : decode cX12_course 7 = .ok (.ifCond .ge 7, 3) := by decide +kernel
theorem dX12_course_10 : decode cX12_course 10 = .ok (.iconst 1, 1) := by decide +kernel
theorem dX12_course_11 : decode cX12_course 11 = .ok (.goto 4, 3) := by decide +kernel
theorem dX12_course_14 : decode cX12_course 14 = .ok (.iconst 0, 1) := by decide +kernel
theorem dX12_course_15 : decode cX12_course 15 = .ok (.iconst 1, 1) := by decide +kernel
theorem dX12_course_16 : decode cX12_course 16 = .ok (.iconst 1, 1) := by decide +kernel
theorem dX12_course_17 : decode cX12_course 17 = .ok (.invokevirtual 191, 3) := by decide +kernel
theorem dX12_course_20 : decode cX12_course 20 = .ok (.ifCond .eq 5, 3) := by decide +kernel
theorem dX12_course_23 : decode cX12_course 23 = .ok (.iconst 0, 1) := by decide +kernel
theorem dX12_course_24 : decode cX12_course 24 = .ok (.ireturn, 1) := by decide +kernel
theorem dX12_course_25 : decode cX12_course 25 = .ok (.aload_n 0, 1) := by decide +kernel
theorem dX12_course_26 : decode cX12_course 26 = .ok (.aload_n 0, 1) := by decide +kernel
theorem dX12_course_27 : decode cX12_course 27 = .ok (.getfield 73, 3) := by decide +kernel
theorem dX12_course_30 : decode cX12_course 30 = .ok (.invokevirtual 315, 3) := by decide +kernel
theorem dX12_course_33 : decode cX12_course 33 = .ok (.pop, 1) := by decide +kernel
theorem dX12_course_34 : decode cX12_course 34 = .ok (.iload_n 1, 1) := by decide +kernel
theorem dX12_course_35 : decode cX12_course 35 = .ok (.aload_n 0, 1) := by decide +kernel
theorem dX12_course_36 : decode cX12_course 36 = .ok (.getfield 305, 3) := by decide +kernel
theorem dX12_course_39 : decode cX12_course 39 = .ok (.if_icmp .ge 12, 3) := by decide +kernel
theorem dX12_course_42 : decode cX12_course 42 = .ok (.aload_n 0, 1) := by decide +kernel
theorem dX12_course_43 : decode cX12_course 43 = .ok (.getfield 88, 3) := by decide +kernel
theorem dX12_course_46 : decode cX12_course 46 = .ok (.iload_n 1, 1) := by decide +kernel
theorem dX12_course_47 : decode cX12_course 47 = .ok (.iaload, 1) := by decide +kernel
theorem dX12_course_48 : decode cX12_course 48 = .ok (.goto 4, 3) := by decide +kernel
theorem dX12_course_51 : decode cX12_course 51 = .ok (.iconst (-1), 1) := by decide +kernel
theorem dX12_course_52 : decode cX12_course 52 = .ok (.ireturn, 1) := by decide +kernel
theorem dX12_courseName_0 : decode cX12_courseName 0 = .ok (.lconst 0, 1) := by decide +kernel
theorem dX12_courseName_1 : decode cX12_courseName 1 = .ok (.lstore_n 2, 1) := by decide +kernel
theorem dX12_courseName_2 : decode cX12_courseName 2 = .ok (.aload_n 0, 1) := by decide +kernel
theorem dX12_courseName_3 : decode cX12_courseName 3 = .ok (.aload_n 1, 1) := by decide +kernel
theorem dX12_courseName_4 : decode cX12_courseName 4 = .ok (.invokevirtual 315, 3) := by decide +kernel
theorem dX12_courseName_7 : decode cX12_courseName 7 = .ok (.pop, 1) := by decide +kernel
theorem dX12_courseName_8 : decode cX12_courseName 8 = .ok (.iconst 0, 1) := by decide +kernel
theorem dX12_courseName_9 : decode cX12_courseName 9 = .ok (.istore 4, 2) := by decide +kernel
theorem dX12_courseName_11 : decode cX12_courseName 11 = .ok (.iload 4, 2) := by decide +kernel
theorem dX12_courseName_13 : decode cX12_courseName 13 = .ok (.aload_n 0, 1) := by decide +kernel
theorem dX12_courseName_14 : decode cX12_courseName 14 = .ok (.getfield 305, 3) := by decide +kernel
theorem dX12_courseName_17 : decode cX12_courseName 17 = .ok (.if_icmp .ge 26, 3) := by decide +kernel
theorem dX12_courseName_20 : decode cX12_courseName 20 = .ok (.ldc2_w 361, 3) := by decide +kernel
theorem dX12_courseName_23 : decode cX12_courseName 23 = .ok (.lload_n 2, 1) := by decide +kernel
theorem dX12_courseName_24 : decode cX12_courseName 24 = .ok (.lmul, 1) := by decide +kernel
theorem dX12_courseName_25 : decode cX12_courseName 25 = .ok (.aload_n 0, 1) := by decide +kernel
theorem dX12_courseName_26 : decode cX12_courseName 26 = .ok (.getfield 88, 3) := by decide +kernel
theorem dX12_courseName_29 : decode cX12_courseName 29 = .ok (.iload 4, 2) := by decide +kernel
theorem dX12_courseName_31 : decode cX12_courseName 31 = .ok (.iaload, 1) := by decide +kernel
theorem dX12_courseName_32 : decode cX12_courseName 32 = .ok (.i2l, 1) := by decide +kernel
theorem dX12_courseName_33 : decode cX12_courseName 33 = .ok (.ladd, 1) := by decide +kernel
theorem dX12_courseName_34 : decode cX12_courseName 34 = .ok (.lconst 1, 1) := by decide +kernel
theorem dX12_courseName_35 : decode cX12_courseName 35 = .ok (.ladd, 1) := by decide +kernel
theorem dX12_courseName_36 : decode cX12_courseName 36 = .ok (.lstore_n 2, 1) := by decide +kernel
theorem dX12_courseName_37 : decode cX12_courseName 37 = .ok (.iinc 4 1, 3) := by decide +kernel
theorem dX12_courseName_40 : decode cX12_courseName 40 = .ok (.goto (-29), 3) := by decide +kernel
theorem dX12_courseName_43 : decode cX12_courseName 43 = .ok (.lload_n 2, 1) := by decide +kernel
theorem dX12_courseName_44 : decode cX12_courseName 44 = .ok (.lreturn, 1) := by decide +kernel
theorem dX12_digs_0 : decode cX12_digs 0 = .ok (.aload_n 0, 1) := by decide +kernel
theorem dX12_digs_1 : decode cX12_digs 1 = .ok (.iconst 0, 1) := by decide +kernel
theorem dX12_digs_2 : decode cX12_digs 2 = .ok (.putfield 109, 3) := by decide +kernel
theorem dX12_digs_5 : decode cX12_digs 5 = .ok (.aload_n 0, 1) := by decide +kernel
theorem dX12_digs_6 : decode cX12_digs 6 = .ok (.aload_n 0, 1) := by decide +kernel
theorem dX12_digs_7 : decode cX12_digs 7 = .ok (.iload_n 1, 1) := by decide +kernel
theorem dX12_digs_8 : decode cX12_digs 8 = .ok (.invokevirtual 352, 3) := by decide +kernel
theorem dX12_digs_11 : decode cX12_digs 11 = .ok (.ifCond .eq 11, 3) := by decide +kernel
theorem dX12_digs_14 : decode cX12_digs 14 = .ok (.aload_n 0, 1) := by decide +kernel
theorem dX12_digs_15 : decode cX12_digs 15 = .ok (.iload_n 2, 1) := by decide +kernel
theorem dX12_digs_16 : decode cX12_digs 16 = .ok (.invokevirtual 352, 3) := by decide +kernel
theorem dX12_digs_19 : decode cX12_digs 19 = .ok (.ifCond .ne 7, 3) := by decide +kernel
theorem dX12_digs_22 : decode cX12_digs 22 = .ok (.iconst 1, 1) := by decide +kernel
theorem dX12_digs_23 : decode cX12_digs 23 = .ok (.goto 4, 3) := by decide +kernel
theorem dX12_digs_26 : decode cX12_digs 26 = .ok (.iconst 0, 1) := by decide +kernel
theorem dX12_digs_27 : decode cX12_digs 27 = .ok (.iconst 1, 1) := by decide +kernel
theorem dX12_digs_28 : decode cX12_digs 28 = .ok (.iconst 0, 1) := by decide +kernel
theorem dX12_digs_29 : decode cX12_digs 29 = .ok (.invokevirtual 191, 3) := by decide +kernel
theorem dX12_digs_32 : decode cX12_digs 32 = .ok (.ifCond .eq 5, 3) := by decide +kernel
theorem dX12_digs_35 : decode cX12_digs 35 = .ok (.iconst 0, 1) := by decide +kernel
theorem dX12_digs_36 : decode cX12_digs 36 = .ok (.ireturn, 1) := by decide +kernel
theorem dX12_digs_37 : decode cX12_digs 37 = .ok (.aload_n 0, 1) := by decide +kernel
theorem dX12_digs_38 : decode cX12_digs 38 = .ok (.iload_n 1, 1) := by decide +kernel
theorem dX12_digs_39 : decode cX12_digs 39 = .ok (.iload_n 2, 1) := by decide +kernel
theorem dX12_digs_40 : decode cX12_digs 40 = .ok (.invokevirtual 267, 3) := by decide +kernel
theorem dX12_digs_43 : decode cX12_digs 43 = .ok (.istore_n 3, 1) := by decide +kernel
theorem dX12_digs_44 : decode cX12_digs 44 = .ok (.iconst 0, 1) := by decide +kernel
theorem dX12_digs_45 : decode cX12_digs 45 = .ok (.istore 4, 2) := by decide +kernel
theorem dX12_digs_47 : decode cX12_digs 47 = .ok (.iload_n 3, 1) := by decide +kernel
theorem dX12_digs_48 : decode cX12_digs 48 = .ok (.iconst (-1), 1) := by decide +kernel
theorem dX12_digs_49 : decode cX12_digs 49 = .ok (.if_icmp .eq 45, 3) := by decide +kernel
theorem dX12_digs_52 : decode cX12_digs 52 = .ok (.aload_n 0, 1) := by decide +kernel
theorem dX12_digs_53 : decode cX12_digs 53 = .ok (.getfield 73, 3) := by decide +kernel
theorem dX12_digs_56 : decode cX12_digs 56 = .ok (.bipush 78, 2) := by decide +kernel
theorem dX12_digs_58 : decode cX12_digs 58 = .ok (.iload_n 3, 1) := by decide +kernel
theorem dX12_digs_59 : decode cX12_digs 59 = .ok (.iadd, 1) := by decide +kernel
theorem dX12_digs_60 : decode cX12_digs 60 = .ok (.iaload, 1) := by decide +kernel
theorem dX12_digs_61 : decode cX12_digs 61 = .ok (.iload 4, 2) := by decide +kernel
theorem dX12_digs_63 : decode cX12_digs 63 = .ok (.iadd, 1) := by decide +kernel
theorem dX12_digs_64 : decode cX12_digs 64 = .ok (.bipush 9, 2) := by decide +kernel
theorem dX12_digs_66 : decode cX12_digs 66 = .ok (.if_icmp .gt 28, 3) := by decide +kernel
theorem dX12_digs_69 : decode cX12_digs 69 = .ok (.aload_n 0, 1) := by decide +kernel
theorem dX12_digs_70 : decode cX12_digs 70 = .ok (.aload_n 0, 1) := by decide +kernel
theorem dX12_digs_71 : decode cX12_digs 71 = .ok (.getfield 73, 3) := by decide +kernel
theorem dX12_digs_74 : decode cX12_digs 74 = .ok (.iload_n 1, 1) := by decide +kernel
theorem dX12_digs_75 : decode cX12_digs 75 = .ok (.iload_n 3, 1) := by decide +kernel
theorem dX12_digs_76 : decode cX12_digs 76 = .ok (.iload 4, 2) := by decide +kernel
theorem dX12_digs_78 : decode cX12_digs 78 = .ok (.invokevirtual 297, 3) := by decide +kernel
theorem dX12_digs_81 : decode cX12_digs 81 = .ok (.iload_n 2, 1) := by decide +kernel
theorem dX12_digs_82 : decode cX12_digs 82 = .ok (.if_icmp .ne 6, 3) := by decide +kernel
theorem dX12_digs_85 : decode cX12_digs 85 = .ok (.iload 4, 2) := by decide +kernel
theorem dX12_digs_87 : decode cX12_digs 87 = .ok (.ireturn, 1) := by decide +kernel
theorem dX12_digs_88 : decode cX12_digs 88 = .ok (.iinc 4 1, 3) := by decide +kernel
theorem dX12_digs_91 : decode cX12_digs 91 = .ok (.goto (-44), 3) := by decide +kernel
theorem dX12_digs_94 : decode cX12_digs 94 = .ok (.iconst (-1), 1) := by decide +kernel
theorem dX12_digs_95 : decode cX12_digs 95 = .ok (.ireturn, 1) := by decide +kernel
theorem dX12_ditch_0 : decode cX12_ditch 0 = .ok (.aload_n 0, 1) := by decide +kernel
theorem dX12_ditch_1 : decode cX12_ditch 1 = .ok (.iconst 0, 1) := by decide +kernel
theorem dX12_ditch_2 : decode cX12_ditch 2 = .ok (.putfield 109, 3) := by decide +kernel
theorem dX12_ditch_5 : decode cX12_ditch 5 = .ok (.aload_n 0, 1) := by decide +kernel
theorem dX12_ditch_6 : decode cX12_ditch 6 = .ok (.iload_n 1, 1) := by decide +kernel
theorem dX12_ditch_7 : decode cX12_ditch 7 = .ok (.iconst 0, 1) := by decide +kernel
theorem dX12_ditch_8 : decode cX12_ditch 8 = .ok (.aload_n 0, 1) := by decide +kernel
theorem dX12_ditch_9 : decode cX12_ditch 9 = .ok (.getfield 23, 3) := by decide +kernel
theorem dX12_ditch_12 : decode cX12_ditch 12 = .ok (.iconst 1, 1) := by decide +kernel
theorem dX12_ditch_13 : decode cX12_ditch 13 = .ok (.iaload, 1) := by decide +kernel
theorem dX12_ditch_14 : decode cX12_ditch 14 = .ok (.iconst 1, 1) := by decide +kernel
theorem dX12_ditch_15 : decode cX12_ditch 15 = .ok (.isub, 1) := by decide +kernel
theorem dX12_ditch_16 : decode cX12_ditch 16 = .ok (.invokestatic 143, 3) := by decide +kernel
theorem dX12_ditch_19 : decode cX12_ditch 19 = .ok (.ifCond .ne 7, 3) := by decide +kernel
theorem dX12_ditch_22 : decode cX12_ditch 22 = .ok (.iconst 1, 1) := by decide +kernel
theorem dX12_ditch_23 : decode cX12_ditch 23 = .ok (.goto 4, 3) := by decide +kernel
theorem dX12_ditch_26 : decode cX12_ditch 26 = .ok (.iconst 0, 1) := by decide +kernel
theorem dX12_ditch_27 : decode cX12_ditch 27 = .ok (.iconst 1, 1) := by decide +kernel
theorem dX12_ditch_28 : decode cX12_ditch 28 = .ok (.iconst 0, 1) := by decide +kernel
theorem dX12_ditch_29 : decode cX12_ditch 29 = .ok (.invokevirtual 191, 3) := by decide +kernel
theorem dX12_ditch_32 : decode cX12_ditch 32 = .ok (.ifCond .ne 26, 3) := by decide +kernel
theorem dX12_ditch_35 : decode cX12_ditch 35 = .ok (.aload_n 0, 1) := by decide +kernel
theorem dX12_ditch_36 : decode cX12_ditch 36 = .ok (.iload_n 2, 1) := by decide +kernel
theorem dX12_ditch_37 : decode cX12_ditch 37 = .ok (.iconst 0, 1) := by decide +kernel
theorem dX12_ditch_38 : decode cX12_ditch 38 = .ok (.iconst 3, 1) := by decide +kernel
theorem dX12_ditch_39 : decode cX12_ditch 39 = .ok (.invokestatic 143, 3) := by decide +kernel
theorem dX12_ditch_42 : decode cX12_ditch 42 = .ok (.ifCond .ne 7, 3) := by decide +kernel
theorem dX12_ditch_45 : decode cX12_ditch 45 = .ok (.iconst 1, 1) := by decide +kernel
theorem dX12_ditch_46 : decode cX12_ditch 46 = .ok (.goto 4, 3) := by decide +kernel
theorem dX12_ditch_49 : decode cX12_ditch 49 = .ok (.iconst 0, 1) := by decide +kernel
theorem dX12_ditch_50 : decode cX12_ditch 50 = .ok (.iconst 2, 1) := by decide +kernel
theorem dX12_ditch_51 : decode cX12_ditch 51 = .ok (.iconst 1, 1) := by decide +kernel
theorem dX12_ditch_52 : decode cX12_ditch 52 = .ok (.invokevirtual 191, 3) := by decide +kernel
theorem dX12_ditch_55 : decode cX12_ditch 55 = .ok (.ifCond .eq 5, 3) := by decide +kernel
theorem dX12_ditch_58 : decode cX12_ditch 58 = .ok (.iconst 0, 1) := by decide +kernel
theorem dX12_ditch_59 : decode cX12_ditch 59 = .ok (.ireturn, 1) := by decide +kernel
theorem dX12_ditch_60 : decode cX12_ditch 60 = .ok (.iload_n 2, 1) := by decide +kernel
theorem dX12_ditch_61 : decode cX12_ditch 61 = .ok (.iconst 2, 1) := by decide +kernel
theorem dX12_ditch_62 : decode cX12_ditch 62 = .ok (.if_icmp .ge 14, 3) := by decide +kernel
theorem dX12_ditch_65 : decode cX12_ditch 65 = .ok (.aload_n 0, 1) := by decide +kernel
theorem dX12_ditch_66 : decode cX12_ditch 66 = .ok (.getfield 37, 3) := by decide +kernel
theorem dX12_ditch_69 : decode cX12_ditch 69 = .ok (.iload_n 1, 1) := by decide +kernel
theorem dX12_ditch_70 : decode cX12_ditch 70 = .ok (.aaload, 1) := by decide +kernel
theorem dX12_ditch_71 : decode cX12_ditch 71 = .ok (.iload_n 2, 1) := by decide +kernel
theorem dX12_ditch_72 : decode cX12_ditch 72 = .ok (.iaload, 1) := by decide +kernel
theorem dX12_ditch_73 : decode cX12_ditch 73 = .ok (.goto 29, 3) := by decide +kernel
theorem dX12_ditch_76 : decode cX12_ditch 76 = .ok (.iload_n 2, 1) := by decide +kernel
theorem dX12_ditch_77 : decode cX12_ditch 77 = .ok (.iconst 2, 1) := by decide +kernel
theorem dX12_ditch_78 : decode cX12_ditch 78 = .ok (.if_icmp .ne 15, 3) := by decide +kernel
theorem dX12_ditch_81 : decode cX12_ditch 81 = .ok (.aload_n 0, 1) := by decide +kernel
theorem dX12_ditch_82 : decode cX12_ditch 82 = .ok (.getfield 73, 3) := by decide +kernel
theorem dX12_ditch_85 : decode cX12_ditch 85 = .ok (.bipush 78, 2) := by decide +kernel
theorem dX12_ditch_87 : decode cX12_ditch 87 = .ok (.iload_n 1, 1) := by decide +kernel
theorem dX12_ditch_88 : decode cX12_ditch 88 = .ok (.iadd, 1) := by decide +kernel
theorem dX12_ditch_89 : decode cX12_ditch 89 = .ok (.iaload, 1) := by decide +kernel
theorem dX12_ditch_90 : decode cX12_ditch 90 = .ok (.goto 12, 3) := by decide +kernel
theorem dX12_ditch_93 : decode cX12_ditch 93 = .ok (.aload_n 0, 1) := by decide +kernel
theorem dX12_ditch_94 : decode cX12_ditch 94 = .ok (.getfield 73, 3) := by decide +kernel
theorem dX12_ditch_97 : decode cX12_ditch 97 = .ok (.bipush 94, 2) := by decide +kernel
theorem dX12_ditch_99 : decode cX12_ditch 99 = .ok (.iload_n 1, 1) := by decide +kernel
theorem dX12_ditch_100 : decode cX12_ditch 100 = .ok (.iadd, 1) := by decide +kernel
theorem dX12_ditch_101 : decode cX12_ditch 101 = .ok (.iaload, 1) := by decide +kernel
theorem dX12_ditch_102 : decode cX12_ditch 102 = .ok (.ireturn, 1) := by decide +kernel
theorem dX12_ditchesOf_0 : decode cX12_ditchesOf 0 = .ok (.iconst 0, 1) := by decide +kernel
theorem dX12_ditchesOf_1 : decode cX12_ditchesOf 1 = .ok (.istore_n 2, 1) := by decide +kernel
theorem dX12_ditchesOf_2 : decode cX12_ditchesOf 2 = .ok (.iconst 0, 1) := by decide +kernel
theorem dX12_ditchesOf_3 : decode cX12_ditchesOf 3 = .ok (.istore_n 3, 1) := by decide +kernel
theorem dX12_ditchesOf_4 : decode cX12_ditchesOf 4 = .ok (.iload_n 3, 1) := by decide +kernel
theorem dX12_ditchesOf_5 : decode cX12_ditchesOf 5 = .ok (.aload_n 0, 1) := by decide +kernel
theorem dX12_ditchesOf_6 : decode cX12_ditchesOf 6 = .ok (.getfield 23, 3) := by decide +kernel
theorem dX12_ditchesOf_9 : decode cX12_ditchesOf 9 = .ok (.iconst 0, 1) := by decide +kernel
theorem dX12_ditchesOf_10 : decode cX12_ditchesOf 10 = .ok (.iaload, 1) := by decide +kernel
theorem dX12_ditchesOf_11 : decode cX12_ditchesOf 11 = .ok (.if_icmp .ge 29, 3) := by decide +kernel
theorem dX12_ditchesOf_14 : decode cX12_ditchesOf 14 = .ok (.iload_n 2, 1) := by decide +kernel
theorem dX12_ditchesOf_15 : decode cX12_ditchesOf 15 = .ok (.aload_n 0, 1) := by decide +kernel
theorem dX12_ditchesOf_16 : decode cX12_ditchesOf 16 = .ok (.iload_n 1, 1) := by decide +kernel
theorem dX12_ditchesOf_17 : decode cX12_ditchesOf 17 = .ok (.iload_n 3, 1) := by decide +kernel
theorem dX12_ditchesOf_18 : decode cX12_ditchesOf 18 = .ok (.invokevirtual 267, 3) := by decide +kernel
theorem dX12_ditchesOf_21 : decode cX12_ditchesOf 21 = .ok (.iconst (-1), 1) := by decide +kernel
theorem dX12_ditchesOf_22 : decode cX12_ditchesOf 22 = .ok (.if_icmp .ne 7, 3) := by decide +kernel
theorem dX12_ditchesOf_25 : decode cX12_ditchesOf 25 = .ok (.iconst 0, 1) := by decide +kernel
theorem dX12_ditchesOf_26 : decode cX12_ditchesOf 26 = .ok (.goto 6, 3) := by decide +kernel
theorem dX12_ditchesOf_29 : decode cX12_ditchesOf 29 = .ok (.iconst 1, 1) := by decide +kernel
theorem dX12_ditchesOf_30 : decode cX12_ditchesOf 30 = .ok (.iload_n 3, 1) := by decide +kernel
theorem dX12_ditchesOf_31 : decode cX12_ditchesOf 31 = .ok (.ishl, 1) := by decide +kernel
theorem dX12_ditchesOf_32 : decode cX12_ditchesOf 32 = .ok (.ior, 1) := by decide +kernel
theorem dX12_ditchesOf_33 : decode cX12_ditchesOf 33 = .ok (.istore_n 2, 1) := by decide +kernel
theorem dX12_ditchesOf_34 : decode cX12_ditchesOf 34 = .ok (.iinc 3 1, 3) := by decide +kernel
theorem dX12_ditchesOf_37 : decode cX12_ditchesOf 37 = .ok (.goto (-33), 3) := by decide +kernel
theorem dX12_ditchesOf_40 : decode cX12_ditchesOf 40 = .ok (.iload_n 2, 1) := by decide +kernel
theorem dX12_ditchesOf_41 : decode cX12_ditchesOf 41 = .ok (.ireturn, 1) := by decide +kernel
theorem dX12_fault_0 : decode cX12_fault 0 = .ok (.aload_n 0, 1) := by decide +kernel
theorem dX12_fault_1 : decode cX12_fault 1 = .ok (.iconst 0, 1) := by decide +kernel
theorem dX12_fault_2 : decode cX12_fault 2 = .ok (.putfield 109, 3) := by decide +kernel
theorem dX12_fault_5 : decode cX12_fault 5 = .ok (.aload_n 0, 1) := by decide +kernel
theorem dX12_fault_6 : decode cX12_fault 6 = .ok (.getfield 9, 3) := by decide +kernel
theorem dX12_fault_9 : decode cX12_fault 9 = .ok (.ireturn, 1) := by decide +kernel
theorem dX12_feed_0 : decode cX12_feed 0 = .ok (.aload_n 0, 1) := by decide +kernel
theorem dX12_feed_1 : decode cX12_feed 1 = .ok (.iconst 0, 1) := by decide +kernel
theorem dX12_feed_2 : decode cX12_feed 2 = .ok (.putfield 109, 3) := by decide +kernel
theorem dX12_feed_5 : decode cX12_feed 5 = .ok (.aload_n 0, 1) := by decide +kernel
theorem dX12_feed_6 : decode cX12_feed 6 = .ok (.getfield 112, 3) := by decide +kernel
theorem dX12_feed_9 : decode cX12_feed 9 = .ok (.bipush 20, 2) := by decide +kernel
theorem dX12_feed_11 : decode cX12_feed 11 = .ok (.iadd, 1) := by decide +kernel
theorem dX12_feed_12 : decode cX12_feed 12 = .ok (.sipush 600, 3) := by decide +kernel
theorem dX12_feed_15 : decode cX12_feed 15 = .ok (.if_icmp .le 5, 3) := by decide +kernel
theorem dX12_feed_18 : decode cX12_feed 18 = .ok (.iconst (-1), 1) := by decide +kernel
theorem dX12_feed_19 : decode cX12_feed 19 = .ok (.ireturn, 1) := by decide +kernel
theorem dX12_feed_20 : decode cX12_feed 20 = .ok (.iconst 0, 1) := by decide +kernel
theorem dX12_feed_21 : decode cX12_feed 21 = .ok (.istore 6, 2) := by decide +kernel
theorem dX12_feed_23 : decode cX12_feed 23 = .ok (.iload 6, 2) := by decide +kernel
theorem dX12_feed_25 : decode cX12_feed 25 = .ok (.bipush 20, 2) := by decide +kernel
theorem dX12_feed_27 : decode cX12_feed 27 = .ok (.if_icmp .ge 93, 3) := by decide +kernel
theorem dX12_feed_30 : decode cX12_feed 30 = .ok (.iload 6, 2) := by decide +kernel
theorem dX12_feed_32 : decode cX12_feed 32 = .ok (.iconst 4, 1) := by decide +kernel
theorem dX12_feed_33 : decode cX12_feed 33 = .ok (.if_icmp .ge 7, 3) := by decide +kernel
theorem dX12_feed_36 : decode cX12_feed 36 = .ok (.iload_n 1, 1) := by decide +kernel
theorem dX12_feed_37 : decode cX12_feed 37 = .ok (.goto 39, 3) := by decide +kernel
theorem dX12_feed_40 : decode cX12_feed 40 = .ok (.iload 6, 2) := by decide +kernel
theorem dX12_feed_42 : decode cX12_feed 42 = .ok (.bipush 8, 2) := by decide +kernel
theorem dX12_feed_44 : decode cX12_feed 44 = .ok (.if_icmp .ge 7, 3) := by decide +kernel
theorem dX12_feed_47 : decode cX12_feed 47 = .ok (.iload_n 2, 1) := by decide +kernel
theorem dX12_feed_48 : decode cX12_feed 48 = .ok (.goto 28, 3) := by decide +kernel
theorem dX12_feed_51 : decode cX12_feed 51 = .ok (.iload 6, 2) := by decide +kernel
theorem dX12_feed_53 : decode cX12_feed 53 = .ok (.bipush 12, 2) := by decide +kernel
theorem dX12_feed_55 : decode cX12_feed 55 = .ok (.if_icmp .ge 7, 3) := by decide +kernel
theorem dX12_feed_58 : decode cX12_feed 58 = .ok (.iload_n 3, 1) := by decide +kernel
theorem dX12_feed_59 : decode cX12_feed 59 = .ok (.goto 17, 3) := by decide +kernel
theorem dX12_feed_62 : decode cX12_feed 62 = .ok (.iload 6, 2) := by decide +kernel
theorem dX12_feed_64 : decode cX12_feed 64 = .ok (.bipush 16, 2) := by decide +kernel
theorem dX12_feed_66 : decode cX12_feed 66 = .ok (.if_icmp .ge 8, 3) := by decide +kernel
theorem dX12_feed_69 : decode cX12_feed 69 = .ok (.iload 4, 2) := by decide +kernel
theorem dX12_feed_71 : decode cX12_feed 71 = .ok (.goto 5, 3) := by decide +kernel
theorem dX12_feed_74 : decode cX12_feed 74 = .ok (.iload 5, 2) := by decide +kernel
theorem dX12_feed_76 : decode cX12_feed 76 = .ok (.istore 7, 2) := by decide +kernel
theorem dX12_feed_78 : decode cX12_feed 78 = .ok (.aload_n 0, 1) := by decide +kernel
theorem dX12_feed_79 : decode cX12_feed 79 = .ok (.getfield 13, 3) := by decide +kernel
theorem dX12_feed_82 : decode cX12_feed 82 = .ok (.aload_n 0, 1) := by decide +kernel
theorem dX12_feed_83 : decode cX12_feed 83 = .ok (.getfield 112, 3) := by decide +kernel
theorem dX12_feed_86 : decode cX12_feed 86 = .ok (.iload 7, 2) := by decide +kernel
theorem dX12_feed_88 : decode cX12_feed 88 = .ok (.bipush 24, 2) := by decide +kernel
theorem dX12_feed_90 : decode cX12_feed 90 = .ok (.bipush 8, 2) := by decide +kernel
theorem dX12_feed_92 : decode cX12_feed 92 = .ok (.iload 6, 2) := by decide +kernel
theorem dX12_feed_94 : decode cX12_feed 94 = .ok (.iconst 4, 1) := by decide +kernel
theorem dX12_feed_95 : decode cX12_feed 95 = .ok (.irem, 1) := by decide +kernel
theorem dX12_feed_96 : decode cX12_feed 96 = .ok (.imul, 1) := by decide +kernel
theorem dX12_feed_97 : decode cX12_feed 97 = .ok (.isub, 1) := by decide +kernel
theorem dX12_feed_98 : decode cX12_feed 98 = .ok (.ishr, 1) := by decide +kernel
theorem dX12_feed_99 : decode cX12_feed 99 = .ok (.sipush 255, 3) := by decide +kernel
theorem dX12_feed_102 : decode cX12_feed 102 = .ok (.iand, 1) := by decide +kernel
theorem dX12_feed_103 : decode cX12_feed 103 = .ok (.iastore, 1) := by decide +kernel
theorem dX12_feed_104 : decode cX12_feed 104 = .ok (.aload_n 0, 1) := by decide +kernel
theorem dX12_feed_105 : decode cX12_feed 105 = .ok (.dup, 1) := by decide +kernel
theorem dX12_feed_106 : decode cX12_feed 106 = .ok (.getfield 112, 3) := by decide +kernel
theorem dX12_feed_109 : decode cX12_feed 109 = .ok (.iconst 1, 1) := by decide +kernel
theorem dX12_feed_110 : decode cX12_feed 110 = .ok (.iadd, 1) := by decide +kernel
theorem dX12_feed_111 : decode cX12_feed 111 = .ok (.putfield 112, 3) := by decide +kernel
theorem dX12_feed_114 : decode cX12_feed 114 = .ok (.iinc 6 1, 3) := by decide +kernel
theorem dX12_feed_117 : decode cX12_feed 117 = .ok (.goto (-94), 3) := by decide +kernel
theorem dX12_feed_120 : decode cX12_feed 120 = .ok (.aload_n 0, 1) := by decide +kernel
theorem dX12_feed_121 : decode cX12_feed 121 = .ok (.getfield 112, 3) := by decide +kernel
theorem dX12_feed_124 : decode cX12_feed 124 = .ok (.ireturn, 1) := by decide +kernel
theorem dX12_givenBy_0 : decode cX12_givenBy 0 = .ok (.iconst 0, 1) := by decide +kernel
theorem dX12_givenBy_1 : decode cX12_givenBy 1 = .ok (.istore_n 3, 1) := by decide +kernel
theorem dX12_givenBy_2 : decode cX12_givenBy 2 = .ok (.iconst 0, 1) := by decide +kernel
theorem dX12_givenBy_3 : decode cX12_givenBy 3 = .ok (.istore 4, 2) := by decide +kernel
theorem dX12_givenBy_5 : decode cX12_givenBy 5 = .ok (.iload 4, 2) := by decide +kernel
theorem dX12_givenBy_7 : decode cX12_givenBy 7 = .ok (.aload_n 0, 1) := by decide +kernel
theorem dX12_givenBy_8 : decode cX12_givenBy 8 = .ok (.getfield 23, 3) := by decide +kernel
theorem dX12_givenBy_11 : decode cX12_givenBy 11 = .ok (.iconst 2, 1) := by decide +kernel
theorem dX12_givenBy_12 : decode cX12_givenBy 12 = .ok (.iaload, 1) := by decide +kernel
theorem dX12_givenBy_13 : decode cX12_givenBy 13 = .ok (.if_icmp .ge 38, 3) := by decide +kernel
theorem dX12_givenBy_16 : decode cX12_givenBy 16 = .ok (.iload_n 3, 1) := by decide +kernel
theorem dX12_givenBy_17 : decode cX12_givenBy 17 = .ok (.iload_n 1, 1) := by decide +kernel
theorem dX12_givenBy_18 : decode cX12_givenBy 18 = .ok (.iload 4, 2) := by decide +kernel
theorem dX12_givenBy_20 : decode cX12_givenBy 20 = .ok (.invokestatic 282, 3) := by decide +kernel
theorem dX12_givenBy_23 : decode cX12_givenBy 23 = .ok (.ifCond .eq 19, 3) := by decide +kernel
theorem dX12_givenBy_26 : decode cX12_givenBy 26 = .ok (.iload_n 2, 1) := by decide +kernel
theorem dX12_givenBy_27 : decode cX12_givenBy 27 = .ok (.aload_n 0, 1) := by decide +kernel
theorem dX12_givenBy_28 : decode cX12_givenBy 28 = .ok (.getfield 43, 3) := by decide +kernel
theorem dX12_givenBy_31 : decode cX12_givenBy 31 = .ok (.iload 4, 2) := by decide +kernel
theorem dX12_givenBy_33 : decode cX12_givenBy 33 = .ok (.aaload, 1) := by decide +kernel
theorem dX12_givenBy_34 : decode cX12_givenBy 34 = .ok (.iconst 0, 1) := by decide +kernel
theorem dX12_givenBy_35 : decode cX12_givenBy 35 = .ok (.iaload, 1) := by decide +kernel
theorem dX12_givenBy_36 : decode cX12_givenBy 36 = .ok (.invokestatic 254, 3) := by decide +kernel
theorem dX12_givenBy_39 : decode cX12_givenBy 39 = .ok (.goto 4, 3) := by decide +kernel
theorem dX12_givenBy_42 : decode cX12_givenBy 42 = .ok (.iconst 0, 1) := by decide +kernel
theorem dX12_givenBy_43 : decode cX12_givenBy 43 = .ok (.iadd, 1) := by decide +kernel
theorem dX12_givenBy_44 : decode cX12_givenBy 44 = .ok (.istore_n 3, 1) := by decide +kernel
theorem dX12_givenBy_45 : decode cX12_givenBy 45 = .ok (.iinc 4 1, 3) := by decide +kernel
theorem dX12_givenBy_48 : decode cX12_givenBy 48 = .ok (.goto (-43), 3) := by decide +kernel
theorem dX12_givenBy_51 : decode cX12_givenBy 51 = .ok (.iload_n 3, 1) := by decide +kernel
theorem dX12_givenBy_52 : decode cX12_givenBy 52 = .ok (.ireturn, 1) := by decide +kernel
noncomputable def r_X12_bad_j26 (m : Mem) : Option (Bool × Mem) :=
  if (m 12 0 0) = 0 then (some (false, m)) else (some (true, m))
set_option maxHeartbeats 4000000 in
set_option maxRecDepth 20000 in
theorem ok_X12_bad_j26 (m : Mem) {z : Bool} {m' : Mem} (h : r_X12_bad_j26 m = some (z, m')) : Xj RX12 cX12_bad 4 (some .boolean) 1 0 0 0 0 0 26 [(0, vR 12 0)] [] m (oB z) m' := by
  unfold r_X12_bad_j26 at h
  refine xj_aload_n 0 dX12_bad_26 rfl ?_
  refine xg_getI (x := (m 12 0 0)) dX12_bad_27 fl_X12_109 rfl rfl ?_
  refine xj_if_eq (tgt := 37) dX12_bad_30 (by decide) (fun c2 => ?_) (fun c2 => ?_)
  · rw [if_pos c2] at h
    refine xj_iconst (z := 0) dX12_bad_37 (by decide) ?_
    cases h
    exact xj_ireturn dX12_bad_38 rfl (by decide) (by decide)
  · rw [if_neg c2] at h
    refine xj_iconst (z := 1) dX12_bad_33 (by decide) ?_
    refine xj_goto (tgt := 38) dX12_bad_34 (by decide) ?_
    cases h
    exact xj_ireturn dX12_bad_38 rfl (by decide) (by decide)
noncomputable def r_X12_bad (x1 : Int32) (x2 : Int32) (x3 : Int32) (m : Mem) : Option (Bool × Mem) :=
  if x1 = 0 then (r_X12_bad_j26 m) else (if (m 12 0 0) = 0 then (if inb x3 2 = true then (r_X12_bad_j26 (wr (wr m 12 0 0 x2) 50 0 x3.toNatClampNeg ((m 50 0 x3.toNatClampNeg) + 1))) else none) else (r_X12_bad_j26 m))
set_option maxHeartbeats 4000000 in
set_option maxRecDepth 20000 in
theorem ok_X12_bad (x1 : Int32) (x2 : Int32) (x3 : Int32) (m : Mem) {z : Bool} {m' : Mem} (h : r_X12_bad x1 x2 x3 m = some (z, m')) : Mt yX12_bad cX12_bad 4 (some .boolean) 1 0 0 0 [vR 12 0, vI x1, vI x2, vI x3] m (oB z) m' := by
  refine Mt.of (by decide) (Nat.le_of_ble_eq_true rfl) (by decide +kernel) (hhF_ne (by decide)) ?_
  show Xj RX12 cX12_bad 4 (some .boolean) 1 0 0 0 0 0 0 [(0, vR 12 0), (1, vI x1), (2, vI x2), (3, vI x3)] [] m (oB z) m'
  unfold r_X12_bad at h
  refine xj_iload_n 1 dX12_bad_0 rfl ?_
  refine xj_if_eq (tgt := 26) dX12_bad_1 (by decide) (fun c1 => ?_) (fun c1 => ?_)
  · rw [if_pos c1] at h
    refine xj_pick (ls' := [(0, vR 12 0)]) [0] rfl ?_
    exact ok_X12_bad_j26 m h 
  · rw [if_neg c1] at h
    refine xj_aload_n 0 dX12_bad_4 rfl ?_
    refine xg_getI (x := (m 12 0 0)) dX12_bad_5 fl_X12_109 rfl rfl ?_
    refine xj_if_ne (tgt := 26) dX12_bad_8 (by decide) (fun c3 => ?_) (fun c3 => ?_)
    · rw [if_neg c3] at h
      refine xj_pick (ls' := [(0, vR 12 0)]) [0] rfl ?_
      exact ok_X12_bad_j26 m h 
    · rw [if_pos c3] at h
      refine xj_aload_n 0 dX12_bad_11 rfl ?_
      refine xj_iload_n 2 dX12_bad_12 rfl ?_
      refine xj_putI dX12_bad_13 fw_X12_109 rfl ?_
      refine xj_aload_n 0 dX12_bad_16 rfl ?_
      refine xg_getR (k' := 50) (i' := 0) dX12_bad_17 fl_X12_17 rfl ?_
      refine xj_iload_n 3 dX12_bad_20 rfl ?_
      refine xj_dup2 dX12_bad_21 rfl rfl ?_
      by_cases c4 : inb x3 2 = true
      case neg => rw [if_neg c4] at h; cases h
      rw [if_pos c4] at h
      refine xg_iald (z := (m 50 0 x3.toNatClampNeg)) (n := x3.toNatClampNeg) dX12_bad_22 rfl (by decide) (inb_in c4) rfl rfl ?_
      refine xj_iconst (z := 1) dX12_bad_23 (by decide) ?_
      refine xj_iadd dX12_bad_24 ?_
      refine xg_iast (n := x3.toNatClampNeg) dX12_bad_25 rfl (by decide) (inb_in c4) rfl ?_
      refine xj_pick (ls' := [(0, vR 12 0)]) [0] rfl ?_
      exact ok_X12_bad_j26 (wr (wr m 12 0 0 x2) 50 0 x3.toNatClampNeg ((m 50 0 x3.toNatClampNeg) + 1)) h 
noncomputable def r_X12_endOf (i1 : Nat) (m : Mem) : Option (Int32 × Mem) :=
  bd2 (r_X12_courseOf i1 m) fun z3 m2 => (if (m2 12 0 42) = 0 then (some ((-1), m2)) else (if inb ((m2 12 0 42) - 1) 12 = true then (some ((m2 58 0 (((m2 12 0 42) - 1).toNatClampNeg)), m2)) else none))
set_option maxHeartbeats 4000000 in
set_option maxRecDepth 20000 in
theorem ok_X12_endOf (i1 : Nat) (m : Mem) {z : Int32} {m' : Mem} (h : r_X12_endOf i1 m = some (z, m')) : Mt yX12_endOf cX12_endOf 2 (some .int) 10 220 0 0 [vR 12 0, vR 60 i1] m (oI z) m' := by
  refine Mt.of (by decide) (Nat.le_of_ble_eq_true rfl) (by decide +kernel) (hhF_ne (by decide)) ?_
  show Xj RX12 cX12_endOf 2 (some .int) 10 220 0 0 0 0 0 [(0, vR 12 0), (1, vR 60 i1)] [] m (oI z) m'
  unfold r_X12_endOf at h
  refine xj_aload_n 0 dX12_endOf_0 rfl ?_
  refine xj_aload_n 1 dX12_endOf_1 rfl ?_
  obtain ⟨z3, m2, e1, h⟩ := bd2_some h
  refine xc_Vi0 (st := []) (ok_X12_courseOf i1 m e1) dX12_endOf_2 cv_X12_315 rfl rfl (Nat.le_of_ble_eq_true rfl) (by decide) (by decide) (by decide) (by decide) ?_
  refine xj_pop dX12_endOf_5 rfl ?_
  refine xj_aload_n 0 dX12_endOf_6 rfl ?_
  refine xg_getI (x := (m2 12 0 42)) dX12_endOf_7 fl_X12_305 rfl rfl ?_
  refine xj_if_ne (tgt := 17) dX12_endOf_10 (by decide) (fun c4 => ?_) (fun c4 => ?_)
  · rw [if_neg c4] at h
    refine xj_aload_n 0 dX12_endOf_17 rfl ?_
    refine xg_getR (k' := 58) (i' := 0) dX12_endOf_18 fl_X12_88 rfl ?_
    refine xj_aload_n 0 dX12_endOf_21 rfl ?_
    refine xg_getI (x := (m2 12 0 42)) dX12_endOf_22 fl_X12_305 rfl rfl ?_
    refine xj_iconst (z := 1) dX12_endOf_25 (by decide) ?_
    refine xj_isub dX12_endOf_26 ?_
    by_cases c5 : inb ((m2 12 0 42) - 1) 12 = true
    case neg => rw [if_neg c5] at h; cases h
    rw [if_pos c5] at h
    refine xg_iald (z := (m2 58 0 (((m2 12 0 42) - 1).toNatClampNeg))) (n := ((m2 12 0 42) - 1).toNatClampNeg) dX12_endOf_27 rfl (by decide) (inb_in c5) rfl rfl ?_
    cases h
    exact xj_ireturn dX12_endOf_28 rfl (by decide) (by decide)
  · rw [if_pos c4] at h
    refine xj_iconst (z := (-1)) dX12_endOf_13 (by decide) ?_
    refine xj_goto (tgt := 28) dX12_endOf_14 (by decide) ?_
    cases h
    exact xj_ireturn dX12_endOf_28 rfl (by decide) (by decide)
noncomputable def r_X12_ahead_b53 (x1 : Int32) (x2 : Int32) (x3 : Int32) (m : Mem) : Option ((Int32 × Mem) ⊕ (Mem)) :=
  if x1 ≤ x3 then (some (Sum.inr m)) else (bd1 (r_X12_dayEnds 1 m) fun m11 => (some (Sum.inl (x3 + 1, m11))))
set_option maxHeartbeats 4000000 in
set_option maxRecDepth 20000 in
theorem ok_X12_ahead_b53 (x1 : Int32) (x2 : Int32) (x3 : Int32) (m : Mem) {r : (Int32 × Mem) ⊕ (Mem)} (h : r_X12_ahead_b53 x1 x2 x3 m = some r) {o : Ou} {M' : Mem} (kb : ∀ (x3' : Int32) (m'' : Mem), r = Sum.inl (x3', m'') → Xj RX12 cX12_ahead 4 (some .int) 11 245 0 0 0 0 53 [(0, vR 12 0), (1, vI x1), (2, vI x2), (3, vI x3')] [] m'' o M') (ke : ∀ (m'' : Mem), r = Sum.inr m'' → Xj RX12 cX12_ahead 4 (some .int) 11 245 0 0 0 0 72 [(0, vR 12 0), (2, vI x2)] [] m'' o M') : Xj RX12 cX12_ahead 4 (some .int) 11 245 0 0 0 0 53 [(0, vR 12 0), (1, vI x1), (2, vI x2), (3, vI x3)] [] m o M' := by
  unfold r_X12_ahead_b53 at h
  refine xj_iload_n 3 dX12_ahead_53 rfl ?_
  refine xj_iload_n 1 dX12_ahead_54 rfl ?_
  refine xj_icmp_ge (tgt := 72) dX12_ahead_55 (by decide) (fun c9 => ?_) (fun c9 => ?_)
  · rw [if_pos c9] at h
    cases h
    refine xj_pick (ls' := [(0, vR 12 0), (2, vI x2)]) [0, 2] rfl ?_
    exact ke m rfl
  · rw [if_neg c9] at h
    refine xj_aload_n 0 dX12_ahead_58 rfl ?_
    refine xj_aload_n 0 dX12_ahead_59 rfl ?_
    refine xg_getR (k' := 60) (i' := 1) dX12_ahead_60 fl_X12_76 rfl ?_
    obtain ⟨m11, e10, h⟩ := bd1_some h
    refine xc_Vv0 (st := []) (ok_X12_dayEnds 1 m e10) dX12_ahead_63 cv_X12_326 rfl rfl (Nat.le_of_ble_eq_true rfl) (by decide) (by decide) (by decide) (by decide) ?_
    refine xj_iinc (z := x3 + 1) (ls' := [(3, vI (x3 + 1)), (0, vR 12 0), (1, vI x1), (2, vI x2)]) 3 dX12_ahead_66 rfl rfl (by decide) rfl ?_
    refine xj_goto (tgt := 53) dX12_ahead_69 (by decide) ?_
    cases h
    refine xj_pick (ls' := [(0, vR 12 0), (1, vI x1), (2, vI x2), (3, vI (x3 + 1))]) [1, 2, 3, 0] rfl ?_
    exact kb (x3 + 1) m11 rfl
noncomputable def r_X12_ahead_e72_h53 (x2 : Int32) (m : Mem) : Option (Int32 × Mem) :=
  if x2 = 0 then (bd2 (r_X12_courseOf 1 m) fun z15 m14 => (some (z15, m14))) else (bd2 (r_X12_endOf 1 m) fun z18 m17 => (some (z18, m17)))
set_option maxHeartbeats 4000000 in
set_option maxRecDepth 20000 in
theorem ok_X12_ahead_e72_h53 (x2 : Int32) (m : Mem) {z : Int32} {m' : Mem} (h : r_X12_ahead_e72_h53 x2 m = some (z, m')) : Xj RX12 cX12_ahead 4 (some .int) 11 245 0 0 0 0 72 [(0, vR 12 0), (2, vI x2)] [] m (oI z) m' := by
  unfold r_X12_ahead_e72_h53 at h
  refine xj_iload_n 1 dX12_ahead_72 rfl ?_
  refine xj_if_ne (tgt := 87) dX12_ahead_73 (by decide) (fun c12 => ?_) (fun c12 => ?_)
  · rw [if_neg c12] at h
    refine xj_aload_n 0 dX12_ahead_87 rfl ?_
    refine xj_aload_n 0 dX12_ahead_88 rfl ?_
    refine xg_getR (k' := 60) (i' := 1) dX12_ahead_89 fl_X12_76 rfl ?_
    obtain ⟨z18, m17, e16, h⟩ := bd2_some h
    refine xc_Vi0 (st := []) (ok_X12_endOf 1 m e16) dX12_ahead_92 cv_X12_346 rfl rfl (Nat.le_of_ble_eq_true rfl) (by decide) (by decide) (by decide) (by decide) ?_
    cases h
    exact xj_ireturn dX12_ahead_95 rfl (by decide) (by decide)
  · rw [if_pos c12] at h
    refine xj_aload_n 0 dX12_ahead_76 rfl ?_
    refine xj_aload_n 0 dX12_ahead_77 rfl ?_
    refine xg_getR (k' := 60) (i' := 1) dX12_ahead_78 fl_X12_76 rfl ?_
    obtain ⟨z15, m14, e13, h⟩ := bd2_some h
    refine xc_Vi0 (st := []) (ok_X12_courseOf 1 m e13) dX12_ahead_81 cv_X12_315 rfl rfl (Nat.le_of_ble_eq_true rfl) (by decide) (by decide) (by decide) (by decide) ?_
    refine xj_goto (tgt := 95) dX12_ahead_84 (by decide) ?_
    cases h
    exact xj_ireturn dX12_ahead_95 rfl (by decide) (by decide)
noncomputable def r_X12_ahead_l53 (x1 : Int32) (x2 : Int32) (x3 : Int32) (m : Mem) : Option (Int32 × Mem) :=
  bd1 (loopO (fun s => r_X12_ahead_b53 x1 x2 s.1 s.2) (x3, m)) (fun e => r_X12_ahead_e72_h53 x2 e)
set_option maxHeartbeats 4000000 in
set_option maxRecDepth 20000 in
theorem ok_X12_ahead_l53 (x1 : Int32) (x2 : Int32) (x3 : Int32) (m : Mem) {z : Int32} {m' : Mem} (h : r_X12_ahead_l53 x1 x2 x3 m = some (z, m')) : Xj RX12 cX12_ahead 4 (some .int) 11 245 0 0 0 0 53 [(0, vR 12 0), (1, vI x1), (2, vI x2), (3, vI x3)] [] m (oI z) m' := by
  unfold r_X12_ahead_l53 at h
  obtain ⟨e, e1, h⟩ := bd1_some h
  refine loopO_ok (P := fun s : (Int32 × Mem) => Xj RX12 cX12_ahead 4 (some .int) 11 245 0 0 0 0 53 [(0, vR 12 0), (1, vI x1), (2, vI x2), (3, vI s.1)] [] s.2 (oI z) m') (Q := fun e : (Mem) => Xj RX12 cX12_ahead 4 (some .int) 11 245 0 0 0 0 72 [(0, vR 12 0), (2, vI x2)] [] e (oI z) m') ?_ _ _ e1 ?_
  · intro s r9 h9 hi hx
    exact ok_X12_ahead_b53 x1 x2 s.1 s.2 h9 (by rintro _ _ rfl; exact hi _ rfl) (by rintro _ rfl; exact hx _ rfl)
  · exact ok_X12_ahead_e72_h53 x2 e h 
noncomputable def r_X12_ahead_j30 (x1 : Int32) (x2 : Int32) (s0 : Int32) (m : Mem) : Option (Int32 × Mem) :=
  bd2 (r_X12_bad s0 1 1 m) fun z5 m4 => (if z5 = true then (some (0, m4)) else (bd1 (r_X12_copies 0 1 m4) fun m8 => (r_X12_ahead_l53 x1 x2 0 m8)))
set_option maxHeartbeats 4000000 in
set_option maxRecDepth 20000 in
theorem ok_X12_ahead_j30 (x1 : Int32) (x2 : Int32) (s0 : Int32) (m : Mem) {z : Int32} {m' : Mem} (h : r_X12_ahead_j30 x1 x2 s0 m = some (z, m')) : Xj RX12 cX12_ahead 4 (some .int) 11 245 0 0 0 0 30 [(0, vR 12 0), (1, vI x1), (2, vI x2)] [vI s0, vR 12 0] m (oI z) m' := by
  unfold r_X12_ahead_j30 at h
  refine xj_iconst (z := 1) dX12_ahead_30 (by decide) ?_
  refine xj_iconst (z := 1) dX12_ahead_31 (by decide) ?_
  obtain ⟨z5, m4, e3, h⟩ := bd2_some h
  refine xc_Vb0 (st := []) (ok_X12_bad s0 1 1 m e3) dX12_ahead_32 cv_X12_191 rfl rfl (Nat.le_of_ble_eq_true rfl) (by decide) (by decide) (by decide) (by decide) ?_
  refine xj_if_eq (tgt := 40) dX12_ahead_35 (by decide) (fun c6 => ?_) (fun c6 => ?_)
  · rw [if_neg (b2i_f c6)] at h
    refine xj_aload_n 0 dX12_ahead_40 rfl ?_
    refine xg_getR (k' := 60) (i' := 0) dX12_ahead_41 fl_X12_73 rfl ?_
    refine xj_aload_n 0 dX12_ahead_44 rfl ?_
    refine xg_getR (k' := 60) (i' := 1) dX12_ahead_45 fl_X12_76 rfl ?_
    obtain ⟨m8, e7, h⟩ := bd1_some h
    refine xc_Sv0 (st := []) (ok_X12_copies 0 1 m4 e7) dX12_ahead_48 cs_X12_342 rfl rfl (Nat.le_of_ble_eq_true rfl) (by decide) (by decide) (by decide) (by decide) ?_
    refine xj_iconst (z := 0) dX12_ahead_51 (by decide) ?_
    refine xj_istore_n (ls' := [(3, vI 0), (0, vR 12 0), (1, vI x1), (2, vI x2)]) dX12_ahead_52 rfl (by decide) rfl ?_
    refine xj_pick (ls' := [(0, vR 12 0), (1, vI x1), (2, vI x2), (3, vI 0)]) [1, 2, 3, 0] rfl ?_
    exact ok_X12_ahead_l53 x1 x2 0 m8 h 
  · rw [if_pos (b2i_t c6)] at h
    refine xj_iconst (z := 0) dX12_ahead_38 (by decide) ?_
    cases h
    exact xj_ireturn dX12_ahead_39 rfl (by decide) (by decide)
noncomputable def r_X12_ahead_j25 (x1 : Int32) (x2 : Int32) (m : Mem) : Option (Int32 × Mem) :=
  r_X12_ahead_j30 x1 x2 1 m
set_option maxHeartbeats 4000000 in
set_option maxRecDepth 20000 in
theorem ok_X12_ahead_j25 (x1 : Int32) (x2 : Int32) (m : Mem) {z : Int32} {m' : Mem} (h : r_X12_ahead_j25 x1 x2 m = some (z, m')) : Xj RX12 cX12_ahead 4 (some .int) 11 245 0 0 0 0 25 [(0, vR 12 0), (1, vI x1), (2, vI x2)] [vR 12 0] m (oI z) m' := by
  unfold r_X12_ahead_j25 at h
  refine xj_iconst (z := 1) dX12_ahead_25 (by decide) ?_
  refine xj_goto (tgt := 30) dX12_ahead_26 (by decide) ?_
  exact ok_X12_ahead_j30 x1 x2 1 m h 
noncomputable def r_X12_ahead (x1 : Int32) (x2 : Int32) (m : Mem) : Option (Int32 × Mem) :=
  if (r_X12_in x1 0 99) = true then (if (r_X12_in x2 0 1) = true then (r_X12_ahead_j30 x1 x2 0 (wr m 12 0 0 0)) else (r_X12_ahead_j25 x1 x2 (wr m 12 0 0 0))) else (r_X12_ahead_j25 x1 x2 (wr m 12 0 0 0))
set_option maxHeartbeats 4000000 in
set_option maxRecDepth 20000 in
theorem ok_X12_ahead (x1 : Int32) (x2 : Int32) (m : Mem) {z : Int32} {m' : Mem} (h : r_X12_ahead x1 x2 m = some (z, m')) : Mt yX12_ahead cX12_ahead 4 (some .int) 11 245 0 0 [vR 12 0, vI x1, vI x2] m (oI z) m' := by
  refine Mt.of (by decide) (Nat.le_of_ble_eq_true rfl) (by decide +kernel) (hhF_ne (by decide)) ?_
  show Xj RX12 cX12_ahead 4 (some .int) 11 245 0 0 0 0 0 [(0, vR 12 0), (1, vI x1), (2, vI x2)] [] m (oI z) m'
  unfold r_X12_ahead at h
  refine xj_aload_n 0 dX12_ahead_0 rfl ?_
  refine xj_iconst (z := 0) dX12_ahead_1 (by decide) ?_
  refine xj_putI dX12_ahead_2 fw_X12_109 rfl ?_
  refine xj_aload_n 0 dX12_ahead_5 rfl ?_
  refine xj_iload_n 1 dX12_ahead_6 rfl ?_
  refine xj_iconst (z := 0) dX12_ahead_7 (by decide) ?_
  refine xj_bipush (z := 99) dX12_ahead_8 (by decide) ?_
  refine xc_Sb0 (st := [vR 12 0]) (ok_X12_in x1 0 99 (wr m 12 0 0 0) rfl) dX12_ahead_10 cs_X12_143 rfl rfl (Nat.le_of_ble_eq_true rfl) (by decide) (by decide) (by decide) (by decide) ?_
  refine xj_if_eq (tgt := 25) dX12_ahead_13 (by decide) (fun c1 => ?_) (fun c1 => ?_)
  · rw [if_neg (b2i_f c1)] at h
    exact ok_X12_ahead_j25 x1 x2 (wr m 12 0 0 0) h 
  · rw [if_pos (b2i_t c1)] at h
    refine xj_iload_n 2 dX12_ahead_16 rfl ?_
    refine xj_iconst (z := 0) dX12_ahead_17 (by decide) ?_
    refine xj_iconst (z := 1) dX12_ahead_18 (by decide) ?_
    refine xc_Sb0 (st := [vR 12 0]) (ok_X12_in x2 0 1 (wr m 12 0 0 0) rfl) dX12_ahead_19 cs_X12_143 rfl rfl (Nat.le_of_ble_eq_true rfl) (by decide) (by decide) (by decide) (by decide) ?_
    refine xj_if_ne (tgt := 29) dX12_ahead_22 (by decide) (fun c2 => ?_) (fun c2 => ?_)
    · rw [if_pos (b2i_t c2)] at h
      refine xj_iconst (z := 0) dX12_ahead_29 (by decide) ?_
      exact ok_X12_ahead_j30 x1 x2 0 (wr m 12 0 0 0) h 
    · rw [if_neg (b2i_f c2)] at h
      exact ok_X12_ahead_j25 x1 x2 (wr m 12 0 0 0) h 
noncomputable def r_X12_lays_62_64_b10_c2 (x2 : Int32) (x3 : Int32) (x4 : Int32) (m : Mem) : Option ((Int32 × Mem) ⊕ (Mem)) :=
  if inb x3 16 = true then (if 2 ≤ x4 then (some (Sum.inr m)) else (if inb x4 2 = true then (some (Sum.inl (x4 + 1, (wr m 63 x3.toNatClampNeg x4.toNatClampNeg (m 61 x3.toNatClampNeg x4.toNatClampNeg))))) else none)) else none
set_option maxHeartbeats 4000000 in
set_option maxRecDepth 20000 in
theorem ok_X12_lays_62_64_b10_c2 (x2 : Int32) (x3 : Int32) (x4 : Int32) (m : Mem) {r : (Int32 × Mem) ⊕ (Mem)} (h : r_X12_lays_62_64_b10_c2 x2 x3 x4 m = some r) {o : Ou} {M' : Mem} (kb : ∀ (x4' : Int32) (m'' : Mem), r = Sum.inl (x4', m'') → Xj RX12 cX12_lays 5 none 1 0 0 0 0 0 10 [(0, vR 62 0), (1, vR 64 0), (2, vI x2), (3, vI x3), (4, vI x4')] [] m'' o M') (ke : ∀ (m'' : Mem), r = Sum.inr m'' → Xj RX12 cX12_lays 5 none 1 0 0 0 0 0 37 [(0, vR 62 0), (1, vR 64 0), (2, vI x2), (3, vI x3)] [] m'' o M') : Xj RX12 cX12_lays 5 none 1 0 0 0 0 0 10 [(0, vR 62 0), (1, vR 64 0), (2, vI x2), (3, vI x3), (4, vI x4)] [] m o M' := by
  unfold r_X12_lays_62_64_b10_c2 at h
  refine xj_iload 4 dX12_lays_10 rfl ?_
  refine xj_aload_n 1 dX12_lays_12 rfl ?_
  refine xj_iload_n 3 dX12_lays_13 rfl ?_
  by_cases c2 : inb x3 16 = true
  case neg => rw [if_neg c2] at h; cases h
  rw [if_pos c2] at h
  refine xg_aald (k' := 63) (i' := x3.toNatClampNeg) (n := x3.toNatClampNeg) dX12_lays_14 rfl (by decide) (inb_in c2) rfl rfl ?_
  refine xj_alen (x := 2) dX12_lays_15 (by decide) (by decide) (by decide) (by decide) ?_
  refine xj_icmp_ge (tgt := 37) dX12_lays_16 (by decide) (fun c3 => ?_) (fun c3 => ?_)
  · rw [if_pos c3] at h
    cases h
    refine xj_pick (ls' := [(0, vR 62 0), (1, vR 64 0), (2, vI x2), (3, vI x3)]) [0, 1, 2, 3] rfl ?_
    exact ke m rfl
  · rw [if_neg c3] at h
    refine xj_aload_n 1 dX12_lays_19 rfl ?_
    refine xj_iload_n 3 dX12_lays_20 rfl ?_
    refine xg_aald (k' := 63) (i' := x3.toNatClampNeg) (n := x3.toNatClampNeg) dX12_lays_21 rfl (by decide) (inb_in c2) rfl rfl ?_
    refine xj_iload 4 dX12_lays_22 rfl ?_
    refine xj_aload_n 0 dX12_lays_24 rfl ?_
    refine xj_iload_n 3 dX12_lays_25 rfl ?_
    refine xg_aald (k' := 61) (i' := x3.toNatClampNeg) (n := x3.toNatClampNeg) dX12_lays_26 rfl (by decide) (inb_in c2) rfl rfl ?_
    refine xj_iload 4 dX12_lays_27 rfl ?_
    by_cases c4 : inb x4 2 = true
    case neg => rw [if_neg c4] at h; cases h
    rw [if_pos c4] at h
    refine xg_iald (z := (m 61 x3.toNatClampNeg x4.toNatClampNeg)) (n := x4.toNatClampNeg) dX12_lays_29 rfl (by decide) (inb_in c4) rfl rfl ?_
    refine xg_iast (n := x4.toNatClampNeg) dX12_lays_30 rfl (by decide) (inb_in c4) rfl ?_
    refine xj_iinc (z := x4 + 1) (ls' := [(4, vI (x4 + 1)), (0, vR 62 0), (1, vR 64 0), (2, vI x2), (3, vI x3)]) 4 dX12_lays_31 rfl rfl (by decide) rfl ?_
    refine xj_goto (tgt := 10) dX12_lays_34 (by decide) ?_
    cases h
    refine xj_pick (ls' := [(0, vR 62 0), (1, vR 64 0), (2, vI x2), (3, vI x3), (4, vI (x4 + 1))]) [1, 2, 3, 4, 0] rfl ?_
    exact kb (x4 + 1) (wr m 63 x3.toNatClampNeg x4.toNatClampNeg (m 61 x3.toNatClampNeg x4.toNatClampNeg)) rfl
noncomputable def r_X12_lays_62_64_e37_h10_c2 (x2 : Int32) (x3 : Int32) (m : Mem) : Option ((Int32 × Mem) ⊕ (Mem)) :=
  some (Sum.inl (x3 + 1, m))
set_option maxHeartbeats 4000000 in
set_option maxRecDepth 20000 in
theorem ok_X12_lays_62_64_e37_h10_c2 (x2 : Int32) (x3 : Int32) (m : Mem) {r : (Int32 × Mem) ⊕ (Mem)} (h : r_X12_lays_62_64_e37_h10_c2 x2 x3 m = some r) {o : Ou} {M' : Mem} (kb : ∀ (x3' : Int32) (m'' : Mem), r = Sum.inl (x3', m'') → Xj RX12 cX12_lays 5 none 1 0 0 0 0 0 2 [(0, vR 62 0), (1, vR 64 0), (2, vI x2), (3, vI x3')] [] m'' o M') (ke : ∀ (m'' : Mem), r = Sum.inr m'' → Xj RX12 cX12_lays 5 none 1 0 0 0 0 0 43 [] [] m'' o M') : Xj RX12 cX12_lays 5 none 1 0 0 0 0 0 37 [(0, vR 62 0), (1, vR 64 0), (2, vI x2), (3, vI x3)] [] m o M' := by
  unfold r_X12_lays_62_64_e37_h10_c2 at h
  refine xj_iinc (z := x3 + 1) (ls' := [(3, vI (x3 + 1)), (0, vR 62 0), (1, vR 64 0), (2, vI x2)]) 3 dX12_lays_37 rfl rfl (by decide) rfl ?_
  refine xj_goto (tgt := 2) dX12_lays_40 (by decide) ?_
  cases h
  refine xj_pick (ls' := [(0, vR 62 0), (1, vR 64 0), (2, vI x2), (3, vI (x3 + 1))]) [1, 2, 3, 0] rfl ?_
  exact kb (x3 + 1) m rfl
noncomputable def r_X12_lays_62_64_l10_c2 (x2 : Int32) (x3 : Int32) (x4 : Int32) (m : Mem) : Option ((Int32 × Mem) ⊕ (Mem)) :=
  bd1 (loopO (fun s => r_X12_lays_62_64_b10_c2 x2 x3 s.1 s.2) (x4, m)) (fun e => r_X12_lays_62_64_e37_h10_c2 x2 x3 e)
set_option maxHeartbeats 4000000 in
set_option maxRecDepth 20000 in
theorem ok_X12_lays_62_64_l10_c2 (x2 : Int32) (x3 : Int32) (x4 : Int32) (m : Mem) {r : (Int32 × Mem) ⊕ (Mem)} (h : r_X12_lays_62_64_l10_c2 x2 x3 x4 m = some r) {o : Ou} {M' : Mem} (kb : ∀ (x3' : Int32) (m'' : Mem), r = Sum.inl (x3', m'') → Xj RX12 cX12_lays 5 none 1 0 0 0 0 0 2 [(0, vR 62 0), (1, vR 64 0), (2, vI x2), (3, vI x3')] [] m'' o M') (ke : ∀ (m'' : Mem), r = Sum.inr m'' → Xj RX12 cX12_lays 5 none 1 0 0 0 0 0 43 [] [] m'' o M') : Xj RX12 cX12_lays 5 none 1 0 0 0 0 0 10 [(0, vR 62 0), (1, vR 64 0), (2, vI x2), (3, vI x3), (4, vI x4)] [] m o M' := by
  unfold r_X12_lays_62_64_l10_c2 at h
  obtain ⟨e, e1, h⟩ := bd1_some h
  refine loopO_ok (P := fun s : (Int32 × Mem) => Xj RX12 cX12_lays 5 none 1 0 0 0 0 0 10 [(0, vR 62 0), (1, vR 64 0), (2, vI x2), (3, vI x3), (4, vI s.1)] [] s.2 o M') (Q := fun e : (Mem) => Xj RX12 cX12_lays 5 none 1 0 0 0 0 0 37 [(0, vR 62 0), (1, vR 64 0), (2, vI x2), (3, vI x3)] [] e o M') ?_ _ _ e1 ?_
  · intro s r9 h9 hi hx
    exact ok_X12_lays_62_64_b10_c2 x2 x3 s.1 s.2 h9 (by rintro _ _ rfl; exact hi _ rfl) (by rintro _ rfl; exact hx _ rfl)
  · exact ok_X12_lays_62_64_e37_h10_c2 x2 x3 e h kb ke
noncomputable def r_X12_lays_62_64_b2 (x2 : Int32) (x3 : Int32) (m : Mem) : Option ((Int32 × Mem) ⊕ (Mem)) :=
  if x2 ≤ x3 then (some (Sum.inr m)) else (r_X12_lays_62_64_l10_c2 x2 x3 0 m)
set_option maxHeartbeats 4000000 in
set_option maxRecDepth 20000 in
theorem ok_X12_lays_62_64_b2 (x2 : Int32) (x3 : Int32) (m : Mem) {r : (Int32 × Mem) ⊕ (Mem)} (h : r_X12_lays_62_64_b2 x2 x3 m = some r) {o : Ou} {M' : Mem} (kb : ∀ (x3' : Int32) (m'' : Mem), r = Sum.inl (x3', m'') → Xj RX12 cX12_lays 5 none 1 0 0 0 0 0 2 [(0, vR 62 0), (1, vR 64 0), (2, vI x2), (3, vI x3')] [] m'' o M') (ke : ∀ (m'' : Mem), r = Sum.inr m'' → Xj RX12 cX12_lays 5 none 1 0 0 0 0 0 43 [] [] m'' o M') : Xj RX12 cX12_lays 5 none 1 0 0 0 0 0 2 [(0, vR 62 0), (1, vR 64 0), (2, vI x2), (3, vI x3)] [] m o M' := by
  unfold r_X12_lays_62_64_b2 at h
  refine xj_iload_n 3 dX12_lays_2 rfl ?_
  refine xj_iload_n 2 dX12_lays_3 rfl ?_
  refine xj_icmp_ge (tgt := 43) dX12_lays_4 (by decide) (fun c1 => ?_) (fun c1 => ?_)
  · rw [if_pos c1] at h
    cases h
    refine xj_pick (ls' := []) [] rfl ?_
    exact ke m rfl
  · rw [if_neg c1] at h
    refine xj_iconst (z := 0) dX12_lays_7 (by decide) ?_
    refine xj_istore (ls' := [(4, vI 0), (0, vR 62 0), (1, vR 64 0), (2, vI x2), (3, vI x3)]) dX12_lays_8 (by decide) rfl ?_
    refine xj_pick (ls' := [(0, vR 62 0), (1, vR 64 0), (2, vI x2), (3, vI x3), (4, vI 0)]) [1, 2, 3, 4, 0] rfl ?_
    exact ok_X12_lays_62_64_l10_c2 x2 x3 0 m h kb ke
noncomputable def r_X12_lays_62_64_e43_h2 (m : Mem) : Option Mem :=
  some m
set_option maxHeartbeats 4000000 in
set_option maxRecDepth 20000 in
theorem ok_X12_lays_62_64_e43_h2 (m : Mem) {m' : Mem} (h : r_X12_lays_62_64_e43_h2 m = some m') : Xj RX12 cX12_lays 5 none 1 0 0 0 0 0 43 [] [] m oV m' := by
  unfold r_X12_lays_62_64_e43_h2 at h
  cases h
  exact xj_return dX12_lays_43 (by decide) (by decide)
noncomputable def r_X12_lays_62_64_l2 (x2 : Int32) (x3 : Int32) (m : Mem) : Option Mem :=
  bd1 (loopO (fun s => r_X12_lays_62_64_b2 x2 s.1 s.2) (x3, m)) (fun e => r_X12_lays_62_64_e43_h2 e)
set_option maxHeartbeats 4000000 in
set_option maxRecDepth 20000 in
theorem ok_X12_lays_62_64_l2 (x2 : Int32) (x3 : Int32) (m : Mem) {m' : Mem} (h : r_X12_lays_62_64_l2 x2 x3 m = some m') : Xj RX12 cX12_lays 5 none 1 0 0 0 0 0 2 [(0, vR 62 0), (1, vR 64 0), (2, vI x2), (3, vI x3)] [] m oV m' := by
  unfold r_X12_lays_62_64_l2 at h
  obtain ⟨e, e1, h⟩ := bd1_some h
  refine loopO_ok (P := fun s : (Int32 × Mem) => Xj RX12 cX12_lays 5 none 1 0 0 0 0 0 2 [(0, vR 62 0), (1, vR 64 0), (2, vI x2), (3, vI s.1)] [] s.2 oV m') (Q := fun e : (Mem) => Xj RX12 cX12_lays 5 none 1 0 0 0 0 0 43 [] [] e oV m') ?_ _ _ e1 ?_
  · intro s r9 h9 hi hx
    exact ok_X12_lays_62_64_b2 x2 s.1 s.2 h9 (by rintro _ _ rfl; exact hi _ rfl) (by rintro _ rfl; exact hx _ rfl)
  · exact ok_X12_lays_62_64_e43_h2 e h 
noncomputable def r_X12_lays_62_64 (x2 : Int32) (m : Mem) : Option Mem :=
  r_X12_lays_62_64_l2 x2 0 m
set_option maxHeartbeats 4000000 in
set_option maxRecDepth 20000 in
theorem ok_X12_lays_62_64 (x2 : Int32) (m : Mem) {m' : Mem} (h : r_X12_lays_62_64 x2 m = some m') : Mt yX12_lays cX12_lays 5 none 1 0 0 0 [vR 62 0, vR 64 0, vI x2] m oV m' := by
  refine Mt.of (by decide) (Nat.le_of_ble_eq_true rfl) (by decide +kernel) (hhF_ne (by decide)) ?_
  show Xj RX12 cX12_lays 5 none 1 0 0 0 0 0 0 [(0, vR 62 0), (1, vR 64 0), (2, vI x2)] [] m oV m'
  unfold r_X12_lays_62_64 at h
  refine xj_iconst (z := 0) dX12_lays_0 (by decide) ?_
  refine xj_istore_n (ls' := [(3, vI 0), (0, vR 62 0), (1, vR 64 0), (2, vI x2)]) dX12_lays_1 rfl (by decide) rfl ?_
  refine xj_pick (ls' := [(0, vR 62 0), (1, vR 64 0), (2, vI x2), (3, vI 0)]) [1, 2, 3, 0] rfl ?_
  exact ok_X12_lays_62_64_l2 x2 0 m h 
noncomputable def r_X12_lays_66_68_b10_c2 (x2 : Int32) (x3 : Int32) (x4 : Int32) (m : Mem) : Option ((Int32 × Mem) ⊕ (Mem)) :=
  if inb x3 6 = true then (if 2 ≤ x4 then (some (Sum.inr m)) else (if inb x4 2 = true then (some (Sum.inl (x4 + 1, (wr m 67 x3.toNatClampNeg x4.toNatClampNeg (m 65 x3.toNatClampNeg x4.toNatClampNeg))))) else none)) else none
set_option maxHeartbeats 4000000 in
set_option maxRecDepth 20000 in
theorem ok_X12_lays_66_68_b10_c2 (x2 : Int32) (x3 : Int32) (x4 : Int32) (m : Mem) {r : (Int32 × Mem) ⊕ (Mem)} (h : r_X12_lays_66_68_b10_c2 x2 x3 x4 m = some r) {o : Ou} {M' : Mem} (kb : ∀ (x4' : Int32) (m'' : Mem), r = Sum.inl (x4', m'') → Xj RX12 cX12_lays 5 none 1 0 0 0 0 0 10 [(0, vR 66 0), (1, vR 68 0), (2, vI x2), (3, vI x3), (4, vI x4')] [] m'' o M') (ke : ∀ (m'' : Mem), r = Sum.inr m'' → Xj RX12 cX12_lays 5 none 1 0 0 0 0 0 37 [(0, vR 66 0), (1, vR 68 0), (2, vI x2), (3, vI x3)] [] m'' o M') : Xj RX12 cX12_lays 5 none 1 0 0 0 0 0 10 [(0, vR 66 0), (1, vR 68 0), (2, vI x2), (3, vI x3), (4, vI x4)] [] m o M' := by
  unfold r_X12_lays_66_68_b10_c2 at h
  refine xj_iload 4 dX12_lays_10 rfl ?_
  refine xj_aload_n 1 dX12_lays_12 rfl ?_
  refine xj_iload_n 3 dX12_lays_13 rfl ?_
  by_cases c2 : inb x3 6 = true
  case neg => rw [if_neg c2] at h; cases h
  rw [if_pos c2] at h
  refine xg_aald (k' := 67) (i' := x3.toNatClampNeg) (n := x3.toNatClampNeg) dX12_lays_14 rfl (by decide) (inb_in c2) rfl rfl ?_
  refine xj_alen (x := 2) dX12_lays_15 (by decide) (by decide) (by decide) (by decide) ?_
  refine xj_icmp_ge (tgt := 37) dX12_lays_16 (by decide) (fun c3 => ?_) (fun c3 => ?_)
  · rw [if_pos c3] at h
    cases h
    refine xj_pick (ls' := [(0, vR 66 0), (1, vR 68 0), (2, vI x2), (3, vI x3)]) [0, 1, 2, 3] rfl ?_
    exact ke m rfl
  · rw [if_neg c3] at h
    refine xj_aload_n 1 dX12_lays_19 rfl ?_
    refine xj_iload_n 3 dX12_lays_20 rfl ?_
    refine xg_aald (k' := 67) (i' := x3.toNatClampNeg) (n := x3.toNatClampNeg) dX12_lays_21 rfl (by decide) (inb_in c2) rfl rfl ?_
    refine xj_iload 4 dX12_lays_22 rfl ?_
    refine xj_aload_n 0 dX12_lays_24 rfl ?_
    refine xj_iload_n 3 dX12_lays_25 rfl ?_
    refine xg_aald (k' := 65) (i' := x3.toNatClampNeg) (n := x3.toNatClampNeg) dX12_lays_26 rfl (by decide) (inb_in c2) rfl rfl ?_
    refine xj_iload 4 dX12_lays_27 rfl ?_
    by_cases c4 : inb x4 2 = true
    case neg => rw [if_neg c4] at h; cases h
    rw [if_pos c4] at h
    refine xg_iald (z := (m 65 x3.toNatClampNeg x4.toNatClampNeg)) (n := x4.toNatClampNeg) dX12_lays_29 rfl (by decide) (inb_in c4) rfl rfl ?_
    refine xg_iast (n := x4.toNatClampNeg) dX12_lays_30 rfl (by decide) (inb_in c4) rfl ?_
    refine xj_iinc (z := x4 + 1) (ls' := [(4, vI (x4 + 1)), (0, vR 66 0), (1, vR 68 0), (2, vI x2), (3, vI x3)]) 4 dX12_lays_31 rfl rfl (by decide) rfl ?_
    refine xj_goto (tgt := 10) dX12_lays_34 (by decide) ?_
    cases h
    refine xj_pick (ls' := [(0, vR 66 0), (1, vR 68 0), (2, vI x2), (3, vI x3), (4, vI (x4 + 1))]) [1, 2, 3, 4, 0] rfl ?_
    exact kb (x4 + 1) (wr m 67 x3.toNatClampNeg x4.toNatClampNeg (m 65 x3.toNatClampNeg x4.toNatClampNeg)) rfl
noncomputable def r_X12_lays_66_68_e37_h10_c2 (x2 : Int32) (x3 : Int32) (m : Mem) : Option ((Int32 × Mem) ⊕ (Mem)) :=
  some (Sum.inl (x3 + 1, m))
set_option maxHeartbeats 4000000 in
set_option maxRecDepth 20000 in
theorem ok_X12_lays_66_68_e37_h10_c2 (x2 : Int32) (x3 : Int32) (m : Mem) {r : (Int32 × Mem) ⊕ (Mem)} (h : r_X12_lays_66_68_e37_h10_c2 x2 x3 m = some r) {o : Ou} {M' : Mem} (kb : ∀ (x3' : Int32) (m'' : Mem), r = Sum.inl (x3', m'') → Xj RX12 cX12_lays 5 none 1 0 0 0 0 0 2 [(0, vR 66 0), (1, vR 68 0), (2, vI x2), (3, vI x3')] [] m'' o M') (ke : ∀ (m'' : Mem), r = Sum.inr m'' → Xj RX12 cX12_lays 5 none 1 0 0 0 0 0 43 [] [] m'' o M') : Xj RX12 cX12_lays 5 none 1 0 0 0 0 0 37 [(0, vR 66 0), (1, vR 68 0), (2, vI x2), (3, vI x3)] [] m o M' := by
  unfold r_X12_lays_66_68_e37_h10_c2 at h
  refine xj_iinc (z := x3 + 1) (ls' := [(3, vI (x3 + 1)), (0, vR 66 0), (1, vR 68 0), (2, vI x2)]) 3 dX12_lays_37 rfl rfl (by decide) rfl ?_
  refine xj_goto (tgt := 2) dX12_lays_40 (by decide) ?_
  cases h
  refine xj_pick (ls' := [(0, vR 66 0), (1, vR 68 0), (2, vI x2), (3, vI (x3 + 1))]) [1, 2, 3, 0] rfl ?_
  exact kb (x3 + 1) m rfl
noncomputable def r_X12_lays_66_68_l10_c2 (x2 : Int32) (x3 : Int32) (x4 : Int32) (m : Mem) : Option ((Int32 × Mem) ⊕ (Mem)) :=
  bd1 (loopO (fun s => r_X12_lays_66_68_b10_c2 x2 x3 s.1 s.2) (x4, m)) (fun e => r_X12_lays_66_68_e37_h10_c2 x2 x3 e)
set_option maxHeartbeats 4000000 in
set_option maxRecDepth 20000 in
theorem ok_X12_lays_66_68_l10_c2 (x2 : Int32) (x3 : Int32) (x4 : Int32) (m : Mem) {r : (Int32 × Mem) ⊕ (Mem)} (h : r_X12_lays_66_68_l10_c2 x2 x3 x4 m = some r) {o : Ou} {M' : Mem} (kb : ∀ (x3' : Int32) (m'' : Mem), r = Sum.inl (x3', m'') → Xj RX12 cX12_lays 5 none 1 0 0 0 0 0 2 [(0, vR 66 0), (1, vR 68 0), (2, vI x2), (3, vI x3')] [] m'' o M') (ke : ∀ (m'' : Mem), r = Sum.inr m'' → Xj RX12 cX12_lays 5 none 1 0 0 0 0 0 43 [] [] m'' o M') : Xj RX12 cX12_lays 5 none 1 0 0 0 0 0 10 [(0, vR 66 0), (1, vR 68 0), (2, vI x2), (3, vI x3), (4, vI x4)] [] m o M' := by
  unfold r_X12_lays_66_68_l10_c2 at h
  obtain ⟨e, e1, h⟩ := bd1_some h
  refine loopO_ok (P := fun s : (Int32 × Mem) => Xj RX12 cX12_lays 5 none 1 0 0 0 0 0 10 [(0, vR 66 0), (1, vR 68 0), (2, vI x2), (3, vI x3), (4, vI s.1)] [] s.2 o M') (Q := fun e : (Mem) => Xj RX12 cX12_lays 5 none 1 0 0 0 0 0 37 [(0, vR 66 0), (1, vR 68 0), (2, vI x2), (3, vI x3)] [] e o M') ?_ _ _ e1 ?_
  · intro s r9 h9 hi hx
    exact ok_X12_lays_66_68_b10_c2 x2 x3 s.1 s.2 h9 (by rintro _ _ rfl; exact hi _ rfl) (by rintro _ rfl; exact hx _ rfl)
  · exact ok_X12_lays_66_68_e37_h10_c2 x2 x3 e h kb ke
noncomputable def r_X12_lays_66_68_b2 (x2 : Int32) (x3 : Int32) (m : Mem) : Option ((Int32 × Mem) ⊕ (Mem)) :=
  if x2 ≤ x3 then (some (Sum.inr m)) else (r_X12_lays_66_68_l10_c2 x2 x3 0 m)
set_option maxHeartbeats 4000000 in
set_option maxRecDepth 20000 in
theorem ok_X12_lays_66_68_b2 (x2 : Int32) (x3 : Int32) (m : Mem) {r : (Int32 × Mem) ⊕ (Mem)} (h : r_X12_lays_66_68_b2 x2 x3 m = some r) {o : Ou} {M' : Mem} (kb : ∀ (x3' : Int32) (m'' : Mem), r = Sum.inl (x3', m'') → Xj RX12 cX12_lays 5 none 1 0 0 0 0 0 2 [(0, vR 66 0), (1, vR 68 0), (2, vI x2), (3, vI x3')] [] m'' o M') (ke : ∀ (m'' : Mem), r = Sum.inr m'' → Xj RX12 cX12_lays 5 none 1 0 0 0 0 0 43 [] [] m'' o M') : Xj RX12 cX12_lays 5 none 1 0 0 0 0 0 2 [(0, vR 66 0), (1, vR 68 0), (2, vI x2), (3, vI x3)] [] m o M' := by
  unfold r_X12_lays_66_68_b2 at h
  refine xj_iload_n 3 dX12_lays_2 rfl ?_
  refine xj_iload_n 2 dX12_lays_3 rfl ?_
  refine xj_icmp_ge (tgt := 43) dX12_lays_4 (by decide) (fun c1 => ?_) (fun c1 => ?_)
  · rw [if_pos c1] at h
    cases h
    refine xj_pick (ls' := []) [] rfl ?_
    exact ke m rfl
  · rw [if_neg c1] at h
    refine xj_iconst (z := 0) dX12_lays_7 (by decide) ?_
    refine xj_istore (ls' := [(4, vI 0), (0, vR 66 0), (1, vR 68 0), (2, vI x2), (3, vI x3)]) dX12_lays_8 (by decide) rfl ?_
    refine xj_pick (ls' := [(0, vR 66 0), (1, vR 68 0), (2, vI x2), (3, vI x3), (4, vI 0)]) [1, 2, 3, 4, 0] rfl ?_
    exact ok_X12_lays_66_68_l10_c2 x2 x3 0 m h kb ke
noncomputable def r_X12_lays_66_68_e43_h2 (m : Mem) : Option Mem :=
  some m
set_option maxHeartbeats 4000000 in
set_option maxRecDepth 20000 in
theorem ok_X12_lays_66_68_e43_h2 (m : Mem) {m' : Mem} (h : r_X12_lays_66_68_e43_h2 m = some m') : Xj RX12 cX12_lays 5 none 1 0 0 0 0 0 43 [] [] m oV m' := by
  unfold r_X12_lays_66_68_e43_h2 at h
  cases h
  exact xj_return dX12_lays_43 (by decide) (by decide)
noncomputable def r_X12_lays_66_68_l2 (x2 : Int32) (x3 : Int32) (m : Mem) : Option Mem :=
  bd1 (loopO (fun s => r_X12_lays_66_68_b2 x2 s.1 s.2) (x3, m)) (fun e => r_X12_lays_66_68_e43_h2 e)
set_option maxHeartbeats 4000000 in
set_option maxRecDepth 20000 in
theorem ok_X12_lays_66_68_l2 (x2 : Int32) (x3 : Int32) (m : Mem) {m' : Mem} (h : r_X12_lays_66_68_l2 x2 x3 m = some m') : Xj RX12 cX12_lays 5 none 1 0 0 0 0 0 2 [(0, vR 66 0), (1, vR 68 0), (2, vI x2), (3, vI x3)] [] m oV m' := by
  unfold r_X12_lays_66_68_l2 at h
  obtain ⟨e, e1, h⟩ := bd1_some h
  refine loopO_ok (P := fun s : (Int32 × Mem) => Xj RX12 cX12_lays 5 none 1 0 0 0 0 0 2 [(0, vR 66 0), (1, vR 68 0), (2, vI x2), (3, vI s.1)] [] s.2 oV m') (Q := fun e : (Mem) => Xj RX12 cX12_lays 5 none 1 0 0 0 0 0 43 [] [] e oV m') ?_ _ _ e1 ?_
  · intro s r9 h9 hi hx
    exact ok_X12_lays_66_68_b2 x2 s.1 s.2 h9 (by rintro _ _ rfl; exact hi _ rfl) (by rintro _ rfl; exact hx _ rfl)
  · exact ok_X12_lays_66_68_e43_h2 e h 
noncomputable def r_X12_lays_66_68 (x2 : Int32) (m : Mem) : Option Mem :=
  r_X12_lays_66_68_l2 x2 0 m
set_option maxHeartbeats 4000000 in
set_option maxRecDepth 20000 in
theorem ok_X12_lays_66_68 (x2 : Int32) (m : Mem) {m' : Mem} (h : r_X12_lays_66_68 x2 m = some m') : Mt yX12_lays cX12_lays 5 none 1 0 0 0 [vR 66 0, vR 68 0, vI x2] m oV m' := by
  refine Mt.of (by decide) (Nat.le_of_ble_eq_true rfl) (by decide +kernel) (hhF_ne (by decide)) ?_
  show Xj RX12 cX12_lays 5 none 1 0 0 0 0 0 0 [(0, vR 66 0), (1, vR 68 0), (2, vI x2)] [] m oV m'
  unfold r_X12_lays_66_68 at h
  refine xj_iconst (z := 0) dX12_lays_0 (by decide) ?_
  refine xj_istore_n (ls' := [(3, vI 0), (0, vR 66 0), (1, vR 68 0), (2, vI x2)]) dX12_lays_1 rfl (by decide) rfl ?_
  refine xj_pick (ls' := [(0, vR 66 0), (1, vR 68 0), (2, vI x2), (3, vI 0)]) [1, 2, 3, 0] rfl ?_
  exact ok_X12_lays_66_68_l2 x2 0 m h 
noncomputable def r_X12_lays_70_72_b10_c2 (x2 : Int32) (x3 : Int32) (x4 : Int32) (m : Mem) : Option ((Int32 × Mem) ⊕ (Mem)) :=
  if inb x3 6 = true then (if 12 ≤ x4 then (some (Sum.inr m)) else (if inb x4 12 = true then (some (Sum.inl (x4 + 1, (wr m 71 x3.toNatClampNeg x4.toNatClampNeg (m 69 x3.toNatClampNeg x4.toNatClampNeg))))) else none)) else none
set_option maxHeartbeats 4000000 in
set_option maxRecDepth 20000 in
theorem ok_X12_lays_70_72_b10_c2 (x2 : Int32) (x3 : Int32) (x4 : Int32) (m : Mem) {r : (Int32 × Mem) ⊕ (Mem)} (h : r_X12_lays_70_72_b10_c2 x2 x3 x4 m = some r) {o : Ou} {M' : Mem} (kb : ∀ (x4' : Int32) (m'' : Mem), r = Sum.inl (x4', m'') → Xj RX12 cX12_lays 5 none 1 0 0 0 0 0 10 [(0, vR 70 0), (1, vR 72 0), (2, vI x2), (3, vI x3), (4, vI x4')] [] m'' o M') (ke : ∀ (m'' : Mem), r = Sum.inr m'' → Xj RX12 cX12_lays 5 none 1 0 0 0 0 0 37 [(0, vR 70 0), (1, vR 72 0), (2, vI x2), (3, vI x3)] [] m'' o M') : Xj RX12 cX12_lays 5 none 1 0 0 0 0 0 10 [(0, vR 70 0), (1, vR 72 0), (2, vI x2), (3, vI x3), (4, vI x4)] [] m o M' := by
  unfold r_X12_lays_70_72_b10_c2 at h
  refine xj_iload 4 dX12_lays_10 rfl ?_
  refine xj_aload_n 1 dX12_lays_12 rfl ?_
  refine xj_iload_n 3 dX12_lays_13 rfl ?_
  by_cases c2 : inb x3 6 = true
  case neg => rw [if_neg c2] at h; cases h
  rw [if_pos c2] at h
  refine xg_aald (k' := 71) (i' := x3.toNatClampNeg) (n := x3.toNatClampNeg) dX12_lays_14 rfl (by decide) (inb_in c2) rfl rfl ?_
  refine xj_alen (x := 12) dX12_lays_15 (by decide) (by decide) (by decide) (by decide) ?_
  refine xj_icmp_ge (tgt := 37) dX12_lays_16 (by decide) (fun c3 => ?_) (fun c3 => ?_)
  · rw [if_pos c3] at h
    cases h
    refine xj_pick (ls' := [(0, vR 70 0), (1, vR 72 0), (2, vI x2), (3, vI x3)]) [0, 1, 2, 3] rfl ?_
    exact ke m rfl
  · rw [if_neg c3] at h
    refine xj_aload_n 1 dX12_lays_19 rfl ?_
    refine xj_iload_n 3 dX12_lays_20 rfl ?_
    refine xg_aald (k' := 71) (i' := x3.toNatClampNeg) (n := x3.toNatClampNeg) dX12_lays_21 rfl (by decide) (inb_in c2) rfl rfl ?_
    refine xj_iload 4 dX12_lays_22 rfl ?_
    refine xj_aload_n 0 dX12_lays_24 rfl ?_
    refine xj_iload_n 3 dX12_lays_25 rfl ?_
    refine xg_aald (k' := 69) (i' := x3.toNatClampNeg) (n := x3.toNatClampNeg) dX12_lays_26 rfl (by decide) (inb_in c2) rfl rfl ?_
    refine xj_iload 4 dX12_lays_27 rfl ?_
    by_cases c4 : inb x4 12 = true
    case neg => rw [if_neg c4] at h; cases h
    rw [if_pos c4] at h
    refine xg_iald (z := (m 69 x3.toNatClampNeg x4.toNatClampNeg)) (n := x4.toNatClampNeg) dX12_lays_29 rfl (by decide) (inb_in c4) rfl rfl ?_
    refine xg_iast (n := x4.toNatClampNeg) dX12_lays_30 rfl (by decide) (inb_in c4) rfl ?_
    refine xj_iinc (z := x4 + 1) (ls' := [(4, vI (x4 + 1)), (0, vR 70 0), (1, vR 72 0), (2, vI x2), (3, vI x3)]) 4 dX12_lays_31 rfl rfl (by decide) rfl ?_
    refine xj_goto (tgt := 10) dX12_lays_34 (by decide) ?_
    cases h
    refine xj_pick (ls' := [(0, vR 70 0), (1, vR 72 0), (2, vI x2), (3, vI x3), (4, vI (x4 + 1))]) [1, 2, 3, 4, 0] rfl ?_
    exact kb (x4 + 1) (wr m 71 x3.toNatClampNeg x4.toNatClampNeg (m 69 x3.toNatClampNeg x4.toNatClampNeg)) rfl
noncomputable def r_X12_lays_70_72_e37_h10_c2 (x2 : Int32) (x3 : Int32) (m : Mem) : Option ((Int32 × Mem) ⊕ (Mem)) :=
  some (Sum.inl (x3 + 1, m))
set_option maxHeartbeats 4000000 in
set_option maxRecDepth 20000 in
theorem ok_X12_lays_70_72_e37_h10_c2 (x2 : Int32) (x3 : Int32) (m : Mem) {r : (Int32 × Mem) ⊕ (Mem)} (h : r_X12_lays_70_72_e37_h10_c2 x2 x3 m = some r) {o : Ou} {M' : Mem} (kb : ∀ (x3' : Int32) (m'' : Mem), r = Sum.inl (x3', m'') → Xj RX12 cX12_lays 5 none 1 0 0 0 0 0 2 [(0, vR 70 0), (1, vR 72 0), (2, vI x2), (3, vI x3')] [] m'' o M') (ke : ∀ (m'' : Mem), r = Sum.inr m'' → Xj RX12 cX12_lays 5 none 1 0 0 0 0 0 43 [] [] m'' o M') : Xj RX12 cX12_lays 5 none 1 0 0 0 0 0 37 [(0, vR 70 0), (1, vR 72 0), (2, vI x2), (3, vI x3)] [] m o M' := by
  unfold r_X12_lays_70_72_e37_h10_c2 at h
  refine xj_iinc (z := x3 + 1) (ls' := [(3, vI (x3 + 1)), (0, vR 70 0), (1, vR 72 0), (2, vI x2)]) 3 dX12_lays_37 rfl rfl (by decide) rfl ?_
  refine xj_goto (tgt := 2) dX12_lays_40 (by decide) ?_
  cases h
  refine xj_pick (ls' := [(0, vR 70 0), (1, vR 72 0), (2, vI x2), (3, vI (x3 + 1))]) [1, 2, 3, 0] rfl ?_
  exact kb (x3 + 1) m rfl
noncomputable def r_X12_lays_70_72_l10_c2 (x2 : Int32) (x3 : Int32) (x4 : Int32) (m : Mem) : Option ((Int32 × Mem) ⊕ (Mem)) :=
  bd1 (loopO (fun s => r_X12_lays_70_72_b10_c2 x2 x3 s.1 s.2) (x4, m)) (fun e => r_X12_lays_70_72_e37_h10_c2 x2 x3 e)
set_option maxHeartbeats 4000000 in
set_option maxRecDepth 20000 in
theorem ok_X12_lays_70_72_l10_c2 (x2 : Int32) (x3 : Int32) (x4 : Int32) (m : Mem) {r : (Int32 × Mem) ⊕ (Mem)} (h : r_X12_lays_70_72_l10_c2 x2 x3 x4 m = some r) {o : Ou} {M' : Mem} (kb : ∀ (x3' : Int32) (m'' : Mem), r = Sum.inl (x3', m'') → Xj RX12 cX12_lays 5 none 1 0 0 0 0 0 2 [(0, vR 70 0), (1, vR 72 0), (2, vI x2), (3, vI x3')] [] m'' o M') (ke : ∀ (m'' : Mem), r = Sum.inr m'' → Xj RX12 cX12_lays 5 none 1 0 0 0 0 0 43 [] [] m'' o M') : Xj RX12 cX12_lays 5 none 1 0 0 0 0 0 10 [(0, vR 70 0), (1, vR 72 0), (2, vI x2), (3, vI x3), (4, vI x4)] [] m o M' := by
  unfold r_X12_lays_70_72_l10_c2 at h
  obtain ⟨e, e1, h⟩ := bd1_some h
  refine loopO_ok (P := fun s : (Int32 × Mem) => Xj RX12 cX12_lays 5 none 1 0 0 0 0 0 10 [(0, vR 70 0), (1, vR 72 0), (2, vI x2), (3, vI x3), (4, vI s.1)] [] s.2 o M') (Q := fun e : (Mem) => Xj RX12 cX12_lays 5 none 1 0 0 0 0 0 37 [(0, vR 70 0), (1, vR 72 0), (2, vI x2), (3, vI x3)] [] e o M') ?_ _ _ e1 ?_
  · intro s r9 h9 hi hx
    exact ok_X12_lays_70_72_b10_c2 x2 x3 s.1 s.2 h9 (by rintro _ _ rfl; exact hi _ rfl) (by rintro _ rfl; exact hx _ rfl)
  · exact ok_X12_lays_70_72_e37_h10_c2 x2 x3 e h kb ke
noncomputable def r_X12_lays_70_72_b2 (x2 : Int32) (x3 : Int32) (m : Mem) : Option ((Int32 × Mem) ⊕ (Mem)) :=
  if x2 ≤ x3 then (some (Sum.inr m)) else (r_X12_lays_70_72_l10_c2 x2 x3 0 m)
set_option maxHeartbeats 4000000 in
set_option maxRecDepth 20000 in
theorem ok_X12_lays_70_72_b2 (x2 : Int32) (x3 : Int32) (m : Mem) {r : (Int32 × Mem) ⊕ (Mem)} (h : r_X12_lays_70_72_b2 x2 x3 m = some r) {o : Ou} {M' : Mem} (kb : ∀ (x3' : Int32) (m'' : Mem), r = Sum.inl (x3', m'') → Xj RX12 cX12_lays 5 none 1 0 0 0 0 0 2 [(0, vR 70 0), (1, vR 72 0), (2, vI x2), (3, vI x3')] [] m'' o M') (ke : ∀ (m'' : Mem), r = Sum.inr m'' → Xj RX12 cX12_lays 5 none 1 0 0 0 0 0 43 [] [] m'' o M') : Xj RX12 cX12_lays 5 none 1 0 0 0 0 0 2 [(0, vR 70 0), (1, vR 72 0), (2, vI x2), (3, vI x3)] [] m o M' := by
  unfold r_X12_lays_70_72_b2 at h
  refine xj_iload_n 3 dX12_lays_2 rfl ?_
  refine xj_iload_n 2 dX12_lays_3 rfl ?_
  refine xj_icmp_ge (tgt := 43) dX12_lays_4 (by decide) (fun c1 => ?_) (fun c1 => ?_)
  · rw [if_pos c1] at h
    cases h
    refine xj_pick (ls' := []) [] rfl ?_
    exact ke m rfl
  · rw [if_neg c1] at h
    refine xj_iconst (z := 0) dX12_lays_7 (by decide) ?_
    refine xj_istore (ls' := [(4, vI 0), (0, vR 70 0), (1, vR 72 0), (2, vI x2), (3, vI x3)]) dX12_lays_8 (by decide) rfl ?_
    refine xj_pick (ls' := [(0, vR 70 0), (1, vR 72 0), (2, vI x2), (3, vI x3), (4, vI 0)]) [1, 2, 3, 4, 0] rfl ?_
    exact ok_X12_lays_70_72_l10_c2 x2 x3 0 m h kb ke
noncomputable def r_X12_lays_70_72_e43_h2 (m : Mem) : Option Mem :=
  some m
set_option maxHeartbeats 4000000 in
set_option maxRecDepth 20000 in
theorem ok_X12_lays_70_72_e43_h2 (m : Mem) {m' : Mem} (h : r_X12_lays_70_72_e43_h2 m = some m') : Xj RX12 cX12_lays 5 none 1 0 0 0 0 0 43 [] [] m oV m' := by
  unfold r_X12_lays_70_72_e43_h2 at h
  cases h
  exact xj_return dX12_lays_43 (by decide) (by decide)
noncomputable def r_X12_lays_70_72_l2 (x2 : Int32) (x3 : Int32) (m : Mem) : Option Mem :=
  bd1 (loopO (fun s => r_X12_lays_70_72_b2 x2 s.1 s.2) (x3, m)) (fun e => r_X12_lays_70_72_e43_h2 e)
set_option maxHeartbeats 4000000 in
set_option maxRecDepth 20000 in
theorem ok_X12_lays_70_72_l2 (x2 : Int32) (x3 : Int32) (m : Mem) {m' : Mem} (h : r_X12_lays_70_72_l2 x2 x3 m = some m') : Xj RX12 cX12_lays 5 none 1 0 0 0 0 0 2 [(0, vR 70 0), (1, vR 72 0), (2, vI x2), (3, vI x3)] [] m oV m' := by
  unfold r_X12_lays_70_72_l2 at h
  obtain ⟨e, e1, h⟩ := bd1_some h
  refine loopO_ok (P := fun s : (Int32 × Mem) => Xj RX12 cX12_lays 5 none 1 0 0 0 0 0 2 [(0, vR 70 0), (1, vR 72 0), (2, vI x2), (3, vI s.1)] [] s.2 oV m') (Q := fun e : (Mem) => Xj RX12 cX12_lays 5 none 1 0 0 0 0 0 43 [] [] e oV m') ?_ _ _ e1 ?_
  · intro s r9 h9 hi hx
    exact ok_X12_lays_70_72_b2 x2 s.1 s.2 h9 (by rintro _ _ rfl; exact hi _ rfl) (by rintro _ rfl; exact hx _ rfl)
  · exact ok_X12_lays_70_72_e43_h2 e h 
noncomputable def r_X12_lays_70_72 (x2 : Int32) (m : Mem) : Option Mem :=
  r_X12_lays_70_72_l2 x2 0 m
set_option maxHeartbeats 4000000 in
set_option maxRecDepth 20000 in
theorem ok_X12_lays_70_72 (x2 : Int32) (m : Mem) {m' : Mem} (h : r_X12_lays_70_72 x2 m = some m') : Mt yX12_lays cX12_lays 5 none 1 0 0 0 [vR 70 0, vR 72 0, vI x2] m oV m' := by
  refine Mt.of (by decide) (Nat.le_of_ble_eq_true rfl) (by decide +kernel) (hhF_ne (by decide)) ?_
  show Xj RX12 cX12_lays 5 none 1 0 0 0 0 0 0 [(0, vR 70 0), (1, vR 72 0), (2, vI x2)] [] m oV m'
  unfold r_X12_lays_70_72 at h
  refine xj_iconst (z := 0) dX12_lays_0 (by decide) ?_
  refine xj_istore_n (ls' := [(3, vI 0), (0, vR 70 0), (1, vR 72 0), (2, vI x2)]) dX12_lays_1 rfl (by decide) rfl ?_
  refine xj_pick (ls' := [(0, vR 70 0), (1, vR 72 0), (2, vI x2), (3, vI 0)]) [1, 2, 3, 0] rfl ?_
  exact ok_X12_lays_70_72_l2 x2 0 m h 
noncomputable def r_X12_beginsAnew_b2 (x1 : Int32) (m : Mem) : Option ((Int32 × Mem) ⊕ (Mem)) :=
  if 4 ≤ x1 then (some (Sum.inr m)) else (if inb x1 4 = true then (some (Sum.inl (x1 + 1, (wr m 52 0 x1.toNatClampNeg (m 51 0 x1.toNatClampNeg))))) else none)
set_option maxHeartbeats 4000000 in
set_option maxRecDepth 20000 in
theorem ok_X12_beginsAnew_b2 (x1 : Int32) (m : Mem) {r : (Int32 × Mem) ⊕ (Mem)} (h : r_X12_beginsAnew_b2 x1 m = some r) {o : Ou} {M' : Mem} (kb : ∀ (x1' : Int32) (m'' : Mem), r = Sum.inl (x1', m'') → Xj RX12 cX12_beginsAnew 3 none 2 24 0 0 0 0 2 [(0, vR 12 0), (1, vI x1')] [] m'' o M') (ke : ∀ (m'' : Mem), r = Sum.inr m'' → Xj RX12 cX12_beginsAnew 3 none 2 24 0 0 0 0 25 [(0, vR 12 0)] [] m'' o M') : Xj RX12 cX12_beginsAnew 3 none 2 24 0 0 0 0 2 [(0, vR 12 0), (1, vI x1)] [] m o M' := by
  unfold r_X12_beginsAnew_b2 at h
  refine xj_iload_n 1 dX12_beginsAnew_2 rfl ?_
  refine xj_iconst (z := 4) dX12_beginsAnew_3 (by decide) ?_
  refine xj_icmp_ge (tgt := 25) dX12_beginsAnew_4 (by decide) (fun c1 => ?_) (fun c1 => ?_)
  · rw [if_pos c1] at h
    cases h
    refine xj_pick (ls' := [(0, vR 12 0)]) [0] rfl ?_
    exact ke m rfl
  · rw [if_neg c1] at h
    refine xj_aload_n 0 dX12_beginsAnew_7 rfl ?_
    refine xg_getR (k' := 52) (i' := 0) dX12_beginsAnew_8 fl_X12_23 rfl ?_
    refine xj_iload_n 1 dX12_beginsAnew_11 rfl ?_
    refine xj_aload_n 0 dX12_beginsAnew_12 rfl ?_
    refine xg_getR (k' := 51) (i' := 0) dX12_beginsAnew_13 fl_X12_20 rfl ?_
    refine xj_iload_n 1 dX12_beginsAnew_16 rfl ?_
    by_cases c2 : inb x1 4 = true
    case neg => rw [if_neg c2] at h; cases h
    rw [if_pos c2] at h
    refine xg_iald (z := (m 51 0 x1.toNatClampNeg)) (n := x1.toNatClampNeg) dX12_beginsAnew_17 rfl (by decide) (inb_in c2) rfl rfl ?_
    refine xg_iast (n := x1.toNatClampNeg) dX12_beginsAnew_18 rfl (by decide) (inb_in c2) rfl ?_
    refine xj_iinc (z := x1 + 1) (ls' := [(1, vI (x1 + 1)), (0, vR 12 0)]) 1 dX12_beginsAnew_19 rfl rfl (by decide) rfl ?_
    refine xj_goto (tgt := 2) dX12_beginsAnew_22 (by decide) ?_
    cases h
    refine xj_pick (ls' := [(0, vR 12 0), (1, vI (x1 + 1))]) [1, 0] rfl ?_
    exact kb (x1 + 1) (wr m 52 0 x1.toNatClampNeg (m 51 0 x1.toNatClampNeg)) rfl
noncomputable def r_X12_beginsAnew_b27 (x1 : Int32) (m : Mem) : Option ((Int32 × Mem) ⊕ (Mem)) :=
  if (m 52 0 0) ≤ x1 then (some (Sum.inr m)) else (if inb x1 12 = true then (some (Sum.inl (x1 + 1, (wr m 54 0 x1.toNatClampNeg (m 53 0 x1.toNatClampNeg))))) else none)
set_option maxHeartbeats 4000000 in
set_option maxRecDepth 20000 in
theorem ok_X12_beginsAnew_b27 (x1 : Int32) (m : Mem) {r : (Int32 × Mem) ⊕ (Mem)} (h : r_X12_beginsAnew_b27 x1 m = some r) {o : Ou} {M' : Mem} (kb : ∀ (x1' : Int32) (m'' : Mem), r = Sum.inl (x1', m'') → Xj RX12 cX12_beginsAnew 3 none 2 24 0 0 0 0 27 [(0, vR 12 0), (1, vI x1')] [] m'' o M') (ke : ∀ (m'' : Mem), r = Sum.inr m'' → Xj RX12 cX12_beginsAnew 3 none 2 24 0 0 0 0 55 [(0, vR 12 0)] [] m'' o M') : Xj RX12 cX12_beginsAnew 3 none 2 24 0 0 0 0 27 [(0, vR 12 0), (1, vI x1)] [] m o M' := by
  unfold r_X12_beginsAnew_b27 at h
  refine xj_iload_n 1 dX12_beginsAnew_27 rfl ?_
  refine xj_aload_n 0 dX12_beginsAnew_28 rfl ?_
  refine xg_getR (k' := 52) (i' := 0) dX12_beginsAnew_29 fl_X12_23 rfl ?_
  refine xj_iconst (z := 0) dX12_beginsAnew_32 (by decide) ?_
  refine xg_iald (z := (m 52 0 0)) (n := 0) dX12_beginsAnew_33 rfl (by decide) (inb_in (by decide)) (by decide) rfl ?_
  refine xj_icmp_ge (tgt := 55) dX12_beginsAnew_34 (by decide) (fun c3 => ?_) (fun c3 => ?_)
  · rw [if_pos c3] at h
    cases h
    refine xj_pick (ls' := [(0, vR 12 0)]) [0] rfl ?_
    exact ke m rfl
  · rw [if_neg c3] at h
    refine xj_aload_n 0 dX12_beginsAnew_37 rfl ?_
    refine xg_getR (k' := 54) (i' := 0) dX12_beginsAnew_38 fl_X12_29 rfl ?_
    refine xj_iload_n 1 dX12_beginsAnew_41 rfl ?_
    refine xj_aload_n 0 dX12_beginsAnew_42 rfl ?_
    refine xg_getR (k' := 53) (i' := 0) dX12_beginsAnew_43 fl_X12_26 rfl ?_
    refine xj_iload_n 1 dX12_beginsAnew_46 rfl ?_
    by_cases c4 : inb x1 12 = true
    case neg => rw [if_neg c4] at h; cases h
    rw [if_pos c4] at h
    refine xg_iald (z := (m 53 0 x1.toNatClampNeg)) (n := x1.toNatClampNeg) dX12_beginsAnew_47 rfl (by decide) (inb_in c4) rfl rfl ?_
    refine xg_iast (n := x1.toNatClampNeg) dX12_beginsAnew_48 rfl (by decide) (inb_in c4) rfl ?_
    refine xj_iinc (z := x1 + 1) (ls' := [(1, vI (x1 + 1)), (0, vR 12 0)]) 1 dX12_beginsAnew_49 rfl rfl (by decide) rfl ?_
    refine xj_goto (tgt := 27) dX12_beginsAnew_52 (by decide) ?_
    cases h
    refine xj_pick (ls' := [(0, vR 12 0), (1, vI (x1 + 1))]) [1, 0] rfl ?_
    exact kb (x1 + 1) (wr m 54 0 x1.toNatClampNeg (m 53 0 x1.toNatClampNeg)) rfl
noncomputable def r_X12_beginsAnew_b104 (x1 : Int32) (m : Mem) : Option ((Int32 × Mem) ⊕ (Mem)) :=
  if 111 ≤ x1 then (some (Sum.inr m)) else (if inb x1 111 = true then (some (Sum.inl (x1 + 1, (wr m 60 0 x1.toNatClampNeg 0)))) else none)
set_option maxHeartbeats 4000000 in
set_option maxRecDepth 20000 in
theorem ok_X12_beginsAnew_b104 (x1 : Int32) (m : Mem) {r : (Int32 × Mem) ⊕ (Mem)} (h : r_X12_beginsAnew_b104 x1 m = some r) {o : Ou} {M' : Mem} (kb : ∀ (x1' : Int32) (m'' : Mem), r = Sum.inl (x1', m'') → Xj RX12 cX12_beginsAnew 3 none 2 24 0 0 0 0 104 [(0, vR 12 0), (1, vI x1')] [] m'' o M') (ke : ∀ (m'' : Mem), r = Sum.inr m'' → Xj RX12 cX12_beginsAnew 3 none 2 24 0 0 0 0 123 [(0, vR 12 0)] [] m'' o M') : Xj RX12 cX12_beginsAnew 3 none 2 24 0 0 0 0 104 [(0, vR 12 0), (1, vI x1)] [] m o M' := by
  unfold r_X12_beginsAnew_b104 at h
  refine xj_iload_n 1 dX12_beginsAnew_104 rfl ?_
  refine xj_bipush (z := 111) dX12_beginsAnew_105 (by decide) ?_
  refine xj_icmp_ge (tgt := 123) dX12_beginsAnew_107 (by decide) (fun c11 => ?_) (fun c11 => ?_)
  · rw [if_pos c11] at h
    cases h
    refine xj_pick (ls' := [(0, vR 12 0)]) [0] rfl ?_
    exact ke m rfl
  · rw [if_neg c11] at h
    refine xj_aload_n 0 dX12_beginsAnew_110 rfl ?_
    refine xg_getR (k' := 60) (i' := 0) dX12_beginsAnew_111 fl_X12_73 rfl ?_
    refine xj_iload_n 1 dX12_beginsAnew_114 rfl ?_
    refine xj_iconst (z := 0) dX12_beginsAnew_115 (by decide) ?_
    by_cases c12 : inb x1 111 = true
    case neg => rw [if_neg c12] at h; cases h
    rw [if_pos c12] at h
    refine xg_iast (n := x1.toNatClampNeg) dX12_beginsAnew_116 rfl (by decide) (inb_in c12) rfl ?_
    refine xj_iinc (z := x1 + 1) (ls' := [(1, vI (x1 + 1)), (0, vR 12 0)]) 1 dX12_beginsAnew_117 rfl rfl (by decide) rfl ?_
    refine xj_goto (tgt := 104) dX12_beginsAnew_120 (by decide) ?_
    cases h
    refine xj_pick (ls' := [(0, vR 12 0), (1, vI (x1 + 1))]) [1, 0] rfl ?_
    exact kb (x1 + 1) (wr m 60 0 x1.toNatClampNeg 0) rfl
noncomputable def r_X12_beginsAnew_b164_c125 (x1 : Int32) (x2 : Int32) (m : Mem) : Option ((Int32 × Mem) ⊕ (Mem)) :=
  if 12 ≤ x2 then (some (Sum.inr m)) else (if inb x1 6 = true then (if inb x2 12 = true then (if inb ((0 + (12 * x1)) + x2) 111 = true then (some (Sum.inl (x2 + 1, (wr m 60 0 (((0 + (12 * x1)) + x2).toNatClampNeg) (m 71 x1.toNatClampNeg x2.toNatClampNeg))))) else none) else none) else none)
set_option maxHeartbeats 4000000 in
set_option maxRecDepth 20000 in
theorem ok_X12_beginsAnew_b164_c125 (x1 : Int32) (x2 : Int32) (m : Mem) {r : (Int32 × Mem) ⊕ (Mem)} (h : r_X12_beginsAnew_b164_c125 x1 x2 m = some r) {o : Ou} {M' : Mem} (kb : ∀ (x2' : Int32) (m'' : Mem), r = Sum.inl (x2', m'') → Xj RX12 cX12_beginsAnew 3 none 2 24 0 0 0 0 164 [(0, vR 12 0), (1, vI x1), (2, vI x2')] [] m'' o M') (ke : ∀ (m'' : Mem), r = Sum.inr m'' → Xj RX12 cX12_beginsAnew 3 none 2 24 0 0 0 0 197 [(0, vR 12 0), (1, vI x1)] [] m'' o M') : Xj RX12 cX12_beginsAnew 3 none 2 24 0 0 0 0 164 [(0, vR 12 0), (1, vI x1), (2, vI x2)] [] m o M' := by
  unfold r_X12_beginsAnew_b164_c125 at h
  refine xj_iload_n 2 dX12_beginsAnew_164 rfl ?_
  refine xj_bipush (z := 12) dX12_beginsAnew_165 (by decide) ?_
  refine xj_icmp_ge (tgt := 197) dX12_beginsAnew_167 (by decide) (fun c16 => ?_) (fun c16 => ?_)
  · rw [if_pos c16] at h
    cases h
    refine xj_pick (ls' := [(0, vR 12 0), (1, vI x1)]) [0, 1] rfl ?_
    exact ke m rfl
  · rw [if_neg c16] at h
    refine xj_aload_n 0 dX12_beginsAnew_170 rfl ?_
    refine xg_getR (k' := 60) (i' := 0) dX12_beginsAnew_171 fl_X12_73 rfl ?_
    refine xj_iconst (z := 0) dX12_beginsAnew_174 (by decide) ?_
    refine xj_bipush (z := 12) dX12_beginsAnew_175 (by decide) ?_
    refine xj_iload_n 1 dX12_beginsAnew_177 rfl ?_
    refine xj_imul dX12_beginsAnew_178 ?_
    refine xj_iadd dX12_beginsAnew_179 ?_
    refine xj_iload_n 2 dX12_beginsAnew_180 rfl ?_
    refine xj_iadd dX12_beginsAnew_181 ?_
    refine xj_aload_n 0 dX12_beginsAnew_182 rfl ?_
    refine xg_getR (k' := 72) (i' := 0) dX12_beginsAnew_183 fl_X12_49 rfl ?_
    refine xj_iload_n 1 dX12_beginsAnew_186 rfl ?_
    by_cases c17 : inb x1 6 = true
    case neg => rw [if_neg c17] at h; cases h
    rw [if_pos c17] at h
    refine xg_aald (k' := 71) (i' := x1.toNatClampNeg) (n := x1.toNatClampNeg) dX12_beginsAnew_187 rfl (by decide) (inb_in c17) rfl rfl ?_
    refine xj_iload_n 2 dX12_beginsAnew_188 rfl ?_
    by_cases c18 : inb x2 12 = true
    case neg => rw [if_neg c18] at h; cases h
    rw [if_pos c18] at h
    refine xg_iald (z := (m 71 x1.toNatClampNeg x2.toNatClampNeg)) (n := x2.toNatClampNeg) dX12_beginsAnew_189 rfl (by decide) (inb_in c18) rfl rfl ?_
    by_cases c19 : inb ((0 + (12 * x1)) + x2) 111 = true
    case neg => rw [if_neg c19] at h; cases h
    rw [if_pos c19] at h
    refine xg_iast (n := ((0 + (12 * x1)) + x2).toNatClampNeg) dX12_beginsAnew_190 rfl (by decide) (inb_in c19) rfl ?_
    refine xj_iinc (z := x2 + 1) (ls' := [(2, vI (x2 + 1)), (0, vR 12 0), (1, vI x1)]) 2 dX12_beginsAnew_191 rfl rfl (by decide) rfl ?_
    refine xj_goto (tgt := 164) dX12_beginsAnew_194 (by decide) ?_
    cases h
    refine xj_pick (ls' := [(0, vR 12 0), (1, vI x1), (2, vI (x2 + 1))]) [1, 2, 0] rfl ?_
    exact kb (x2 + 1) (wr m 60 0 (((0 + (12 * x1)) + x2).toNatClampNeg) (m 71 x1.toNatClampNeg x2.toNatClampNeg)) rfl
noncomputable def r_X12_beginsAnew_e197_h164_c125 (x1 : Int32) (m : Mem) : Option ((Int32 × Mem) ⊕ (Mem)) :=
  some (Sum.inl (x1 + 1, m))
set_option maxHeartbeats 4000000 in
set_option maxRecDepth 20000 in
theorem ok_X12_beginsAnew_e197_h164_c125 (x1 : Int32) (m : Mem) {r : (Int32 × Mem) ⊕ (Mem)} (h : r_X12_beginsAnew_e197_h164_c125 x1 m = some r) {o : Ou} {M' : Mem} (kb : ∀ (x1' : Int32) (m'' : Mem), r = Sum.inl (x1', m'') → Xj RX12 cX12_beginsAnew 3 none 2 24 0 0 0 0 125 [(0, vR 12 0), (1, vI x1')] [] m'' o M') (ke : ∀ (m'' : Mem), r = Sum.inr m'' → Xj RX12 cX12_beginsAnew 3 none 2 24 0 0 0 0 203 [(0, vR 12 0)] [] m'' o M') : Xj RX12 cX12_beginsAnew 3 none 2 24 0 0 0 0 197 [(0, vR 12 0), (1, vI x1)] [] m o M' := by
  unfold r_X12_beginsAnew_e197_h164_c125 at h
  refine xj_iinc (z := x1 + 1) (ls' := [(1, vI (x1 + 1)), (0, vR 12 0)]) 1 dX12_beginsAnew_197 rfl rfl (by decide) rfl ?_
  refine xj_goto (tgt := 125) dX12_beginsAnew_200 (by decide) ?_
  cases h
  refine xj_pick (ls' := [(0, vR 12 0), (1, vI (x1 + 1))]) [1, 0] rfl ?_
  exact kb (x1 + 1) m rfl
noncomputable def r_X12_beginsAnew_l164_c125 (x1 : Int32) (x2 : Int32) (m : Mem) : Option ((Int32 × Mem) ⊕ (Mem)) :=
  bd1 (loopO (fun s => r_X12_beginsAnew_b164_c125 x1 s.1 s.2) (x2, m)) (fun e => r_X12_beginsAnew_e197_h164_c125 x1 e)
set_option maxHeartbeats 4000000 in
set_option maxRecDepth 20000 in
theorem ok_X12_beginsAnew_l164_c125 (x1 : Int32) (x2 : Int32) (m : Mem) {r : (Int32 × Mem) ⊕ (Mem)} (h : r_X12_beginsAnew_l164_c125 x1 x2 m = some r) {o : Ou} {M' : Mem} (kb : ∀ (x1' : Int32) (m'' : Mem), r = Sum.inl (x1', m'') → Xj RX12 cX12_beginsAnew 3 none 2 24 0 0 0 0 125 [(0, vR 12 0), (1, vI x1')] [] m'' o M') (ke : ∀ (m'' : Mem), r = Sum.inr m'' → Xj RX12 cX12_beginsAnew 3 none 2 24 0 0 0 0 203 [(0, vR 12 0)] [] m'' o M') : Xj RX12 cX12_beginsAnew 3 none 2 24 0 0 0 0 164 [(0, vR 12 0), (1, vI x1), (2, vI x2)] [] m o M' := by
  unfold r_X12_beginsAnew_l164_c125 at h
  obtain ⟨e, e1, h⟩ := bd1_some h
  refine loopO_ok (P := fun s : (Int32 × Mem) => Xj RX12 cX12_beginsAnew 3 none 2 24 0 0 0 0 164 [(0, vR 12 0), (1, vI x1), (2, vI s.1)] [] s.2 o M') (Q := fun e : (Mem) => Xj RX12 cX12_beginsAnew 3 none 2 24 0 0 0 0 197 [(0, vR 12 0), (1, vI x1)] [] e o M') ?_ _ _ e1 ?_
  · intro s r9 h9 hi hx
    exact ok_X12_beginsAnew_b164_c125 x1 s.1 s.2 h9 (by rintro _ _ rfl; exact hi _ rfl) (by rintro _ rfl; exact hx _ rfl)
  · exact ok_X12_beginsAnew_e197_h164_c125 x1 e h kb ke
noncomputable def r_X12_beginsAnew_j161_c125 (x1 : Int32) (s0 : Int32) (s1 : Int32) (q2 : Nat) (m : Mem) : Option ((Int32 × Mem) ⊕ (Mem)) :=
  if inb s1 111 = true then (r_X12_beginsAnew_l164_c125 x1 0 (wr m 60 q2 s1.toNatClampNeg s0)) else none
set_option maxHeartbeats 4000000 in
set_option maxRecDepth 20000 in
theorem ok_X12_beginsAnew_j161_c125 (x1 : Int32) (s0 : Int32) (s1 : Int32) (q2 : Nat) (m : Mem) {r : (Int32 × Mem) ⊕ (Mem)} (h : r_X12_beginsAnew_j161_c125 x1 s0 s1 q2 m = some r) {o : Ou} {M' : Mem} (kb : ∀ (x1' : Int32) (m'' : Mem), r = Sum.inl (x1', m'') → Xj RX12 cX12_beginsAnew 3 none 2 24 0 0 0 0 125 [(0, vR 12 0), (1, vI x1')] [] m'' o M') (ke : ∀ (m'' : Mem), r = Sum.inr m'' → Xj RX12 cX12_beginsAnew 3 none 2 24 0 0 0 0 203 [(0, vR 12 0)] [] m'' o M') : Xj RX12 cX12_beginsAnew 3 none 2 24 0 0 0 0 161 [(0, vR 12 0), (1, vI x1)] [vI s0, vI s1, vR 60 q2] m o M' := by
  unfold r_X12_beginsAnew_j161_c125 at h
  by_cases c15 : inb s1 111 = true
  case neg => rw [if_neg c15] at h; cases h
  rw [if_pos c15] at h
  refine xg_iast (n := s1.toNatClampNeg) dX12_beginsAnew_161 rfl (by decide) (inb_in c15) rfl ?_
  refine xj_iconst (z := 0) dX12_beginsAnew_162 (by decide) ?_
  refine xj_istore_n (ls' := [(2, vI 0), (0, vR 12 0), (1, vI x1)]) dX12_beginsAnew_163 rfl (by decide) rfl ?_
  refine xj_pick (ls' := [(0, vR 12 0), (1, vI x1), (2, vI 0)]) [1, 2, 0] rfl ?_
  exact ok_X12_beginsAnew_l164_c125 x1 0 (wr m 60 q2 s1.toNatClampNeg s0) h kb ke
noncomputable def r_X12_beginsAnew_b125 (x1 : Int32) (m : Mem) : Option ((Int32 × Mem) ⊕ (Mem)) :=
  if 6 ≤ x1 then (some (Sum.inr m)) else (if (m 52 0 2) ≤ x1 then (r_X12_beginsAnew_j161_c125 x1 (-1) (72 + x1) 0 m) else (if inb x1 6 = true then (r_X12_beginsAnew_j161_c125 x1 (m 67 x1.toNatClampNeg 1) (72 + x1) 0 m) else none))
set_option maxHeartbeats 4000000 in
set_option maxRecDepth 20000 in
theorem ok_X12_beginsAnew_b125 (x1 : Int32) (m : Mem) {r : (Int32 × Mem) ⊕ (Mem)} (h : r_X12_beginsAnew_b125 x1 m = some r) {o : Ou} {M' : Mem} (kb : ∀ (x1' : Int32) (m'' : Mem), r = Sum.inl (x1', m'') → Xj RX12 cX12_beginsAnew 3 none 2 24 0 0 0 0 125 [(0, vR 12 0), (1, vI x1')] [] m'' o M') (ke : ∀ (m'' : Mem), r = Sum.inr m'' → Xj RX12 cX12_beginsAnew 3 none 2 24 0 0 0 0 203 [(0, vR 12 0)] [] m'' o M') : Xj RX12 cX12_beginsAnew 3 none 2 24 0 0 0 0 125 [(0, vR 12 0), (1, vI x1)] [] m o M' := by
  unfold r_X12_beginsAnew_b125 at h
  refine xj_iload_n 1 dX12_beginsAnew_125 rfl ?_
  refine xj_bipush (z := 6) dX12_beginsAnew_126 (by decide) ?_
  refine xj_icmp_ge (tgt := 203) dX12_beginsAnew_128 (by decide) (fun c13 => ?_) (fun c13 => ?_)
  · rw [if_pos c13] at h
    cases h
    refine xj_pick (ls' := [(0, vR 12 0)]) [0] rfl ?_
    exact ke m rfl
  · rw [if_neg c13] at h
    refine xj_aload_n 0 dX12_beginsAnew_131 rfl ?_
    refine xg_getR (k' := 60) (i' := 0) dX12_beginsAnew_132 fl_X12_73 rfl ?_
    refine xj_bipush (z := 72) dX12_beginsAnew_135 (by decide) ?_
    refine xj_iload_n 1 dX12_beginsAnew_137 rfl ?_
    refine xj_iadd dX12_beginsAnew_138 ?_
    refine xj_iload_n 1 dX12_beginsAnew_139 rfl ?_
    refine xj_aload_n 0 dX12_beginsAnew_140 rfl ?_
    refine xg_getR (k' := 52) (i' := 0) dX12_beginsAnew_141 fl_X12_23 rfl ?_
    refine xj_iconst (z := 2) dX12_beginsAnew_144 (by decide) ?_
    refine xg_iald (z := (m 52 0 2)) (n := 2) dX12_beginsAnew_145 rfl (by decide) (inb_in (by decide)) (by decide) rfl ?_
    refine xj_icmp_ge (tgt := 160) dX12_beginsAnew_146 (by decide) (fun c14 => ?_) (fun c14 => ?_)
    · rw [if_pos c14] at h
      refine xj_iconst (z := (-1)) dX12_beginsAnew_160 (by decide) ?_
      exact ok_X12_beginsAnew_j161_c125 x1 (-1) (72 + x1) 0 m h kb ke
    · rw [if_neg c14] at h
      refine xj_aload_n 0 dX12_beginsAnew_149 rfl ?_
      refine xg_getR (k' := 68) (i' := 0) dX12_beginsAnew_150 fl_X12_43 rfl ?_
      refine xj_iload_n 1 dX12_beginsAnew_153 rfl ?_
      by_cases c20 : inb x1 6 = true
      case neg => rw [if_neg c20] at h; cases h
      rw [if_pos c20] at h
      refine xg_aald (k' := 67) (i' := x1.toNatClampNeg) (n := x1.toNatClampNeg) dX12_beginsAnew_154 rfl (by decide) (inb_in c20) rfl rfl ?_
      refine xj_iconst (z := 1) dX12_beginsAnew_155 (by decide) ?_
      refine xg_iald (z := (m 67 x1.toNatClampNeg 1)) (n := 1) dX12_beginsAnew_156 rfl (by decide) (inb_in (by decide)) (by decide) rfl ?_
      refine xj_goto (tgt := 161) dX12_beginsAnew_157 (by decide) ?_
      exact ok_X12_beginsAnew_j161_c125 x1 (m 67 x1.toNatClampNeg 1) (72 + x1) 0 m h kb ke
noncomputable def r_X12_beginsAnew_e203_h125 (m : Mem) : Option Mem :=
  some (wr (wr (wr (wr (wr m 12 0 21 0) 12 0 35 0) 12 0 36 0) 12 0 37 0) 12 0 38 0)
set_option maxHeartbeats 4000000 in
set_option maxRecDepth 20000 in
theorem ok_X12_beginsAnew_e203_h125 (m : Mem) {m' : Mem} (h : r_X12_beginsAnew_e203_h125 m = some m') : Xj RX12 cX12_beginsAnew 3 none 2 24 0 0 0 0 203 [(0, vR 12 0)] [] m oV m' := by
  unfold r_X12_beginsAnew_e203_h125 at h
  refine xj_aload_n 0 dX12_beginsAnew_203 rfl ?_
  refine xj_iconst (z := 0) dX12_beginsAnew_204 (by decide) ?_
  refine xj_putI dX12_beginsAnew_205 fw_X12_208 rfl ?_
  refine xj_aload_n 0 dX12_beginsAnew_208 rfl ?_
  refine xj_iconst (z := 0) dX12_beginsAnew_209 (by decide) ?_
  refine xj_putI dX12_beginsAnew_210 fw_X12_211 rfl ?_
  refine xj_aload_n 0 dX12_beginsAnew_213 rfl ?_
  refine xj_iconst (z := 0) dX12_beginsAnew_214 (by decide) ?_
  refine xj_putI dX12_beginsAnew_215 fw_X12_214 rfl ?_
  refine xj_aload_n 0 dX12_beginsAnew_218 rfl ?_
  refine xj_iconst (z := 0) dX12_beginsAnew_219 (by decide) ?_
  refine xj_putI dX12_beginsAnew_220 fw_X12_217 rfl ?_
  refine xj_aload_n 0 dX12_beginsAnew_223 rfl ?_
  refine xj_iconst (z := 0) dX12_beginsAnew_224 (by decide) ?_
  refine xj_putI dX12_beginsAnew_225 fw_X12_220 rfl ?_
  cases h
  exact xj_return dX12_beginsAnew_228 (by decide) (by decide)
noncomputable def r_X12_beginsAnew_l125 (x1 : Int32) (m : Mem) : Option Mem :=
  bd1 (loopO (fun s => r_X12_beginsAnew_b125 s.1 s.2) (x1, m)) (fun e => r_X12_beginsAnew_e203_h125 e)
set_option maxHeartbeats 4000000 in
set_option maxRecDepth 20000 in
theorem ok_X12_beginsAnew_l125 (x1 : Int32) (m : Mem) {m' : Mem} (h : r_X12_beginsAnew_l125 x1 m = some m') : Xj RX12 cX12_beginsAnew 3 none 2 24 0 0 0 0 125 [(0, vR 12 0), (1, vI x1)] [] m oV m' := by
  unfold r_X12_beginsAnew_l125 at h
  obtain ⟨e, e1, h⟩ := bd1_some h
  refine loopO_ok (P := fun s : (Int32 × Mem) => Xj RX12 cX12_beginsAnew 3 none 2 24 0 0 0 0 125 [(0, vR 12 0), (1, vI s.1)] [] s.2 oV m') (Q := fun e : (Mem) => Xj RX12 cX12_beginsAnew 3 none 2 24 0 0 0 0 203 [(0, vR 12 0)] [] e oV m') ?_ _ _ e1 ?_
  · intro s r9 h9 hi hx
    exact ok_X12_beginsAnew_b125 s.1 s.2 h9 (by rintro _ _ rfl; exact hi _ rfl) (by rintro _ rfl; exact hx _ rfl)
  · exact ok_X12_beginsAnew_e203_h125 e h 
noncomputable def r_X12_beginsAnew_e123_h104 (m : Mem) : Option Mem :=
  r_X12_beginsAnew_l125 0 m
set_option maxHeartbeats 4000000 in
set_option maxRecDepth 20000 in
theorem ok_X12_beginsAnew_e123_h104 (m : Mem) {m' : Mem} (h : r_X12_beginsAnew_e123_h104 m = some m') : Xj RX12 cX12_beginsAnew 3 none 2 24 0 0 0 0 123 [(0, vR 12 0)] [] m oV m' := by
  unfold r_X12_beginsAnew_e123_h104 at h
  refine xj_iconst (z := 0) dX12_beginsAnew_123 (by decide) ?_
  refine xj_istore_n (ls' := [(1, vI 0), (0, vR 12 0)]) dX12_beginsAnew_124 rfl (by decide) rfl ?_
  refine xj_pick (ls' := [(0, vR 12 0), (1, vI 0)]) [1, 0] rfl ?_
  exact ok_X12_beginsAnew_l125 0 m h 
noncomputable def r_X12_beginsAnew_l104 (x1 : Int32) (m : Mem) : Option Mem :=
  bd1 (loopO (fun s => r_X12_beginsAnew_b104 s.1 s.2) (x1, m)) (fun e => r_X12_beginsAnew_e123_h104 e)
set_option maxHeartbeats 4000000 in
set_option maxRecDepth 20000 in
theorem ok_X12_beginsAnew_l104 (x1 : Int32) (m : Mem) {m' : Mem} (h : r_X12_beginsAnew_l104 x1 m = some m') : Xj RX12 cX12_beginsAnew 3 none 2 24 0 0 0 0 104 [(0, vR 12 0), (1, vI x1)] [] m oV m' := by
  unfold r_X12_beginsAnew_l104 at h
  obtain ⟨e, e1, h⟩ := bd1_some h
  refine loopO_ok (P := fun s : (Int32 × Mem) => Xj RX12 cX12_beginsAnew 3 none 2 24 0 0 0 0 104 [(0, vR 12 0), (1, vI s.1)] [] s.2 oV m') (Q := fun e : (Mem) => Xj RX12 cX12_beginsAnew 3 none 2 24 0 0 0 0 123 [(0, vR 12 0)] [] e oV m') ?_ _ _ e1 ?_
  · intro s r9 h9 hi hx
    exact ok_X12_beginsAnew_b104 s.1 s.2 h9 (by rintro _ _ rfl; exact hi _ rfl) (by rintro _ rfl; exact hx _ rfl)
  · exact ok_X12_beginsAnew_e123_h104 e h 
noncomputable def r_X12_beginsAnew_e55_h27 (m : Mem) : Option Mem :=
  bd1 (r_X12_lays_62_64 (m 52 0 1) m) fun m6 => (bd1 (r_X12_lays_66_68 (m6 52 0 2) m6) fun m8 => (bd1 (r_X12_lays_70_72 6 m8) fun m10 => (r_X12_beginsAnew_l104 0 m10)))
set_option maxHeartbeats 4000000 in
set_option maxRecDepth 20000 in
theorem ok_X12_beginsAnew_e55_h27 (m : Mem) {m' : Mem} (h : r_X12_beginsAnew_e55_h27 m = some m') : Xj RX12 cX12_beginsAnew 3 none 2 24 0 0 0 0 55 [(0, vR 12 0)] [] m oV m' := by
  unfold r_X12_beginsAnew_e55_h27 at h
  refine xj_aload_n 0 dX12_beginsAnew_55 rfl ?_
  refine xg_getR (k' := 62) (i' := 0) dX12_beginsAnew_56 fl_X12_34 rfl ?_
  refine xj_aload_n 0 dX12_beginsAnew_59 rfl ?_
  refine xg_getR (k' := 64) (i' := 0) dX12_beginsAnew_60 fl_X12_37 rfl ?_
  refine xj_aload_n 0 dX12_beginsAnew_63 rfl ?_
  refine xg_getR (k' := 52) (i' := 0) dX12_beginsAnew_64 fl_X12_23 rfl ?_
  refine xj_iconst (z := 1) dX12_beginsAnew_67 (by decide) ?_
  refine xg_iald (z := (m 52 0 1)) (n := 1) dX12_beginsAnew_68 rfl (by decide) (inb_in (by decide)) (by decide) rfl ?_
  obtain ⟨m6, e5, h⟩ := bd1_some h
  refine xc_Sv0 (st := []) (ok_X12_lays_62_64 (m 52 0 1) m e5) dX12_beginsAnew_69 cs_X12_204 rfl rfl (Nat.le_of_ble_eq_true rfl) (by decide) (by decide) (by decide) (by decide) ?_
  refine xj_aload_n 0 dX12_beginsAnew_72 rfl ?_
  refine xg_getR (k' := 66) (i' := 0) dX12_beginsAnew_73 fl_X12_40 rfl ?_
  refine xj_aload_n 0 dX12_beginsAnew_76 rfl ?_
  refine xg_getR (k' := 68) (i' := 0) dX12_beginsAnew_77 fl_X12_43 rfl ?_
  refine xj_aload_n 0 dX12_beginsAnew_80 rfl ?_
  refine xg_getR (k' := 52) (i' := 0) dX12_beginsAnew_81 fl_X12_23 rfl ?_
  refine xj_iconst (z := 2) dX12_beginsAnew_84 (by decide) ?_
  refine xg_iald (z := (m6 52 0 2)) (n := 2) dX12_beginsAnew_85 rfl (by decide) (inb_in (by decide)) (by decide) rfl ?_
  obtain ⟨m8, e7, h⟩ := bd1_some h
  refine xc_Sv0 (st := []) (ok_X12_lays_66_68 (m6 52 0 2) m6 e7) dX12_beginsAnew_86 cs_X12_204 rfl rfl (Nat.le_of_ble_eq_true rfl) (by decide) (by decide) (by decide) (by decide) ?_
  refine xj_aload_n 0 dX12_beginsAnew_89 rfl ?_
  refine xg_getR (k' := 70) (i' := 0) dX12_beginsAnew_90 fl_X12_46 rfl ?_
  refine xj_aload_n 0 dX12_beginsAnew_93 rfl ?_
  refine xg_getR (k' := 72) (i' := 0) dX12_beginsAnew_94 fl_X12_49 rfl ?_
  refine xj_bipush (z := 6) dX12_beginsAnew_97 (by decide) ?_
  obtain ⟨m10, e9, h⟩ := bd1_some h
  refine xc_Sv0 (st := []) (ok_X12_lays_70_72 6 m8 e9) dX12_beginsAnew_99 cs_X12_204 rfl rfl (Nat.le_of_ble_eq_true rfl) (by decide) (by decide) (by decide) (by decide) ?_
  refine xj_iconst (z := 0) dX12_beginsAnew_102 (by decide) ?_
  refine xj_istore_n (ls' := [(1, vI 0), (0, vR 12 0)]) dX12_beginsAnew_103 rfl (by decide) rfl ?_
  refine xj_pick (ls' := [(0, vR 12 0), (1, vI 0)]) [1, 0] rfl ?_
  exact ok_X12_beginsAnew_l104 0 m10 h 
noncomputable def r_X12_beginsAnew_l27 (x1 : Int32) (m : Mem) : Option Mem :=
  bd1 (loopO (fun s => r_X12_beginsAnew_b27 s.1 s.2) (x1, m)) (fun e => r_X12_beginsAnew_e55_h27 e)
set_option maxHeartbeats 4000000 in
set_option maxRecDepth 20000 in
theorem ok_X12_beginsAnew_l27 (x1 : Int32) (m : Mem) {m' : Mem} (h : r_X12_beginsAnew_l27 x1 m = some m') : Xj RX12 cX12_beginsAnew 3 none 2 24 0 0 0 0 27 [(0, vR 12 0), (1, vI x1)] [] m oV m' := by
  unfold r_X12_beginsAnew_l27 at h
  obtain ⟨e, e1, h⟩ := bd1_some h
  refine loopO_ok (P := fun s : (Int32 × Mem) => Xj RX12 cX12_beginsAnew 3 none 2 24 0 0 0 0 27 [(0, vR 12 0), (1, vI s.1)] [] s.2 oV m') (Q := fun e : (Mem) => Xj RX12 cX12_beginsAnew 3 none 2 24 0 0 0 0 55 [(0, vR 12 0)] [] e oV m') ?_ _ _ e1 ?_
  · intro s r9 h9 hi hx
    exact ok_X12_beginsAnew_b27 s.1 s.2 h9 (by rintro _ _ rfl; exact hi _ rfl) (by rintro _ rfl; exact hx _ rfl)
  · exact ok_X12_beginsAnew_e55_h27 e h 
noncomputable def r_X12_beginsAnew_e25_h2 (m : Mem) : Option Mem :=
  r_X12_beginsAnew_l27 0 m
set_option maxHeartbeats 4000000 in
set_option maxRecDepth 20000 in
theorem ok_X12_beginsAnew_e25_h2 (m : Mem) {m' : Mem} (h : r_X12_beginsAnew_e25_h2 m = some m') : Xj RX12 cX12_beginsAnew 3 none 2 24 0 0 0 0 25 [(0, vR 12 0)] [] m oV m' := by
  unfold r_X12_beginsAnew_e25_h2 at h
  refine xj_iconst (z := 0) dX12_beginsAnew_25 (by decide) ?_
  refine xj_istore_n (ls' := [(1, vI 0), (0, vR 12 0)]) dX12_beginsAnew_26 rfl (by decide) rfl ?_
  refine xj_pick (ls' := [(0, vR 12 0), (1, vI 0)]) [1, 0] rfl ?_
  exact ok_X12_beginsAnew_l27 0 m h 
noncomputable def r_X12_beginsAnew_l2 (x1 : Int32) (m : Mem) : Option Mem :=
  bd1 (loopO (fun s => r_X12_beginsAnew_b2 s.1 s.2) (x1, m)) (fun e => r_X12_beginsAnew_e25_h2 e)
set_option maxHeartbeats 4000000 in
set_option maxRecDepth 20000 in
theorem ok_X12_beginsAnew_l2 (x1 : Int32) (m : Mem) {m' : Mem} (h : r_X12_beginsAnew_l2 x1 m = some m') : Xj RX12 cX12_beginsAnew 3 none 2 24 0 0 0 0 2 [(0, vR 12 0), (1, vI x1)] [] m oV m' := by
  unfold r_X12_beginsAnew_l2 at h
  obtain ⟨e, e1, h⟩ := bd1_some h
  refine loopO_ok (P := fun s : (Int32 × Mem) => Xj RX12 cX12_beginsAnew 3 none 2 24 0 0 0 0 2 [(0, vR 12 0), (1, vI s.1)] [] s.2 oV m') (Q := fun e : (Mem) => Xj RX12 cX12_beginsAnew 3 none 2 24 0 0 0 0 25 [(0, vR 12 0)] [] e oV m') ?_ _ _ e1 ?_
  · intro s r9 h9 hi hx
    exact ok_X12_beginsAnew_b2 s.1 s.2 h9 (by rintro _ _ rfl; exact hi _ rfl) (by rintro _ rfl; exact hx _ rfl)
  · exact ok_X12_beginsAnew_e25_h2 e h 
noncomputable def r_X12_beginsAnew (m : Mem) : Option Mem :=
  r_X12_beginsAnew_l2 0 m
set_option maxHeartbeats 4000000 in
set_option maxRecDepth 20000 in
theorem ok_X12_beginsAnew (m : Mem) {m' : Mem} (h : r_X12_beginsAnew m = some m') : Mt yX12_beginsAnew cX12_beginsAnew 3 none 2 24 0 0 [vR 12 0] m oV m' := by
  refine Mt.of (by decide) (Nat.le_of_ble_eq_true rfl) (by decide +kernel) (hhF_ne (by decide)) ?_
  show Xj RX12 cX12_beginsAnew 3 none 2 24 0 0 0 0 0 [(0, vR 12 0)] [] m oV m'
  unfold r_X12_beginsAnew at h
  refine xj_iconst (z := 0) dX12_beginsAnew_0 (by decide) ?_
  refine xj_istore_n (ls' := [(1, vI 0), (0, vR 12 0)]) dX12_beginsAnew_1 rfl (by decide) rfl ?_
  refine xj_pick (ls' := [(0, vR 12 0), (1, vI 0)]) [1, 0] rfl ?_
  exact ok_X12_beginsAnew_l2 0 m h 
noncomputable def r_X12_isPerson (x1 : Int32) (m : Mem) : Option Bool :=
  some (r_X12_in x1 0 ((m 52 0 2) - 1))
set_option maxHeartbeats 4000000 in
set_option maxRecDepth 20000 in
theorem ok_X12_isPerson (x1 : Int32) (m : Mem) {z : Bool} (h : r_X12_isPerson x1 m = some z) : Mt yX12_isPerson cX12_isPerson 2 (some .boolean) 2 22 0 0 [vR 12 0, vI x1] m (oB z) m := by
  refine Mt.of (by decide) (Nat.le_of_ble_eq_true rfl) (by decide +kernel) (hhF_ne (by decide)) ?_
  show Xj RX12 cX12_isPerson 2 (some .boolean) 2 22 0 0 0 0 0 [(0, vR 12 0), (1, vI x1)] [] m (oB z) m
  unfold r_X12_isPerson at h
  refine xj_iload_n 1 dX12_isPerson_0 rfl ?_
  refine xj_iconst (z := 0) dX12_isPerson_1 (by decide) ?_
  refine xj_aload_n 0 dX12_isPerson_2 rfl ?_
  refine xg_getR (k' := 52) (i' := 0) dX12_isPerson_3 fl_X12_23 rfl ?_
  refine xj_iconst (z := 2) dX12_isPerson_6 (by decide) ?_
  refine xg_iald (z := (m 52 0 2)) (n := 2) dX12_isPerson_7 rfl (by decide) (inb_in (by decide)) (by decide) rfl ?_
  refine xj_iconst (z := 1) dX12_isPerson_8 (by decide) ?_
  refine xj_isub dX12_isPerson_9 ?_
  refine xc_Sb0 (st := []) (ok_X12_in x1 0 ((m 52 0 2) - 1) m rfl) dX12_isPerson_10 cs_X12_143 rfl rfl (Nat.le_of_ble_eq_true rfl) (by decide) (by decide) (by decide) (by decide) ?_
  cases h
  exact xj_ireturn dX12_isPerson_13 (nar_b2i _) (by decide) (by decide)
noncomputable def r_X12_isPlace (x1 : Int32) (m : Mem) : Option Bool :=
  some (r_X12_in x1 0 ((m 52 0 0) - 1))
set_option maxHeartbeats 4000000 in
set_option maxRecDepth 20000 in
theorem ok_X12_isPlace (x1 : Int32) (m : Mem) {z : Bool} (h : r_X12_isPlace x1 m = some z) : Mt yX12_isPlace cX12_isPlace 2 (some .boolean) 2 22 0 0 [vR 12 0, vI x1] m (oB z) m := by
  refine Mt.of (by decide) (Nat.le_of_ble_eq_true rfl) (by decide +kernel) (hhF_ne (by decide)) ?_
  show Xj RX12 cX12_isPlace 2 (some .boolean) 2 22 0 0 0 0 0 [(0, vR 12 0), (1, vI x1)] [] m (oB z) m
  unfold r_X12_isPlace at h
  refine xj_iload_n 1 dX12_isPlace_0 rfl ?_
  refine xj_iconst (z := 0) dX12_isPlace_1 (by decide) ?_
  refine xj_aload_n 0 dX12_isPlace_2 rfl ?_
  refine xg_getR (k' := 52) (i' := 0) dX12_isPlace_3 fl_X12_23 rfl ?_
  refine xj_iconst (z := 0) dX12_isPlace_6 (by decide) ?_
  refine xg_iald (z := (m 52 0 0)) (n := 0) dX12_isPlace_7 rfl (by decide) (inb_in (by decide)) (by decide) rfl ?_
  refine xj_iconst (z := 1) dX12_isPlace_8 (by decide) ?_
  refine xj_isub dX12_isPlace_9 ?_
  refine xc_Sb0 (st := []) (ok_X12_in x1 0 ((m 52 0 0) - 1) m rfl) dX12_isPlace_10 cs_X12_143 rfl rfl (Nat.le_of_ble_eq_true rfl) (by decide) (by decide) (by decide) (by decide) ?_
  cases h
  exact xj_ireturn dX12_isPlace_13 (nar_b2i _) (by decide) (by decide)
noncomputable def r_X12_belief_j27 (x1 : Int32) (x2 : Int32) (s0 : Int32) (m : Mem) : Option (Int32 × Mem) :=
  bd2 (r_X12_bad s0 1 0 m) fun z9 m8 => (if z9 = true then (some (0, m8)) else (if inb ((0 + (12 * x1)) + x2) 111 = true then (some ((m8 60 0 (((0 + (12 * x1)) + x2).toNatClampNeg)), m8)) else none))
set_option maxHeartbeats 4000000 in
set_option maxRecDepth 20000 in
theorem ok_X12_belief_j27 (x1 : Int32) (x2 : Int32) (s0 : Int32) (m : Mem) {z : Int32} {m' : Mem} (h : r_X12_belief_j27 x1 x2 s0 m = some (z, m')) : Xj RX12 cX12_belief 3 (some .int) 3 43 0 0 0 0 27 [(0, vR 12 0), (1, vI x1), (2, vI x2)] [vI s0, vR 12 0] m (oI z) m' := by
  unfold r_X12_belief_j27 at h
  refine xj_iconst (z := 1) dX12_belief_27 (by decide) ?_
  refine xj_iconst (z := 0) dX12_belief_28 (by decide) ?_
  obtain ⟨z9, m8, e7, h⟩ := bd2_some h
  refine xc_Vb0 (st := []) (ok_X12_bad s0 1 0 m e7) dX12_belief_29 cv_X12_191 rfl rfl (Nat.le_of_ble_eq_true rfl) (by decide) (by decide) (by decide) (by decide) ?_
  refine xj_if_eq (tgt := 37) dX12_belief_32 (by decide) (fun c10 => ?_) (fun c10 => ?_)
  · rw [if_neg (b2i_f c10)] at h
    refine xj_aload_n 0 dX12_belief_37 rfl ?_
    refine xg_getR (k' := 60) (i' := 0) dX12_belief_38 fl_X12_73 rfl ?_
    refine xj_iconst (z := 0) dX12_belief_41 (by decide) ?_
    refine xj_bipush (z := 12) dX12_belief_42 (by decide) ?_
    refine xj_iload_n 1 dX12_belief_44 rfl ?_
    refine xj_imul dX12_belief_45 ?_
    refine xj_iadd dX12_belief_46 ?_
    refine xj_iload_n 2 dX12_belief_47 rfl ?_
    refine xj_iadd dX12_belief_48 ?_
    by_cases c11 : inb ((0 + (12 * x1)) + x2) 111 = true
    case neg => rw [if_neg c11] at h; cases h
    rw [if_pos c11] at h
    refine xg_iald (z := (m8 60 0 (((0 + (12 * x1)) + x2).toNatClampNeg))) (n := ((0 + (12 * x1)) + x2).toNatClampNeg) dX12_belief_49 rfl (by decide) (inb_in c11) rfl rfl ?_
    cases h
    exact xj_ireturn dX12_belief_50 rfl (by decide) (by decide)
  · rw [if_pos (b2i_t c10)] at h
    refine xj_iconst (z := 0) dX12_belief_35 (by decide) ?_
    cases h
    exact xj_ireturn dX12_belief_36 rfl (by decide) (by decide)
noncomputable def r_X12_belief_j22 (x1 : Int32) (x2 : Int32) (m : Mem) : Option (Int32 × Mem) :=
  r_X12_belief_j27 x1 x2 1 m
set_option maxHeartbeats 4000000 in
set_option maxRecDepth 20000 in
theorem ok_X12_belief_j22 (x1 : Int32) (x2 : Int32) (m : Mem) {z : Int32} {m' : Mem} (h : r_X12_belief_j22 x1 x2 m = some (z, m')) : Xj RX12 cX12_belief 3 (some .int) 3 43 0 0 0 0 22 [(0, vR 12 0), (1, vI x1), (2, vI x2)] [vR 12 0] m (oI z) m' := by
  unfold r_X12_belief_j22 at h
  refine xj_iconst (z := 1) dX12_belief_22 (by decide) ?_
  refine xj_goto (tgt := 27) dX12_belief_23 (by decide) ?_
  exact ok_X12_belief_j27 x1 x2 1 m h 
noncomputable def r_X12_belief (x1 : Int32) (x2 : Int32) (m : Mem) : Option (Int32 × Mem) :=
  bd1 (r_X12_isPerson x1 (wr m 12 0 0 0)) fun z2 => (if z2 = true then (bd1 (r_X12_isPlace x2 (wr m 12 0 0 0)) fun z5 => (if z5 = true then (r_X12_belief_j27 x1 x2 0 (wr m 12 0 0 0)) else (r_X12_belief_j22 x1 x2 (wr m 12 0 0 0)))) else (r_X12_belief_j22 x1 x2 (wr m 12 0 0 0)))
set_option maxHeartbeats 4000000 in
set_option maxRecDepth 20000 in
theorem ok_X12_belief (x1 : Int32) (x2 : Int32) (m : Mem) {z : Int32} {m' : Mem} (h : r_X12_belief x1 x2 m = some (z, m')) : Mt yX12_belief cX12_belief 3 (some .int) 3 43 0 0 [vR 12 0, vI x1, vI x2] m (oI z) m' := by
  refine Mt.of (by decide) (Nat.le_of_ble_eq_true rfl) (by decide +kernel) (hhF_ne (by decide)) ?_
  show Xj RX12 cX12_belief 3 (some .int) 3 43 0 0 0 0 0 [(0, vR 12 0), (1, vI x1), (2, vI x2)] [] m (oI z) m'
  unfold r_X12_belief at h
  refine xj_aload_n 0 dX12_belief_0 rfl ?_
  refine xj_iconst (z := 0) dX12_belief_1 (by decide) ?_
  refine xj_putI dX12_belief_2 fw_X12_109 rfl ?_
  refine xj_aload_n 0 dX12_belief_5 rfl ?_
  refine xj_aload_n 0 dX12_belief_6 rfl ?_
  refine xj_iload_n 1 dX12_belief_7 rfl ?_
  obtain ⟨z2, e1, h⟩ := bd1_some h
  refine xc_Vb0 (st := [vR 12 0]) (ok_X12_isPerson x1 (wr m 12 0 0 0) e1) dX12_belief_8 cv_X12_358 rfl rfl (Nat.le_of_ble_eq_true rfl) (by decide) (by decide) (by decide) (by decide) ?_
  refine xj_if_eq (tgt := 22) dX12_belief_11 (by decide) (fun c3 => ?_) (fun c3 => ?_)
  · rw [if_neg (b2i_f c3)] at h
    exact ok_X12_belief_j22 x1 x2 (wr m 12 0 0 0) h 
  · rw [if_pos (b2i_t c3)] at h
    refine xj_aload_n 0 dX12_belief_14 rfl ?_
    refine xj_iload_n 2 dX12_belief_15 rfl ?_
    obtain ⟨z5, e4, h⟩ := bd1_some h
    refine xc_Vb0 (st := [vR 12 0]) (ok_X12_isPlace x2 (wr m 12 0 0 0) e4) dX12_belief_16 cv_X12_352 rfl rfl (Nat.le_of_ble_eq_true rfl) (by decide) (by decide) (by decide) (by decide) ?_
    refine xj_if_ne (tgt := 26) dX12_belief_19 (by decide) (fun c6 => ?_) (fun c6 => ?_)
    · rw [if_pos (b2i_t c6)] at h
      refine xj_iconst (z := 0) dX12_belief_26 (by decide) ?_
      exact ok_X12_belief_j27 x1 x2 0 (wr m 12 0 0 0) h 
    · rw [if_neg (b2i_f c6)] at h
      exact ok_X12_belief_j22 x1 x2 (wr m 12 0 0 0) h 
noncomputable def r_X12_believedIn_j32_c4 (i1 : Nat) (x3 : Int32) (s0 : Int32) (s1 : Int32) (m : Mem) : Option ((Int32 × Int32) ⊕ (Int32)) :=
  some (Sum.inl ((s1 + s0), x3 + 1))
set_option maxHeartbeats 4000000 in
set_option maxRecDepth 20000 in
theorem ok_X12_believedIn_j32_c4 (i1 : Nat) (x3 : Int32) (s0 : Int32) (s1 : Int32) (m : Mem) {r : (Int32 × Int32) ⊕ (Int32)} (h : r_X12_believedIn_j32_c4 i1 x3 s0 s1 m = some r) {o : Ou} {M' : Mem} (kb : ∀ (x2' : Int32) (x3' : Int32), r = Sum.inl (x2', x3') → Xj RX12 cX12_believedIn 4 (some .int) 1 0 0 0 0 0 4 [(0, vR 12 0), (1, vR 60 i1), (2, vI x2'), (3, vI x3')] [] m o M') (ke : ∀ (x2' : Int32), r = Sum.inr x2' → Xj RX12 cX12_believedIn 4 (some .int) 1 0 0 0 0 0 40 [(2, vI x2')] [] m o M') : Xj RX12 cX12_believedIn 4 (some .int) 1 0 0 0 0 0 32 [(0, vR 12 0), (1, vR 60 i1), (3, vI x3)] [vI s0, vI s1] m o M' := by
  unfold r_X12_believedIn_j32_c4 at h
  refine xj_iadd dX12_believedIn_32 ?_
  refine xj_istore_n (ls' := [(2, vI (s1 + s0)), (0, vR 12 0), (1, vR 60 i1), (3, vI x3)]) dX12_believedIn_33 rfl (by decide) rfl ?_
  refine xj_iinc (z := x3 + 1) (ls' := [(3, vI (x3 + 1)), (2, vI (s1 + s0)), (0, vR 12 0), (1, vR 60 i1)]) 3 dX12_believedIn_34 rfl rfl (by decide) rfl ?_
  refine xj_goto (tgt := 4) dX12_believedIn_37 (by decide) ?_
  cases h
  refine xj_pick (ls' := [(0, vR 12 0), (1, vR 60 i1), (2, vI (s1 + s0)), (3, vI (x3 + 1))]) [2, 3, 1, 0] rfl ?_
  exact kb (s1 + s0) (x3 + 1) rfl
noncomputable def r_X12_believedIn_b4 (i1 : Nat) (m : Mem) (x2 : Int32) (x3 : Int32) : Option ((Int32 × Int32) ⊕ (Int32)) :=
  if (12 * (m 52 0 2)) ≤ x3 then (some (Sum.inr x2)) else (if inb (0 + x3) 111 = true then (if (m 60 i1 ((0 + x3).toNatClampNeg)) = (-1) then (r_X12_believedIn_j32_c4 i1 x3 0 x2 m) else (r_X12_believedIn_j32_c4 i1 x3 1 x2 m)) else none)
set_option maxHeartbeats 4000000 in
set_option maxRecDepth 20000 in
theorem ok_X12_believedIn_b4 (i1 : Nat) (m : Mem) (x2 : Int32) (x3 : Int32) {r : (Int32 × Int32) ⊕ (Int32)} (h : r_X12_believedIn_b4 i1 m x2 x3 = some r) {o : Ou} {M' : Mem} (kb : ∀ (x2' : Int32) (x3' : Int32), r = Sum.inl (x2', x3') → Xj RX12 cX12_believedIn 4 (some .int) 1 0 0 0 0 0 4 [(0, vR 12 0), (1, vR 60 i1), (2, vI x2'), (3, vI x3')] [] m o M') (ke : ∀ (x2' : Int32), r = Sum.inr x2' → Xj RX12 cX12_believedIn 4 (some .int) 1 0 0 0 0 0 40 [(2, vI x2')] [] m o M') : Xj RX12 cX12_believedIn 4 (some .int) 1 0 0 0 0 0 4 [(0, vR 12 0), (1, vR 60 i1), (2, vI x2), (3, vI x3)] [] m o M' := by
  unfold r_X12_believedIn_b4 at h
  refine xj_iload_n 3 dX12_believedIn_4 rfl ?_
  refine xj_bipush (z := 12) dX12_believedIn_5 (by decide) ?_
  refine xj_aload_n 0 dX12_believedIn_7 rfl ?_
  refine xg_getR (k' := 52) (i' := 0) dX12_believedIn_8 fl_X12_23 rfl ?_
  refine xj_iconst (z := 2) dX12_believedIn_11 (by decide) ?_
  refine xg_iald (z := (m 52 0 2)) (n := 2) dX12_believedIn_12 rfl (by decide) (inb_in (by decide)) (by decide) rfl ?_
  refine xj_imul dX12_believedIn_13 ?_
  refine xj_icmp_ge (tgt := 40) dX12_believedIn_14 (by decide) (fun c1 => ?_) (fun c1 => ?_)
  · rw [if_pos c1] at h
    cases h
    refine xj_pick (ls' := [(2, vI x2)]) [2] rfl ?_
    exact ke x2 rfl
  · rw [if_neg c1] at h
    refine xj_iload_n 2 dX12_believedIn_17 rfl ?_
    refine xj_aload_n 1 dX12_believedIn_18 rfl ?_
    refine xj_iconst (z := 0) dX12_believedIn_19 (by decide) ?_
    refine xj_iload_n 3 dX12_believedIn_20 rfl ?_
    refine xj_iadd dX12_believedIn_21 ?_
    by_cases c2 : inb (0 + x3) 111 = true
    case neg => rw [if_neg c2] at h; cases h
    rw [if_pos c2] at h
    refine xg_iald (z := (m 60 i1 ((0 + x3).toNatClampNeg))) (n := (0 + x3).toNatClampNeg) dX12_believedIn_22 rfl (by decide) (inb_in c2) rfl rfl ?_
    refine xj_iconst (z := (-1)) dX12_believedIn_23 (by decide) ?_
    refine xj_icmp_ne (tgt := 31) dX12_believedIn_24 (by decide) (fun c3 => ?_) (fun c3 => ?_)
    · rw [if_neg c3] at h
      refine xj_iconst (z := 1) dX12_believedIn_31 (by decide) ?_
      refine xj_pick (ls' := [(0, vR 12 0), (1, vR 60 i1), (3, vI x3)]) [0, 1, 3] rfl ?_
      exact ok_X12_believedIn_j32_c4 i1 x3 1 x2 m h kb ke
    · rw [if_pos c3] at h
      refine xj_iconst (z := 0) dX12_believedIn_27 (by decide) ?_
      refine xj_goto (tgt := 32) dX12_believedIn_28 (by decide) ?_
      refine xj_pick (ls' := [(0, vR 12 0), (1, vR 60 i1), (3, vI x3)]) [0, 1, 3] rfl ?_
      exact ok_X12_believedIn_j32_c4 i1 x3 0 x2 m h kb ke
noncomputable def r_X12_believedIn_e40_h4 (x2 : Int32) (m : Mem) : Option Int32 :=
  some x2
set_option maxHeartbeats 4000000 in
set_option maxRecDepth 20000 in
theorem ok_X12_believedIn_e40_h4 (x2 : Int32) (m : Mem) {z : Int32} (h : r_X12_believedIn_e40_h4 x2 m = some z) : Xj RX12 cX12_believedIn 4 (some .int) 1 0 0 0 0 0 40 [(2, vI x2)] [] m (oI z) m := by
  unfold r_X12_believedIn_e40_h4 at h
  refine xj_iload_n 0 dX12_believedIn_40 rfl ?_
  cases h
  exact xj_ireturn dX12_believedIn_41 rfl (by decide) (by decide)
noncomputable def r_X12_believedIn_l4 (i1 : Nat) (x2 : Int32) (x3 : Int32) (m : Mem) : Option Int32 :=
  bd1 (loopO (fun s => r_X12_believedIn_b4 i1 m s.1 s.2) (x2, x3)) (fun e => r_X12_believedIn_e40_h4 e m)
set_option maxHeartbeats 4000000 in
set_option maxRecDepth 20000 in
theorem ok_X12_believedIn_l4 (i1 : Nat) (x2 : Int32) (x3 : Int32) (m : Mem) {z : Int32} (h : r_X12_believedIn_l4 i1 x2 x3 m = some z) : Xj RX12 cX12_believedIn 4 (some .int) 1 0 0 0 0 0 4 [(0, vR 12 0), (1, vR 60 i1), (2, vI x2), (3, vI x3)] [] m (oI z) m := by
  unfold r_X12_believedIn_l4 at h
  obtain ⟨e, e1, h⟩ := bd1_some h
  refine loopO_ok (P := fun s : (Int32 × Int32) => Xj RX12 cX12_believedIn 4 (some .int) 1 0 0 0 0 0 4 [(0, vR 12 0), (1, vR 60 i1), (2, vI s.1), (3, vI s.2)] [] m (oI z) m) (Q := fun e : (Int32) => Xj RX12 cX12_believedIn 4 (some .int) 1 0 0 0 0 0 40 [(2, vI e)] [] m (oI z) m) ?_ _ _ e1 ?_
  · intro s r9 h9 hi hx
    exact ok_X12_believedIn_b4 i1 m s.1 s.2 h9 (by rintro _ _ rfl; exact hi _ rfl) (by rintro _ rfl; exact hx _ rfl)
  · exact ok_X12_believedIn_e40_h4 e m h 
noncomputable def r_X12_believedIn (i1 : Nat) (m : Mem) : Option Int32 :=
  r_X12_believedIn_l4 i1 0 0 m
set_option maxHeartbeats 4000000 in
set_option maxRecDepth 20000 in
theorem ok_X12_believedIn (i1 : Nat) (m : Mem) {z : Int32} (h : r_X12_believedIn i1 m = some z) : Mt yX12_believedIn cX12_believedIn 4 (some .int) 1 0 0 0 [vR 12 0, vR 60 i1] m (oI z) m := by
  refine Mt.of (by decide) (Nat.le_of_ble_eq_true rfl) (by decide +kernel) (hhF_ne (by decide)) ?_
  show Xj RX12 cX12_believedIn 4 (some .int) 1 0 0 0 0 0 0 [(0, vR 12 0), (1, vR 60 i1)] [] m (oI z) m
  unfold r_X12_believedIn at h
  refine xj_iconst (z := 0) dX12_believedIn_0 (by decide) ?_
  refine xj_istore_n (ls' := [(2, vI 0), (0, vR 12 0), (1, vR 60 i1)]) dX12_believedIn_1 rfl (by decide) rfl ?_
  refine xj_iconst (z := 0) dX12_believedIn_2 (by decide) ?_
  refine xj_istore_n (ls' := [(3, vI 0), (2, vI 0), (0, vR 12 0), (1, vR 60 i1)]) dX12_believedIn_3 rfl (by decide) rfl ?_
  refine xj_pick (ls' := [(0, vR 12 0), (1, vR 60 i1), (2, vI 0), (3, vI 0)]) [2, 3, 1, 0] rfl ?_
  exact ok_X12_believedIn_l4 i1 0 0 m h 
noncomputable def r_X12_blank_j87_c54 (x1 : Int32) (x2 : Int32) (x3 : Int32) (x4 : Int32) (x6 : Int32) (s0 : Int32) (s1 : Int32) (m : Mem) : Option ((Int32 × Int32) ⊕ (Int32)) :=
  some (Sum.inl ((s1 + s0), x6 + 1))
set_option maxHeartbeats 4000000 in
set_option maxRecDepth 20000 in
theorem ok_X12_blank_j87_c54 (x1 : Int32) (x2 : Int32) (x3 : Int32) (x4 : Int32) (x6 : Int32) (s0 : Int32) (s1 : Int32) (m : Mem) {r : (Int32 × Int32) ⊕ (Int32)} (h : r_X12_blank_j87_c54 x1 x2 x3 x4 x6 s0 s1 m = some r) {o : Ou} {M' : Mem} (kb : ∀ (x5' : Int32) (x6' : Int32), r = Sum.inl (x5', x6') → Xj RX12 cX12_blank 7 (some .int) 2 23 0 0 0 0 54 [(0, vR 12 0), (1, vI x1), (2, vI x2), (3, vI x3), (4, vI x4), (5, vI x5'), (6, vI x6')] [] m o M') (ke : ∀ (x5' : Int32), r = Sum.inr x5' → Xj RX12 cX12_blank 7 (some .int) 2 23 0 0 0 0 96 [(0, vR 12 0), (1, vI x1), (2, vI x2), (3, vI x3), (4, vI x4), (5, vI x5')] [] m o M') : Xj RX12 cX12_blank 7 (some .int) 2 23 0 0 0 0 87 [(0, vR 12 0), (1, vI x1), (2, vI x2), (3, vI x3), (4, vI x4), (6, vI x6)] [vI s0, vI s1] m o M' := by
  unfold r_X12_blank_j87_c54 at h
  refine xj_iadd dX12_blank_87 ?_
  refine xj_istore (ls' := [(5, vI (s1 + s0)), (0, vR 12 0), (1, vI x1), (2, vI x2), (3, vI x3), (4, vI x4), (6, vI x6)]) dX12_blank_88 (by decide) rfl ?_
  refine xj_iinc (z := x6 + 1) (ls' := [(6, vI (x6 + 1)), (5, vI (s1 + s0)), (0, vR 12 0), (1, vI x1), (2, vI x2), (3, vI x3), (4, vI x4)]) 6 dX12_blank_90 rfl rfl (by decide) rfl ?_
  refine xj_goto (tgt := 54) dX12_blank_93 (by decide) ?_
  cases h
  refine xj_pick (ls' := [(0, vR 12 0), (1, vI x1), (2, vI x2), (3, vI x3), (4, vI x4), (5, vI (s1 + s0)), (6, vI (x6 + 1))]) [2, 3, 4, 5, 6, 1, 0] rfl ?_
  exact kb (s1 + s0) (x6 + 1) rfl
noncomputable def r_X12_blank_b54_c37 (x1 : Int32) (x2 : Int32) (x3 : Int32) (x4 : Int32) (m : Mem) (x5 : Int32) (x6 : Int32) : Option ((Int32 × Int32) ⊕ (Int32)) :=
  if 12 ≤ x6 then (some (Sum.inr x5)) else (if inb ((0 + (12 * x4)) + x6) 111 = true then (if (m 60 0 (((0 + (12 * x4)) + x6).toNatClampNeg)) = (-1) then (r_X12_blank_j87_c54 x1 x2 x3 x4 x6 0 x5 m) else (r_X12_blank_j87_c54 x1 x2 x3 x4 x6 1 x5 m)) else none)
set_option maxHeartbeats 4000000 in
set_option maxRecDepth 20000 in
theorem ok_X12_blank_b54_c37 (x1 : Int32) (x2 : Int32) (x3 : Int32) (x4 : Int32) (m : Mem) (x5 : Int32) (x6 : Int32) {r : (Int32 × Int32) ⊕ (Int32)} (h : r_X12_blank_b54_c37 x1 x2 x3 x4 m x5 x6 = some r) {o : Ou} {M' : Mem} (kb : ∀ (x5' : Int32) (x6' : Int32), r = Sum.inl (x5', x6') → Xj RX12 cX12_blank 7 (some .int) 2 23 0 0 0 0 54 [(0, vR 12 0), (1, vI x1), (2, vI x2), (3, vI x3), (4, vI x4), (5, vI x5'), (6, vI x6')] [] m o M') (ke : ∀ (x5' : Int32), r = Sum.inr x5' → Xj RX12 cX12_blank 7 (some .int) 2 23 0 0 0 0 96 [(0, vR 12 0), (1, vI x1), (2, vI x2), (3, vI x3), (4, vI x4), (5, vI x5')] [] m o M') : Xj RX12 cX12_blank 7 (some .int) 2 23 0 0 0 0 54 [(0, vR 12 0), (1, vI x1), (2, vI x2), (3, vI x3), (4, vI x4), (5, vI x5), (6, vI x6)] [] m o M' := by
  unfold r_X12_blank_b54_c37 at h
  refine xj_iload 6 dX12_blank_54 rfl ?_
  refine xj_bipush (z := 12) dX12_blank_56 (by decide) ?_
  refine xj_icmp_ge (tgt := 96) dX12_blank_58 (by decide) (fun c7 => ?_) (fun c7 => ?_)
  · rw [if_pos c7] at h
    cases h
    refine xj_pick (ls' := [(0, vR 12 0), (1, vI x1), (2, vI x2), (3, vI x3), (4, vI x4), (5, vI x5)]) [0, 1, 2, 3, 4, 5] rfl ?_
    exact ke x5 rfl
  · rw [if_neg c7] at h
    refine xj_iload 5 dX12_blank_61 rfl ?_
    refine xj_aload_n 0 dX12_blank_63 rfl ?_
    refine xg_getR (k' := 60) (i' := 0) dX12_blank_64 fl_X12_73 rfl ?_
    refine xj_iconst (z := 0) dX12_blank_67 (by decide) ?_
    refine xj_bipush (z := 12) dX12_blank_68 (by decide) ?_
    refine xj_iload 4 dX12_blank_70 rfl ?_
    refine xj_imul dX12_blank_72 ?_
    refine xj_iadd dX12_blank_73 ?_
    refine xj_iload 6 dX12_blank_74 rfl ?_
    refine xj_iadd dX12_blank_76 ?_
    by_cases c8 : inb ((0 + (12 * x4)) + x6) 111 = true
    case neg => rw [if_neg c8] at h; cases h
    rw [if_pos c8] at h
    refine xg_iald (z := (m 60 0 (((0 + (12 * x4)) + x6).toNatClampNeg))) (n := ((0 + (12 * x4)) + x6).toNatClampNeg) dX12_blank_77 rfl (by decide) (inb_in c8) rfl rfl ?_
    refine xj_iconst (z := (-1)) dX12_blank_78 (by decide) ?_
    refine xj_icmp_ne (tgt := 86) dX12_blank_79 (by decide) (fun c9 => ?_) (fun c9 => ?_)
    · rw [if_neg c9] at h
      refine xj_iconst (z := 1) dX12_blank_86 (by decide) ?_
      refine xj_pick (ls' := [(0, vR 12 0), (1, vI x1), (2, vI x2), (3, vI x3), (4, vI x4), (6, vI x6)]) [0, 1, 2, 3, 4, 6] rfl ?_
      exact ok_X12_blank_j87_c54 x1 x2 x3 x4 x6 1 x5 m h kb ke
    · rw [if_pos c9] at h
      refine xj_iconst (z := 0) dX12_blank_82 (by decide) ?_
      refine xj_goto (tgt := 87) dX12_blank_83 (by decide) ?_
      refine xj_pick (ls' := [(0, vR 12 0), (1, vI x1), (2, vI x2), (3, vI x3), (4, vI x4), (6, vI x6)]) [0, 1, 2, 3, 4, 6] rfl ?_
      exact ok_X12_blank_j87_c54 x1 x2 x3 x4 x6 0 x5 m h kb ke
noncomputable def r_X12_blank_j130_c37 (x1 : Int32) (x2 : Int32) (x3 : Int32) (x4 : Int32) (m : Mem) : Option ((Int32 × Int32 × Int32) ⊕ (Int32 × Int32)) :=
  some (Sum.inl (x2, x3, x4 + 1))
set_option maxHeartbeats 4000000 in
set_option maxRecDepth 20000 in
theorem ok_X12_blank_j130_c37 (x1 : Int32) (x2 : Int32) (x3 : Int32) (x4 : Int32) (m : Mem) {r : (Int32 × Int32 × Int32) ⊕ (Int32 × Int32)} (h : r_X12_blank_j130_c37 x1 x2 x3 x4 m = some r) {o : Ou} {M' : Mem} (kb : ∀ (x2' : Int32) (x3' : Int32) (x4' : Int32), r = Sum.inl (x2', x3', x4') → Xj RX12 cX12_blank 7 (some .int) 2 23 0 0 0 0 37 [(0, vR 12 0), (1, vI x1), (2, vI x2'), (3, vI x3'), (4, vI x4')] [] m o M') (ke : ∀ (x2' : Int32) (x3' : Int32), r = Sum.inr (x2', x3') → Xj RX12 cX12_blank 7 (some .int) 2 23 0 0 0 0 136 [(1, vI x1), (2, vI x2'), (3, vI x3')] [] m o M') : Xj RX12 cX12_blank 7 (some .int) 2 23 0 0 0 0 130 [(0, vR 12 0), (1, vI x1), (2, vI x2), (3, vI x3), (4, vI x4)] [] m o M' := by
  unfold r_X12_blank_j130_c37 at h
  refine xj_iinc (z := x4 + 1) (ls' := [(4, vI (x4 + 1)), (0, vR 12 0), (1, vI x1), (2, vI x2), (3, vI x3)]) 4 dX12_blank_130 rfl rfl (by decide) rfl ?_
  refine xj_goto (tgt := 37) dX12_blank_133 (by decide) ?_
  cases h
  refine xj_pick (ls' := [(0, vR 12 0), (1, vI x1), (2, vI x2), (3, vI x3), (4, vI (x4 + 1))]) [1, 2, 3, 4, 0] rfl ?_
  exact kb x2 x3 (x4 + 1) rfl
noncomputable def r_X12_blank_e96_h54_c37 (x1 : Int32) (x2 : Int32) (x3 : Int32) (x4 : Int32) (x5 : Int32) (m : Mem) : Option ((Int32 × Int32 × Int32) ⊕ (Int32 × Int32)) :=
  if 0 < x5 then (r_X12_blank_j130_c37 x1 x2 x3 x4 m) else (if inb x4 6 = true then (if x3 < (m 67 x4.toNatClampNeg 0) then (r_X12_blank_j130_c37 x1 x4 (m 67 x4.toNatClampNeg 0) x4 m) else (r_X12_blank_j130_c37 x1 x2 x3 x4 m)) else none)
set_option maxHeartbeats 4000000 in
set_option maxRecDepth 20000 in
theorem ok_X12_blank_e96_h54_c37 (x1 : Int32) (x2 : Int32) (x3 : Int32) (x4 : Int32) (x5 : Int32) (m : Mem) {r : (Int32 × Int32 × Int32) ⊕ (Int32 × Int32)} (h : r_X12_blank_e96_h54_c37 x1 x2 x3 x4 x5 m = some r) {o : Ou} {M' : Mem} (kb : ∀ (x2' : Int32) (x3' : Int32) (x4' : Int32), r = Sum.inl (x2', x3', x4') → Xj RX12 cX12_blank 7 (some .int) 2 23 0 0 0 0 37 [(0, vR 12 0), (1, vI x1), (2, vI x2'), (3, vI x3'), (4, vI x4')] [] m o M') (ke : ∀ (x2' : Int32) (x3' : Int32), r = Sum.inr (x2', x3') → Xj RX12 cX12_blank 7 (some .int) 2 23 0 0 0 0 136 [(1, vI x1), (2, vI x2'), (3, vI x3')] [] m o M') : Xj RX12 cX12_blank 7 (some .int) 2 23 0 0 0 0 96 [(0, vR 12 0), (1, vI x1), (2, vI x2), (3, vI x3), (4, vI x4), (5, vI x5)] [] m o M' := by
  unfold r_X12_blank_e96_h54_c37 at h
  refine xj_iload 5 dX12_blank_96 rfl ?_
  refine xj_if_gt (tgt := 130) dX12_blank_98 (by decide) (fun c10 => ?_) (fun c10 => ?_)
  · rw [if_pos c10] at h
    refine xj_pick (ls' := [(0, vR 12 0), (1, vI x1), (2, vI x2), (3, vI x3), (4, vI x4)]) [0, 1, 2, 3, 4] rfl ?_
    exact ok_X12_blank_j130_c37 x1 x2 x3 x4 m h kb ke
  · rw [if_neg c10] at h
    refine xj_aload_n 0 dX12_blank_101 rfl ?_
    refine xg_getR (k' := 68) (i' := 0) dX12_blank_102 fl_X12_43 rfl ?_
    refine xj_iload 4 dX12_blank_105 rfl ?_
    by_cases c11 : inb x4 6 = true
    case neg => rw [if_neg c11] at h; cases h
    rw [if_pos c11] at h
    refine xg_aald (k' := 67) (i' := x4.toNatClampNeg) (n := x4.toNatClampNeg) dX12_blank_107 rfl (by decide) (inb_in c11) rfl rfl ?_
    refine xj_iconst (z := 0) dX12_blank_108 (by decide) ?_
    refine xg_iald (z := (m 67 x4.toNatClampNeg 0)) (n := 0) dX12_blank_109 rfl (by decide) (inb_in (by decide)) (by decide) rfl ?_
    refine xj_iload_n 3 dX12_blank_110 rfl ?_
    refine xj_icmp_gt (tgt := 117) dX12_blank_111 (by decide) (fun c12 => ?_) (fun c12 => ?_)
    · rw [if_pos c12] at h
      refine xj_iload 4 dX12_blank_117 rfl ?_
      refine xj_istore_n (ls' := [(2, vI x4), (0, vR 12 0), (1, vI x1), (3, vI x3), (4, vI x4), (5, vI x5)]) dX12_blank_119 rfl (by decide) rfl ?_
      refine xj_aload_n 1 dX12_blank_120 rfl ?_
      refine xg_getR (k' := 68) (i' := 0) dX12_blank_121 fl_X12_43 rfl ?_
      refine xj_iload 4 dX12_blank_124 rfl ?_
      refine xg_aald (k' := 67) (i' := x4.toNatClampNeg) (n := x4.toNatClampNeg) dX12_blank_126 rfl (by decide) (inb_in c11) rfl rfl ?_
      refine xj_iconst (z := 0) dX12_blank_127 (by decide) ?_
      refine xg_iald (z := (m 67 x4.toNatClampNeg 0)) (n := 0) dX12_blank_128 rfl (by decide) (inb_in (by decide)) (by decide) rfl ?_
      refine xj_istore_n (ls' := [(3, vI (m 67 x4.toNatClampNeg 0)), (2, vI x4), (0, vR 12 0), (1, vI x1), (4, vI x4), (5, vI x5)]) dX12_blank_129 rfl (by decide) rfl ?_
      refine xj_pick (ls' := [(0, vR 12 0), (1, vI x1), (2, vI x4), (3, vI (m 67 x4.toNatClampNeg 0)), (4, vI x4)]) [2, 3, 1, 0, 4] rfl ?_
      exact ok_X12_blank_j130_c37 x1 x4 (m 67 x4.toNatClampNeg 0) x4 m h kb ke
    · rw [if_neg c12] at h
      refine xj_goto (tgt := 130) dX12_blank_114 (by decide) ?_
      refine xj_pick (ls' := [(0, vR 12 0), (1, vI x1), (2, vI x2), (3, vI x3), (4, vI x4)]) [0, 1, 2, 3, 4] rfl ?_
      exact ok_X12_blank_j130_c37 x1 x2 x3 x4 m h kb ke
noncomputable def r_X12_blank_l54_c37 (x1 : Int32) (x2 : Int32) (x3 : Int32) (x4 : Int32) (x5 : Int32) (x6 : Int32) (m : Mem) : Option ((Int32 × Int32 × Int32) ⊕ (Int32 × Int32)) :=
  bd1 (loopO (fun s => r_X12_blank_b54_c37 x1 x2 x3 x4 m s.1 s.2) (x5, x6)) (fun e => r_X12_blank_e96_h54_c37 x1 x2 x3 x4 e m)
set_option maxHeartbeats 4000000 in
set_option maxRecDepth 20000 in
theorem ok_X12_blank_l54_c37 (x1 : Int32) (x2 : Int32) (x3 : Int32) (x4 : Int32) (x5 : Int32) (x6 : Int32) (m : Mem) {r : (Int32 × Int32 × Int32) ⊕ (Int32 × Int32)} (h : r_X12_blank_l54_c37 x1 x2 x3 x4 x5 x6 m = some r) {o : Ou} {M' : Mem} (kb : ∀ (x2' : Int32) (x3' : Int32) (x4' : Int32), r = Sum.inl (x2', x3', x4') → Xj RX12 cX12_blank 7 (some .int) 2 23 0 0 0 0 37 [(0, vR 12 0), (1, vI x1), (2, vI x2'), (3, vI x3'), (4, vI x4')] [] m o M') (ke : ∀ (x2' : Int32) (x3' : Int32), r = Sum.inr (x2', x3') → Xj RX12 cX12_blank 7 (some .int) 2 23 0 0 0 0 136 [(1, vI x1), (2, vI x2'), (3, vI x3')] [] m o M') : Xj RX12 cX12_blank 7 (some .int) 2 23 0 0 0 0 54 [(0, vR 12 0), (1, vI x1), (2, vI x2), (3, vI x3), (4, vI x4), (5, vI x5), (6, vI x6)] [] m o M' := by
  unfold r_X12_blank_l54_c37 at h
  obtain ⟨e, e1, h⟩ := bd1_some h
  refine loopO_ok (P := fun s : (Int32 × Int32) => Xj RX12 cX12_blank 7 (some .int) 2 23 0 0 0 0 54 [(0, vR 12 0), (1, vI x1), (2, vI x2), (3, vI x3), (4, vI x4), (5, vI s.1), (6, vI s.2)] [] m o M') (Q := fun e : (Int32) => Xj RX12 cX12_blank 7 (some .int) 2 23 0 0 0 0 96 [(0, vR 12 0), (1, vI x1), (2, vI x2), (3, vI x3), (4, vI x4), (5, vI e)] [] m o M') ?_ _ _ e1 ?_
  · intro s r9 h9 hi hx
    exact ok_X12_blank_b54_c37 x1 x2 x3 x4 m s.1 s.2 h9 (by rintro _ _ rfl; exact hi _ rfl) (by rintro _ rfl; exact hx _ rfl)
  · exact ok_X12_blank_e96_h54_c37 x1 x2 x3 x4 e m h kb ke
noncomputable def r_X12_blank_b37 (x1 : Int32) (m : Mem) (x2 : Int32) (x3 : Int32) (x4 : Int32) : Option ((Int32 × Int32 × Int32) ⊕ (Int32 × Int32)) :=
  if (m 52 0 2) ≤ x4 then (some (Sum.inr (x2, x3))) else (r_X12_blank_l54_c37 x1 x2 x3 x4 0 0 m)
set_option maxHeartbeats 4000000 in
set_option maxRecDepth 20000 in
theorem ok_X12_blank_b37 (x1 : Int32) (m : Mem) (x2 : Int32) (x3 : Int32) (x4 : Int32) {r : (Int32 × Int32 × Int32) ⊕ (Int32 × Int32)} (h : r_X12_blank_b37 x1 m x2 x3 x4 = some r) {o : Ou} {M' : Mem} (kb : ∀ (x2' : Int32) (x3' : Int32) (x4' : Int32), r = Sum.inl (x2', x3', x4') → Xj RX12 cX12_blank 7 (some .int) 2 23 0 0 0 0 37 [(0, vR 12 0), (1, vI x1), (2, vI x2'), (3, vI x3'), (4, vI x4')] [] m o M') (ke : ∀ (x2' : Int32) (x3' : Int32), r = Sum.inr (x2', x3') → Xj RX12 cX12_blank 7 (some .int) 2 23 0 0 0 0 136 [(1, vI x1), (2, vI x2'), (3, vI x3')] [] m o M') : Xj RX12 cX12_blank 7 (some .int) 2 23 0 0 0 0 37 [(0, vR 12 0), (1, vI x1), (2, vI x2), (3, vI x3), (4, vI x4)] [] m o M' := by
  unfold r_X12_blank_b37 at h
  refine xj_iload 4 dX12_blank_37 rfl ?_
  refine xj_aload_n 0 dX12_blank_39 rfl ?_
  refine xg_getR (k' := 52) (i' := 0) dX12_blank_40 fl_X12_23 rfl ?_
  refine xj_iconst (z := 2) dX12_blank_43 (by decide) ?_
  refine xg_iald (z := (m 52 0 2)) (n := 2) dX12_blank_44 rfl (by decide) (inb_in (by decide)) (by decide) rfl ?_
  refine xj_icmp_ge (tgt := 136) dX12_blank_45 (by decide) (fun c6 => ?_) (fun c6 => ?_)
  · rw [if_pos c6] at h
    cases h
    refine xj_pick (ls' := [(1, vI x1), (2, vI x2), (3, vI x3)]) [1, 2, 3] rfl ?_
    exact ke x2 x3 rfl
  · rw [if_neg c6] at h
    refine xj_iconst (z := 0) dX12_blank_48 (by decide) ?_
    refine xj_istore (ls' := [(5, vI 0), (0, vR 12 0), (1, vI x1), (2, vI x2), (3, vI x3), (4, vI x4)]) dX12_blank_49 (by decide) rfl ?_
    refine xj_iconst (z := 0) dX12_blank_51 (by decide) ?_
    refine xj_istore (ls' := [(6, vI 0), (5, vI 0), (0, vR 12 0), (1, vI x1), (2, vI x2), (3, vI x3), (4, vI x4)]) dX12_blank_52 (by decide) rfl ?_
    refine xj_pick (ls' := [(0, vR 12 0), (1, vI x1), (2, vI x2), (3, vI x3), (4, vI x4), (5, vI 0), (6, vI 0)]) [2, 3, 4, 5, 6, 1, 0] rfl ?_
    exact ok_X12_blank_l54_c37 x1 x2 x3 x4 0 0 m h kb ke
noncomputable def r_X12_blank_e136_h37 (x1 : Int32) (x2 : Int32) (x3 : Int32) (m : Mem) : Option (Int32 × Mem) :=
  if x1 = 0 then (some (x2, m)) else (some (x3, m))
set_option maxHeartbeats 4000000 in
set_option maxRecDepth 20000 in
theorem ok_X12_blank_e136_h37 (x1 : Int32) (x2 : Int32) (x3 : Int32) (m : Mem) {z : Int32} {m' : Mem} (h : r_X12_blank_e136_h37 x1 x2 x3 m = some (z, m')) : Xj RX12 cX12_blank 7 (some .int) 2 23 0 0 0 0 136 [(1, vI x1), (2, vI x2), (3, vI x3)] [] m (oI z) m' := by
  unfold r_X12_blank_e136_h37 at h
  refine xj_iload_n 0 dX12_blank_136 rfl ?_
  refine xj_if_ne (tgt := 144) dX12_blank_137 (by decide) (fun c13 => ?_) (fun c13 => ?_)
  · rw [if_neg c13] at h
    refine xj_iload_n 2 dX12_blank_144 rfl ?_
    cases h
    exact xj_ireturn dX12_blank_145 rfl (by decide) (by decide)
  · rw [if_pos c13] at h
    refine xj_iload_n 1 dX12_blank_140 rfl ?_
    refine xj_goto (tgt := 145) dX12_blank_141 (by decide) ?_
    cases h
    exact xj_ireturn dX12_blank_145 rfl (by decide) (by decide)
noncomputable def r_X12_blank_l37 (x1 : Int32) (x2 : Int32) (x3 : Int32) (x4 : Int32) (m : Mem) : Option (Int32 × Mem) :=
  bd1 (loopO (fun s => r_X12_blank_b37 x1 m s.1 s.2.1 s.2.2) (x2, x3, x4)) (fun e => r_X12_blank_e136_h37 x1 e.1 e.2 m)
set_option maxHeartbeats 4000000 in
set_option maxRecDepth 20000 in
theorem ok_X12_blank_l37 (x1 : Int32) (x2 : Int32) (x3 : Int32) (x4 : Int32) (m : Mem) {z : Int32} {m' : Mem} (h : r_X12_blank_l37 x1 x2 x3 x4 m = some (z, m')) : Xj RX12 cX12_blank 7 (some .int) 2 23 0 0 0 0 37 [(0, vR 12 0), (1, vI x1), (2, vI x2), (3, vI x3), (4, vI x4)] [] m (oI z) m' := by
  unfold r_X12_blank_l37 at h
  obtain ⟨e, e1, h⟩ := bd1_some h
  refine loopO_ok (P := fun s : (Int32 × Int32 × Int32) => Xj RX12 cX12_blank 7 (some .int) 2 23 0 0 0 0 37 [(0, vR 12 0), (1, vI x1), (2, vI s.1), (3, vI s.2.1), (4, vI s.2.2)] [] m (oI z) m') (Q := fun e : (Int32 × Int32) => Xj RX12 cX12_blank 7 (some .int) 2 23 0 0 0 0 136 [(1, vI x1), (2, vI e.1), (3, vI e.2)] [] m (oI z) m') ?_ _ _ e1 ?_
  · intro s r9 h9 hi hx
    exact ok_X12_blank_b37 x1 m s.1 s.2.1 s.2.2 h9 (by rintro _ _ _ rfl; exact hi _ rfl) (by rintro _ _ rfl; exact hx _ rfl)
  · exact ok_X12_blank_e136_h37 x1 e.1 e.2 m h 
noncomputable def r_X12_blank_j20 (x1 : Int32) (s0 : Int32) (m : Mem) : Option (Int32 × Mem) :=
  bd2 (r_X12_bad s0 1 1 m) fun z4 m3 => (if z4 = true then (some (0, m3)) else (r_X12_blank_l37 x1 (-1) (-1) 0 m3))
set_option maxHeartbeats 4000000 in
set_option maxRecDepth 20000 in
theorem ok_X12_blank_j20 (x1 : Int32) (s0 : Int32) (m : Mem) {z : Int32} {m' : Mem} (h : r_X12_blank_j20 x1 s0 m = some (z, m')) : Xj RX12 cX12_blank 7 (some .int) 2 23 0 0 0 0 20 [(0, vR 12 0), (1, vI x1)] [vI s0, vR 12 0] m (oI z) m' := by
  unfold r_X12_blank_j20 at h
  refine xj_iconst (z := 1) dX12_blank_20 (by decide) ?_
  refine xj_iconst (z := 1) dX12_blank_21 (by decide) ?_
  obtain ⟨z4, m3, e2, h⟩ := bd2_some h
  refine xc_Vb0 (st := []) (ok_X12_bad s0 1 1 m e2) dX12_blank_22 cv_X12_191 rfl rfl (Nat.le_of_ble_eq_true rfl) (by decide) (by decide) (by decide) (by decide) ?_
  refine xj_if_eq (tgt := 30) dX12_blank_25 (by decide) (fun c5 => ?_) (fun c5 => ?_)
  · rw [if_neg (b2i_f c5)] at h
    refine xj_iconst (z := (-1)) dX12_blank_30 (by decide) ?_
    refine xj_istore_n (ls' := [(2, vI (-1)), (0, vR 12 0), (1, vI x1)]) dX12_blank_31 rfl (by decide) rfl ?_
    refine xj_iconst (z := (-1)) dX12_blank_32 (by decide) ?_
    refine xj_istore_n (ls' := [(3, vI (-1)), (2, vI (-1)), (0, vR 12 0), (1, vI x1)]) dX12_blank_33 rfl (by decide) rfl ?_
    refine xj_iconst (z := 0) dX12_blank_34 (by decide) ?_
    refine xj_istore (ls' := [(4, vI 0), (3, vI (-1)), (2, vI (-1)), (0, vR 12 0), (1, vI x1)]) dX12_blank_35 (by decide) rfl ?_
    refine xj_pick (ls' := [(0, vR 12 0), (1, vI x1), (2, vI (-1)), (3, vI (-1)), (4, vI 0)]) [3, 4, 2, 1, 0] rfl ?_
    exact ok_X12_blank_l37 x1 (-1) (-1) 0 m3 h 
  · rw [if_pos (b2i_t c5)] at h
    refine xj_iconst (z := 0) dX12_blank_28 (by decide) ?_
    cases h
    exact xj_ireturn dX12_blank_29 rfl (by decide) (by decide)
noncomputable def r_X12_blank (x1 : Int32) (m : Mem) : Option (Int32 × Mem) :=
  if (r_X12_in x1 0 1) = true then (r_X12_blank_j20 x1 0 (wr m 12 0 0 0)) else (r_X12_blank_j20 x1 1 (wr m 12 0 0 0))
set_option maxHeartbeats 4000000 in
set_option maxRecDepth 20000 in
theorem ok_X12_blank (x1 : Int32) (m : Mem) {z : Int32} {m' : Mem} (h : r_X12_blank x1 m = some (z, m')) : Mt yX12_blank cX12_blank 7 (some .int) 2 23 0 0 [vR 12 0, vI x1] m (oI z) m' := by
  refine Mt.of (by decide) (Nat.le_of_ble_eq_true rfl) (by decide +kernel) (hhF_ne (by decide)) ?_
  show Xj RX12 cX12_blank 7 (some .int) 2 23 0 0 0 0 0 [(0, vR 12 0), (1, vI x1)] [] m (oI z) m'
  unfold r_X12_blank at h
  refine xj_aload_n 0 dX12_blank_0 rfl ?_
  refine xj_iconst (z := 0) dX12_blank_1 (by decide) ?_
  refine xj_putI dX12_blank_2 fw_X12_109 rfl ?_
  refine xj_aload_n 0 dX12_blank_5 rfl ?_
  refine xj_iload_n 1 dX12_blank_6 rfl ?_
  refine xj_iconst (z := 0) dX12_blank_7 (by decide) ?_
  refine xj_iconst (z := 1) dX12_blank_8 (by decide) ?_
  refine xc_Sb0 (st := [vR 12 0]) (ok_X12_in x1 0 1 (wr m 12 0 0 0) rfl) dX12_blank_9 cs_X12_143 rfl rfl (Nat.le_of_ble_eq_true rfl) (by decide) (by decide) (by decide) (by decide) ?_
  refine xj_if_ne (tgt := 19) dX12_blank_12 (by decide) (fun c1 => ?_) (fun c1 => ?_)
  · rw [if_pos (b2i_t c1)] at h
    refine xj_iconst (z := 0) dX12_blank_19 (by decide) ?_
    exact ok_X12_blank_j20 x1 0 (wr m 12 0 0 0) h 
  · rw [if_neg (b2i_f c1)] at h
    refine xj_iconst (z := 1) dX12_blank_15 (by decide) ?_
    refine xj_goto (tgt := 20) dX12_blank_16 (by decide) ?_
    exact ok_X12_blank_j20 x1 1 (wr m 12 0 0 0) h 
noncomputable def r_X12_lays_80_78_b10_c2 (x2 : Int32) (x3 : Int32) (x4 : Int32) (m : Mem) : Option ((Int32 × Mem) ⊕ (Mem)) :=
  if inb x3 12 = true then (if 2 ≤ x4 then (some (Sum.inr m)) else (if inb x4 2 = true then (some (Sum.inl (x4 + 1, (wr m 77 x3.toNatClampNeg x4.toNatClampNeg (m 79 x3.toNatClampNeg x4.toNatClampNeg))))) else none)) else none
set_option maxHeartbeats 4000000 in
set_option maxRecDepth 20000 in
theorem ok_X12_lays_80_78_b10_c2 (x2 : Int32) (x3 : Int32) (x4 : Int32) (m : Mem) {r : (Int32 × Mem) ⊕ (Mem)} (h : r_X12_lays_80_78_b10_c2 x2 x3 x4 m = some r) {o : Ou} {M' : Mem} (kb : ∀ (x4' : Int32) (m'' : Mem), r = Sum.inl (x4', m'') → Xj RX12 cX12_lays 5 none 1 0 0 0 0 0 10 [(0, vR 80 0), (1, vR 78 0), (2, vI x2), (3, vI x3), (4, vI x4')] [] m'' o M') (ke : ∀ (m'' : Mem), r = Sum.inr m'' → Xj RX12 cX12_lays 5 none 1 0 0 0 0 0 37 [(0, vR 80 0), (1, vR 78 0), (2, vI x2), (3, vI x3)] [] m'' o M') : Xj RX12 cX12_lays 5 none 1 0 0 0 0 0 10 [(0, vR 80 0), (1, vR 78 0), (2, vI x2), (3, vI x3), (4, vI x4)] [] m o M' := by
  unfold r_X12_lays_80_78_b10_c2 at h
  refine xj_iload 4 dX12_lays_10 rfl ?_
  refine xj_aload_n 1 dX12_lays_12 rfl ?_
  refine xj_iload_n 3 dX12_lays_13 rfl ?_
  by_cases c2 : inb x3 12 = true
  case neg => rw [if_neg c2] at h; cases h
  rw [if_pos c2] at h
  refine xg_aald (k' := 77) (i' := x3.toNatClampNeg) (n := x3.toNatClampNeg) dX12_lays_14 rfl (by decide) (inb_in c2) rfl rfl ?_
  refine xj_alen (x := 2) dX12_lays_15 (by decide) (by decide) (by decide) (by decide) ?_
  refine xj_icmp_ge (tgt := 37) dX12_lays_16 (by decide) (fun c3 => ?_) (fun c3 => ?_)
  · rw [if_pos c3] at h
    cases h
    refine xj_pick (ls' := [(0, vR 80 0), (1, vR 78 0), (2, vI x2), (3, vI x3)]) [0, 1, 2, 3] rfl ?_
    exact ke m rfl
  · rw [if_neg c3] at h
    refine xj_aload_n 1 dX12_lays_19 rfl ?_
    refine xj_iload_n 3 dX12_lays_20 rfl ?_
    refine xg_aald (k' := 77) (i' := x3.toNatClampNeg) (n := x3.toNatClampNeg) dX12_lays_21 rfl (by decide) (inb_in c2) rfl rfl ?_
    refine xj_iload 4 dX12_lays_22 rfl ?_
    refine xj_aload_n 0 dX12_lays_24 rfl ?_
    refine xj_iload_n 3 dX12_lays_25 rfl ?_
    refine xg_aald (k' := 79) (i' := x3.toNatClampNeg) (n := x3.toNatClampNeg) dX12_lays_26 rfl (by decide) (inb_in c2) rfl rfl ?_
    refine xj_iload 4 dX12_lays_27 rfl ?_
    by_cases c4 : inb x4 2 = true
    case neg => rw [if_neg c4] at h; cases h
    rw [if_pos c4] at h
    refine xg_iald (z := (m 79 x3.toNatClampNeg x4.toNatClampNeg)) (n := x4.toNatClampNeg) dX12_lays_29 rfl (by decide) (inb_in c4) rfl rfl ?_
    refine xg_iast (n := x4.toNatClampNeg) dX12_lays_30 rfl (by decide) (inb_in c4) rfl ?_
    refine xj_iinc (z := x4 + 1) (ls' := [(4, vI (x4 + 1)), (0, vR 80 0), (1, vR 78 0), (2, vI x2), (3, vI x3)]) 4 dX12_lays_31 rfl rfl (by decide) rfl ?_
    refine xj_goto (tgt := 10) dX12_lays_34 (by decide) ?_
    cases h
    refine xj_pick (ls' := [(0, vR 80 0), (1, vR 78 0), (2, vI x2), (3, vI x3), (4, vI (x4 + 1))]) [1, 2, 3, 4, 0] rfl ?_
    exact kb (x4 + 1) (wr m 77 x3.toNatClampNeg x4.toNatClampNeg (m 79 x3.toNatClampNeg x4.toNatClampNeg)) rfl
noncomputable def r_X12_lays_80_78_e37_h10_c2 (x2 : Int32) (x3 : Int32) (m : Mem) : Option ((Int32 × Mem) ⊕ (Mem)) :=
  some (Sum.inl (x3 + 1, m))
set_option maxHeartbeats 4000000 in
set_option maxRecDepth 20000 in
theorem ok_X12_lays_80_78_e37_h10_c2 (x2 : Int32) (x3 : Int32) (m : Mem) {r : (Int32 × Mem) ⊕ (Mem)} (h : r_X12_lays_80_78_e37_h10_c2 x2 x3 m = some r) {o : Ou} {M' : Mem} (kb : ∀ (x3' : Int32) (m'' : Mem), r = Sum.inl (x3', m'') → Xj RX12 cX12_lays 5 none 1 0 0 0 0 0 2 [(0, vR 80 0), (1, vR 78 0), (2, vI x2), (3, vI x3')] [] m'' o M') (ke : ∀ (m'' : Mem), r = Sum.inr m'' → Xj RX12 cX12_lays 5 none 1 0 0 0 0 0 43 [] [] m'' o M') : Xj RX12 cX12_lays 5 none 1 0 0 0 0 0 37 [(0, vR 80 0), (1, vR 78 0), (2, vI x2), (3, vI x3)] [] m o M' := by
  unfold r_X12_lays_80_78_e37_h10_c2 at h
  refine xj_iinc (z := x3 + 1) (ls' := [(3, vI (x3 + 1)), (0, vR 80 0), (1, vR 78 0), (2, vI x2)]) 3 dX12_lays_37 rfl rfl (by decide) rfl ?_
  refine xj_goto (tgt := 2) dX12_lays_40 (by decide) ?_
  cases h
  refine xj_pick (ls' := [(0, vR 80 0), (1, vR 78 0), (2, vI x2), (3, vI (x3 + 1))]) [1, 2, 3, 0] rfl ?_
  exact kb (x3 + 1) m rfl
noncomputable def r_X12_lays_80_78_l10_c2 (x2 : Int32) (x3 : Int32) (x4 : Int32) (m : Mem) : Option ((Int32 × Mem) ⊕ (Mem)) :=
  bd1 (loopO (fun s => r_X12_lays_80_78_b10_c2 x2 x3 s.1 s.2) (x4, m)) (fun e => r_X12_lays_80_78_e37_h10_c2 x2 x3 e)
set_option maxHeartbeats 4000000 in
set_option maxRecDepth 20000 in
theorem ok_X12_lays_80_78_l10_c2 (x2 : Int32) (x3 : Int32) (x4 : Int32) (m : Mem) {r : (Int32 × Mem) ⊕ (Mem)} (h : r_X12_lays_80_78_l10_c2 x2 x3 x4 m = some r) {o : Ou} {M' : Mem} (kb : ∀ (x3' : Int32) (m'' : Mem), r = Sum.inl (x3', m'') → Xj RX12 cX12_lays 5 none 1 0 0 0 0 0 2 [(0, vR 80 0), (1, vR 78 0), (2, vI x2), (3, vI x3')] [] m'' o M') (ke : ∀ (m'' : Mem), r = Sum.inr m'' → Xj RX12 cX12_lays 5 none 1 0 0 0 0 0 43 [] [] m'' o M') : Xj RX12 cX12_lays 5 none 1 0 0 0 0 0 10 [(0, vR 80 0), (1, vR 78 0), (2, vI x2), (3, vI x3), (4, vI x4)] [] m o M' := by
  unfold r_X12_lays_80_78_l10_c2 at h
  obtain ⟨e, e1, h⟩ := bd1_some h
  refine loopO_ok (P := fun s : (Int32 × Mem) => Xj RX12 cX12_lays 5 none 1 0 0 0 0 0 10 [(0, vR 80 0), (1, vR 78 0), (2, vI x2), (3, vI x3), (4, vI s.1)] [] s.2 o M') (Q := fun e : (Mem) => Xj RX12 cX12_lays 5 none 1 0 0 0 0 0 37 [(0, vR 80 0), (1, vR 78 0), (2, vI x2), (3, vI x3)] [] e o M') ?_ _ _ e1 ?_
  · intro s r9 h9 hi hx
    exact ok_X12_lays_80_78_b10_c2 x2 x3 s.1 s.2 h9 (by rintro _ _ rfl; exact hi _ rfl) (by rintro _ rfl; exact hx _ rfl)
  · exact ok_X12_lays_80_78_e37_h10_c2 x2 x3 e h kb ke
noncomputable def r_X12_lays_80_78_b2 (x2 : Int32) (x3 : Int32) (m : Mem) : Option ((Int32 × Mem) ⊕ (Mem)) :=
  if x2 ≤ x3 then (some (Sum.inr m)) else (r_X12_lays_80_78_l10_c2 x2 x3 0 m)
set_option maxHeartbeats 4000000 in
set_option maxRecDepth 20000 in
theorem ok_X12_lays_80_78_b2 (x2 : Int32) (x3 : Int32) (m : Mem) {r : (Int32 × Mem) ⊕ (Mem)} (h : r_X12_lays_80_78_b2 x2 x3 m = some r) {o : Ou} {M' : Mem} (kb : ∀ (x3' : Int32) (m'' : Mem), r = Sum.inl (x3', m'') → Xj RX12 cX12_lays 5 none 1 0 0 0 0 0 2 [(0, vR 80 0), (1, vR 78 0), (2, vI x2), (3, vI x3')] [] m'' o M') (ke : ∀ (m'' : Mem), r = Sum.inr m'' → Xj RX12 cX12_lays 5 none 1 0 0 0 0 0 43 [] [] m'' o M') : Xj RX12 cX12_lays 5 none 1 0 0 0 0 0 2 [(0, vR 80 0), (1, vR 78 0), (2, vI x2), (3, vI x3)] [] m o M' := by
  unfold r_X12_lays_80_78_b2 at h
  refine xj_iload_n 3 dX12_lays_2 rfl ?_
  refine xj_iload_n 2 dX12_lays_3 rfl ?_
  refine xj_icmp_ge (tgt := 43) dX12_lays_4 (by decide) (fun c1 => ?_) (fun c1 => ?_)
  · rw [if_pos c1] at h
    cases h
    refine xj_pick (ls' := []) [] rfl ?_
    exact ke m rfl
  · rw [if_neg c1] at h
    refine xj_iconst (z := 0) dX12_lays_7 (by decide) ?_
    refine xj_istore (ls' := [(4, vI 0), (0, vR 80 0), (1, vR 78 0), (2, vI x2), (3, vI x3)]) dX12_lays_8 (by decide) rfl ?_
    refine xj_pick (ls' := [(0, vR 80 0), (1, vR 78 0), (2, vI x2), (3, vI x3), (4, vI 0)]) [1, 2, 3, 4, 0] rfl ?_
    exact ok_X12_lays_80_78_l10_c2 x2 x3 0 m h kb ke
noncomputable def r_X12_lays_80_78_e43_h2 (m : Mem) : Option Mem :=
  some m
set_option maxHeartbeats 4000000 in
set_option maxRecDepth 20000 in
theorem ok_X12_lays_80_78_e43_h2 (m : Mem) {m' : Mem} (h : r_X12_lays_80_78_e43_h2 m = some m') : Xj RX12 cX12_lays 5 none 1 0 0 0 0 0 43 [] [] m oV m' := by
  unfold r_X12_lays_80_78_e43_h2 at h
  cases h
  exact xj_return dX12_lays_43 (by decide) (by decide)
noncomputable def r_X12_lays_80_78_l2 (x2 : Int32) (x3 : Int32) (m : Mem) : Option Mem :=
  bd1 (loopO (fun s => r_X12_lays_80_78_b2 x2 s.1 s.2) (x3, m)) (fun e => r_X12_lays_80_78_e43_h2 e)
set_option maxHeartbeats 4000000 in
set_option maxRecDepth 20000 in
theorem ok_X12_lays_80_78_l2 (x2 : Int32) (x3 : Int32) (m : Mem) {m' : Mem} (h : r_X12_lays_80_78_l2 x2 x3 m = some m') : Xj RX12 cX12_lays 5 none 1 0 0 0 0 0 2 [(0, vR 80 0), (1, vR 78 0), (2, vI x2), (3, vI x3)] [] m oV m' := by
  unfold r_X12_lays_80_78_l2 at h
  obtain ⟨e, e1, h⟩ := bd1_some h
  refine loopO_ok (P := fun s : (Int32 × Mem) => Xj RX12 cX12_lays 5 none 1 0 0 0 0 0 2 [(0, vR 80 0), (1, vR 78 0), (2, vI x2), (3, vI s.1)] [] s.2 oV m') (Q := fun e : (Mem) => Xj RX12 cX12_lays 5 none 1 0 0 0 0 0 43 [] [] e oV m') ?_ _ _ e1 ?_
  · intro s r9 h9 hi hx
    exact ok_X12_lays_80_78_b2 x2 s.1 s.2 h9 (by rintro _ _ rfl; exact hi _ rfl) (by rintro _ rfl; exact hx _ rfl)
  · exact ok_X12_lays_80_78_e43_h2 e h 
noncomputable def r_X12_lays_80_78 (x2 : Int32) (m : Mem) : Option Mem :=
  r_X12_lays_80_78_l2 x2 0 m
set_option maxHeartbeats 4000000 in
set_option maxRecDepth 20000 in
theorem ok_X12_lays_80_78 (x2 : Int32) (m : Mem) {m' : Mem} (h : r_X12_lays_80_78 x2 m = some m') : Mt yX12_lays cX12_lays 5 none 1 0 0 0 [vR 80 0, vR 78 0, vI x2] m oV m' := by
  refine Mt.of (by decide) (Nat.le_of_ble_eq_true rfl) (by decide +kernel) (hhF_ne (by decide)) ?_
  show Xj RX12 cX12_lays 5 none 1 0 0 0 0 0 0 [(0, vR 80 0), (1, vR 78 0), (2, vI x2)] [] m oV m'
  unfold r_X12_lays_80_78 at h
  refine xj_iconst (z := 0) dX12_lays_0 (by decide) ?_
  refine xj_istore_n (ls' := [(3, vI 0), (0, vR 80 0), (1, vR 78 0), (2, vI x2)]) dX12_lays_1 rfl (by decide) rfl ?_
  refine xj_pick (ls' := [(0, vR 80 0), (1, vR 78 0), (2, vI x2), (3, vI 0)]) [1, 2, 3, 0] rfl ?_
  exact ok_X12_lays_80_78_l2 x2 0 m h 
noncomputable def r_X12_book_j152_c48 (x2 : Int32) (x3 : Int32) (m : Mem) : Option ((Int32 × Int32 × Mem) ⊕ (Int32 × Mem)) :=
  bd1 (r_X12_blanks m) fun m26 => (some (Sum.inl (x2, x3, m26)))
set_option maxHeartbeats 4000000 in
set_option maxRecDepth 20000 in
theorem ok_X12_book_j152_c48 (x2 : Int32) (x3 : Int32) (m : Mem) {r : (Int32 × Int32 × Mem) ⊕ (Int32 × Mem)} (h : r_X12_book_j152_c48 x2 x3 m = some r) {o : Ou} {M' : Mem} (kb : ∀ (x2' : Int32) (x3' : Int32) (m'' : Mem), r = Sum.inl (x2', x3', m'') → Xj RX12 cX12_book 7 (some .int) 6 108 0 0 0 0 48 [(0, vR 12 0), (2, vI x2'), (3, vI x3')] [] m'' o M') (ke : ∀ (x2' : Int32) (m'' : Mem), r = Sum.inr (x2', m'') → Xj RX12 cX12_book 7 (some .int) 6 108 0 0 0 0 159 [(0, vR 12 0), (2, vI x2')] [] m'' o M') : Xj RX12 cX12_book 7 (some .int) 6 108 0 0 0 0 152 [(0, vR 12 0), (2, vI x2), (3, vI x3)] [] m o M' := by
  unfold r_X12_book_j152_c48 at h
  refine xj_aload_n 0 dX12_book_152 rfl ?_
  obtain ⟨m26, e25, h⟩ := bd1_some h
  refine xc_Vv0 (st := []) (ok_X12_blanks m e25) dX12_book_153 cv_X12_131 rfl rfl (Nat.le_of_ble_eq_true rfl) (by decide) (by decide) (by decide) (by decide) ?_
  refine xj_goto (tgt := 48) dX12_book_156 (by decide) ?_
  cases h
  exact kb x2 x3 m26 rfl
noncomputable def r_X12_book_j101_c48 (x2 : Int32) (x3 : Int32) (x5 : Int32) (m : Mem) : Option ((Int32 × Int32 × Mem) ⊕ (Int32 × Mem)) :=
  bd2 (r_X12_nextHere x5 m) fun z20 m19 => (bd1 (r_X12_sign 59 m19) fun m22 => (if (m22 12 0 5) = 0 then (if inb x2 12 = true then (r_X12_book_j152_c48 (x2 + 1) (x3 ||| (1 <<< (x5 &&& 31))) (wr (wr m22 79 x2.toNatClampNeg 0 x5) 79 x2.toNatClampNeg 1 z20)) else none) else (r_X12_book_j152_c48 x2 x3 m22)))
set_option maxHeartbeats 4000000 in
set_option maxRecDepth 20000 in
theorem ok_X12_book_j101_c48 (x2 : Int32) (x3 : Int32) (x5 : Int32) (m : Mem) {r : (Int32 × Int32 × Mem) ⊕ (Int32 × Mem)} (h : r_X12_book_j101_c48 x2 x3 x5 m = some r) {o : Ou} {M' : Mem} (kb : ∀ (x2' : Int32) (x3' : Int32) (m'' : Mem), r = Sum.inl (x2', x3', m'') → Xj RX12 cX12_book 7 (some .int) 6 108 0 0 0 0 48 [(0, vR 12 0), (2, vI x2'), (3, vI x3')] [] m'' o M') (ke : ∀ (x2' : Int32) (m'' : Mem), r = Sum.inr (x2', m'') → Xj RX12 cX12_book 7 (some .int) 6 108 0 0 0 0 159 [(0, vR 12 0), (2, vI x2')] [] m'' o M') : Xj RX12 cX12_book 7 (some .int) 6 108 0 0 0 0 101 [(0, vR 12 0), (2, vI x2), (3, vI x3), (5, vI x5)] [] m o M' := by
  unfold r_X12_book_j101_c48 at h
  refine xj_aload_n 0 dX12_book_101 rfl ?_
  refine xj_iload 3 dX12_book_102 rfl ?_
  obtain ⟨z20, m19, e18, h⟩ := bd2_some h
  refine xc_Vi0 (st := []) (ok_X12_nextHere x5 m e18) dX12_book_104 cv_X12_276 rfl rfl (Nat.le_of_ble_eq_true rfl) (by decide) (by decide) (by decide) (by decide) ?_
  refine xj_istore (ls' := [(6, vI z20), (0, vR 12 0), (2, vI x2), (3, vI x3), (5, vI x5)]) dX12_book_107 (by decide) rfl ?_
  refine xj_aload_n 1 dX12_book_109 rfl ?_
  refine xj_bipush (z := 59) dX12_book_110 (by decide) ?_
  obtain ⟨m22, e21, h⟩ := bd1_some h
  refine xc_Vv0 (st := []) (ok_X12_sign 59 m19 e21) dX12_book_112 cv_X12_187 rfl rfl (Nat.le_of_ble_eq_true rfl) (by decide) (by decide) (by decide) (by decide) ?_
  refine xj_aload_n 1 dX12_book_115 rfl ?_
  refine xg_getI (x := (m22 12 0 5)) dX12_book_116 fl_X12_125 rfl rfl ?_
  refine xj_if_ne (tgt := 152) dX12_book_119 (by decide) (fun c23 => ?_) (fun c23 => ?_)
  · rw [if_neg c23] at h
    refine xj_pick (ls' := [(0, vR 12 0), (2, vI x2), (3, vI x3)]) [1, 2, 3] rfl ?_
    exact ok_X12_book_j152_c48 x2 x3 m22 h kb ke
  · rw [if_pos c23] at h
    refine xj_iload_n 3 dX12_book_122 rfl ?_
    refine xj_iconst (z := 1) dX12_book_123 (by decide) ?_
    refine xj_iload 4 dX12_book_124 rfl ?_
    refine xj_ishl dX12_book_126 ?_
    refine xj_ior dX12_book_127 ?_
    refine xj_istore_n (ls' := [(3, vI (x3 ||| (1 <<< (x5 &&& 31)))), (6, vI z20), (0, vR 12 0), (2, vI x2), (5, vI x5)]) dX12_book_128 rfl (by decide) rfl ?_
    refine xj_aload_n 2 dX12_book_129 rfl ?_
    refine xg_getR (k' := 80) (i' := 0) dX12_book_130 fl_X12_61 rfl ?_
    refine xj_iload_n 3 dX12_book_133 rfl ?_
    by_cases c24 : inb x2 12 = true
    case neg => rw [if_neg c24] at h; cases h
    rw [if_pos c24] at h
    refine xg_aald (k' := 79) (i' := x2.toNatClampNeg) (n := x2.toNatClampNeg) dX12_book_134 rfl (by decide) (inb_in c24) rfl rfl ?_
    refine xj_iconst (z := 0) dX12_book_135 (by decide) ?_
    refine xj_iload 4 dX12_book_136 rfl ?_
    refine xg_iast (n := 0) dX12_book_138 rfl (by decide) (inb_in (by decide)) (by decide) ?_
    refine xj_aload_n 2 dX12_book_139 rfl ?_
    refine xg_getR (k' := 80) (i' := 0) dX12_book_140 fl_X12_61 rfl ?_
    refine xj_iload_n 3 dX12_book_143 rfl ?_
    refine xg_aald (k' := 79) (i' := x2.toNatClampNeg) (n := x2.toNatClampNeg) dX12_book_144 rfl (by decide) (inb_in c24) rfl rfl ?_
    refine xj_iconst (z := 1) dX12_book_145 (by decide) ?_
    refine xj_iload 1 dX12_book_146 rfl ?_
    refine xg_iast (n := 1) dX12_book_148 rfl (by decide) (inb_in (by decide)) (by decide) ?_
    refine xj_iinc (z := x2 + 1) (ls' := [(2, vI (x2 + 1)), (3, vI (x3 ||| (1 <<< (x5 &&& 31)))), (6, vI z20), (0, vR 12 0), (5, vI x5)]) 3 dX12_book_149 rfl rfl (by decide) rfl ?_
    refine xj_pick (ls' := [(0, vR 12 0), (2, vI (x2 + 1)), (3, vI (x3 ||| (1 <<< (x5 &&& 31))))]) [3, 0, 1] rfl ?_
    exact ok_X12_book_j152_c48 (x2 + 1) (x3 ||| (1 <<< (x5 &&& 31))) (wr (wr m22 79 x2.toNatClampNeg 0 x5) 79 x2.toNatClampNeg 1 z20) h kb ke
noncomputable def r_X12_book_b48 (x2 : Int32) (x3 : Int32) (m : Mem) : Option ((Int32 × Int32 × Mem) ⊕ (Int32 × Mem)) :=
  if (m 12 0 5) = 0 then (if (m 12 0 2) ≤ (m 12 0 4) then (some (Sum.inr (x2, m))) else (bd2 (r_X12_placeHere m) fun z13 m12 => (if (m12 12 0 5) = 0 then (if (r_X12_has x3 z13) = true then (bd1 (r_X12_wrong 2 (m 12 0 4) m12) fun m17 => (r_X12_book_j101_c48 x2 x3 z13 m17)) else (r_X12_book_j101_c48 x2 x3 z13 m12)) else (r_X12_book_j101_c48 x2 x3 z13 m12)))) else (some (Sum.inr (x2, m)))
set_option maxHeartbeats 4000000 in
set_option maxRecDepth 20000 in
theorem ok_X12_book_b48 (x2 : Int32) (x3 : Int32) (m : Mem) {r : (Int32 × Int32 × Mem) ⊕ (Int32 × Mem)} (h : r_X12_book_b48 x2 x3 m = some r) {o : Ou} {M' : Mem} (kb : ∀ (x2' : Int32) (x3' : Int32) (m'' : Mem), r = Sum.inl (x2', x3', m'') → Xj RX12 cX12_book 7 (some .int) 6 108 0 0 0 0 48 [(0, vR 12 0), (2, vI x2'), (3, vI x3')] [] m'' o M') (ke : ∀ (x2' : Int32) (m'' : Mem), r = Sum.inr (x2', m'') → Xj RX12 cX12_book 7 (some .int) 6 108 0 0 0 0 159 [(0, vR 12 0), (2, vI x2')] [] m'' o M') : Xj RX12 cX12_book 7 (some .int) 6 108 0 0 0 0 48 [(0, vR 12 0), (2, vI x2), (3, vI x3)] [] m o M' := by
  unfold r_X12_book_b48 at h
  refine xj_aload_n 0 dX12_book_48 rfl ?_
  refine xg_getI (x := (m 12 0 5)) dX12_book_49 fl_X12_125 rfl rfl ?_
  refine xj_if_ne (tgt := 159) dX12_book_52 (by decide) (fun c9 => ?_) (fun c9 => ?_)
  · rw [if_neg c9] at h
    cases h
    refine xj_pick (ls' := [(0, vR 12 0), (2, vI x2)]) [0, 1] rfl ?_
    exact ke x2 m rfl
  · rw [if_pos c9] at h
    refine xj_aload_n 0 dX12_book_55 rfl ?_
    refine xg_getI (x := (m 12 0 4)) dX12_book_56 fl_X12_118 rfl rfl ?_
    refine xj_aload_n 0 dX12_book_59 rfl ?_
    refine xg_getI (x := (m 12 0 2)) dX12_book_60 fl_X12_115 rfl rfl ?_
    refine xj_icmp_ge (tgt := 159) dX12_book_63 (by decide) (fun c10 => ?_) (fun c10 => ?_)
    · rw [if_pos c10] at h
      cases h
      refine xj_pick (ls' := [(0, vR 12 0), (2, vI x2)]) [0, 1] rfl ?_
      exact ke x2 m rfl
    · rw [if_neg c10] at h
      refine xj_aload_n 0 dX12_book_66 rfl ?_
      refine xg_getI (x := (m 12 0 4)) dX12_book_67 fl_X12_118 rfl rfl ?_
      refine xj_istore (ls' := [(4, vI (m 12 0 4)), (0, vR 12 0), (2, vI x2), (3, vI x3)]) dX12_book_70 (by decide) rfl ?_
      refine xj_aload_n 1 dX12_book_72 rfl ?_
      obtain ⟨z13, m12, e11, h⟩ := bd2_some h
      refine xc_Vi0 (st := []) (ok_X12_placeHere m e11) dX12_book_73 cv_X12_264 rfl rfl (Nat.le_of_ble_eq_true rfl) (by decide) (by decide) (by decide) (by decide) ?_
      refine xj_istore (ls' := [(5, vI z13), (4, vI (m 12 0 4)), (0, vR 12 0), (2, vI x2), (3, vI x3)]) dX12_book_76 (by decide) rfl ?_
      refine xj_aload_n 2 dX12_book_78 rfl ?_
      refine xg_getI (x := (m12 12 0 5)) dX12_book_79 fl_X12_125 rfl rfl ?_
      refine xj_if_ne (tgt := 101) dX12_book_82 (by decide) (fun c14 => ?_) (fun c14 => ?_)
      · rw [if_neg c14] at h
        refine xj_pick (ls' := [(0, vR 12 0), (2, vI x2), (3, vI x3), (5, vI z13)]) [2, 3, 4, 0] rfl ?_
        exact ok_X12_book_j101_c48 x2 x3 z13 m12 h kb ke
      · rw [if_pos c14] at h
        refine xj_iload_n 4 dX12_book_85 rfl ?_
        refine xj_iload 0 dX12_book_86 rfl ?_
        refine xc_Sb0 (st := []) (ok_X12_has x3 z13 m12 rfl) dX12_book_88 cs_X12_282 rfl rfl (Nat.le_of_ble_eq_true rfl) (by decide) (by decide) (by decide) (by decide) ?_
        refine xj_if_eq (tgt := 101) dX12_book_91 (by decide) (fun c15 => ?_) (fun c15 => ?_)
        · rw [if_neg (b2i_f c15)] at h
          refine xj_pick (ls' := [(0, vR 12 0), (2, vI x2), (3, vI x3), (5, vI z13)]) [2, 3, 4, 0] rfl ?_
          exact ok_X12_book_j101_c48 x2 x3 z13 m12 h kb ke
        · rw [if_pos (b2i_t c15)] at h
          refine xj_aload_n 2 dX12_book_94 rfl ?_
          refine xj_iconst (z := 2) dX12_book_95 (by decide) ?_
          refine xj_iload 1 dX12_book_96 rfl ?_
          obtain ⟨m17, e16, h⟩ := bd1_some h
          refine xc_Vv0 (st := []) (ok_X12_wrong 2 (m 12 0 4) m12 e16) dX12_book_98 cv_X12_138 rfl rfl (Nat.le_of_ble_eq_true rfl) (by decide) (by decide) (by decide) (by decide) ?_
          refine xj_pick (ls' := [(0, vR 12 0), (2, vI x2), (3, vI x3), (5, vI z13)]) [2, 3, 4, 0] rfl ?_
          exact ok_X12_book_j101_c48 x2 x3 z13 m17 h kb ke
noncomputable def r_X12_book_j159 (x2 : Int32) (m : Mem) : Option (Int32 × Mem) :=
  if (m 12 0 5) = 0 then (bd1 (r_X12_lays_80_78 x2 (wr (wr m 12 0 3 (-1)) 12 0 35 x2)) fun m29 => (some (x2, m29))) else (bd2 (r_X12_ends m) fun z32 m31 => (some (z32, m31)))
set_option maxHeartbeats 4000000 in
set_option maxRecDepth 20000 in
theorem ok_X12_book_j159 (x2 : Int32) (m : Mem) {z : Int32} {m' : Mem} (h : r_X12_book_j159 x2 m = some (z, m')) : Xj RX12 cX12_book 7 (some .int) 6 108 0 0 0 0 159 [(0, vR 12 0), (2, vI x2)] [] m (oI z) m' := by
  unfold r_X12_book_j159 at h
  refine xj_aload_n 0 dX12_book_159 rfl ?_
  refine xg_getI (x := (m 12 0 5)) dX12_book_160 fl_X12_125 rfl rfl ?_
  refine xj_if_eq (tgt := 171) dX12_book_163 (by decide) (fun c27 => ?_) (fun c27 => ?_)
  · rw [if_pos c27] at h
    refine xj_aload_n 0 dX12_book_171 rfl ?_
    refine xj_iconst (z := (-1)) dX12_book_172 (by decide) ?_
    refine xj_putI dX12_book_173 fw_X12_9 rfl ?_
    refine xj_aload_n 0 dX12_book_176 rfl ?_
    refine xj_iload_n 1 dX12_book_177 rfl ?_
    refine xj_putI dX12_book_178 fw_X12_211 rfl ?_
    refine xj_aload_n 0 dX12_book_181 rfl ?_
    refine xg_getR (k' := 80) (i' := 0) dX12_book_182 fl_X12_61 rfl ?_
    refine xj_aload_n 0 dX12_book_185 rfl ?_
    refine xg_getR (k' := 78) (i' := 0) dX12_book_186 fl_X12_58 rfl ?_
    refine xj_iload_n 1 dX12_book_189 rfl ?_
    obtain ⟨m29, e28, h⟩ := bd1_some h
    refine xc_Sv0 (st := []) (ok_X12_lays_80_78 x2 (wr (wr m 12 0 3 (-1)) 12 0 35 x2) e28) dX12_book_190 cs_X12_204 rfl rfl (Nat.le_of_ble_eq_true rfl) (by decide) (by decide) (by decide) (by decide) ?_
    refine xj_iload_n 1 dX12_book_193 rfl ?_
    cases h
    exact xj_ireturn dX12_book_194 rfl (by decide) (by decide)
  · rw [if_neg c27] at h
    refine xj_aload_n 0 dX12_book_166 rfl ?_
    obtain ⟨z32, m31, e30, h⟩ := bd2_some h
    refine xc_Vi0 (st := []) (ok_X12_ends m e30) dX12_book_167 cv_X12_201 rfl rfl (Nat.le_of_ble_eq_true rfl) (by decide) (by decide) (by decide) (by decide) ?_
    cases h
    exact xj_ireturn dX12_book_170 rfl (by decide) (by decide)
noncomputable def r_X12_book_e159_h48 (x2 : Int32) (m : Mem) : Option (Int32 × Mem) :=
  r_X12_book_j159 x2 m
set_option maxHeartbeats 4000000 in
set_option maxRecDepth 20000 in
theorem ok_X12_book_e159_h48 (x2 : Int32) (m : Mem) {z : Int32} {m' : Mem} (h : r_X12_book_e159_h48 x2 m = some (z, m')) : Xj RX12 cX12_book 7 (some .int) 6 108 0 0 0 0 159 [(0, vR 12 0), (2, vI x2)] [] m (oI z) m' := by
  unfold r_X12_book_e159_h48 at h
  exact ok_X12_book_j159 x2 m h 
noncomputable def r_X12_book_l48 (x2 : Int32) (x3 : Int32) (m : Mem) : Option (Int32 × Mem) :=
  bd1 (loopO (fun s => r_X12_book_b48 s.1 s.2.1 s.2.2) (x2, x3, m)) (fun e => r_X12_book_e159_h48 e.1 e.2)
set_option maxHeartbeats 4000000 in
set_option maxRecDepth 20000 in
theorem ok_X12_book_l48 (x2 : Int32) (x3 : Int32) (m : Mem) {z : Int32} {m' : Mem} (h : r_X12_book_l48 x2 x3 m = some (z, m')) : Xj RX12 cX12_book 7 (some .int) 6 108 0 0 0 0 48 [(0, vR 12 0), (2, vI x2), (3, vI x3)] [] m (oI z) m' := by
  unfold r_X12_book_l48 at h
  obtain ⟨e, e1, h⟩ := bd1_some h
  refine loopO_ok (P := fun s : (Int32 × Int32 × Mem) => Xj RX12 cX12_book 7 (some .int) 6 108 0 0 0 0 48 [(0, vR 12 0), (2, vI s.1), (3, vI s.2.1)] [] s.2.2 (oI z) m') (Q := fun e : (Int32 × Mem) => Xj RX12 cX12_book 7 (some .int) 6 108 0 0 0 0 159 [(0, vR 12 0), (2, vI e.1)] [] e.2 (oI z) m') ?_ _ _ e1 ?_
  · intro s r9 h9 hi hx
    exact ok_X12_book_b48 s.1 s.2.1 s.2.2 h9 (by rintro _ _ _ rfl; exact hi _ rfl) (by rintro _ _ rfl; exact hx _ rfl)
  · exact ok_X12_book_e159_h48 e.1 e.2 h 
noncomputable def r_X12_book_j29 (x1 : Int32) (s0 : Int32) (m : Mem) : Option (Int32 × Mem) :=
  bd2 (r_X12_bad s0 1 1 m) fun z5 m4 => (if z5 = true then (some (0, m4)) else (bd1 (r_X12_starts x1 m4) fun m8 => (r_X12_book_l48 0 0 m8)))
set_option maxHeartbeats 4000000 in
set_option maxRecDepth 20000 in
theorem ok_X12_book_j29 (x1 : Int32) (s0 : Int32) (m : Mem) {z : Int32} {m' : Mem} (h : r_X12_book_j29 x1 s0 m = some (z, m')) : Xj RX12 cX12_book 7 (some .int) 6 108 0 0 0 0 29 [(0, vR 12 0), (1, vI x1)] [vI s0, vR 12 0] m (oI z) m' := by
  unfold r_X12_book_j29 at h
  refine xj_iconst (z := 1) dX12_book_29 (by decide) ?_
  refine xj_iconst (z := 1) dX12_book_30 (by decide) ?_
  obtain ⟨z5, m4, e3, h⟩ := bd2_some h
  refine xc_Vb0 (st := []) (ok_X12_bad s0 1 1 m e3) dX12_book_31 cv_X12_191 rfl rfl (Nat.le_of_ble_eq_true rfl) (by decide) (by decide) (by decide) (by decide) ?_
  refine xj_if_eq (tgt := 39) dX12_book_34 (by decide) (fun c6 => ?_) (fun c6 => ?_)
  · rw [if_neg (b2i_f c6)] at h
    refine xj_aload_n 0 dX12_book_39 rfl ?_
    refine xj_iload_n 1 dX12_book_40 rfl ?_
    obtain ⟨m8, e7, h⟩ := bd1_some h
    refine xc_Vv0 (st := []) (ok_X12_starts x1 m4 e7) dX12_book_41 cv_X12_195 rfl rfl (Nat.le_of_ble_eq_true rfl) (by decide) (by decide) (by decide) (by decide) ?_
    refine xj_iconst (z := 0) dX12_book_44 (by decide) ?_
    refine xj_istore_n (ls' := [(2, vI 0), (0, vR 12 0), (1, vI x1)]) dX12_book_45 rfl (by decide) rfl ?_
    refine xj_iconst (z := 0) dX12_book_46 (by decide) ?_
    refine xj_istore_n (ls' := [(3, vI 0), (2, vI 0), (0, vR 12 0), (1, vI x1)]) dX12_book_47 rfl (by decide) rfl ?_
    refine xj_pick (ls' := [(0, vR 12 0), (2, vI 0), (3, vI 0)]) [2, 1, 0] rfl ?_
    exact ok_X12_book_l48 0 0 m8 h 
  · rw [if_pos (b2i_t c6)] at h
    refine xj_iconst (z := 0) dX12_book_37 (by decide) ?_
    cases h
    exact xj_ireturn dX12_book_38 rfl (by decide) (by decide)
noncomputable def r_X12_book_j24 (x1 : Int32) (m : Mem) : Option (Int32 × Mem) :=
  r_X12_book_j29 x1 1 m
set_option maxHeartbeats 4000000 in
set_option maxRecDepth 20000 in
theorem ok_X12_book_j24 (x1 : Int32) (m : Mem) {z : Int32} {m' : Mem} (h : r_X12_book_j24 x1 m = some (z, m')) : Xj RX12 cX12_book 7 (some .int) 6 108 0 0 0 0 24 [(0, vR 12 0), (1, vI x1)] [vR 12 0] m (oI z) m' := by
  unfold r_X12_book_j24 at h
  refine xj_iconst (z := 1) dX12_book_24 (by decide) ?_
  refine xj_goto (tgt := 29) dX12_book_25 (by decide) ?_
  exact ok_X12_book_j29 x1 1 m h 
noncomputable def r_X12_book (x1 : Int32) (m : Mem) : Option (Int32 × Mem) :=
  if (r_X12_in x1 0 (m 12 0 1)) = true then (if x1 ≤ 60 then (r_X12_book_j29 x1 0 (wr m 12 0 0 0)) else (r_X12_book_j24 x1 (wr m 12 0 0 0))) else (r_X12_book_j24 x1 (wr m 12 0 0 0))
set_option maxHeartbeats 4000000 in
set_option maxRecDepth 20000 in
theorem ok_X12_book (x1 : Int32) (m : Mem) {z : Int32} {m' : Mem} (h : r_X12_book x1 m = some (z, m')) : Mt yX12_book cX12_book 7 (some .int) 6 108 0 0 [vR 12 0, vI x1] m (oI z) m' := by
  refine Mt.of (by decide) (Nat.le_of_ble_eq_true rfl) (by decide +kernel) (hhF_ne (by decide)) ?_
  show Xj RX12 cX12_book 7 (some .int) 6 108 0 0 0 0 0 [(0, vR 12 0), (1, vI x1)] [] m (oI z) m'
  unfold r_X12_book at h
  refine xj_aload_n 0 dX12_book_0 rfl ?_
  refine xj_iconst (z := 0) dX12_book_1 (by decide) ?_
  refine xj_putI dX12_book_2 fw_X12_109 rfl ?_
  refine xj_aload_n 0 dX12_book_5 rfl ?_
  refine xj_iload_n 1 dX12_book_6 rfl ?_
  refine xj_iconst (z := 0) dX12_book_7 (by decide) ?_
  refine xj_aload_n 0 dX12_book_8 rfl ?_
  refine xg_getI (x := (m 12 0 1)) dX12_book_9 fl_X12_112 rfl rfl ?_
  refine xc_Sb0 (st := [vR 12 0]) (ok_X12_in x1 0 (m 12 0 1) (wr m 12 0 0 0) rfl) dX12_book_12 cs_X12_143 rfl rfl (Nat.le_of_ble_eq_true rfl) (by decide) (by decide) (by decide) (by decide) ?_
  refine xj_if_eq (tgt := 24) dX12_book_15 (by decide) (fun c1 => ?_) (fun c1 => ?_)
  · rw [if_neg (b2i_f c1)] at h
    exact ok_X12_book_j24 x1 (wr m 12 0 0 0) h 
  · rw [if_pos (b2i_t c1)] at h
    refine xj_iload_n 1 dX12_book_18 rfl ?_
    refine xj_bipush (z := 60) dX12_book_19 (by decide) ?_
    refine xj_icmp_le (tgt := 28) dX12_book_21 (by decide) (fun c2 => ?_) (fun c2 => ?_)
    · rw [if_pos c2] at h
      refine xj_iconst (z := 0) dX12_book_28 (by decide) ?_
      exact ok_X12_book_j29 x1 0 (wr m 12 0 0 0) h 
    · rw [if_neg c2] at h
      exact ok_X12_book_j24 x1 (wr m 12 0 0 0) h 
noncomputable def r_X12_comesBy (x1 : Int32) (x2 : Int32) (x3 : Int32) (m : Mem) : Option (Bool × Mem) :=
  if inb x1 32 = true then (if inb x2 32 = true then (if inb (m 85 x1.toNatClampNeg 0) 12 = true then (if inb (m 85 x2.toNatClampNeg 0) 12 = true then (bd2 (r_X12_courseBits (wr (wr m 57 0 ((m 85 x1.toNatClampNeg 0).toNatClampNeg) (m 59 0 x1.toNatClampNeg)) 57 0 ((m 85 x2.toNatClampNeg 0).toNatClampNeg) (m 59 0 x2.toNatClampNeg))) fun z7 m6 => (some ((r_X12_has z7 x3), (wr (wr m6 57 0 ((m 85 x2.toNatClampNeg 0).toNatClampNeg) (m 57 0 ((m 85 x2.toNatClampNeg 0).toNatClampNeg))) 57 0 ((m 85 x1.toNatClampNeg 0).toNatClampNeg) (m 57 0 ((m 85 x1.toNatClampNeg 0).toNatClampNeg)))))) else none) else none) else none) else none
set_option maxHeartbeats 4000000 in
set_option maxRecDepth 20000 in
theorem ok_X12_comesBy (x1 : Int32) (x2 : Int32) (x3 : Int32) (m : Mem) {z : Bool} {m' : Mem} (h : r_X12_comesBy x1 x2 x3 m = some (z, m')) : Mt yX12_comesBy cX12_comesBy 9 (some .boolean) 3 43 0 0 [vR 12 0, vI x1, vI x2, vI x3] m (oB z) m' := by
  refine Mt.of (by decide) (Nat.le_of_ble_eq_true rfl) (by decide +kernel) (hhF_ne (by decide)) ?_
  show Xj RX12 cX12_comesBy 9 (some .boolean) 3 43 0 0 0 0 0 [(0, vR 12 0), (1, vI x1), (2, vI x2), (3, vI x3)] [] m (oB z) m'
  unfold r_X12_comesBy at h
  refine xj_aload_n 0 dX12_comesBy_0 rfl ?_
  refine xg_getR (k' := 86) (i' := 0) dX12_comesBy_1 fl_X12_91 rfl ?_
  refine xj_iload_n 1 dX12_comesBy_4 rfl ?_
  by_cases c1 : inb x1 32 = true
  case neg => rw [if_neg c1] at h; cases h
  rw [if_pos c1] at h
  refine xg_aald (k' := 85) (i' := x1.toNatClampNeg) (n := x1.toNatClampNeg) dX12_comesBy_5 rfl (by decide) (inb_in c1) rfl rfl ?_
  refine xj_iconst (z := 0) dX12_comesBy_6 (by decide) ?_
  refine xg_iald (z := (m 85 x1.toNatClampNeg 0)) (n := 0) dX12_comesBy_7 rfl (by decide) (inb_in (by decide)) (by decide) rfl ?_
  refine xj_istore (ls' := [(4, vI (m 85 x1.toNatClampNeg 0)), (0, vR 12 0), (1, vI x1), (2, vI x2), (3, vI x3)]) dX12_comesBy_8 (by decide) rfl ?_
  refine xj_aload_n 1 dX12_comesBy_10 rfl ?_
  refine xg_getR (k' := 86) (i' := 0) dX12_comesBy_11 fl_X12_91 rfl ?_
  refine xj_iload_n 3 dX12_comesBy_14 rfl ?_
  by_cases c2 : inb x2 32 = true
  case neg => rw [if_neg c2] at h; cases h
  rw [if_pos c2] at h
  refine xg_aald (k' := 85) (i' := x2.toNatClampNeg) (n := x2.toNatClampNeg) dX12_comesBy_15 rfl (by decide) (inb_in c2) rfl rfl ?_
  refine xj_iconst (z := 0) dX12_comesBy_16 (by decide) ?_
  refine xg_iald (z := (m 85 x2.toNatClampNeg 0)) (n := 0) dX12_comesBy_17 rfl (by decide) (inb_in (by decide)) (by decide) rfl ?_
  refine xj_istore (ls' := [(5, vI (m 85 x2.toNatClampNeg 0)), (4, vI (m 85 x1.toNatClampNeg 0)), (0, vR 12 0), (1, vI x1), (2, vI x2), (3, vI x3)]) dX12_comesBy_18 (by decide) rfl ?_
  refine xj_aload_n 2 dX12_comesBy_20 rfl ?_
  refine xg_getR (k' := 57) (i' := 0) dX12_comesBy_21 fl_X12_85 rfl ?_
  refine xj_iload 1 dX12_comesBy_24 rfl ?_
  by_cases c3 : inb (m 85 x1.toNatClampNeg 0) 12 = true
  case neg => rw [if_neg c3] at h; cases h
  rw [if_pos c3] at h
  refine xg_iald (z := (m 57 0 ((m 85 x1.toNatClampNeg 0).toNatClampNeg))) (n := (m 85 x1.toNatClampNeg 0).toNatClampNeg) dX12_comesBy_26 rfl (by decide) (inb_in c3) rfl rfl ?_
  refine xj_istore (ls' := [(6, vI (m 57 0 ((m 85 x1.toNatClampNeg 0).toNatClampNeg))), (5, vI (m 85 x2.toNatClampNeg 0)), (4, vI (m 85 x1.toNatClampNeg 0)), (0, vR 12 0), (1, vI x1), (2, vI x2), (3, vI x3)]) dX12_comesBy_27 (by decide) rfl ?_
  refine xj_aload_n 3 dX12_comesBy_29 rfl ?_
  refine xg_getR (k' := 57) (i' := 0) dX12_comesBy_30 fl_X12_85 rfl ?_
  refine xj_iload 1 dX12_comesBy_33 rfl ?_
  by_cases c4 : inb (m 85 x2.toNatClampNeg 0) 12 = true
  case neg => rw [if_neg c4] at h; cases h
  rw [if_pos c4] at h
  refine xg_iald (z := (m 57 0 ((m 85 x2.toNatClampNeg 0).toNatClampNeg))) (n := (m 85 x2.toNatClampNeg 0).toNatClampNeg) dX12_comesBy_35 rfl (by decide) (inb_in c4) rfl rfl ?_
  refine xj_istore (ls' := [(7, vI (m 57 0 ((m 85 x2.toNatClampNeg 0).toNatClampNeg))), (6, vI (m 57 0 ((m 85 x1.toNatClampNeg 0).toNatClampNeg))), (5, vI (m 85 x2.toNatClampNeg 0)), (4, vI (m 85 x1.toNatClampNeg 0)), (0, vR 12 0), (1, vI x1), (2, vI x2), (3, vI x3)]) dX12_comesBy_36 (by decide) rfl ?_
  refine xj_aload_n 4 dX12_comesBy_38 rfl ?_
  refine xg_getR (k' := 57) (i' := 0) dX12_comesBy_39 fl_X12_85 rfl ?_
  refine xj_iload 3 dX12_comesBy_42 rfl ?_
  refine xj_aload_n 4 dX12_comesBy_44 rfl ?_
  refine xg_getR (k' := 59) (i' := 0) dX12_comesBy_45 fl_X12_94 rfl ?_
  refine xj_iload_n 5 dX12_comesBy_48 rfl ?_
  refine xg_iald (z := (m 59 0 x1.toNatClampNeg)) (n := x1.toNatClampNeg) dX12_comesBy_49 rfl (by decide) (inb_in c1) rfl rfl ?_
  refine xg_iast (n := (m 85 x1.toNatClampNeg 0).toNatClampNeg) dX12_comesBy_50 rfl (by decide) (inb_in c3) rfl ?_
  refine xj_aload_n 4 dX12_comesBy_51 rfl ?_
  refine xg_getR (k' := 57) (i' := 0) dX12_comesBy_52 fl_X12_85 rfl ?_
  refine xj_iload 2 dX12_comesBy_55 rfl ?_
  refine xj_aload_n 4 dX12_comesBy_57 rfl ?_
  refine xg_getR (k' := 59) (i' := 0) dX12_comesBy_58 fl_X12_94 rfl ?_
  refine xj_iload_n 6 dX12_comesBy_61 rfl ?_
  refine xg_iald (z := (m 59 0 x2.toNatClampNeg)) (n := x2.toNatClampNeg) dX12_comesBy_62 rfl (by decide) (inb_in c2) rfl rfl ?_
  refine xg_iast (n := (m 85 x2.toNatClampNeg 0).toNatClampNeg) dX12_comesBy_63 rfl (by decide) (inb_in c4) rfl ?_
  refine xj_aload_n 4 dX12_comesBy_64 rfl ?_
  obtain ⟨z7, m6, e5, h⟩ := bd2_some h
  refine xc_Vi0 (st := []) (ok_X12_courseBits (wr (wr m 57 0 ((m 85 x1.toNatClampNeg 0).toNatClampNeg) (m 59 0 x1.toNatClampNeg)) 57 0 ((m 85 x2.toNatClampNeg 0).toNatClampNeg) (m 59 0 x2.toNatClampNeg)) e5) dX12_comesBy_65 cv_X12_312 rfl rfl (Nat.le_of_ble_eq_true rfl) (by decide) (by decide) (by decide) (by decide) ?_
  refine xj_iload_n 7 dX12_comesBy_68 rfl ?_
  refine xc_Sb0 (st := []) (ok_X12_has z7 x3 m6 rfl) dX12_comesBy_69 cs_X12_282 rfl rfl (Nat.le_of_ble_eq_true rfl) (by decide) (by decide) (by decide) (by decide) ?_
  refine xj_istore (ls' := [(8, vI (b2i (r_X12_has z7 x3))), (7, vI (m 57 0 ((m 85 x2.toNatClampNeg 0).toNatClampNeg))), (6, vI (m 57 0 ((m 85 x1.toNatClampNeg 0).toNatClampNeg))), (5, vI (m 85 x2.toNatClampNeg 0)), (4, vI (m 85 x1.toNatClampNeg 0)), (0, vR 12 0), (1, vI x1), (2, vI x2), (3, vI x3)]) dX12_comesBy_72 (by decide) rfl ?_
  refine xj_aload_n 5 dX12_comesBy_74 rfl ?_
  refine xg_getR (k' := 57) (i' := 0) dX12_comesBy_75 fl_X12_85 rfl ?_
  refine xj_iload 3 dX12_comesBy_78 rfl ?_
  refine xj_iload 1 dX12_comesBy_80 rfl ?_
  refine xg_iast (n := (m 85 x2.toNatClampNeg 0).toNatClampNeg) dX12_comesBy_82 rfl (by decide) (inb_in c4) rfl ?_
  refine xj_aload_n 5 dX12_comesBy_83 rfl ?_
  refine xg_getR (k' := 57) (i' := 0) dX12_comesBy_84 fl_X12_85 rfl ?_
  refine xj_iload 4 dX12_comesBy_87 rfl ?_
  refine xj_iload 2 dX12_comesBy_89 rfl ?_
  refine xg_iast (n := (m 85 x1.toNatClampNeg 0).toNatClampNeg) dX12_comesBy_91 rfl (by decide) (inb_in c3) rfl ?_
  refine xj_iload 0 dX12_comesBy_92 rfl ?_
  cases h
  exact xj_ireturn dX12_comesBy_94 (nar_b2i _) (by decide) (by decide)
noncomputable def r_X12_count (x1 : Int32) (m : Mem) : Option (Int32 × Mem) :=
  if x1 = 0 then (some ((m 12 0 38), (wr m 12 0 0 0))) else (if x1 = 1 then (some ((m 12 0 1), (wr m 12 0 0 0))) else (if x1 = 2 then (some ((m 12 0 36), (wr m 12 0 0 0))) else (some ((-1), (wr m 12 0 0 0)))))
set_option maxHeartbeats 4000000 in
set_option maxRecDepth 20000 in
theorem ok_X12_count (x1 : Int32) (m : Mem) {z : Int32} {m' : Mem} (h : r_X12_count x1 m = some (z, m')) : Mt yX12_count cX12_count 2 (some .int) 1 0 0 0 [vR 12 0, vI x1] m (oI z) m' := by
  refine Mt.of (by decide) (Nat.le_of_ble_eq_true rfl) (by decide +kernel) (hhF_ne (by decide)) ?_
  show Xj RX12 cX12_count 2 (some .int) 1 0 0 0 0 0 0 [(0, vR 12 0), (1, vI x1)] [] m (oI z) m'
  unfold r_X12_count at h
  refine xj_aload_n 0 dX12_count_0 rfl ?_
  refine xj_iconst (z := 0) dX12_count_1 (by decide) ?_
  refine xj_putI dX12_count_2 fw_X12_109 rfl ?_
  refine xj_iload_n 1 dX12_count_5 rfl ?_
  refine xj_if_ne (tgt := 16) dX12_count_6 (by decide) (fun c1 => ?_) (fun c1 => ?_)
  · rw [if_neg c1] at h
    refine xj_iload_n 1 dX12_count_16 rfl ?_
    refine xj_iconst (z := 1) dX12_count_17 (by decide) ?_
    refine xj_icmp_ne (tgt := 28) dX12_count_18 (by decide) (fun c2 => ?_) (fun c2 => ?_)
    · rw [if_neg c2] at h
      refine xj_iload_n 1 dX12_count_28 rfl ?_
      refine xj_iconst (z := 2) dX12_count_29 (by decide) ?_
      refine xj_icmp_ne (tgt := 40) dX12_count_30 (by decide) (fun c3 => ?_) (fun c3 => ?_)
      · rw [if_neg c3] at h
        refine xj_iconst (z := (-1)) dX12_count_40 (by decide) ?_
        cases h
        exact xj_ireturn dX12_count_41 rfl (by decide) (by decide)
      · rw [if_pos c3] at h
        refine xj_aload_n 0 dX12_count_33 rfl ?_
        refine xg_getI (x := (m 12 0 36)) dX12_count_34 fl_X12_214 rfl rfl ?_
        refine xj_goto (tgt := 41) dX12_count_37 (by decide) ?_
        cases h
        exact xj_ireturn dX12_count_41 rfl (by decide) (by decide)
    · rw [if_pos c2] at h
      refine xj_aload_n 0 dX12_count_21 rfl ?_
      refine xg_getI (x := (m 12 0 1)) dX12_count_22 fl_X12_112 rfl rfl ?_
      refine xj_goto (tgt := 41) dX12_count_25 (by decide) ?_
      cases h
      exact xj_ireturn dX12_count_41 rfl (by decide) (by decide)
  · rw [if_pos c1] at h
    refine xj_aload_n 0 dX12_count_9 rfl ?_
    refine xg_getI (x := (m 12 0 38)) dX12_count_10 fl_X12_220 rfl rfl ?_
    refine xj_goto (tgt := 41) dX12_count_13 (by decide) ?_
    cases h
    exact xj_ireturn dX12_count_41 rfl (by decide) (by decide)
noncomputable def r_X12_course_j15 (x1 : Int32) (s0 : Int32) (m : Mem) : Option (Int32 × Mem) :=
  bd2 (r_X12_bad s0 1 1 m) fun z4 m3 => (if z4 = true then (some (0, m3)) else (bd2 (r_X12_courseOf 0 m3) fun z8 m7 => (if (m7 12 0 42) ≤ x1 then (some ((-1), m7)) else (if inb x1 12 = true then (some ((m7 58 0 x1.toNatClampNeg), m7)) else none))))
set_option maxHeartbeats 4000000 in
set_option maxRecDepth 20000 in
theorem ok_X12_course_j15 (x1 : Int32) (s0 : Int32) (m : Mem) {z : Int32} {m' : Mem} (h : r_X12_course_j15 x1 s0 m = some (z, m')) : Xj RX12 cX12_course 2 (some .int) 10 220 0 0 0 0 15 [(0, vR 12 0), (1, vI x1)] [vI s0, vR 12 0] m (oI z) m' := by
  unfold r_X12_course_j15 at h
  refine xj_iconst (z := 1) dX12_course_15 (by decide) ?_
  refine xj_iconst (z := 1) dX12_course_16 (by decide) ?_
  obtain ⟨z4, m3, e2, h⟩ := bd2_some h
  refine xc_Vb0 (st := []) (ok_X12_bad s0 1 1 m e2) dX12_course_17 cv_X12_191 rfl rfl (Nat.le_of_ble_eq_true rfl) (by decide) (by decide) (by decide) (by decide) ?_
  refine xj_if_eq (tgt := 25) dX12_course_20 (by decide) (fun c5 => ?_) (fun c5 => ?_)
  · rw [if_neg (b2i_f c5)] at h
    refine xj_aload_n 0 dX12_course_25 rfl ?_
    refine xj_aload_n 0 dX12_course_26 rfl ?_
    refine xg_getR (k' := 60) (i' := 0) dX12_course_27 fl_X12_73 rfl ?_
    obtain ⟨z8, m7, e6, h⟩ := bd2_some h
    refine xc_Vi0 (st := []) (ok_X12_courseOf 0 m3 e6) dX12_course_30 cv_X12_315 rfl rfl (Nat.le_of_ble_eq_true rfl) (by decide) (by decide) (by decide) (by decide) ?_
    refine xj_pop dX12_course_33 rfl ?_
    refine xj_iload_n 1 dX12_course_34 rfl ?_
    refine xj_aload_n 0 dX12_course_35 rfl ?_
    refine xg_getI (x := (m7 12 0 42)) dX12_course_36 fl_X12_305 rfl rfl ?_
    refine xj_icmp_ge (tgt := 51) dX12_course_39 (by decide) (fun c9 => ?_) (fun c9 => ?_)
    · rw [if_pos c9] at h
      refine xj_iconst (z := (-1)) dX12_course_51 (by decide) ?_
      cases h
      exact xj_ireturn dX12_course_52 rfl (by decide) (by decide)
    · rw [if_neg c9] at h
      refine xj_aload_n 0 dX12_course_42 rfl ?_
      refine xg_getR (k' := 58) (i' := 0) dX12_course_43 fl_X12_88 rfl ?_
      refine xj_iload_n 1 dX12_course_46 rfl ?_
      by_cases c10 : inb x1 12 = true
      case neg => rw [if_neg c10] at h; cases h
      rw [if_pos c10] at h
      refine xg_iald (z := (m7 58 0 x1.toNatClampNeg)) (n := x1.toNatClampNeg) dX12_course_47 rfl (by decide) (inb_in c10) rfl rfl ?_
      refine xj_goto (tgt := 52) dX12_course_48 (by decide) ?_
      cases h
      exact xj_ireturn dX12_course_52 rfl (by decide) (by decide)
  · rw [if_pos (b2i_t c5)] at h
    refine xj_iconst (z := 0) dX12_course_23 (by decide) ?_
    cases h
    exact xj_ireturn dX12_course_24 rfl (by decide) (by decide)
noncomputable def r_X12_course (x1 : Int32) (m : Mem) : Option (Int32 × Mem) :=
  if 0 ≤ x1 then (r_X12_course_j15 x1 0 (wr m 12 0 0 0)) else (r_X12_course_j15 x1 1 (wr m 12 0 0 0))
set_option maxHeartbeats 4000000 in
set_option maxRecDepth 20000 in
theorem ok_X12_course (x1 : Int32) (m : Mem) {z : Int32} {m' : Mem} (h : r_X12_course x1 m = some (z, m')) : Mt yX12_course cX12_course 2 (some .int) 10 220 0 0 [vR 12 0, vI x1] m (oI z) m' := by
  refine Mt.of (by decide) (Nat.le_of_ble_eq_true rfl) (by decide +kernel) (hhF_ne (by decide)) ?_
  show Xj RX12 cX12_course 2 (some .int) 10 220 0 0 0 0 0 [(0, vR 12 0), (1, vI x1)] [] m (oI z) m'
  unfold r_X12_course at h
  refine xj_aload_n 0 dX12_course_0 rfl ?_
  refine xj_iconst (z := 0) dX12_course_1 (by decide) ?_
  refine xj_putI dX12_course_2 fw_X12_109 rfl ?_
  refine xj_aload_n 0 dX12_course_5 rfl ?_
  refine xj_iload_n 1 dX12_course_6 rfl ?_
  refine xj_if_ge (tgt := 14) dX12_course_7 (by decide) (fun c1 => ?_) (fun c1 => ?_)
  · rw [if_pos c1] at h
    refine xj_iconst (z := 0) dX12_course_14 (by decide) ?_
    exact ok_X12_course_j15 x1 0 (wr m 12 0 0 0) h 
  · rw [if_neg c1] at h
    refine xj_iconst (z := 1) dX12_course_10 (by decide) ?_
    refine xj_goto (tgt := 15) dX12_course_11 (by decide) ?_
    exact ok_X12_course_j15 x1 1 (wr m 12 0 0 0) h 
noncomputable def r_X12_courseName_b11 (m : Mem) (y2 : Int64) (x4 : Int32) : Option ((Int64 × Int32) ⊕ (Int64)) :=
  if (m 12 0 42) ≤ x4 then (some (Sum.inr y2)) else (if inb x4 12 = true then (some (Sum.inl ((((13 * y2) + ((m 58 0 x4.toNatClampNeg).toInt64)) + 1), x4 + 1))) else none)
set_option maxHeartbeats 4000000 in
set_option maxRecDepth 20000 in
theorem ok_X12_courseName_b11 (m : Mem) (y2 : Int64) (x4 : Int32) {r : (Int64 × Int32) ⊕ (Int64)} (h : r_X12_courseName_b11 m y2 x4 = some r) {o : Ou} {M' : Mem} (kb : ∀ (y2' : Int64) (x4' : Int32), r = Sum.inl (y2', x4') → Xj RX12 cX12_courseName 5 (some .long) 10 220 0 0 0 0 11 [(0, vR 12 0), (2, vL y2'), (4, vI x4')] [] m o M') (ke : ∀ (y2' : Int64), r = Sum.inr y2' → Xj RX12 cX12_courseName 5 (some .long) 10 220 0 0 0 0 43 [(2, vL y2')] [] m o M') : Xj RX12 cX12_courseName 5 (some .long) 10 220 0 0 0 0 11 [(0, vR 12 0), (2, vL y2), (4, vI x4)] [] m o M' := by
  unfold r_X12_courseName_b11 at h
  refine xj_iload 2 dX12_courseName_11 rfl ?_
  refine xj_aload_n 0 dX12_courseName_13 rfl ?_
  refine xg_getI (x := (m 12 0 42)) dX12_courseName_14 fl_X12_305 rfl rfl ?_
  refine xj_icmp_ge (tgt := 43) dX12_courseName_17 (by decide) (fun c4 => ?_) (fun c4 => ?_)
  · rw [if_pos c4] at h
    cases h
    refine xj_pick (ls' := [(2, vL y2)]) [1] rfl ?_
    exact ke y2 rfl
  · rw [if_neg c4] at h
    refine xj_ldc2 (z := 13) dX12_courseName_20 wt_1863 ?_
    refine xj_lload_n 1 dX12_courseName_23 rfl ?_
    refine xj_lmul dX12_courseName_24 ?_
    refine xj_aload_n 0 dX12_courseName_25 rfl ?_
    refine xg_getR (k' := 58) (i' := 0) dX12_courseName_26 fl_X12_88 rfl ?_
    refine xj_iload 2 dX12_courseName_29 rfl ?_
    by_cases c5 : inb x4 12 = true
    case neg => rw [if_neg c5] at h; cases h
    rw [if_pos c5] at h
    refine xg_iald (z := (m 58 0 x4.toNatClampNeg)) (n := x4.toNatClampNeg) dX12_courseName_31 rfl (by decide) (inb_in c5) rfl rfl ?_
    refine xj_i2l dX12_courseName_32 ?_
    refine xj_ladd dX12_courseName_33 ?_
    refine xj_lconst (z := 1) dX12_courseName_34 (by decide) ?_
    refine xj_ladd dX12_courseName_35 ?_
    refine xj_lstore_n (ls' := [(2, vL (((13 * y2) + ((m 58 0 x4.toNatClampNeg).toInt64)) + 1)), (0, vR 12 0), (4, vI x4)]) dX12_courseName_36 rfl (by decide) rfl ?_
    refine xj_iinc (z := x4 + 1) (ls' := [(4, vI (x4 + 1)), (2, vL (((13 * y2) + ((m 58 0 x4.toNatClampNeg).toInt64)) + 1)), (0, vR 12 0)]) 2 dX12_courseName_37 rfl rfl (by decide) rfl ?_
    refine xj_goto (tgt := 11) dX12_courseName_40 (by decide) ?_
    cases h
    refine xj_pick (ls' := [(0, vR 12 0), (2, vL (((13 * y2) + ((m 58 0 x4.toNatClampNeg).toInt64)) + 1)), (4, vI (x4 + 1))]) [2, 1, 0] rfl ?_
    exact kb (((13 * y2) + ((m 58 0 x4.toNatClampNeg).toInt64)) + 1) (x4 + 1) rfl
noncomputable def r_X12_courseName_e43_h11 (y2 : Int64) (m : Mem) : Option (Int64 × Mem) :=
  some (y2, m)
set_option maxHeartbeats 4000000 in
set_option maxRecDepth 20000 in
theorem ok_X12_courseName_e43_h11 (y2 : Int64) (m : Mem) {z : Int64} {m' : Mem} (h : r_X12_courseName_e43_h11 y2 m = some (z, m')) : Xj RX12 cX12_courseName 5 (some .long) 10 220 0 0 0 0 43 [(2, vL y2)] [] m (oL z) m' := by
  unfold r_X12_courseName_e43_h11 at h
  refine xj_lload_n 0 dX12_courseName_43 rfl ?_
  cases h
  exact xj_lreturn dX12_courseName_44 (by decide) (by decide)
noncomputable def r_X12_courseName_l11 (y2 : Int64) (x4 : Int32) (m : Mem) : Option (Int64 × Mem) :=
  bd1 (loopO (fun s => r_X12_courseName_b11 m s.1 s.2) (y2, x4)) (fun e => r_X12_courseName_e43_h11 e m)
set_option maxHeartbeats 4000000 in
set_option maxRecDepth 20000 in
theorem ok_X12_courseName_l11 (y2 : Int64) (x4 : Int32) (m : Mem) {z : Int64} {m' : Mem} (h : r_X12_courseName_l11 y2 x4 m = some (z, m')) : Xj RX12 cX12_courseName 5 (some .long) 10 220 0 0 0 0 11 [(0, vR 12 0), (2, vL y2), (4, vI x4)] [] m (oL z) m' := by
  unfold r_X12_courseName_l11 at h
  obtain ⟨e, e1, h⟩ := bd1_some h
  refine loopO_ok (P := fun s : (Int64 × Int32) => Xj RX12 cX12_courseName 5 (some .long) 10 220 0 0 0 0 11 [(0, vR 12 0), (2, vL s.1), (4, vI s.2)] [] m (oL z) m') (Q := fun e : (Int64) => Xj RX12 cX12_courseName 5 (some .long) 10 220 0 0 0 0 43 [(2, vL e)] [] m (oL z) m') ?_ _ _ e1 ?_
  · intro s r9 h9 hi hx
    exact ok_X12_courseName_b11 m s.1 s.2 h9 (by rintro _ _ rfl; exact hi _ rfl) (by rintro _ rfl; exact hx _ rfl)
  · exact ok_X12_courseName_e43_h11 e m h 
noncomputable def r_X12_courseName (i1 : Nat) (m : Mem) : Option (Int64 × Mem) :=
  bd2 (r_X12_courseOf i1 m) fun z3 m2 => (r_X12_courseName_l11 0 0 m2)
set_option maxHeartbeats 4000000 in
set_option maxRecDepth 20000 in
theorem ok_X12_courseName (i1 : Nat) (m : Mem) {z : Int64} {m' : Mem} (h : r_X12_courseName i1 m = some (z, m')) : Mt yX12_courseName cX12_courseName 5 (some .long) 10 220 0 0 [vR 12 0, vR 60 i1] m (oL z) m' := by
  refine Mt.of (by decide) (Nat.le_of_ble_eq_true rfl) (by decide +kernel) (hhF_ne (by decide)) ?_
  show Xj RX12 cX12_courseName 5 (some .long) 10 220 0 0 0 0 0 [(0, vR 12 0), (1, vR 60 i1)] [] m (oL z) m'
  unfold r_X12_courseName at h
  refine xj_lconst (z := 0) dX12_courseName_0 (by decide) ?_
  refine xj_lstore_n (ls' := [(2, vL 0), (0, vR 12 0), (1, vR 60 i1)]) dX12_courseName_1 rfl (by decide) rfl ?_
  refine xj_aload_n 1 dX12_courseName_2 rfl ?_
  refine xj_aload_n 2 dX12_courseName_3 rfl ?_
  obtain ⟨z3, m2, e1, h⟩ := bd2_some h
  refine xc_Vi0 (st := []) (ok_X12_courseOf i1 m e1) dX12_courseName_4 cv_X12_315 rfl rfl (Nat.le_of_ble_eq_true rfl) (by decide) (by decide) (by decide) (by decide) ?_
  refine xj_pop dX12_courseName_7 rfl ?_
  refine xj_iconst (z := 0) dX12_courseName_8 (by decide) ?_
  refine xj_istore (ls' := [(4, vI 0), (2, vL 0), (0, vR 12 0), (1, vR 60 i1)]) dX12_courseName_9 (by decide) rfl ?_
  refine xj_pick (ls' := [(0, vR 12 0), (2, vL 0), (4, vI 0)]) [2, 1, 0] rfl ?_
  exact ok_X12_courseName_l11 0 0 m2 h 
noncomputable def r_X12_digs_b47 (x1 : Int32) (x2 : Int32) (x3 : Int32) (x4 : Int32) (m : Mem) : Option ((Int32 × Mem) ⊕ ((Mem) ⊕ (Int32 × Mem))) :=
  if x3 = (-1) then (some (Sum.inr (Sum.inl m))) else (if inb (78 + x3) 111 = true then (if 9 < ((m 60 0 ((78 + x3).toNatClampNeg)) + x4) then (some (Sum.inr (Sum.inl m))) else (bd2 (r_X12_nextWith 0 x1 x3 x4 m) fun z18 m17 => (if z18 = x2 then (some (Sum.inr (Sum.inr (x4, m17)))) else (some (Sum.inl (x4 + 1, m17)))))) else none)
set_option maxHeartbeats 4000000 in
set_option maxRecDepth 20000 in
theorem ok_X12_digs_b47 (x1 : Int32) (x2 : Int32) (x3 : Int32) (x4 : Int32) (m : Mem) {r : (Int32 × Mem) ⊕ ((Mem) ⊕ (Int32 × Mem))} (h : r_X12_digs_b47 x1 x2 x3 x4 m = some r) {o : Ou} {M' : Mem} (kb : ∀ (x4' : Int32) (m'' : Mem), r = Sum.inl (x4', m'') → Xj RX12 cX12_digs 5 (some .int) 7 155 0 0 0 0 47 [(0, vR 12 0), (1, vI x1), (2, vI x2), (3, vI x3), (4, vI x4')] [] m'' o M') (ke : ∀ (m'' : Mem), r = Sum.inr (Sum.inl m'') → Xj RX12 cX12_digs 5 (some .int) 7 155 0 0 0 0 94 [] [] m'' o M') (kr : ∀ (z : Int32) (m' : Mem), r = Sum.inr (Sum.inr (z, m')) → o = (oI z) ∧ M' = m') : Xj RX12 cX12_digs 5 (some .int) 7 155 0 0 0 0 47 [(0, vR 12 0), (1, vI x1), (2, vI x2), (3, vI x3), (4, vI x4)] [] m o M' := by
  unfold r_X12_digs_b47 at h
  refine xj_iload_n 3 dX12_digs_47 rfl ?_
  refine xj_iconst (z := (-1)) dX12_digs_48 (by decide) ?_
  refine xj_icmp_eq (tgt := 94) dX12_digs_49 (by decide) (fun c13 => ?_) (fun c13 => ?_)
  · rw [if_pos c13] at h
    cases h
    refine xj_pick (ls' := []) [] rfl ?_
    exact ke m rfl
  · rw [if_neg c13] at h
    refine xj_aload_n 0 dX12_digs_52 rfl ?_
    refine xg_getR (k' := 60) (i' := 0) dX12_digs_53 fl_X12_73 rfl ?_
    refine xj_bipush (z := 78) dX12_digs_56 (by decide) ?_
    refine xj_iload_n 3 dX12_digs_58 rfl ?_
    refine xj_iadd dX12_digs_59 ?_
    by_cases c14 : inb (78 + x3) 111 = true
    case neg => rw [if_neg c14] at h; cases h
    rw [if_pos c14] at h
    refine xg_iald (z := (m 60 0 ((78 + x3).toNatClampNeg))) (n := (78 + x3).toNatClampNeg) dX12_digs_60 rfl (by decide) (inb_in c14) rfl rfl ?_
    refine xj_iload 4 dX12_digs_61 rfl ?_
    refine xj_iadd dX12_digs_63 ?_
    refine xj_bipush (z := 9) dX12_digs_64 (by decide) ?_
    refine xj_icmp_gt (tgt := 94) dX12_digs_66 (by decide) (fun c15 => ?_) (fun c15 => ?_)
    · rw [if_pos c15] at h
      cases h
      refine xj_pick (ls' := []) [] rfl ?_
      exact ke m rfl
    · rw [if_neg c15] at h
      refine xj_aload_n 0 dX12_digs_69 rfl ?_
      refine xj_aload_n 0 dX12_digs_70 rfl ?_
      refine xg_getR (k' := 60) (i' := 0) dX12_digs_71 fl_X12_73 rfl ?_
      refine xj_iload_n 1 dX12_digs_74 rfl ?_
      refine xj_iload_n 3 dX12_digs_75 rfl ?_
      refine xj_iload 4 dX12_digs_76 rfl ?_
      obtain ⟨z18, m17, e16, h⟩ := bd2_some h
      refine xc_Vi0 (st := []) (ok_X12_nextWith 0 x1 x3 x4 m e16) dX12_digs_78 cv_X12_297 rfl rfl (Nat.le_of_ble_eq_true rfl) (by decide) (by decide) (by decide) (by decide) ?_
      refine xj_iload_n 2 dX12_digs_81 rfl ?_
      refine xj_icmp_ne (tgt := 88) dX12_digs_82 (by decide) (fun c19 => ?_) (fun c19 => ?_)
      · rw [if_neg c19] at h
        refine xj_iinc (z := x4 + 1) (ls' := [(4, vI (x4 + 1)), (0, vR 12 0), (1, vI x1), (2, vI x2), (3, vI x3)]) 4 dX12_digs_88 rfl rfl (by decide) rfl ?_
        refine xj_goto (tgt := 47) dX12_digs_91 (by decide) ?_
        cases h
        refine xj_pick (ls' := [(0, vR 12 0), (1, vI x1), (2, vI x2), (3, vI x3), (4, vI (x4 + 1))]) [1, 2, 3, 4, 0] rfl ?_
        exact kb (x4 + 1) m17 rfl
      · rw [if_pos c19] at h
        refine xj_iload 4 dX12_digs_85 rfl ?_
        cases h
        obtain ⟨rfl, rfl⟩ := kr _ _ rfl
        exact xj_ireturn dX12_digs_87 rfl (by decide) (by decide)
noncomputable def r_X12_digs_e94_h47 (m : Mem) : Option (Int32 × Mem) :=
  some ((-1), m)
set_option maxHeartbeats 4000000 in
set_option maxRecDepth 20000 in
theorem ok_X12_digs_e94_h47 (m : Mem) {z : Int32} {m' : Mem} (h : r_X12_digs_e94_h47 m = some (z, m')) : Xj RX12 cX12_digs 5 (some .int) 7 155 0 0 0 0 94 [] [] m (oI z) m' := by
  unfold r_X12_digs_e94_h47 at h
  refine xj_iconst (z := (-1)) dX12_digs_94 (by decide) ?_
  cases h
  exact xj_ireturn dX12_digs_95 rfl (by decide) (by decide)
noncomputable def r_X12_digs_l47 (x1 : Int32) (x2 : Int32) (x3 : Int32) (x4 : Int32) (m : Mem) : Option (Int32 × Mem) :=
  bdS (loopO (fun s => r_X12_digs_b47 x1 x2 x3 s.1 s.2) (x4, m)) (fun e => r_X12_digs_e94_h47 e) (fun q => some q)
set_option maxHeartbeats 4000000 in
set_option maxRecDepth 20000 in
theorem ok_X12_digs_l47 (x1 : Int32) (x2 : Int32) (x3 : Int32) (x4 : Int32) (m : Mem) {z : Int32} {m' : Mem} (h : r_X12_digs_l47 x1 x2 x3 x4 m = some (z, m')) : Xj RX12 cX12_digs 5 (some .int) 7 155 0 0 0 0 47 [(0, vR 12 0), (1, vI x1), (2, vI x2), (3, vI x3), (4, vI x4)] [] m (oI z) m' := by
  unfold r_X12_digs_l47 at h
  rcases bdS_some h with ⟨e, e1, h⟩ | ⟨q, e1, h⟩
  · refine loopO_ok (P := fun s : (Int32 × Mem) => Xj RX12 cX12_digs 5 (some .int) 7 155 0 0 0 0 47 [(0, vR 12 0), (1, vI x1), (2, vI x2), (3, vI x3), (4, vI s.1)] [] s.2 (oI z) m') (Q := Sum.elim (fun e : (Mem) => Xj RX12 cX12_digs 5 (some .int) 7 155 0 0 0 0 94 [] [] e (oI z) m') (fun q : (Int32 × Mem) => (oI z) = (oI q.1) ∧ m' = q.2)) ?_ _ _ e1 ?_
    · intro s r9 h9 hi hx
      exact ok_X12_digs_b47 x1 x2 x3 s.1 s.2 h9 (by rintro _ _ rfl; exact hi _ rfl) (by rintro _ rfl; exact hx _ rfl) (by rintro _ _ rfl; exact hx _ rfl)
    · exact ok_X12_digs_e94_h47 e h 
  · refine loopO_ok (P := fun s : (Int32 × Mem) => Xj RX12 cX12_digs 5 (some .int) 7 155 0 0 0 0 47 [(0, vR 12 0), (1, vI x1), (2, vI x2), (3, vI x3), (4, vI s.1)] [] s.2 (oI z) m') (Q := Sum.elim (fun e : (Mem) => Xj RX12 cX12_digs 5 (some .int) 7 155 0 0 0 0 94 [] [] e (oI z) m') (fun q : (Int32 × Mem) => (oI z) = (oI q.1) ∧ m' = q.2)) ?_ _ _ e1 ?_
    · intro s r9 h9 hi hx
      exact ok_X12_digs_b47 x1 x2 x3 s.1 s.2 h9 (by rintro _ _ rfl; exact hi _ rfl) (by rintro _ rfl; exact hx _ rfl) (by rintro _ _ rfl; exact hx _ rfl)
    · cases h; exact ⟨rfl, rfl⟩
noncomputable def r_X12_digs_j27 (x1 : Int32) (x2 : Int32) (s0 : Int32) (m : Mem) : Option (Int32 × Mem) :=
  bd2 (r_X12_bad s0 1 0 m) fun z9 m8 => (if z9 = true then (some (0, m8)) else (bd1 (r_X12_between x1 x2 m8) fun z12 => (r_X12_digs_l47 x1 x2 z12 0 m8)))
set_option maxHeartbeats 4000000 in
set_option maxRecDepth 20000 in
theorem ok_X12_digs_j27 (x1 : Int32) (x2 : Int32) (s0 : Int32) (m : Mem) {z : Int32} {m' : Mem} (h : r_X12_digs_j27 x1 x2 s0 m = some (z, m')) : Xj RX12 cX12_digs 5 (some .int) 7 155 0 0 0 0 27 [(0, vR 12 0), (1, vI x1), (2, vI x2)] [vI s0, vR 12 0] m (oI z) m' := by
  unfold r_X12_digs_j27 at h
  refine xj_iconst (z := 1) dX12_digs_27 (by decide) ?_
  refine xj_iconst (z := 0) dX12_digs_28 (by decide) ?_
  obtain ⟨z9, m8, e7, h⟩ := bd2_some h
  refine xc_Vb0 (st := []) (ok_X12_bad s0 1 0 m e7) dX12_digs_29 cv_X12_191 rfl rfl (Nat.le_of_ble_eq_true rfl) (by decide) (by decide) (by decide) (by decide) ?_
  refine xj_if_eq (tgt := 37) dX12_digs_32 (by decide) (fun c10 => ?_) (fun c10 => ?_)
  · rw [if_neg (b2i_f c10)] at h
    refine xj_aload_n 0 dX12_digs_37 rfl ?_
    refine xj_iload_n 1 dX12_digs_38 rfl ?_
    refine xj_iload_n 2 dX12_digs_39 rfl ?_
    obtain ⟨z12, e11, h⟩ := bd1_some h
    refine xc_Vi0 (st := []) (ok_X12_between x1 x2 m8 e11) dX12_digs_40 cv_X12_267 rfl rfl (Nat.le_of_ble_eq_true rfl) (by decide) (by decide) (by decide) (by decide) ?_
    refine xj_istore_n (ls' := [(3, vI z12), (0, vR 12 0), (1, vI x1), (2, vI x2)]) dX12_digs_43 rfl (by decide) rfl ?_
    refine xj_iconst (z := 0) dX12_digs_44 (by decide) ?_
    refine xj_istore (ls' := [(4, vI 0), (3, vI z12), (0, vR 12 0), (1, vI x1), (2, vI x2)]) dX12_digs_45 (by decide) rfl ?_
    refine xj_pick (ls' := [(0, vR 12 0), (1, vI x1), (2, vI x2), (3, vI z12), (4, vI 0)]) [2, 3, 4, 1, 0] rfl ?_
    exact ok_X12_digs_l47 x1 x2 z12 0 m8 h 
  · rw [if_pos (b2i_t c10)] at h
    refine xj_iconst (z := 0) dX12_digs_35 (by decide) ?_
    cases h
    exact xj_ireturn dX12_digs_36 rfl (by decide) (by decide)
noncomputable def r_X12_digs_j22 (x1 : Int32) (x2 : Int32) (m : Mem) : Option (Int32 × Mem) :=
  r_X12_digs_j27 x1 x2 1 m
set_option maxHeartbeats 4000000 in
set_option maxRecDepth 20000 in
theorem ok_X12_digs_j22 (x1 : Int32) (x2 : Int32) (m : Mem) {z : Int32} {m' : Mem} (h : r_X12_digs_j22 x1 x2 m = some (z, m')) : Xj RX12 cX12_digs 5 (some .int) 7 155 0 0 0 0 22 [(0, vR 12 0), (1, vI x1), (2, vI x2)] [vR 12 0] m (oI z) m' := by
  unfold r_X12_digs_j22 at h
  refine xj_iconst (z := 1) dX12_digs_22 (by decide) ?_
  refine xj_goto (tgt := 27) dX12_digs_23 (by decide) ?_
  exact ok_X12_digs_j27 x1 x2 1 m h 
noncomputable def r_X12_digs (x1 : Int32) (x2 : Int32) (m : Mem) : Option (Int32 × Mem) :=
  bd1 (r_X12_isPlace x1 (wr m 12 0 0 0)) fun z2 => (if z2 = true then (bd1 (r_X12_isPlace x2 (wr m 12 0 0 0)) fun z5 => (if z5 = true then (r_X12_digs_j27 x1 x2 0 (wr m 12 0 0 0)) else (r_X12_digs_j22 x1 x2 (wr m 12 0 0 0)))) else (r_X12_digs_j22 x1 x2 (wr m 12 0 0 0)))
set_option maxHeartbeats 4000000 in
set_option maxRecDepth 20000 in
theorem ok_X12_digs (x1 : Int32) (x2 : Int32) (m : Mem) {z : Int32} {m' : Mem} (h : r_X12_digs x1 x2 m = some (z, m')) : Mt yX12_digs cX12_digs 5 (some .int) 7 155 0 0 [vR 12 0, vI x1, vI x2] m (oI z) m' := by
  refine Mt.of (by decide) (Nat.le_of_ble_eq_true rfl) (by decide +kernel) (hhF_ne (by decide)) ?_
  show Xj RX12 cX12_digs 5 (some .int) 7 155 0 0 0 0 0 [(0, vR 12 0), (1, vI x1), (2, vI x2)] [] m (oI z) m'
  unfold r_X12_digs at h
  refine xj_aload_n 0 dX12_digs_0 rfl ?_
  refine xj_iconst (z := 0) dX12_digs_1 (by decide) ?_
  refine xj_putI dX12_digs_2 fw_X12_109 rfl ?_
  refine xj_aload_n 0 dX12_digs_5 rfl ?_
  refine xj_aload_n 0 dX12_digs_6 rfl ?_
  refine xj_iload_n 1 dX12_digs_7 rfl ?_
  obtain ⟨z2, e1, h⟩ := bd1_some h
  refine xc_Vb0 (st := [vR 12 0]) (ok_X12_isPlace x1 (wr m 12 0 0 0) e1) dX12_digs_8 cv_X12_352 rfl rfl (Nat.le_of_ble_eq_true rfl) (by decide) (by decide) (by decide) (by decide) ?_
  refine xj_if_eq (tgt := 22) dX12_digs_11 (by decide) (fun c3 => ?_) (fun c3 => ?_)
  · rw [if_neg (b2i_f c3)] at h
    exact ok_X12_digs_j22 x1 x2 (wr m 12 0 0 0) h 
  · rw [if_pos (b2i_t c3)] at h
    refine xj_aload_n 0 dX12_digs_14 rfl ?_
    refine xj_iload_n 2 dX12_digs_15 rfl ?_
    obtain ⟨z5, e4, h⟩ := bd1_some h
    refine xc_Vb0 (st := [vR 12 0]) (ok_X12_isPlace x2 (wr m 12 0 0 0) e4) dX12_digs_16 cv_X12_352 rfl rfl (Nat.le_of_ble_eq_true rfl) (by decide) (by decide) (by decide) (by decide) ?_
    refine xj_if_ne (tgt := 26) dX12_digs_19 (by decide) (fun c6 => ?_) (fun c6 => ?_)
    · rw [if_pos (b2i_t c6)] at h
      refine xj_iconst (z := 0) dX12_digs_26 (by decide) ?_
      exact ok_X12_digs_j27 x1 x2 0 (wr m 12 0 0 0) h 
    · rw [if_neg (b2i_f c6)] at h
      exact ok_X12_digs_j22 x1 x2 (wr m 12 0 0 0) h 
noncomputable def r_X12_ditch_j50 (x1 : Int32) (x2 : Int32) (s0 : Int32) (m : Mem) : Option (Int32 × Mem) :=
  bd2 (r_X12_bad s0 2 1 m) fun z9 m8 => (if z9 = true then (some (0, m8)) else (if 2 ≤ x2 then (if x2 = 2 then (if inb (78 + x1) 111 = true then (some ((m8 60 0 ((78 + x1).toNatClampNeg)), m8)) else none) else (if inb (94 + x1) 111 = true then (some ((m8 60 0 ((94 + x1).toNatClampNeg)), m8)) else none)) else (if inb x1 16 = true then (if inb x2 2 = true then (some ((m8 63 x1.toNatClampNeg x2.toNatClampNeg), m8)) else none) else none)))
set_option maxHeartbeats 4000000 in
set_option maxRecDepth 20000 in
theorem ok_X12_ditch_j50 (x1 : Int32) (x2 : Int32) (s0 : Int32) (m : Mem) {z : Int32} {m' : Mem} (h : r_X12_ditch_j50 x1 x2 s0 m = some (z, m')) : Xj RX12 cX12_ditch 3 (some .int) 2 23 0 0 0 0 50 [(0, vR 12 0), (1, vI x1), (2, vI x2)] [vI s0, vR 12 0] m (oI z) m' := by
  unfold r_X12_ditch_j50 at h
  refine xj_iconst (z := 2) dX12_ditch_50 (by decide) ?_
  refine xj_iconst (z := 1) dX12_ditch_51 (by decide) ?_
  obtain ⟨z9, m8, e7, h⟩ := bd2_some h
  refine xc_Vb0 (st := []) (ok_X12_bad s0 2 1 m e7) dX12_ditch_52 cv_X12_191 rfl rfl (Nat.le_of_ble_eq_true rfl) (by decide) (by decide) (by decide) (by decide) ?_
  refine xj_if_eq (tgt := 60) dX12_ditch_55 (by decide) (fun c10 => ?_) (fun c10 => ?_)
  · rw [if_neg (b2i_f c10)] at h
    refine xj_iload_n 2 dX12_ditch_60 rfl ?_
    refine xj_iconst (z := 2) dX12_ditch_61 (by decide) ?_
    refine xj_icmp_ge (tgt := 76) dX12_ditch_62 (by decide) (fun c11 => ?_) (fun c11 => ?_)
    · rw [if_pos c11] at h
      refine xj_iload_n 2 dX12_ditch_76 rfl ?_
      refine xj_iconst (z := 2) dX12_ditch_77 (by decide) ?_
      refine xj_icmp_ne (tgt := 93) dX12_ditch_78 (by decide) (fun c12 => ?_) (fun c12 => ?_)
      · rw [if_neg c12] at h
        refine xj_aload_n 0 dX12_ditch_93 rfl ?_
        refine xg_getR (k' := 60) (i' := 0) dX12_ditch_94 fl_X12_73 rfl ?_
        refine xj_bipush (z := 94) dX12_ditch_97 (by decide) ?_
        refine xj_iload_n 1 dX12_ditch_99 rfl ?_
        refine xj_iadd dX12_ditch_100 ?_
        by_cases c14 : inb (94 + x1) 111 = true
        case neg => rw [if_neg c14] at h; cases h
        rw [if_pos c14] at h
        refine xg_iald (z := (m8 60 0 ((94 + x1).toNatClampNeg))) (n := (94 + x1).toNatClampNeg) dX12_ditch_101 rfl (by decide) (inb_in c14) rfl rfl ?_
        cases h
        exact xj_ireturn dX12_ditch_102 rfl (by decide) (by decide)
      · rw [if_pos c12] at h
        refine xj_aload_n 0 dX12_ditch_81 rfl ?_
        refine xg_getR (k' := 60) (i' := 0) dX12_ditch_82 fl_X12_73 rfl ?_
        refine xj_bipush (z := 78) dX12_ditch_85 (by decide) ?_
        refine xj_iload_n 1 dX12_ditch_87 rfl ?_
        refine xj_iadd dX12_ditch_88 ?_
        by_cases c13 : inb (78 + x1) 111 = true
        case neg => rw [if_neg c13] at h; cases h
        rw [if_pos c13] at h
        refine xg_iald (z := (m8 60 0 ((78 + x1).toNatClampNeg))) (n := (78 + x1).toNatClampNeg) dX12_ditch_89 rfl (by decide) (inb_in c13) rfl rfl ?_
        refine xj_goto (tgt := 102) dX12_ditch_90 (by decide) ?_
        cases h
        exact xj_ireturn dX12_ditch_102 rfl (by decide) (by decide)
    · rw [if_neg c11] at h
      refine xj_aload_n 0 dX12_ditch_65 rfl ?_
      refine xg_getR (k' := 64) (i' := 0) dX12_ditch_66 fl_X12_37 rfl ?_
      refine xj_iload_n 1 dX12_ditch_69 rfl ?_
      by_cases c15 : inb x1 16 = true
      case neg => rw [if_neg c15] at h; cases h
      rw [if_pos c15] at h
      refine xg_aald (k' := 63) (i' := x1.toNatClampNeg) (n := x1.toNatClampNeg) dX12_ditch_70 rfl (by decide) (inb_in c15) rfl rfl ?_
      refine xj_iload_n 2 dX12_ditch_71 rfl ?_
      by_cases c16 : inb x2 2 = true
      case neg => rw [if_neg c16] at h; cases h
      rw [if_pos c16] at h
      refine xg_iald (z := (m8 63 x1.toNatClampNeg x2.toNatClampNeg)) (n := x2.toNatClampNeg) dX12_ditch_72 rfl (by decide) (inb_in c16) rfl rfl ?_
      refine xj_goto (tgt := 102) dX12_ditch_73 (by decide) ?_
      cases h
      exact xj_ireturn dX12_ditch_102 rfl (by decide) (by decide)
  · rw [if_pos (b2i_t c10)] at h
    refine xj_iconst (z := 0) dX12_ditch_58 (by decide) ?_
    cases h
    exact xj_ireturn dX12_ditch_59 rfl (by decide) (by decide)
noncomputable def r_X12_ditch_j27 (x1 : Int32) (x2 : Int32) (s0 : Int32) (m : Mem) : Option (Int32 × Mem) :=
  bd2 (r_X12_bad s0 1 0 m) fun z4 m3 => (if z4 = true then (some (0, m3)) else (if (r_X12_in x2 0 3) = true then (r_X12_ditch_j50 x1 x2 0 m3) else (r_X12_ditch_j50 x1 x2 1 m3)))
set_option maxHeartbeats 4000000 in
set_option maxRecDepth 20000 in
theorem ok_X12_ditch_j27 (x1 : Int32) (x2 : Int32) (s0 : Int32) (m : Mem) {z : Int32} {m' : Mem} (h : r_X12_ditch_j27 x1 x2 s0 m = some (z, m')) : Xj RX12 cX12_ditch 3 (some .int) 2 23 0 0 0 0 27 [(0, vR 12 0), (1, vI x1), (2, vI x2)] [vI s0, vR 12 0] m (oI z) m' := by
  unfold r_X12_ditch_j27 at h
  refine xj_iconst (z := 1) dX12_ditch_27 (by decide) ?_
  refine xj_iconst (z := 0) dX12_ditch_28 (by decide) ?_
  obtain ⟨z4, m3, e2, h⟩ := bd2_some h
  refine xc_Vb0 (st := []) (ok_X12_bad s0 1 0 m e2) dX12_ditch_29 cv_X12_191 rfl rfl (Nat.le_of_ble_eq_true rfl) (by decide) (by decide) (by decide) (by decide) ?_
  refine xj_if_ne (tgt := 58) dX12_ditch_32 (by decide) (fun c5 => ?_) (fun c5 => ?_)
  · rw [if_pos (b2i_t c5)] at h
    refine xj_iconst (z := 0) dX12_ditch_58 (by decide) ?_
    cases h
    exact xj_ireturn dX12_ditch_59 rfl (by decide) (by decide)
  · rw [if_neg (b2i_f c5)] at h
    refine xj_aload_n 0 dX12_ditch_35 rfl ?_
    refine xj_iload_n 2 dX12_ditch_36 rfl ?_
    refine xj_iconst (z := 0) dX12_ditch_37 (by decide) ?_
    refine xj_iconst (z := 3) dX12_ditch_38 (by decide) ?_
    refine xc_Sb0 (st := [vR 12 0]) (ok_X12_in x2 0 3 m3 rfl) dX12_ditch_39 cs_X12_143 rfl rfl (Nat.le_of_ble_eq_true rfl) (by decide) (by decide) (by decide) (by decide) ?_
    refine xj_if_ne (tgt := 49) dX12_ditch_42 (by decide) (fun c6 => ?_) (fun c6 => ?_)
    · rw [if_pos (b2i_t c6)] at h
      refine xj_iconst (z := 0) dX12_ditch_49 (by decide) ?_
      exact ok_X12_ditch_j50 x1 x2 0 m3 h 
    · rw [if_neg (b2i_f c6)] at h
      refine xj_iconst (z := 1) dX12_ditch_45 (by decide) ?_
      refine xj_goto (tgt := 50) dX12_ditch_46 (by decide) ?_
      exact ok_X12_ditch_j50 x1 x2 1 m3 h 
noncomputable def r_X12_ditch (x1 : Int32) (x2 : Int32) (m : Mem) : Option (Int32 × Mem) :=
  if (r_X12_in x1 0 ((m 52 0 1) - 1)) = true then (r_X12_ditch_j27 x1 x2 0 (wr m 12 0 0 0)) else (r_X12_ditch_j27 x1 x2 1 (wr m 12 0 0 0))
set_option maxHeartbeats 4000000 in
set_option maxRecDepth 20000 in
theorem ok_X12_ditch (x1 : Int32) (x2 : Int32) (m : Mem) {z : Int32} {m' : Mem} (h : r_X12_ditch x1 x2 m = some (z, m')) : Mt yX12_ditch cX12_ditch 3 (some .int) 2 23 0 0 [vR 12 0, vI x1, vI x2] m (oI z) m' := by
  refine Mt.of (by decide) (Nat.le_of_ble_eq_true rfl) (by decide +kernel) (hhF_ne (by decide)) ?_
  show Xj RX12 cX12_ditch 3 (some .int) 2 23 0 0 0 0 0 [(0, vR 12 0), (1, vI x1), (2, vI x2)] [] m (oI z) m'
  unfold r_X12_ditch at h
  refine xj_aload_n 0 dX12_ditch_0 rfl ?_
  refine xj_iconst (z := 0) dX12_ditch_1 (by decide) ?_
  refine xj_putI dX12_ditch_2 fw_X12_109 rfl ?_
  refine xj_aload_n 0 dX12_ditch_5 rfl ?_
  refine xj_iload_n 1 dX12_ditch_6 rfl ?_
  refine xj_iconst (z := 0) dX12_ditch_7 (by decide) ?_
  refine xj_aload_n 0 dX12_ditch_8 rfl ?_
  refine xg_getR (k' := 52) (i' := 0) dX12_ditch_9 fl_X12_23 rfl ?_
  refine xj_iconst (z := 1) dX12_ditch_12 (by decide) ?_
  refine xg_iald (z := (m 52 0 1)) (n := 1) dX12_ditch_13 rfl (by decide) (inb_in (by decide)) (by decide) rfl ?_
  refine xj_iconst (z := 1) dX12_ditch_14 (by decide) ?_
  refine xj_isub dX12_ditch_15 ?_
  refine xc_Sb0 (st := [vR 12 0]) (ok_X12_in x1 0 ((m 52 0 1) - 1) (wr m 12 0 0 0) rfl) dX12_ditch_16 cs_X12_143 rfl rfl (Nat.le_of_ble_eq_true rfl) (by decide) (by decide) (by decide) (by decide) ?_
  refine xj_if_ne (tgt := 26) dX12_ditch_19 (by decide) (fun c1 => ?_) (fun c1 => ?_)
  · rw [if_pos (b2i_t c1)] at h
    refine xj_iconst (z := 0) dX12_ditch_26 (by decide) ?_
    exact ok_X12_ditch_j27 x1 x2 0 (wr m 12 0 0 0) h 
  · rw [if_neg (b2i_f c1)] at h
    refine xj_iconst (z := 1) dX12_ditch_22 (by decide) ?_
    refine xj_goto (tgt := 27) dX12_ditch_23 (by decide) ?_
    exact ok_X12_ditch_j27 x1 x2 1 (wr m 12 0 0 0) h 
noncomputable def r_X12_ditchesOf_j32_c4 (x1 : Int32) (x3 : Int32) (s0 : Int32) (s1 : Int32) (m : Mem) : Option ((Int32 × Int32) ⊕ (Int32)) :=
  some (Sum.inl ((s1 ||| s0), x3 + 1))
set_option maxHeartbeats 4000000 in
set_option maxRecDepth 20000 in
theorem ok_X12_ditchesOf_j32_c4 (x1 : Int32) (x3 : Int32) (s0 : Int32) (s1 : Int32) (m : Mem) {r : (Int32 × Int32) ⊕ (Int32)} (h : r_X12_ditchesOf_j32_c4 x1 x3 s0 s1 m = some r) {o : Ou} {M' : Mem} (kb : ∀ (x2' : Int32) (x3' : Int32), r = Sum.inl (x2', x3') → Xj RX12 cX12_ditchesOf 4 (some .int) 2 23 0 0 0 0 4 [(0, vR 12 0), (1, vI x1), (2, vI x2'), (3, vI x3')] [] m o M') (ke : ∀ (x2' : Int32), r = Sum.inr x2' → Xj RX12 cX12_ditchesOf 4 (some .int) 2 23 0 0 0 0 40 [(2, vI x2')] [] m o M') : Xj RX12 cX12_ditchesOf 4 (some .int) 2 23 0 0 0 0 32 [(0, vR 12 0), (1, vI x1), (3, vI x3)] [vI s0, vI s1] m o M' := by
  unfold r_X12_ditchesOf_j32_c4 at h
  refine xj_ior dX12_ditchesOf_32 ?_
  refine xj_istore_n (ls' := [(2, vI (s1 ||| s0)), (0, vR 12 0), (1, vI x1), (3, vI x3)]) dX12_ditchesOf_33 rfl (by decide) rfl ?_
  refine xj_iinc (z := x3 + 1) (ls' := [(3, vI (x3 + 1)), (2, vI (s1 ||| s0)), (0, vR 12 0), (1, vI x1)]) 3 dX12_ditchesOf_34 rfl rfl (by decide) rfl ?_
  refine xj_goto (tgt := 4) dX12_ditchesOf_37 (by decide) ?_
  cases h
  refine xj_pick (ls' := [(0, vR 12 0), (1, vI x1), (2, vI (s1 ||| s0)), (3, vI (x3 + 1))]) [2, 3, 1, 0] rfl ?_
  exact kb (s1 ||| s0) (x3 + 1) rfl
noncomputable def r_X12_ditchesOf_b4 (x1 : Int32) (m : Mem) (x2 : Int32) (x3 : Int32) : Option ((Int32 × Int32) ⊕ (Int32)) :=
  if (m 52 0 0) ≤ x3 then (some (Sum.inr x2)) else (bd1 (r_X12_between x1 x3 m) fun z3 => (if z3 = (-1) then (r_X12_ditchesOf_j32_c4 x1 x3 0 x2 m) else (r_X12_ditchesOf_j32_c4 x1 x3 (1 <<< (x3 &&& 31)) x2 m)))
set_option maxHeartbeats 4000000 in
set_option maxRecDepth 20000 in
theorem ok_X12_ditchesOf_b4 (x1 : Int32) (m : Mem) (x2 : Int32) (x3 : Int32) {r : (Int32 × Int32) ⊕ (Int32)} (h : r_X12_ditchesOf_b4 x1 m x2 x3 = some r) {o : Ou} {M' : Mem} (kb : ∀ (x2' : Int32) (x3' : Int32), r = Sum.inl (x2', x3') → Xj RX12 cX12_ditchesOf 4 (some .int) 2 23 0 0 0 0 4 [(0, vR 12 0), (1, vI x1), (2, vI x2'), (3, vI x3')] [] m o M') (ke : ∀ (x2' : Int32), r = Sum.inr x2' → Xj RX12 cX12_ditchesOf 4 (some .int) 2 23 0 0 0 0 40 [(2, vI x2')] [] m o M') : Xj RX12 cX12_ditchesOf 4 (some .int) 2 23 0 0 0 0 4 [(0, vR 12 0), (1, vI x1), (2, vI x2), (3, vI x3)] [] m o M' := by
  unfold r_X12_ditchesOf_b4 at h
  refine xj_iload_n 3 dX12_ditchesOf_4 rfl ?_
  refine xj_aload_n 0 dX12_ditchesOf_5 rfl ?_
  refine xg_getR (k' := 52) (i' := 0) dX12_ditchesOf_6 fl_X12_23 rfl ?_
  refine xj_iconst (z := 0) dX12_ditchesOf_9 (by decide) ?_
  refine xg_iald (z := (m 52 0 0)) (n := 0) dX12_ditchesOf_10 rfl (by decide) (inb_in (by decide)) (by decide) rfl ?_
  refine xj_icmp_ge (tgt := 40) dX12_ditchesOf_11 (by decide) (fun c1 => ?_) (fun c1 => ?_)
  · rw [if_pos c1] at h
    cases h
    refine xj_pick (ls' := [(2, vI x2)]) [2] rfl ?_
    exact ke x2 rfl
  · rw [if_neg c1] at h
    refine xj_iload_n 2 dX12_ditchesOf_14 rfl ?_
    refine xj_aload_n 0 dX12_ditchesOf_15 rfl ?_
    refine xj_iload_n 1 dX12_ditchesOf_16 rfl ?_
    refine xj_iload_n 3 dX12_ditchesOf_17 rfl ?_
    obtain ⟨z3, e2, h⟩ := bd1_some h
    refine xc_Vi0 (st := [vI x2]) (ok_X12_between x1 x3 m e2) dX12_ditchesOf_18 cv_X12_267 rfl rfl (Nat.le_of_ble_eq_true rfl) (by decide) (by decide) (by decide) (by decide) ?_
    refine xj_iconst (z := (-1)) dX12_ditchesOf_21 (by decide) ?_
    refine xj_icmp_ne (tgt := 29) dX12_ditchesOf_22 (by decide) (fun c4 => ?_) (fun c4 => ?_)
    · rw [if_neg c4] at h
      refine xj_iconst (z := 1) dX12_ditchesOf_29 (by decide) ?_
      refine xj_iload_n 3 dX12_ditchesOf_30 rfl ?_
      refine xj_ishl dX12_ditchesOf_31 ?_
      refine xj_pick (ls' := [(0, vR 12 0), (1, vI x1), (3, vI x3)]) [0, 1, 3] rfl ?_
      exact ok_X12_ditchesOf_j32_c4 x1 x3 (1 <<< (x3 &&& 31)) x2 m h kb ke
    · rw [if_pos c4] at h
      refine xj_iconst (z := 0) dX12_ditchesOf_25 (by decide) ?_
      refine xj_goto (tgt := 32) dX12_ditchesOf_26 (by decide) ?_
      refine xj_pick (ls' := [(0, vR 12 0), (1, vI x1), (3, vI x3)]) [0, 1, 3] rfl ?_
      exact ok_X12_ditchesOf_j32_c4 x1 x3 0 x2 m h kb ke
noncomputable def r_X12_ditchesOf_e40_h4 (x2 : Int32) (m : Mem) : Option Int32 :=
  some x2
set_option maxHeartbeats 4000000 in
set_option maxRecDepth 20000 in
theorem ok_X12_ditchesOf_e40_h4 (x2 : Int32) (m : Mem) {z : Int32} (h : r_X12_ditchesOf_e40_h4 x2 m = some z) : Xj RX12 cX12_ditchesOf 4 (some .int) 2 23 0 0 0 0 40 [(2, vI x2)] [] m (oI z) m := by
  unfold r_X12_ditchesOf_e40_h4 at h
  refine xj_iload_n 0 dX12_ditchesOf_40 rfl ?_
  cases h
  exact xj_ireturn dX12_ditchesOf_41 rfl (by decide) (by decide)
noncomputable def r_X12_ditchesOf_l4 (x1 : Int32) (x2 : Int32) (x3 : Int32) (m : Mem) : Option Int32 :=
  bd1 (loopO (fun s => r_X12_ditchesOf_b4 x1 m s.1 s.2) (x2, x3)) (fun e => r_X12_ditchesOf_e40_h4 e m)
set_option maxHeartbeats 4000000 in
set_option maxRecDepth 20000 in
theorem ok_X12_ditchesOf_l4 (x1 : Int32) (x2 : Int32) (x3 : Int32) (m : Mem) {z : Int32} (h : r_X12_ditchesOf_l4 x1 x2 x3 m = some z) : Xj RX12 cX12_ditchesOf 4 (some .int) 2 23 0 0 0 0 4 [(0, vR 12 0), (1, vI x1), (2, vI x2), (3, vI x3)] [] m (oI z) m := by
  unfold r_X12_ditchesOf_l4 at h
  obtain ⟨e, e1, h⟩ := bd1_some h
  refine loopO_ok (P := fun s : (Int32 × Int32) => Xj RX12 cX12_ditchesOf 4 (some .int) 2 23 0 0 0 0 4 [(0, vR 12 0), (1, vI x1), (2, vI s.1), (3, vI s.2)] [] m (oI z) m) (Q := fun e : (Int32) => Xj RX12 cX12_ditchesOf 4 (some .int) 2 23 0 0 0 0 40 [(2, vI e)] [] m (oI z) m) ?_ _ _ e1 ?_
  · intro s r9 h9 hi hx
    exact ok_X12_ditchesOf_b4 x1 m s.1 s.2 h9 (by rintro _ _ rfl; exact hi _ rfl) (by rintro _ rfl; exact hx _ rfl)
  · exact ok_X12_ditchesOf_e40_h4 e m h 
noncomputable def r_X12_ditchesOf (x1 : Int32) (m : Mem) : Option Int32 :=
  r_X12_ditchesOf_l4 x1 0 0 m
set_option maxHeartbeats 4000000 in
set_option maxRecDepth 20000 in
theorem ok_X12_ditchesOf (x1 : Int32) (m : Mem) {z : Int32} (h : r_X12_ditchesOf x1 m = some z) : Mt yX12_ditchesOf cX12_ditchesOf 4 (some .int) 2 23 0 0 [vR 12 0, vI x1] m (oI z) m := by
  refine Mt.of (by decide) (Nat.le_of_ble_eq_true rfl) (by decide +kernel) (hhF_ne (by decide)) ?_
  show Xj RX12 cX12_ditchesOf 4 (some .int) 2 23 0 0 0 0 0 [(0, vR 12 0), (1, vI x1)] [] m (oI z) m
  unfold r_X12_ditchesOf at h
  refine xj_iconst (z := 0) dX12_ditchesOf_0 (by decide) ?_
  refine xj_istore_n (ls' := [(2, vI 0), (0, vR 12 0), (1, vI x1)]) dX12_ditchesOf_1 rfl (by decide) rfl ?_
  refine xj_iconst (z := 0) dX12_ditchesOf_2 (by decide) ?_
  refine xj_istore_n (ls' := [(3, vI 0), (2, vI 0), (0, vR 12 0), (1, vI x1)]) dX12_ditchesOf_3 rfl (by decide) rfl ?_
  refine xj_pick (ls' := [(0, vR 12 0), (1, vI x1), (2, vI 0), (3, vI 0)]) [2, 3, 1, 0] rfl ?_
  exact ok_X12_ditchesOf_l4 x1 0 0 m h 
noncomputable def r_X12_fault (m : Mem) : Option (Int32 × Mem) :=
  some ((m 12 0 3), (wr m 12 0 0 0))
set_option maxHeartbeats 4000000 in
set_option maxRecDepth 20000 in
theorem ok_X12_fault (m : Mem) {z : Int32} {m' : Mem} (h : r_X12_fault m = some (z, m')) : Mt yX12_fault cX12_fault 1 (some .int) 1 0 0 0 [vR 12 0] m (oI z) m' := by
  refine Mt.of (by decide) (Nat.le_of_ble_eq_true rfl) (by decide +kernel) (hhF_ne (by decide)) ?_
  show Xj RX12 cX12_fault 1 (some .int) 1 0 0 0 0 0 0 [(0, vR 12 0)] [] m (oI z) m'
  unfold r_X12_fault at h
  refine xj_aload_n 0 dX12_fault_0 rfl ?_
  refine xj_iconst (z := 0) dX12_fault_1 (by decide) ?_
  refine xj_putI dX12_fault_2 fw_X12_109 rfl ?_
  refine xj_aload_n 0 dX12_fault_5 rfl ?_
  refine xg_getI (x := (m 12 0 3)) dX12_fault_6 fl_X12_9 rfl rfl ?_
  cases h
  exact xj_ireturn dX12_fault_9 rfl (by decide) (by decide)
noncomputable def r_X12_feed_j76_c23 (x1 : Int32) (x2 : Int32) (x3 : Int32) (x4 : Int32) (x5 : Int32) (x6 : Int32) (s0 : Int32) (m : Mem) : Option ((Int32 × Mem) ⊕ (Mem)) :=
  if inb (m 12 0 1) 600 = true then (some (Sum.inl (x6 + 1, (wr (wr m 49 0 ((m 12 0 1).toNatClampNeg) ((s0 >>> ((24 - (8 * (remI x6 4))) &&& 31)) &&& 255)) 12 0 1 ((m 12 0 1) + 1))))) else none
set_option maxHeartbeats 4000000 in
set_option maxRecDepth 20000 in
theorem ok_X12_feed_j76_c23 (x1 : Int32) (x2 : Int32) (x3 : Int32) (x4 : Int32) (x5 : Int32) (x6 : Int32) (s0 : Int32) (m : Mem) {r : (Int32 × Mem) ⊕ (Mem)} (h : r_X12_feed_j76_c23 x1 x2 x3 x4 x5 x6 s0 m = some r) {o : Ou} {M' : Mem} (kb : ∀ (x6' : Int32) (m'' : Mem), r = Sum.inl (x6', m'') → Xj RX12 cX12_feed 8 (some .int) 1 0 0 0 0 0 23 [(0, vR 12 0), (1, vI x1), (2, vI x2), (3, vI x3), (4, vI x4), (5, vI x5), (6, vI x6')] [] m'' o M') (ke : ∀ (m'' : Mem), r = Sum.inr m'' → Xj RX12 cX12_feed 8 (some .int) 1 0 0 0 0 0 120 [(0, vR 12 0)] [] m'' o M') : Xj RX12 cX12_feed 8 (some .int) 1 0 0 0 0 0 76 [(0, vR 12 0), (1, vI x1), (2, vI x2), (3, vI x3), (4, vI x4), (5, vI x5), (6, vI x6)] [vI s0] m o M' := by
  unfold r_X12_feed_j76_c23 at h
  refine xj_istore (ls' := [(7, vI s0), (0, vR 12 0), (1, vI x1), (2, vI x2), (3, vI x3), (4, vI x4), (5, vI x5), (6, vI x6)]) dX12_feed_76 (by decide) rfl ?_
  refine xj_aload_n 1 dX12_feed_78 rfl ?_
  refine xg_getR (k' := 49) (i' := 0) dX12_feed_79 fl_X12_13 rfl ?_
  refine xj_aload_n 1 dX12_feed_82 rfl ?_
  refine xg_getI (x := (m 12 0 1)) dX12_feed_83 fl_X12_112 rfl rfl ?_
  refine xj_iload 0 dX12_feed_86 rfl ?_
  refine xj_bipush (z := 24) dX12_feed_88 (by decide) ?_
  refine xj_bipush (z := 8) dX12_feed_90 (by decide) ?_
  refine xj_iload 7 dX12_feed_92 rfl ?_
  refine xj_iconst (z := 4) dX12_feed_94 (by decide) ?_
  refine xg_irem dX12_feed_95 (by decide) ?_
  refine xj_imul dX12_feed_96 ?_
  refine xj_isub dX12_feed_97 ?_
  refine xj_ishr dX12_feed_98 ?_
  refine xj_sipush (z := 255) dX12_feed_99 (by decide) ?_
  refine xj_iand dX12_feed_102 ?_
  by_cases c7 : inb (m 12 0 1) 600 = true
  case neg => rw [if_neg c7] at h; cases h
  rw [if_pos c7] at h
  refine xg_iast (n := (m 12 0 1).toNatClampNeg) dX12_feed_103 rfl (by decide) (inb_in c7) rfl ?_
  refine xj_aload_n 1 dX12_feed_104 rfl ?_
  refine xj_dup dX12_feed_105 rfl ?_
  refine xg_getI (x := (m 12 0 1)) dX12_feed_106 fl_X12_112 rfl rfl ?_
  refine xj_iconst (z := 1) dX12_feed_109 (by decide) ?_
  refine xj_iadd dX12_feed_110 ?_
  refine xj_putI dX12_feed_111 fw_X12_112 rfl ?_
  refine xj_iinc (z := x6 + 1) (ls' := [(6, vI (x6 + 1)), (7, vI s0), (0, vR 12 0), (1, vI x1), (2, vI x2), (3, vI x3), (4, vI x4), (5, vI x5)]) 7 dX12_feed_114 rfl rfl (by decide) rfl ?_
  refine xj_goto (tgt := 23) dX12_feed_117 (by decide) ?_
  cases h
  refine xj_pick (ls' := [(0, vR 12 0), (1, vI x1), (2, vI x2), (3, vI x3), (4, vI x4), (5, vI x5), (6, vI (x6 + 1))]) [2, 3, 4, 5, 6, 7, 0] rfl ?_
  exact kb (x6 + 1) (wr (wr m 49 0 ((m 12 0 1).toNatClampNeg) ((s0 >>> ((24 - (8 * (remI x6 4))) &&& 31)) &&& 255)) 12 0 1 ((m 12 0 1) + 1)) rfl
noncomputable def r_X12_feed_b23 (x1 : Int32) (x2 : Int32) (x3 : Int32) (x4 : Int32) (x5 : Int32) (x6 : Int32) (m : Mem) : Option ((Int32 × Mem) ⊕ (Mem)) :=
  if 20 ≤ x6 then (some (Sum.inr m)) else (if 4 ≤ x6 then (if 8 ≤ x6 then (if 12 ≤ x6 then (if 16 ≤ x6 then (r_X12_feed_j76_c23 x1 x2 x3 x4 x5 x6 x5 m) else (r_X12_feed_j76_c23 x1 x2 x3 x4 x5 x6 x4 m)) else (r_X12_feed_j76_c23 x1 x2 x3 x4 x5 x6 x3 m)) else (r_X12_feed_j76_c23 x1 x2 x3 x4 x5 x6 x2 m)) else (r_X12_feed_j76_c23 x1 x2 x3 x4 x5 x6 x1 m))
set_option maxHeartbeats 4000000 in
set_option maxRecDepth 20000 in
theorem ok_X12_feed_b23 (x1 : Int32) (x2 : Int32) (x3 : Int32) (x4 : Int32) (x5 : Int32) (x6 : Int32) (m : Mem) {r : (Int32 × Mem) ⊕ (Mem)} (h : r_X12_feed_b23 x1 x2 x3 x4 x5 x6 m = some r) {o : Ou} {M' : Mem} (kb : ∀ (x6' : Int32) (m'' : Mem), r = Sum.inl (x6', m'') → Xj RX12 cX12_feed 8 (some .int) 1 0 0 0 0 0 23 [(0, vR 12 0), (1, vI x1), (2, vI x2), (3, vI x3), (4, vI x4), (5, vI x5), (6, vI x6')] [] m'' o M') (ke : ∀ (m'' : Mem), r = Sum.inr m'' → Xj RX12 cX12_feed 8 (some .int) 1 0 0 0 0 0 120 [(0, vR 12 0)] [] m'' o M') : Xj RX12 cX12_feed 8 (some .int) 1 0 0 0 0 0 23 [(0, vR 12 0), (1, vI x1), (2, vI x2), (3, vI x3), (4, vI x4), (5, vI x5), (6, vI x6)] [] m o M' := by
  unfold r_X12_feed_b23 at h
  refine xj_iload 6 dX12_feed_23 rfl ?_
  refine xj_bipush (z := 20) dX12_feed_25 (by decide) ?_
  refine xj_icmp_ge (tgt := 120) dX12_feed_27 (by decide) (fun c2 => ?_) (fun c2 => ?_)
  · rw [if_pos c2] at h
    cases h
    refine xj_pick (ls' := [(0, vR 12 0)]) [0] rfl ?_
    exact ke m rfl
  · rw [if_neg c2] at h
    refine xj_iload 6 dX12_feed_30 rfl ?_
    refine xj_iconst (z := 4) dX12_feed_32 (by decide) ?_
    refine xj_icmp_ge (tgt := 40) dX12_feed_33 (by decide) (fun c3 => ?_) (fun c3 => ?_)
    · rw [if_pos c3] at h
      refine xj_iload 6 dX12_feed_40 rfl ?_
      refine xj_bipush (z := 8) dX12_feed_42 (by decide) ?_
      refine xj_icmp_ge (tgt := 51) dX12_feed_44 (by decide) (fun c4 => ?_) (fun c4 => ?_)
      · rw [if_pos c4] at h
        refine xj_iload 6 dX12_feed_51 rfl ?_
        refine xj_bipush (z := 12) dX12_feed_53 (by decide) ?_
        refine xj_icmp_ge (tgt := 62) dX12_feed_55 (by decide) (fun c5 => ?_) (fun c5 => ?_)
        · rw [if_pos c5] at h
          refine xj_iload 6 dX12_feed_62 rfl ?_
          refine xj_bipush (z := 16) dX12_feed_64 (by decide) ?_
          refine xj_icmp_ge (tgt := 74) dX12_feed_66 (by decide) (fun c6 => ?_) (fun c6 => ?_)
          · rw [if_pos c6] at h
            refine xj_iload 5 dX12_feed_74 rfl ?_
            exact ok_X12_feed_j76_c23 x1 x2 x3 x4 x5 x6 x5 m h kb ke
          · rw [if_neg c6] at h
            refine xj_iload 4 dX12_feed_69 rfl ?_
            refine xj_goto (tgt := 76) dX12_feed_71 (by decide) ?_
            exact ok_X12_feed_j76_c23 x1 x2 x3 x4 x5 x6 x4 m h kb ke
        · rw [if_neg c5] at h
          refine xj_iload_n 3 dX12_feed_58 rfl ?_
          refine xj_goto (tgt := 76) dX12_feed_59 (by decide) ?_
          exact ok_X12_feed_j76_c23 x1 x2 x3 x4 x5 x6 x3 m h kb ke
      · rw [if_neg c4] at h
        refine xj_iload_n 2 dX12_feed_47 rfl ?_
        refine xj_goto (tgt := 76) dX12_feed_48 (by decide) ?_
        exact ok_X12_feed_j76_c23 x1 x2 x3 x4 x5 x6 x2 m h kb ke
    · rw [if_neg c3] at h
      refine xj_iload_n 1 dX12_feed_36 rfl ?_
      refine xj_goto (tgt := 76) dX12_feed_37 (by decide) ?_
      exact ok_X12_feed_j76_c23 x1 x2 x3 x4 x5 x6 x1 m h kb ke
noncomputable def r_X12_feed_e120_h23 (m : Mem) : Option (Int32 × Mem) :=
  some ((m 12 0 1), m)
set_option maxHeartbeats 4000000 in
set_option maxRecDepth 20000 in
theorem ok_X12_feed_e120_h23 (m : Mem) {z : Int32} {m' : Mem} (h : r_X12_feed_e120_h23 m = some (z, m')) : Xj RX12 cX12_feed 8 (some .int) 1 0 0 0 0 0 120 [(0, vR 12 0)] [] m (oI z) m' := by
  unfold r_X12_feed_e120_h23 at h
  refine xj_aload_n 0 dX12_feed_120 rfl ?_
  refine xg_getI (x := (m 12 0 1)) dX12_feed_121 fl_X12_112 rfl rfl ?_
  cases h
  exact xj_ireturn dX12_feed_124 rfl (by decide) (by decide)
noncomputable def r_X12_feed_l23 (x1 : Int32) (x2 : Int32) (x3 : Int32) (x4 : Int32) (x5 : Int32) (x6 : Int32) (m : Mem) : Option (Int32 × Mem) :=
  bd1 (loopO (fun s => r_X12_feed_b23 x1 x2 x3 x4 x5 s.1 s.2) (x6, m)) (fun e => r_X12_feed_e120_h23 e)
set_option maxHeartbeats 4000000 in
set_option maxRecDepth 20000 in
theorem ok_X12_feed_l23 (x1 : Int32) (x2 : Int32) (x3 : Int32) (x4 : Int32) (x5 : Int32) (x6 : Int32) (m : Mem) {z : Int32} {m' : Mem} (h : r_X12_feed_l23 x1 x2 x3 x4 x5 x6 m = some (z, m')) : Xj RX12 cX12_feed 8 (some .int) 1 0 0 0 0 0 23 [(0, vR 12 0), (1, vI x1), (2, vI x2), (3, vI x3), (4, vI x4), (5, vI x5), (6, vI x6)] [] m (oI z) m' := by
  unfold r_X12_feed_l23 at h
  obtain ⟨e, e1, h⟩ := bd1_some h
  refine loopO_ok (P := fun s : (Int32 × Mem) => Xj RX12 cX12_feed 8 (some .int) 1 0 0 0 0 0 23 [(0, vR 12 0), (1, vI x1), (2, vI x2), (3, vI x3), (4, vI x4), (5, vI x5), (6, vI s.1)] [] s.2 (oI z) m') (Q := fun e : (Mem) => Xj RX12 cX12_feed 8 (some .int) 1 0 0 0 0 0 120 [(0, vR 12 0)] [] e (oI z) m') ?_ _ _ e1 ?_
  · intro s r9 h9 hi hx
    exact ok_X12_feed_b23 x1 x2 x3 x4 x5 s.1 s.2 h9 (by rintro _ _ rfl; exact hi _ rfl) (by rintro _ rfl; exact hx _ rfl)
  · exact ok_X12_feed_e120_h23 e h 
noncomputable def r_X12_feed (x1 : Int32) (x2 : Int32) (x3 : Int32) (x4 : Int32) (x5 : Int32) (m : Mem) : Option (Int32 × Mem) :=
  if ((m 12 0 1) + 20) ≤ 600 then (r_X12_feed_l23 x1 x2 x3 x4 x5 0 (wr m 12 0 0 0)) else (some ((-1), (wr m 12 0 0 0)))
set_option maxHeartbeats 4000000 in
set_option maxRecDepth 20000 in
theorem ok_X12_feed (x1 : Int32) (x2 : Int32) (x3 : Int32) (x4 : Int32) (x5 : Int32) (m : Mem) {z : Int32} {m' : Mem} (h : r_X12_feed x1 x2 x3 x4 x5 m = some (z, m')) : Mt yX12_feed cX12_feed 8 (some .int) 1 0 0 0 [vR 12 0, vI x1, vI x2, vI x3, vI x4, vI x5] m (oI z) m' := by
  refine Mt.of (by decide) (Nat.le_of_ble_eq_true rfl) (by decide +kernel) (hhF_ne (by decide)) ?_
  show Xj RX12 cX12_feed 8 (some .int) 1 0 0 0 0 0 0 [(0, vR 12 0), (1, vI x1), (2, vI x2), (3, vI x3), (4, vI x4), (5, vI x5)] [] m (oI z) m'
  unfold r_X12_feed at h
  refine xj_aload_n 0 dX12_feed_0 rfl ?_
  refine xj_iconst (z := 0) dX12_feed_1 (by decide) ?_
  refine xj_putI dX12_feed_2 fw_X12_109 rfl ?_
  refine xj_aload_n 0 dX12_feed_5 rfl ?_
  refine xg_getI (x := (m 12 0 1)) dX12_feed_6 fl_X12_112 rfl rfl ?_
  refine xj_bipush (z := 20) dX12_feed_9 (by decide) ?_
  refine xj_iadd dX12_feed_11 ?_
  refine xj_sipush (z := 600) dX12_feed_12 (by decide) ?_
  refine xj_icmp_le (tgt := 20) dX12_feed_15 (by decide) (fun c1 => ?_) (fun c1 => ?_)
  · rw [if_pos c1] at h
    refine xj_iconst (z := 0) dX12_feed_20 (by decide) ?_
    refine xj_istore (ls' := [(6, vI 0), (0, vR 12 0), (1, vI x1), (2, vI x2), (3, vI x3), (4, vI x4), (5, vI x5)]) dX12_feed_21 (by decide) rfl ?_
    refine xj_pick (ls' := [(0, vR 12 0), (1, vI x1), (2, vI x2), (3, vI x3), (4, vI x4), (5, vI x5), (6, vI 0)]) [1, 2, 3, 4, 5, 6, 0] rfl ?_
    exact ok_X12_feed_l23 x1 x2 x3 x4 x5 0 (wr m 12 0 0 0) h 
  · rw [if_neg c1] at h
    refine xj_iconst (z := (-1)) dX12_feed_18 (by decide) ?_
    cases h
    exact xj_ireturn dX12_feed_19 rfl (by decide) (by decide)
noncomputable def r_X12_givenBy_j43_c5 (x1 : Int32) (x2 : Int32) (x4 : Int32) (s0 : Int32) (s1 : Int32) (m : Mem) : Option ((Int32 × Int32) ⊕ (Int32)) :=
  some (Sum.inl ((s1 + s0), x4 + 1))
set_option maxHeartbeats 4000000 in
set_option maxRecDepth 20000 in
theorem ok_X12_givenBy_j43_c5 (x1 : Int32) (x2 : Int32) (x4 : Int32) (s0 : Int32) (s1 : Int32) (m : Mem) {r : (Int32 × Int32) ⊕ (Int32)} (h : r_X12_givenBy_j43_c5 x1 x2 x4 s0 s1 m = some r) {o : Ou} {M' : Mem} (kb : ∀ (x3' : Int32) (x4' : Int32), r = Sum.inl (x3', x4') → Xj RX12 cX12_givenBy 5 (some .int) 2 21 0 0 0 0 5 [(0, vR 12 0), (1, vI x1), (2, vI x2), (3, vI x3'), (4, vI x4')] [] m o M') (ke : ∀ (x3' : Int32), r = Sum.inr x3' → Xj RX12 cX12_givenBy 5 (some .int) 2 21 0 0 0 0 51 [(3, vI x3')] [] m o M') : Xj RX12 cX12_givenBy 5 (some .int) 2 21 0 0 0 0 43 [(0, vR 12 0), (1, vI x1), (2, vI x2), (4, vI x4)] [vI s0, vI s1] m o M' := by
  unfold r_X12_givenBy_j43_c5 at h
  refine xj_iadd dX12_givenBy_43 ?_
  refine xj_istore_n (ls' := [(3, vI (s1 + s0)), (0, vR 12 0), (1, vI x1), (2, vI x2), (4, vI x4)]) dX12_givenBy_44 rfl (by decide) rfl ?_
  refine xj_iinc (z := x4 + 1) (ls' := [(4, vI (x4 + 1)), (3, vI (s1 + s0)), (0, vR 12 0), (1, vI x1), (2, vI x2)]) 4 dX12_givenBy_45 rfl rfl (by decide) rfl ?_
  refine xj_goto (tgt := 5) dX12_givenBy_48 (by decide) ?_
  cases h
  refine xj_pick (ls' := [(0, vR 12 0), (1, vI x1), (2, vI x2), (3, vI (s1 + s0)), (4, vI (x4 + 1))]) [2, 3, 4, 1, 0] rfl ?_
  exact kb (s1 + s0) (x4 + 1) rfl
noncomputable def r_X12_givenBy_b5 (x1 : Int32) (x2 : Int32) (m : Mem) (x3 : Int32) (x4 : Int32) : Option ((Int32 × Int32) ⊕ (Int32)) :=
  if (m 52 0 2) ≤ x4 then (some (Sum.inr x3)) else (if (r_X12_has x1 x4) = true then (if inb x4 6 = true then (r_X12_givenBy_j43_c5 x1 x2 x4 (r_X12_less x2 (m 67 x4.toNatClampNeg 0)) x3 m) else none) else (r_X12_givenBy_j43_c5 x1 x2 x4 0 x3 m))
set_option maxHeartbeats 4000000 in
set_option maxRecDepth 20000 in
theorem ok_X12_givenBy_b5 (x1 : Int32) (x2 : Int32) (m : Mem) (x3 : Int32) (x4 : Int32) {r : (Int32 × Int32) ⊕ (Int32)} (h : r_X12_givenBy_b5 x1 x2 m x3 x4 = some r) {o : Ou} {M' : Mem} (kb : ∀ (x3' : Int32) (x4' : Int32), r = Sum.inl (x3', x4') → Xj RX12 cX12_givenBy 5 (some .int) 2 21 0 0 0 0 5 [(0, vR 12 0), (1, vI x1), (2, vI x2), (3, vI x3'), (4, vI x4')] [] m o M') (ke : ∀ (x3' : Int32), r = Sum.inr x3' → Xj RX12 cX12_givenBy 5 (some .int) 2 21 0 0 0 0 51 [(3, vI x3')] [] m o M') : Xj RX12 cX12_givenBy 5 (some .int) 2 21 0 0 0 0 5 [(0, vR 12 0), (1, vI x1), (2, vI x2), (3, vI x3), (4, vI x4)] [] m o M' := by
  unfold r_X12_givenBy_b5 at h
  refine xj_iload 4 dX12_givenBy_5 rfl ?_
  refine xj_aload_n 0 dX12_givenBy_7 rfl ?_
  refine xg_getR (k' := 52) (i' := 0) dX12_givenBy_8 fl_X12_23 rfl ?_
  refine xj_iconst (z := 2) dX12_givenBy_11 (by decide) ?_
  refine xg_iald (z := (m 52 0 2)) (n := 2) dX12_givenBy_12 rfl (by decide) (inb_in (by decide)) (by decide) rfl ?_
  refine xj_icmp_ge (tgt := 51) dX12_givenBy_13 (by decide) (fun c1 => ?_) (fun c1 => ?_)
  · rw [if_pos c1] at h
    cases h
    refine xj_pick (ls' := [(3, vI x3)]) [3] rfl ?_
    exact ke x3 rfl
  · rw [if_neg c1] at h
    refine xj_iload_n 3 dX12_givenBy_16 rfl ?_
    refine xj_iload_n 1 dX12_givenBy_17 rfl ?_
    refine xj_iload 4 dX12_givenBy_18 rfl ?_
    refine xc_Sb0 (st := [vI x3]) (ok_X12_has x1 x4 m rfl) dX12_givenBy_20 cs_X12_282 rfl rfl (Nat.le_of_ble_eq_true rfl) (by decide) (by decide) (by decide) (by decide) ?_
    refine xj_if_eq (tgt := 42) dX12_givenBy_23 (by decide) (fun c2 => ?_) (fun c2 => ?_)
    · rw [if_neg (b2i_f c2)] at h
      refine xj_iconst (z := 0) dX12_givenBy_42 (by decide) ?_
      refine xj_pick (ls' := [(0, vR 12 0), (1, vI x1), (2, vI x2), (4, vI x4)]) [0, 1, 2, 4] rfl ?_
      exact ok_X12_givenBy_j43_c5 x1 x2 x4 0 x3 m h kb ke
    · rw [if_pos (b2i_t c2)] at h
      refine xj_iload_n 2 dX12_givenBy_26 rfl ?_
      refine xj_aload_n 0 dX12_givenBy_27 rfl ?_
      refine xg_getR (k' := 68) (i' := 0) dX12_givenBy_28 fl_X12_43 rfl ?_
      refine xj_iload 4 dX12_givenBy_31 rfl ?_
      by_cases c3 : inb x4 6 = true
      case neg => rw [if_neg c3] at h; cases h
      rw [if_pos c3] at h
      refine xg_aald (k' := 67) (i' := x4.toNatClampNeg) (n := x4.toNatClampNeg) dX12_givenBy_33 rfl (by decide) (inb_in c3) rfl rfl ?_
      refine xj_iconst (z := 0) dX12_givenBy_34 (by decide) ?_
      refine xg_iald (z := (m 67 x4.toNatClampNeg 0)) (n := 0) dX12_givenBy_35 rfl (by decide) (inb_in (by decide)) (by decide) rfl ?_
      refine xc_Si0 (st := [vI x3]) (ok_X12_less x2 (m 67 x4.toNatClampNeg 0) m rfl) dX12_givenBy_36 cs_X12_254 rfl rfl (Nat.le_of_ble_eq_true rfl) (by decide) (by decide) (by decide) (by decide) ?_
      refine xj_goto (tgt := 43) dX12_givenBy_39 (by decide) ?_
      refine xj_pick (ls' := [(0, vR 12 0), (1, vI x1), (2, vI x2), (4, vI x4)]) [0, 1, 2, 4] rfl ?_
      exact ok_X12_givenBy_j43_c5 x1 x2 x4 (r_X12_less x2 (m 67 x4.toNatClampNeg 0)) x3 m h kb ke
noncomputable def r_X12_givenBy_e51_h5 (x3 : Int32) (m : Mem) : Option Int32 :=
  some x3
set_option maxHeartbeats 4000000 in
set_option maxRecDepth 20000 in
theorem ok_X12_givenBy_e51_h5 (x3 : Int32) (m : Mem) {z : Int32} (h : r_X12_givenBy_e51_h5 x3 m = some z) : Xj RX12 cX12_givenBy 5 (some .int) 2 21 0 0 0 0 51 [(3, vI x3)] [] m (oI z) m := by
  unfold r_X12_givenBy_e51_h5 at h
  refine xj_iload_n 0 dX12_givenBy_51 rfl ?_
  cases h
  exact xj_ireturn dX12_givenBy_52 rfl (by decide) (by decide)
noncomputable def r_X12_givenBy_l5 (x1 : Int32) (x2 : Int32) (x3 : Int32) (x4 : Int32) (m : Mem) : Option Int32 :=
  bd1 (loopO (fun s => r_X12_givenBy_b5 x1 x2 m s.1 s.2) (x3, x4)) (fun e => r_X12_givenBy_e51_h5 e m)
set_option maxHeartbeats 4000000 in
set_option maxRecDepth 20000 in
theorem ok_X12_givenBy_l5 (x1 : Int32) (x2 : Int32) (x3 : Int32) (x4 : Int32) (m : Mem) {z : Int32} (h : r_X12_givenBy_l5 x1 x2 x3 x4 m = some z) : Xj RX12 cX12_givenBy 5 (some .int) 2 21 0 0 0 0 5 [(0, vR 12 0), (1, vI x1), (2, vI x2), (3, vI x3), (4, vI x4)] [] m (oI z) m := by
  unfold r_X12_givenBy_l5 at h
  obtain ⟨e, e1, h⟩ := bd1_some h
  refine loopO_ok (P := fun s : (Int32 × Int32) => Xj RX12 cX12_givenBy 5 (some .int) 2 21 0 0 0 0 5 [(0, vR 12 0), (1, vI x1), (2, vI x2), (3, vI s.1), (4, vI s.2)] [] m (oI z) m) (Q := fun e : (Int32) => Xj RX12 cX12_givenBy 5 (some .int) 2 21 0 0 0 0 51 [(3, vI e)] [] m (oI z) m) ?_ _ _ e1 ?_
  · intro s r9 h9 hi hx
    exact ok_X12_givenBy_b5 x1 x2 m s.1 s.2 h9 (by rintro _ _ rfl; exact hi _ rfl) (by rintro _ rfl; exact hx _ rfl)
  · exact ok_X12_givenBy_e51_h5 e m h 
noncomputable def r_X12_givenBy (x1 : Int32) (x2 : Int32) (m : Mem) : Option Int32 :=
  r_X12_givenBy_l5 x1 x2 0 0 m
set_option maxHeartbeats 4000000 in
set_option maxRecDepth 20000 in
theorem ok_X12_givenBy (x1 : Int32) (x2 : Int32) (m : Mem) {z : Int32} (h : r_X12_givenBy x1 x2 m = some z) : Mt yX12_givenBy cX12_givenBy 5 (some .int) 2 21 0 0 [vR 12 0, vI x1, vI x2] m (oI z) m := by
  refine Mt.of (by decide) (Nat.le_of_ble_eq_true rfl) (by decide +kernel) (hhF_ne (by decide)) ?_
  show Xj RX12 cX12_givenBy 5 (some .int) 2 21 0 0 0 0 0 [(0, vR 12 0), (1, vI x1), (2, vI x2)] [] m (oI z) m
  unfold r_X12_givenBy at h
  refine xj_iconst (z := 0) dX12_givenBy_0 (by decide) ?_
  refine xj_istore_n (ls' := [(3, vI 0), (0, vR 12 0), (1, vI x1), (2, vI x2)]) dX12_givenBy_1 rfl (by decide) rfl ?_
  refine xj_iconst (z := 0) dX12_givenBy_2 (by decide) ?_
  refine xj_istore (ls' := [(4, vI 0), (3, vI 0), (0, vR 12 0), (1, vI x1), (2, vI x2)]) dX12_givenBy_3 (by decide) rfl ?_
  refine xj_pick (ls' := [(0, vR 12 0), (1, vI x1), (2, vI x2), (3, vI 0), (4, vI 0)]) [2, 3, 4, 1, 0] rfl ?_
  exact ok_X12_givenBy_l5 x1 x2 0 0 m h 
