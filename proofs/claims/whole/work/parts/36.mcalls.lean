theorem dX12_thrown_0 : decode cX12_thrown 0 = .ok (.aload_n 0, 1) := by decide +kernel
theorem dX12_thrown_1 : decode cX12_thrown 1 = .ok (.getfield 109, 3) := by decide +kernel
theorem dX12_thrown_4 : decode cX12_thrown 4 = .ok (.ireturn, 1) := by decide +kernel
theorem dX12_told_0 : decode cX12_told 0 = .ok (.aload_n 0, 1) := by decide +kernel
theorem dX12_told_1 : decode cX12_told 1 = .ok (.iconst 0, 1) := by decide +kernel
theorem dX12_told_2 : decode cX12_told 2 = .ok (.putfield 109, 3) := by decide +kernel
theorem dX12_told_5 : decode cX12_told 5 = .ok (.aload_n 0, 1) := by decide +kernel
theorem dX12_told_6 : decode cX12_told 6 = .ok (.iload_n 1, 1) := by decide +kernel
theorem dX12_told_7 : decode cX12_told 7 = .ok (.iconst 0, 1) := by decide +kernel
theorem dX12_told_8 : decode cX12_told 8 = .ok (.bipush 10, 2) := by decide +kernel
theorem dX12_told_10 : decode cX12_told 10 = .ok (.invokestatic 143, 3) := by decide +kernel
theorem dX12_told_13 : decode cX12_told 13 = .ok (.ifCond .ne 7, 3) := by decide +kernel
theorem dX12_told_16 : decode cX12_told 16 = .ok (.iconst 1, 1) := by decide +kernel
theorem dX12_told_17 : decode cX12_told 17 = .ok (.goto 4, 3) := by decide +kernel
theorem dX12_told_20 : decode cX12_told 20 = .ok (.iconst 0, 1) := by decide +kernel
theorem dX12_told_21 : decode cX12_told 21 = .ok (.iconst 1, 1) := by decide +kernel
theorem dX12_told_22 : decode cX12_told 22 = .ok (.iconst 1, 1) := by decide +kernel
theorem dX12_told_23 : decode cX12_told 23 = .ok (.invokevirtual 191, 3) := by decide +kernel
theorem dX12_told_26 : decode cX12_told 26 = .ok (.ifCond .eq 5, 3) := by decide +kernel
theorem dX12_told_29 : decode cX12_told 29 = .ok (.iconst 0, 1) := by decide +kernel
theorem dX12_told_30 : decode cX12_told 30 = .ok (.ireturn, 1) := by decide +kernel
theorem dX12_told_31 : decode cX12_told 31 = .ok (.aload_n 0, 1) := by decide +kernel
theorem dX12_told_32 : decode cX12_told 32 = .ok (.aload_n 0, 1) := by decide +kernel
theorem dX12_told_33 : decode cX12_told 33 = .ok (.getfield 73, 3) := by decide +kernel
theorem dX12_told_36 : decode cX12_told 36 = .ok (.invokevirtual 315, 3) := by decide +kernel
theorem dX12_told_39 : decode cX12_told 39 = .ok (.istore_n 2, 1) := by decide +kernel
theorem dX12_told_40 : decode cX12_told 40 = .ok (.iload_n 1, 1) := by decide +kernel
theorem dX12_told_41 : decode cX12_told 41 = .ok (.tableswitch 107 0 9 #[55, 55, 55, 62, 70, 77, 82, 84, 93, 102], 55) := by decide +kernel
theorem dX12_told_96 : decode cX12_told 96 = .ok (.aload_n 0, 1) := by decide +kernel
theorem dX12_told_97 : decode cX12_told 97 = .ok (.getfield 23, 3) := by decide +kernel
theorem dX12_told_100 : decode cX12_told 100 = .ok (.iload_n 1, 1) := by decide +kernel
theorem dX12_told_101 : decode cX12_told 101 = .ok (.iaload, 1) := by decide +kernel
theorem dX12_told_102 : decode cX12_told 102 = .ok (.ireturn, 1) := by decide +kernel
theorem dX12_told_103 : decode cX12_told 103 = .ok (.aload_n 0, 1) := by decide +kernel
theorem dX12_told_104 : decode cX12_told 104 = .ok (.getfield 73, 3) := by decide +kernel
theorem dX12_told_107 : decode cX12_told 107 = .ok (.bipush 110, 2) := by decide +kernel
theorem dX12_told_109 : decode cX12_told 109 = .ok (.iaload, 1) := by decide +kernel
theorem dX12_told_110 : decode cX12_told 110 = .ok (.ireturn, 1) := by decide +kernel
theorem dX12_told_111 : decode cX12_told 111 = .ok (.aload_n 0, 1) := by decide +kernel
theorem dX12_told_112 : decode cX12_told 112 = .ok (.getfield 23, 3) := by decide +kernel
theorem dX12_told_115 : decode cX12_told 115 = .ok (.iconst 3, 1) := by decide +kernel
theorem dX12_told_116 : decode cX12_told 116 = .ok (.iaload, 1) := by decide +kernel
theorem dX12_told_117 : decode cX12_told 117 = .ok (.ireturn, 1) := by decide +kernel
theorem dX12_told_118 : decode cX12_told 118 = .ok (.aload_n 0, 1) := by decide +kernel
theorem dX12_told_119 : decode cX12_told 119 = .ok (.getfield 305, 3) := by decide +kernel
theorem dX12_told_122 : decode cX12_told 122 = .ok (.ireturn, 1) := by decide +kernel
theorem dX12_told_123 : decode cX12_told 123 = .ok (.iload_n 2, 1) := by decide +kernel
theorem dX12_told_124 : decode cX12_told 124 = .ok (.ireturn, 1) := by decide +kernel
theorem dX12_told_125 : decode cX12_told 125 = .ok (.aload_n 0, 1) := by decide +kernel
theorem dX12_told_126 : decode cX12_told 126 = .ok (.aload_n 0, 1) := by decide +kernel
theorem dX12_told_127 : decode cX12_told 127 = .ok (.getfield 73, 3) := by decide +kernel
theorem dX12_told_130 : decode cX12_told 130 = .ok (.invokevirtual 346, 3) := by decide +kernel
theorem dX12_told_133 : decode cX12_told 133 = .ok (.ireturn, 1) := by decide +kernel
theorem dX12_told_134 : decode cX12_told 134 = .ok (.aload_n 0, 1) := by decide +kernel
theorem dX12_told_135 : decode cX12_told 135 = .ok (.aload_n 0, 1) := by decide +kernel
theorem dX12_told_136 : decode cX12_told 136 = .ok (.getfield 73, 3) := by decide +kernel
theorem dX12_told_139 : decode cX12_told 139 = .ok (.invokevirtual 349, 3) := by decide +kernel
theorem dX12_told_142 : decode cX12_told 142 = .ok (.ireturn, 1) := by decide +kernel
theorem dX12_told_143 : decode cX12_told 143 = .ok (.aload_n 0, 1) := by decide +kernel
theorem dX12_told_144 : decode cX12_told 144 = .ok (.getfield 211, 3) := by decide +kernel
theorem dX12_told_147 : decode cX12_told 147 = .ok (.ireturn, 1) := by decide +kernel
theorem dX12_told_148 : decode cX12_told 148 = .ok (.aload_n 0, 1) := by decide +kernel
theorem dX12_told_149 : decode cX12_told 149 = .ok (.getfield 217, 3) := by decide +kernel
theorem dX12_told_152 : decode cX12_told 152 = .ok (.ireturn, 1) := by decide +kernel
theorem dX12_undo_0 : decode cX12_undo 0 = .ok (.aload_n 0, 1) := by decide +kernel
theorem dX12_undo_1 : decode cX12_undo 1 = .ok (.iconst 0, 1) := by decide +kernel
theorem dX12_undo_2 : decode cX12_undo 2 = .ok (.putfield 109, 3) := by decide +kernel
theorem dX12_undo_5 : decode cX12_undo 5 = .ok (.aload_n 0, 1) := by decide +kernel
theorem dX12_undo_6 : decode cX12_undo 6 = .ok (.getfield 214, 3) := by decide +kernel
theorem dX12_undo_9 : decode cX12_undo 9 = .ok (.ifCond .ne 5, 3) := by decide +kernel
theorem dX12_undo_12 : decode cX12_undo 12 = .ok (.iconst (-1), 1) := by decide +kernel
theorem dX12_undo_13 : decode cX12_undo 13 = .ok (.ireturn, 1) := by decide +kernel
theorem dX12_undo_14 : decode cX12_undo 14 = .ok (.aload_n 0, 1) := by decide +kernel
theorem dX12_undo_15 : decode cX12_undo 15 = .ok (.dup, 1) := by decide +kernel
theorem dX12_undo_16 : decode cX12_undo 16 = .ok (.getfield 214, 3) := by decide +kernel
theorem dX12_undo_19 : decode cX12_undo 19 = .ok (.iconst 1, 1) := by decide +kernel
theorem dX12_undo_20 : decode cX12_undo 20 = .ok (.isub, 1) := by decide +kernel
theorem dX12_undo_21 : decode cX12_undo 21 = .ok (.putfield 214, 3) := by decide +kernel
theorem dX12_undo_24 : decode cX12_undo 24 = .ok (.aload_n 0, 1) := by decide +kernel
theorem dX12_undo_25 : decode cX12_undo 25 = .ok (.getfield 79, 3) := by decide +kernel
theorem dX12_undo_28 : decode cX12_undo 28 = .ok (.aload_n 0, 1) := by decide +kernel
theorem dX12_undo_29 : decode cX12_undo 29 = .ok (.getfield 214, 3) := by decide +kernel
theorem dX12_undo_32 : decode cX12_undo 32 = .ok (.aaload, 1) := by decide +kernel
theorem dX12_undo_33 : decode cX12_undo 33 = .ok (.aload_n 0, 1) := by decide +kernel
theorem dX12_undo_34 : decode cX12_undo 34 = .ok (.getfield 73, 3) := by decide +kernel
theorem dX12_undo_37 : decode cX12_undo 37 = .ok (.invokestatic 342, 3) := by decide +kernel
theorem dX12_undo_40 : decode cX12_undo 40 = .ok (.aload_n 0, 1) := by decide +kernel
theorem dX12_undo_41 : decode cX12_undo 41 = .ok (.iconst 0, 1) := by decide +kernel
theorem dX12_undo_42 : decode cX12_undo 42 = .ok (.putfield 217, 3) := by decide +kernel
theorem dX12_undo_45 : decode cX12_undo 45 = .ok (.aload_n 0, 1) := by decide +kernel
theorem dX12_undo_46 : decode cX12_undo 46 = .ok (.getfield 214, 3) := by decide +kernel
theorem dX12_undo_49 : decode cX12_undo 49 = .ok (.ireturn, 1) := by decide +kernel
theorem dX12_uphill_0 : decode cX12_uphill 0 = .ok (.aload_n 0, 1) := by decide +kernel
theorem dX12_uphill_1 : decode cX12_uphill 1 = .ok (.iconst 0, 1) := by decide +kernel
theorem dX12_uphill_2 : decode cX12_uphill 2 = .ok (.putfield 109, 3) := by decide +kernel
theorem dX12_uphill_5 : decode cX12_uphill 5 = .ok (.iconst 0, 1) := by decide +kernel
theorem dX12_uphill_6 : decode cX12_uphill 6 = .ok (.istore_n 1, 1) := by decide +kernel
theorem dX12_uphill_7 : decode cX12_uphill 7 = .ok (.aload_n 0, 1) := by decide +kernel
theorem dX12_uphill_8 : decode cX12_uphill 8 = .ok (.aload_n 0, 1) := by decide +kernel
theorem dX12_uphill_9 : decode cX12_uphill 9 = .ok (.getfield 73, 3) := by decide +kernel
theorem dX12_uphill_12 : decode cX12_uphill 12 = .ok (.invokevirtual 308, 3) := by decide +kernel
theorem dX12_uphill_15 : decode cX12_uphill 15 = .ok (.iconst 0, 1) := by decide +kernel
theorem dX12_uphill_16 : decode cX12_uphill 16 = .ok (.istore_n 2, 1) := by decide +kernel
theorem dX12_uphill_17 : decode cX12_uphill 17 = .ok (.iload_n 2, 1) := by decide +kernel
theorem dX12_uphill_18 : decode cX12_uphill 18 = .ok (.aload_n 0, 1) := by decide +kernel
theorem dX12_uphill_19 : decode cX12_uphill 19 = .ok (.getfield 23, 3) := by decide +kernel
theorem dX12_uphill_22 : decode cX12_uphill 22 = .ok (.iconst 0, 1) := by decide +kernel
theorem dX12_uphill_23 : decode cX12_uphill 23 = .ok (.iaload, 1) := by decide +kernel
theorem dX12_uphill_24 : decode cX12_uphill 24 = .ok (.if_icmp .ge 49, 3) := by decide +kernel
theorem dX12_uphill_27 : decode cX12_uphill 27 = .ok (.iload_n 1, 1) := by decide +kernel
theorem dX12_uphill_28 : decode cX12_uphill 28 = .ok (.aload_n 0, 1) := by decide +kernel
theorem dX12_uphill_29 : decode cX12_uphill 29 = .ok (.getfield 85, 3) := by decide +kernel
theorem dX12_uphill_32 : decode cX12_uphill 32 = .ok (.iload_n 2, 1) := by decide +kernel
theorem dX12_uphill_33 : decode cX12_uphill 33 = .ok (.iaload, 1) := by decide +kernel
theorem dX12_uphill_34 : decode cX12_uphill 34 = .ok (.iconst (-1), 1) := by decide +kernel
theorem dX12_uphill_35 : decode cX12_uphill 35 = .ok (.if_icmp .eq 29, 3) := by decide +kernel
theorem dX12_uphill_38 : decode cX12_uphill 38 = .ok (.aload_n 0, 1) := by decide +kernel
theorem dX12_uphill_39 : decode cX12_uphill 39 = .ok (.getfield 29, 3) := by decide +kernel
theorem dX12_uphill_42 : decode cX12_uphill 42 = .ok (.aload_n 0, 1) := by decide +kernel
theorem dX12_uphill_43 : decode cX12_uphill 43 = .ok (.getfield 85, 3) := by decide +kernel
theorem dX12_uphill_46 : decode cX12_uphill 46 = .ok (.iload_n 2, 1) := by decide +kernel
theorem dX12_uphill_47 : decode cX12_uphill 47 = .ok (.iaload, 1) := by decide +kernel
theorem dX12_uphill_48 : decode cX12_uphill 48 = .ok (.iaload, 1) := by decide +kernel
theorem dX12_uphill_49 : decode cX12_uphill 49 = .ok (.aload_n 0, 1) := by decide +kernel
theorem dX12_uphill_50 : decode cX12_uphill 50 = .ok (.getfield 29, 3) := by decide +kernel
theorem dX12_uphill_53 : decode cX12_uphill 53 = .ok (.iload_n 2, 1) := by decide +kernel
theorem dX12_uphill_54 : decode cX12_uphill 54 = .ok (.iaload, 1) := by decide +kernel
theorem dX12_uphill_55 : decode cX12_uphill 55 = .ok (.if_icmp .le 9, 3) := by decide +kernel
theorem dX12_uphill_58 : decode cX12_uphill 58 = .ok (.iconst 1, 1) := by decide +kernel
theorem dX12_uphill_59 : decode cX12_uphill 59 = .ok (.iload_n 2, 1) := by decide +kernel
theorem dX12_uphill_60 : decode cX12_uphill 60 = .ok (.ishl, 1) := by decide +kernel
theorem dX12_uphill_61 : decode cX12_uphill 61 = .ok (.goto 4, 3) := by decide +kernel
theorem dX12_uphill_64 : decode cX12_uphill 64 = .ok (.iconst 0, 1) := by decide +kernel
theorem dX12_uphill_65 : decode cX12_uphill 65 = .ok (.ior, 1) := by decide +kernel
theorem dX12_uphill_66 : decode cX12_uphill 66 = .ok (.istore_n 1, 1) := by decide +kernel
theorem dX12_uphill_67 : decode cX12_uphill 67 = .ok (.iinc 2 1, 3) := by decide +kernel
theorem dX12_uphill_70 : decode cX12_uphill 70 = .ok (.goto (-53), 3) := by decide +kernel
theorem dX12_uphill_73 : decode cX12_uphill 73 = .ok (.iload_n 1, 1) := by decide +kernel
theorem dX12_uphill_74 : decode cX12_uphill 74 = .ok (.ireturn, 1) := by decide +kernel
theorem dX12_way_0 : decode cX12_way 0 = .ok (.aload_n 0, 1) := by decide +kernel
theorem dX12_way_1 : decode cX12_way 1 = .ok (.iconst 0, 1) := by decide +kernel
theorem dX12_way_2 : decode cX12_way 2 = .ok (.putfield 109, 3) := by decide +kernel
theorem dX12_way_5 : decode cX12_way 5 = .ok (.aload_n 0, 1) := by decide +kernel
theorem dX12_way_6 : decode cX12_way 6 = .ok (.aload_n 0, 1) := by decide +kernel
theorem dX12_way_7 : decode cX12_way 7 = .ok (.iload_n 1, 1) := by decide +kernel
theorem dX12_way_8 : decode cX12_way 8 = .ok (.invokevirtual 352, 3) := by decide +kernel
theorem dX12_way_11 : decode cX12_way 11 = .ok (.ifCond .eq 11, 3) := by decide +kernel
theorem dX12_way_14 : decode cX12_way 14 = .ok (.aload_n 0, 1) := by decide +kernel
theorem dX12_way_15 : decode cX12_way 15 = .ok (.iload_n 2, 1) := by decide +kernel
theorem dX12_way_16 : decode cX12_way 16 = .ok (.invokevirtual 352, 3) := by decide +kernel
theorem dX12_way_19 : decode cX12_way 19 = .ok (.ifCond .ne 7, 3) := by decide +kernel
theorem dX12_way_22 : decode cX12_way 22 = .ok (.iconst 1, 1) := by decide +kernel
theorem dX12_way_23 : decode cX12_way 23 = .ok (.goto 4, 3) := by decide +kernel
theorem dX12_way_26 : decode cX12_way 26 = .ok (.iconst 0, 1) := by decide +kernel
theorem dX12_way_27 : decode cX12_way 27 = .ok (.iconst 1, 1) := by decide +kernel
theorem dX12_way_28 : decode cX12_way 28 = .ok (.iconst 0, 1) := by decide +kernel
theorem dX12_way_29 : decode cX12_way 29 = .ok (.invokevirtual 191, 3) := by decide +kernel
theorem dX12_way_32 : decode cX12_way 32 = .ok (.ifCond .eq 5, 3) := by decide +kernel
theorem dX12_way_35 : decode cX12_way 35 = .ok (.iconst 0, 1) := by decide +kernel
theorem dX12_way_36 : decode cX12_way 36 = .ok (.ireturn, 1) := by decide +kernel
theorem dX12_way_37 : decode cX12_way 37 = .ok (.aload_n 0, 1) := by decide +kernel
theorem dX12_way_38 : decode cX12_way 38 = .ok (.invokevirtual 390, 3) := by decide +kernel
theorem dX12_way_41 : decode cX12_way 41 = .ok (.aload_n 0, 1) := by decide +kernel
theorem dX12_way_42 : decode cX12_way 42 = .ok (.getfield 100, 3) := by decide +kernel
theorem dX12_way_45 : decode cX12_way 45 = .ok (.iload_n 1, 1) := by decide +kernel
theorem dX12_way_46 : decode cX12_way 46 = .ok (.aaload, 1) := by decide +kernel
theorem dX12_way_47 : decode cX12_way 47 = .ok (.iload_n 2, 1) := by decide +kernel
theorem dX12_way_48 : decode cX12_way 48 = .ok (.iaload, 1) := by decide +kernel
theorem dX12_way_49 : decode cX12_way 49 = .ok (.bipush 99, 2) := by decide +kernel
theorem dX12_way_51 : decode cX12_way 51 = .ok (.if_icmp .lt 7, 3) := by decide +kernel
theorem dX12_way_54 : decode cX12_way 54 = .ok (.iconst (-1), 1) := by decide +kernel
theorem dX12_way_55 : decode cX12_way 55 = .ok (.goto 11, 3) := by decide +kernel
theorem dX12_way_58 : decode cX12_way 58 = .ok (.aload_n 0, 1) := by decide +kernel
theorem dX12_way_59 : decode cX12_way 59 = .ok (.getfield 100, 3) := by decide +kernel
theorem dX12_way_62 : decode cX12_way 62 = .ok (.iload_n 1, 1) := by decide +kernel
theorem dX12_way_63 : decode cX12_way 63 = .ok (.aaload, 1) := by decide +kernel
theorem dX12_way_64 : decode cX12_way 64 = .ok (.iload_n 2, 1) := by decide +kernel
theorem dX12_way_65 : decode cX12_way 65 = .ok (.iaload, 1) := by decide +kernel
theorem dX12_way_66 : decode cX12_way 66 = .ok (.ireturn, 1) := by decide +kernel
theorem dX12_who_0 : decode cX12_who 0 = .ok (.aload_n 0, 1) := by decide +kernel
theorem dX12_who_1 : decode cX12_who 1 = .ok (.iconst 0, 1) := by decide +kernel
theorem dX12_who_2 : decode cX12_who 2 = .ok (.putfield 109, 3) := by decide +kernel
theorem dX12_who_5 : decode cX12_who 5 = .ok (.aload_n 0, 1) := by decide +kernel
theorem dX12_who_6 : decode cX12_who 6 = .ok (.iload_n 1, 1) := by decide +kernel
theorem dX12_who_7 : decode cX12_who 7 = .ok (.iconst 0, 1) := by decide +kernel
theorem dX12_who_8 : decode cX12_who 8 = .ok (.iconst 2, 1) := by decide +kernel
theorem dX12_who_9 : decode cX12_who 9 = .ok (.invokestatic 143, 3) := by decide +kernel
theorem dX12_who_12 : decode cX12_who 12 = .ok (.ifCond .ne 7, 3) := by decide +kernel
theorem dX12_who_15 : decode cX12_who 15 = .ok (.iconst 1, 1) := by decide +kernel
theorem dX12_who_16 : decode cX12_who 16 = .ok (.goto 4, 3) := by decide +kernel
theorem dX12_who_19 : decode cX12_who 19 = .ok (.iconst 0, 1) := by decide +kernel
theorem dX12_who_20 : decode cX12_who 20 = .ok (.iconst 1, 1) := by decide +kernel
theorem dX12_who_21 : decode cX12_who 21 = .ok (.iconst 1, 1) := by decide +kernel
theorem dX12_who_22 : decode cX12_who 22 = .ok (.invokevirtual 191, 3) := by decide +kernel
theorem dX12_who_25 : decode cX12_who 25 = .ok (.ifCond .eq 5, 3) := by decide +kernel
theorem dX12_who_28 : decode cX12_who 28 = .ok (.iconst 0, 1) := by decide +kernel
theorem dX12_who_29 : decode cX12_who 29 = .ok (.ireturn, 1) := by decide +kernel
theorem dX12_who_30 : decode cX12_who 30 = .ok (.iconst 0, 1) := by decide +kernel
theorem dX12_who_31 : decode cX12_who 31 = .ok (.istore_n 2, 1) := by decide +kernel
theorem dX12_who_32 : decode cX12_who 32 = .ok (.iconst (-1), 1) := by decide +kernel
theorem dX12_who_33 : decode cX12_who 33 = .ok (.istore_n 3, 1) := by decide +kernel
theorem dX12_who_34 : decode cX12_who 34 = .ok (.iconst 1, 1) := by decide +kernel
theorem dX12_who_35 : decode cX12_who 35 = .ok (.aload_n 0, 1) := by decide +kernel
theorem dX12_who_36 : decode cX12_who 36 = .ok (.getfield 23, 3) := by decide +kernel
theorem dX12_who_39 : decode cX12_who 39 = .ok (.iconst 2, 1) := by decide +kernel
theorem dX12_who_40 : decode cX12_who 40 = .ok (.iaload, 1) := by decide +kernel
theorem dX12_who_41 : decode cX12_who 41 = .ok (.ishl, 1) := by decide +kernel
theorem dX12_who_42 : decode cX12_who 42 = .ok (.iconst 1, 1) := by decide +kernel
theorem dX12_who_43 : decode cX12_who 43 = .ok (.isub, 1) := by decide +kernel
theorem dX12_who_44 : decode cX12_who 44 = .ok (.istore 4, 2) := by decide +kernel
theorem dX12_who_46 : decode cX12_who 46 = .ok (.iconst 0, 1) := by decide +kernel
theorem dX12_who_47 : decode cX12_who 47 = .ok (.istore 5, 2) := by decide +kernel
theorem dX12_who_49 : decode cX12_who 49 = .ok (.iload 5, 2) := by decide +kernel
theorem dX12_who_51 : decode cX12_who 51 = .ok (.iconst 1, 1) := by decide +kernel
theorem dX12_who_52 : decode cX12_who 52 = .ok (.aload_n 0, 1) := by decide +kernel
theorem dX12_who_53 : decode cX12_who 53 = .ok (.getfield 23, 3) := by decide +kernel
theorem dX12_who_56 : decode cX12_who 56 = .ok (.iconst 2, 1) := by decide +kernel
theorem dX12_who_57 : decode cX12_who 57 = .ok (.iaload, 1) := by decide +kernel
theorem dX12_who_58 : decode cX12_who 58 = .ok (.ishl, 1) := by decide +kernel
theorem dX12_who_59 : decode cX12_who 59 = .ok (.if_icmp .ge 42, 3) := by decide +kernel
theorem dX12_who_62 : decode cX12_who 62 = .ok (.aload_n 0, 1) := by decide +kernel
theorem dX12_who_63 : decode cX12_who 63 = .ok (.iload 5, 2) := by decide +kernel
theorem dX12_who_65 : decode cX12_who 65 = .ok (.invokevirtual 384, 3) := by decide +kernel
theorem dX12_who_68 : decode cX12_who 68 = .ok (.ifCond .ne 6, 3) := by decide +kernel
theorem dX12_who_71 : decode cX12_who 71 = .ok (.goto 24, 3) := by decide +kernel
theorem dX12_who_74 : decode cX12_who 74 = .ok (.iload_n 2, 1) := by decide +kernel
theorem dX12_who_75 : decode cX12_who 75 = .ok (.ifCond .ne 8, 3) := by decide +kernel
theorem dX12_who_78 : decode cX12_who 78 = .ok (.iload 5, 2) := by decide +kernel
theorem dX12_who_80 : decode cX12_who 80 = .ok (.goto 4, 3) := by decide +kernel
theorem dX12_who_83 : decode cX12_who 83 = .ok (.iload_n 3, 1) := by decide +kernel
theorem dX12_who_84 : decode cX12_who 84 = .ok (.istore_n 3, 1) := by decide +kernel
theorem dX12_who_85 : decode cX12_who 85 = .ok (.iload 4, 2) := by decide +kernel
theorem dX12_who_87 : decode cX12_who 87 = .ok (.iload 5, 2) := by decide +kernel
theorem dX12_who_89 : decode cX12_who 89 = .ok (.iand, 1) := by decide +kernel
theorem dX12_who_90 : decode cX12_who 90 = .ok (.istore 4, 2) := by decide +kernel
theorem dX12_who_92 : decode cX12_who 92 = .ok (.iinc 2 1, 3) := by decide +kernel
theorem dX12_who_95 : decode cX12_who 95 = .ok (.iinc 5 1, 3) := by decide +kernel
theorem dX12_who_98 : decode cX12_who 98 = .ok (.goto (-49), 3) := by decide +kernel
theorem dX12_who_101 : decode cX12_who 101 = .ok (.iload_n 1, 1) := by decide +kernel
theorem dX12_who_102 : decode cX12_who 102 = .ok (.ifCond .ne 7, 3) := by decide +kernel
theorem dX12_who_105 : decode cX12_who 105 = .ok (.iload_n 2, 1) := by decide +kernel
theorem dX12_who_106 : decode cX12_who 106 = .ok (.goto 22, 3) := by decide +kernel
theorem dX12_who_109 : decode cX12_who 109 = .ok (.iload_n 1, 1) := by decide +kernel
theorem dX12_who_110 : decode cX12_who 110 = .ok (.iconst 1, 1) := by decide +kernel
theorem dX12_who_111 : decode cX12_who 111 = .ok (.if_icmp .ne 7, 3) := by decide +kernel
theorem dX12_who_114 : decode cX12_who 114 = .ok (.iload_n 3, 1) := by decide +kernel
theorem dX12_who_115 : decode cX12_who 115 = .ok (.goto 13, 3) := by decide +kernel
theorem dX12_who_118 : decode cX12_who 118 = .ok (.iload_n 2, 1) := by decide +kernel
theorem dX12_who_119 : decode cX12_who 119 = .ok (.ifCond .ne 7, 3) := by decide +kernel
theorem dX12_who_122 : decode cX12_who 122 = .ok (.iconst 0, 1) := by decide +kernel
theorem dX12_who_123 : decode cX12_who 123 = .ok (.goto 5, 3) := by decide +kernel
theorem dX12_who_126 : decode cX12_who 126 = .ok (.iload 4, 2) := by decide +kernel
theorem dX12_who_128 : decode cX12_who 128 = .ok (.ireturn, 1) := by decide +kernel
theorem dX12_work_0 : decode cX12_work 0 = .ok (.aload_n 0, 1) := by decide +kernel
theorem dX12_work_1 : decode cX12_work 1 = .ok (.iconst 0, 1) := by decide +kernel
theorem dX12_work_2 : decode cX12_work 2 = .ok (.putfield 109, 3) := by decide +kernel
theorem dX12_work_5 : decode cX12_work 5 = .ok (.aload_n 0, 1) := by decide +kernel
theorem dX12_work_6 : decode cX12_work 6 = .ok (.iload_n 1, 1) := by decide +kernel
theorem dX12_work_7 : decode cX12_work 7 = .ok (.iconst 0, 1) := by decide +kernel
theorem dX12_work_8 : decode cX12_work 8 = .ok (.aload_n 0, 1) := by decide +kernel
theorem dX12_work_9 : decode cX12_work 9 = .ok (.getfield 112, 3) := by decide +kernel
theorem dX12_work_12 : decode cX12_work 12 = .ok (.invokestatic 143, 3) := by decide +kernel
theorem dX12_work_15 : decode cX12_work 15 = .ok (.ifCond .eq 10, 3) := by decide +kernel
theorem dX12_work_18 : decode cX12_work 18 = .ok (.iload_n 1, 1) := by decide +kernel
theorem dX12_work_19 : decode cX12_work 19 = .ok (.sipush 150, 3) := by decide +kernel
theorem dX12_work_22 : decode cX12_work 22 = .ok (.if_icmp .le 7, 3) := by decide +kernel
theorem dX12_work_25 : decode cX12_work 25 = .ok (.iconst 1, 1) := by decide +kernel
theorem dX12_work_26 : decode cX12_work 26 = .ok (.goto 4, 3) := by decide +kernel
theorem dX12_work_29 : decode cX12_work 29 = .ok (.iconst 0, 1) := by decide +kernel
theorem dX12_work_30 : decode cX12_work 30 = .ok (.iconst 1, 1) := by decide +kernel
theorem dX12_work_31 : decode cX12_work 31 = .ok (.iconst 1, 1) := by decide +kernel
theorem dX12_work_32 : decode cX12_work 32 = .ok (.invokevirtual 191, 3) := by decide +kernel
theorem dX12_work_35 : decode cX12_work 35 = .ok (.ifCond .eq 5, 3) := by decide +kernel
theorem dX12_work_38 : decode cX12_work 38 = .ok (.iconst 0, 1) := by decide +kernel
theorem dX12_work_39 : decode cX12_work 39 = .ok (.ireturn, 1) := by decide +kernel
theorem dX12_work_40 : decode cX12_work 40 = .ok (.aload_n 0, 1) := by decide +kernel
theorem dX12_work_41 : decode cX12_work 41 = .ok (.getfield 214, 3) := by decide +kernel
theorem dX12_work_44 : decode cX12_work 44 = .ok (.bipush 16, 2) := by decide +kernel
theorem dX12_work_46 : decode cX12_work 46 = .ok (.if_icmp .ne 16, 3) := by decide +kernel
theorem dX12_work_49 : decode cX12_work 49 = .ok (.aload_n 0, 1) := by decide +kernel
theorem dX12_work_50 : decode cX12_work 50 = .ok (.iconst 0, 1) := by decide +kernel
theorem dX12_work_51 : decode cX12_work 51 = .ok (.putfield 112, 3) := by decide +kernel
theorem dX12_work_54 : decode cX12_work 54 = .ok (.aload_n 0, 1) := by decide +kernel
theorem dX12_work_55 : decode cX12_work 55 = .ok (.iconst (-1), 1) := by decide +kernel
theorem dX12_work_56 : decode cX12_work 56 = .ok (.putfield 9, 3) := by decide +kernel
theorem dX12_work_59 : decode cX12_work 59 = .ok (.bipush (-20), 2) := by decide +kernel
theorem dX12_work_61 : decode cX12_work 61 = .ok (.ireturn, 1) := by decide +kernel
theorem dX12_work_62 : decode cX12_work 62 = .ok (.aload_n 0, 1) := by decide +kernel
theorem dX12_work_63 : decode cX12_work 63 = .ok (.iload_n 1, 1) := by decide +kernel
theorem dX12_work_64 : decode cX12_work 64 = .ok (.invokevirtual 195, 3) := by decide +kernel
theorem dX12_work_67 : decode cX12_work 67 = .ok (.aload_n 0, 1) := by decide +kernel
theorem dX12_work_68 : decode cX12_work 68 = .ok (.iconst 0, 1) := by decide +kernel
theorem dX12_work_69 : decode cX12_work 69 = .ok (.putfield 273, 3) := by decide +kernel
theorem dX12_work_72 : decode cX12_work 72 = .ok (.aload_n 0, 1) := by decide +kernel
theorem dX12_work_73 : decode cX12_work 73 = .ok (.getfield 125, 3) := by decide +kernel
theorem dX12_work_76 : decode cX12_work 76 = .ok (.ifCond .ne 25, 3) := by decide +kernel
theorem dX12_work_79 : decode cX12_work 79 = .ok (.aload_n 0, 1) := by decide +kernel
theorem dX12_work_80 : decode cX12_work 80 = .ok (.getfield 118, 3) := by decide +kernel
theorem dX12_work_83 : decode cX12_work 83 = .ok (.aload_n 0, 1) := by decide +kernel
theorem dX12_work_84 : decode cX12_work 84 = .ok (.getfield 115, 3) := by decide +kernel
theorem dX12_work_87 : decode cX12_work 87 = .ok (.if_icmp .ge 14, 3) := by decide +kernel
theorem dX12_work_90 : decode cX12_work 90 = .ok (.aload_n 0, 1) := by decide +kernel
theorem dX12_work_91 : decode cX12_work 91 = .ok (.invokevirtual 279, 3) := by decide +kernel
theorem dX12_work_94 : decode cX12_work 94 = .ok (.aload_n 0, 1) := by decide +kernel
theorem dX12_work_95 : decode cX12_work 95 = .ok (.invokevirtual 131, 3) := by decide +kernel
theorem dX12_work_98 : decode cX12_work 98 = .ok (.goto (-26), 3) := by decide +kernel
theorem dX12_work_101 : decode cX12_work 101 = .ok (.aload_n 0, 1) := by decide +kernel
theorem dX12_work_102 : decode cX12_work 102 = .ok (.getfield 125, 3) := by decide +kernel
theorem dX12_work_105 : decode cX12_work 105 = .ok (.ifCond .eq 8, 3) := by decide +kernel
theorem dX12_work_108 : decode cX12_work 108 = .ok (.aload_n 0, 1) := by decide +kernel
theorem dX12_work_109 : decode cX12_work 109 = .ok (.invokevirtual 201, 3) := by decide +kernel
theorem dX12_work_112 : decode cX12_work 112 = .ok (.ireturn, 1) := by decide +kernel
theorem dX12_work_113 : decode cX12_work 113 = .ok (.aload_n 0, 1) := by decide +kernel
theorem dX12_work_114 : decode cX12_work 114 = .ok (.iconst (-1), 1) := by decide +kernel
theorem dX12_work_115 : decode cX12_work 115 = .ok (.putfield 9, 3) := by decide +kernel
theorem dX12_work_118 : decode cX12_work 118 = .ok (.aload_n 0, 1) := by decide +kernel
theorem dX12_work_119 : decode cX12_work 119 = .ok (.getfield 73, 3) := by decide +kernel
theorem dX12_work_122 : decode cX12_work 122 = .ok (.aload_n 0, 1) := by decide +kernel
theorem dX12_work_123 : decode cX12_work 123 = .ok (.getfield 79, 3) := by decide +kernel
theorem dX12_work_126 : decode cX12_work 126 = .ok (.aload_n 0, 1) := by decide +kernel
theorem dX12_work_127 : decode cX12_work 127 = .ok (.getfield 214, 3) := by decide +kernel
theorem dX12_work_130 : decode cX12_work 130 = .ok (.aaload, 1) := by decide +kernel
theorem dX12_work_131 : decode cX12_work 131 = .ok (.invokestatic 342, 3) := by decide +kernel
theorem dX12_work_134 : decode cX12_work 134 = .ok (.aload_n 0, 1) := by decide +kernel
theorem dX12_work_135 : decode cX12_work 135 = .ok (.dup, 1) := by decide +kernel
theorem dX12_work_136 : decode cX12_work 136 = .ok (.getfield 214, 3) := by decide +kernel
theorem dX12_work_139 : decode cX12_work 139 = .ok (.iconst 1, 1) := by decide +kernel
theorem dX12_work_140 : decode cX12_work 140 = .ok (.iadd, 1) := by decide +kernel
theorem dX12_work_141 : decode cX12_work 141 = .ok (.putfield 214, 3) := by decide +kernel
theorem dX12_work_144 : decode cX12_work 144 = .ok (.aload_n 0, 1) := by decide +kernel
theorem dX12_work_145 : decode cX12_work 145 = .ok (.iconst 0, 1) := by decide +kernel
theorem dX12_work_146 : decode cX12_work 146 = .ok (.putfield 329, 3) := by decide +kernel
theorem dX12_work_149 : decode cX12_work 149 = .ok (.aload_n 0, 1) := by decide +kernel
theorem dX12_work_150 : decode cX12_work 150 = .ok (.iconst 0, 1) := by decide +kernel
theorem dX12_work_151 : decode cX12_work 151 = .ok (.putfield 339, 3) := by decide +kernel
theorem dX12_work_154 : decode cX12_work 154 = .ok (.aload_n 0, 1) := by decide +kernel
theorem dX12_work_155 : decode cX12_work 155 = .ok (.iconst 0, 1) := by decide +kernel
theorem dX12_work_156 : decode cX12_work 156 = .ok (.putfield 217, 3) := by decide +kernel
theorem dX12_work_159 : decode cX12_work 159 = .ok (.aload_n 0, 1) := by decide +kernel
theorem dX12_work_160 : decode cX12_work 160 = .ok (.iconst 0, 1) := by decide +kernel
theorem dX12_work_161 : decode cX12_work 161 = .ok (.aload_n 0, 1) := by decide +kernel
theorem dX12_work_162 : decode cX12_work 162 = .ok (.getfield 273, 3) := by decide +kernel
theorem dX12_work_165 : decode cX12_work 165 = .ok (.invokevirtual 332, 3) := by decide +kernel
theorem dX12_work_168 : decode cX12_work 168 = .ok (.aload_n 0, 1) := by decide +kernel
theorem dX12_work_169 : decode cX12_work 169 = .ok (.getfield 339, 3) := by decide +kernel
theorem dX12_work_172 : decode cX12_work 172 = .ok (.ireturn, 1) := by decide +kernel
theorem dX12_would_0 : decode cX12_would 0 = .ok (.aload_n 0, 1) := by decide +kernel
theorem dX12_would_1 : decode cX12_would 1 = .ok (.iconst 0, 1) := by decide +kernel
theorem dX12_would_2 : decode cX12_would 2 = .ok (.putfield 109, 3) := by decide +kernel
theorem dX12_would_5 : decode cX12_would 5 = .ok (.aload_n 0, 1) := by decide +kernel
theorem dX12_would_6 : decode cX12_would 6 = .ok (.iload_n 1, 1) := by decide +kernel
theorem dX12_would_7 : decode cX12_would 7 = .ok (.bipush (-60), 2) := by decide +kernel
theorem dX12_would_9 : decode cX12_would 9 = .ok (.bipush 60, 2) := by decide +kernel
theorem dX12_would_11 : decode cX12_would 11 = .ok (.invokestatic 143, 3) := by decide +kernel
theorem dX12_would_14 : decode cX12_would 14 = .ok (.ifCond .eq 91, 3) := by decide +kernel
theorem dX12_would_17 : decode cX12_would 17 = .ok (.iload_n 2, 1) := by decide +kernel
theorem dX12_would_18 : decode cX12_would 18 = .ok (.iconst 0, 1) := by decide +kernel
theorem dX12_would_19 : decode cX12_would 19 = .ok (.bipush 54, 2) := by decide +kernel
theorem dX12_would_21 : decode cX12_would 21 = .ok (.invokestatic 143, 3) := by decide +kernel
theorem dX12_would_24 : decode cX12_would 24 = .ok (.ifCond .eq 81, 3) := by decide +kernel
theorem dX12_would_27 : decode cX12_would 27 = .ok (.iload_n 3, 1) := by decide +kernel
theorem dX12_would_28 : decode cX12_would 28 = .ok (.iconst 0, 1) := by decide +kernel
theorem dX12_would_29 : decode cX12_would 29 = .ok (.bipush 54, 2) := by decide +kernel
theorem dX12_would_31 : decode cX12_would 31 = .ok (.invokestatic 143, 3) := by decide +kernel
theorem dX12_would_34 : decode cX12_would 34 = .ok (.ifCond .eq 71, 3) := by decide +kernel
theorem dX12_would_37 : decode cX12_would 37 = .ok (.iload 4, 2) := by decide +kernel
theorem dX12_would_39 : decode cX12_would 39 = .ok (.iconst 0, 1) := by decide +kernel
theorem dX12_would_40 : decode cX12_would 40 = .ok (.bipush 6, 2) := by decide +kernel
theorem dX12_would_42 : decode cX12_would 42 = .ok (.invokestatic 143, 3) := by decide +kernel
theorem dX12_would_45 : decode cX12_would 45 = .ok (.ifCond .eq 60, 3) := by decide +kernel
theorem dX12_would_48 : decode cX12_would 48 = .ok (.iload 5, 2) := by decide +kernel
theorem dX12_would_50 : decode cX12_would 50 = .ok (.iconst 0, 1) := by decide +kernel
theorem dX12_would_51 : decode cX12_would 51 = .ok (.bipush 9, 2) := by decide +kernel
theorem dX12_would_53 : decode cX12_would 53 = .ok (.invokestatic 143, 3) := by decide +kernel
theorem dX12_would_56 : decode cX12_would 56 = .ok (.ifCond .eq 49, 3) := by decide +kernel
theorem dX12_would_59 : decode cX12_would 59 = .ok (.iload 6, 2) := by decide +kernel
theorem dX12_would_61 : decode cX12_would 61 = .ok (.iconst 0, 1) := by decide +kernel
theorem dX12_would_62 : decode cX12_would 62 = .ok (.sipush 999, 3) := by decide +kernel
theorem dX12_would_65 : decode cX12_would 65 = .ok (.invokestatic 143, 3) := by decide +kernel
theorem dX12_would_68 : decode cX12_would 68 = .ok (.ifCond .eq 37, 3) := by decide +kernel
theorem dX12_would_71 : decode cX12_would 71 = .ok (.iload 7, 2) := by decide +kernel
theorem dX12_would_73 : decode cX12_would 73 = .ok (.iconst 0, 1) := by decide +kernel
theorem dX12_would_74 : decode cX12_would 74 = .ok (.sipush 500, 3) := by decide +kernel
theorem dX12_would_77 : decode cX12_would 77 = .ok (.invokestatic 143, 3) := by decide +kernel
theorem dX12_would_80 : decode cX12_would 80 = .ok (.ifCond .eq 25, 3) := by decide +kernel
theorem dX12_would_83 : decode cX12_would 83 = .ok (.iload 8, 2) := by decide +kernel
theorem dX12_would_85 : decode cX12_would 85 = .ok (.iconst 0, 1) := by decide +kernel
theorem dX12_would_86 : decode cX12_would 86 = .ok (.bipush 11, 2) := by decide +kernel
theorem dX12_would_88 : decode cX12_would 88 = .ok (.invokestatic 143, 3) := by decide +kernel
theorem dX12_would_91 : decode cX12_would 91 = .ok (.ifCond .eq 14, 3) := by decide +kernel
theorem dX12_would_94 : decode cX12_would 94 = .ok (.iload 9, 2) := by decide +kernel
theorem dX12_would_96 : decode cX12_would 96 = .ok (.iconst 0, 1) := by decide +kernel
theorem dX12_would_97 : decode cX12_would 97 = .ok (.bipush 11, 2) := by decide +kernel
theorem dX12_would_99 : decode cX12_would 99 = .ok (.invokestatic 143, 3) := by decide +kernel
theorem dX12_would_102 : decode cX12_would 102 = .ok (.ifCond .ne 7, 3) := by decide +kernel
theorem dX12_would_105 : decode cX12_would 105 = .ok (.iconst 1, 1) := by decide +kernel
theorem dX12_would_106 : decode cX12_would 106 = .ok (.goto 4, 3) := by decide +kernel
theorem dX12_would_109 : decode cX12_would 109 = .ok (.iconst 0, 1) := by decide +kernel
theorem dX12_would_110 : decode cX12_would 110 = .ok (.iconst 1, 1) := by decide +kernel
theorem dX12_would_111 : decode cX12_would 111 = .ok (.iconst 1, 1) := by decide +kernel
theorem dX12_would_112 : decode cX12_would 112 = .ok (.invokevirtual 191, 3) := by decide +kernel
theorem dX12_would_115 : decode cX12_would 115 = .ok (.ifCond .eq 5, 3) := by decide +kernel
theorem dX12_would_118 : decode cX12_would 118 = .ok (.iconst 0, 1) := by decide +kernel
theorem dX12_would_119 : decode cX12_would 119 = .ok (.ireturn, 1) := by decide +kernel
theorem dX12_would_120 : decode cX12_would 120 = .ok (.aload_n 0, 1) := by decide +kernel
theorem dX12_would_121 : decode cX12_would 121 = .ok (.iload_n 1, 1) := by decide +kernel
theorem dX12_would_122 : decode cX12_would 122 = .ok (.iload_n 2, 1) := by decide +kernel
theorem dX12_would_123 : decode cX12_would 123 = .ok (.iload_n 3, 1) := by decide +kernel
theorem dX12_would_124 : decode cX12_would 124 = .ok (.iload 4, 2) := by decide +kernel
theorem dX12_would_126 : decode cX12_would 126 = .ok (.iload 5, 2) := by decide +kernel
theorem dX12_would_128 : decode cX12_would 128 = .ok (.iload 6, 2) := by decide +kernel
theorem dX12_would_130 : decode cX12_would 130 = .ok (.iload 7, 2) := by decide +kernel
theorem dX12_would_132 : decode cX12_would 132 = .ok (.iload 8, 2) := by decide +kernel
theorem dX12_would_134 : decode cX12_would 134 = .ok (.iload 9, 2) := by decide +kernel
theorem dX12_would_136 : decode cX12_would 136 = .ok (.invokevirtual 289, 3) := by decide +kernel
theorem dX12_would_139 : decode cX12_would 139 = .ok (.ireturn, 1) := by decide +kernel
theorem dX12_year_0 : decode cX12_year 0 = .ok (.aload_n 0, 1) := by decide +kernel
theorem dX12_year_1 : decode cX12_year 1 = .ok (.iconst 0, 1) := by decide +kernel
theorem dX12_year_2 : decode cX12_year 2 = .ok (.putfield 109, 3) := by decide +kernel
theorem dX12_year_5 : decode cX12_year 5 = .ok (.aload_n 0, 1) := by decide +kernel
theorem dX12_year_6 : decode cX12_year 6 = .ok (.iload_n 2, 1) := by decide +kernel
theorem dX12_year_7 : decode cX12_year 7 = .ok (.iload_n 3, 1) := by decide +kernel
theorem dX12_year_8 : decode cX12_year 8 = .ok (.invokestatic 415, 3) := by decide +kernel
theorem dX12_year_11 : decode cX12_year 11 = .ok (.ifCond .eq 13, 3) := by decide +kernel
theorem dX12_year_14 : decode cX12_year 14 = .ok (.iload 4, 2) := by decide +kernel
theorem dX12_year_16 : decode cX12_year 16 = .ok (.iconst 0, 1) := by decide +kernel
theorem dX12_year_17 : decode cX12_year 17 = .ok (.iconst 3, 1) := by decide +kernel
theorem dX12_year_18 : decode cX12_year 18 = .ok (.invokestatic 143, 3) := by decide +kernel
theorem dX12_year_21 : decode cX12_year 21 = .ok (.ifCond .ne 7, 3) := by decide +kernel
theorem dX12_year_24 : decode cX12_year 24 = .ok (.iconst 1, 1) := by decide +kernel
theorem dX12_year_25 : decode cX12_year 25 = .ok (.goto 4, 3) := by decide +kernel
theorem dX12_year_28 : decode cX12_year 28 = .ok (.iconst 0, 1) := by decide +kernel
theorem dX12_year_29 : decode cX12_year 29 = .ok (.iconst 1, 1) := by decide +kernel
theorem dX12_year_30 : decode cX12_year 30 = .ok (.iconst 1, 1) := by decide +kernel
theorem dX12_year_31 : decode cX12_year 31 = .ok (.invokevirtual 191, 3) := by decide +kernel
theorem dX12_year_34 : decode cX12_year 34 = .ok (.ifCond .eq 5, 3) := by decide +kernel
theorem dX12_year_37 : decode cX12_year 37 = .ok (.iconst 0, 1) := by decide +kernel
theorem dX12_year_38 : decode cX12_year 38 = .ok (.ireturn, 1) := by decide +kernel
theorem dX12_year_39 : decode cX12_year 39 = .ok (.aload_n 0, 1) := by decide +kernel
theorem dX12_year_40 : decode cX12_year 40 = .ok (.iload_n 1, 1) := by decide +kernel
theorem dX12_year_41 : decode cX12_year 41 = .ok (.iload_n 2, 1) := by decide +kernel
theorem dX12_year_42 : decode cX12_year 42 = .ok (.iload_n 3, 1) := by decide +kernel
theorem dX12_year_43 : decode cX12_year 43 = .ok (.invokevirtual 418, 3) := by decide +kernel
theorem dX12_year_46 : decode cX12_year 46 = .ok (.iload 4, 2) := by decide +kernel
theorem dX12_year_48 : decode cX12_year 48 = .ok (.tableswitch 51 0 2 #[28, 37, 46], 28) := by decide +kernel
theorem dX12_year_76 : decode cX12_year 76 = .ok (.aload_n 0, 1) := by decide +kernel
theorem dX12_year_77 : decode cX12_year 77 = .ok (.aload_n 0, 1) := by decide +kernel
theorem dX12_year_78 : decode cX12_year 78 = .ok (.getfield 76, 3) := by decide +kernel
theorem dX12_year_81 : decode cX12_year 81 = .ok (.invokevirtual 346, 3) := by decide +kernel
theorem dX12_year_84 : decode cX12_year 84 = .ok (.ireturn, 1) := by decide +kernel
theorem dX12_year_85 : decode cX12_year 85 = .ok (.aload_n 0, 1) := by decide +kernel
theorem dX12_year_86 : decode cX12_year 86 = .ok (.aload_n 0, 1) := by decide +kernel
theorem dX12_year_87 : decode cX12_year 87 = .ok (.getfield 76, 3) := by decide +kernel
theorem dX12_year_90 : decode cX12_year 90 = .ok (.invokevirtual 349, 3) := by decide +kernel
theorem dX12_year_93 : decode cX12_year 93 = .ok (.ireturn, 1) := by decide +kernel
theorem dX12_year_94 : decode cX12_year 94 = .ok (.aload_n 0, 1) := by decide +kernel
theorem dX12_year_95 : decode cX12_year 95 = .ok (.getfield 409, 3) := by decide +kernel
theorem dX12_year_98 : decode cX12_year 98 = .ok (.ireturn, 1) := by decide +kernel
theorem dX12_year_99 : decode cX12_year 99 = .ok (.aload_n 0, 1) := by decide +kernel
theorem dX12_year_100 : decode cX12_year 100 = .ok (.aload_n 0, 1) := by decide +kernel
theorem dX12_year_101 : decode cX12_year 101 = .ok (.getfield 76, 3) := by decide +kernel
theorem dX12_year_104 : decode cX12_year 104 = .ok (.invokevirtual 315, 3) := by decide +kernel
theorem dX12_year_107 : decode cX12_year 107 = .ok (.ireturn, 1) := by decide +kernel
noncomputable def r_X12_thrown (m : Mem) : Int32 :=
  (m 12 0 0)
set_option maxHeartbeats 4000000 in
set_option maxRecDepth 20000 in
theorem ok_X12_thrown (m : Mem) {z : Int32} (h : r_X12_thrown m = z) : Mt yX12_thrown cX12_thrown 1 (some .int) 1 0 0 0 [vR 12 0] m (oI z) m := by
  refine Mt.of (by decide) (Nat.le_of_ble_eq_true rfl) (by decide +kernel) (hhF_ne (by decide)) ?_
  show Xj RX12 cX12_thrown 1 (some .int) 1 0 0 0 0 0 0 [(0, vR 12 0)] [] m (oI z) m
  unfold r_X12_thrown at h
  refine xj_aload_n 0 dX12_thrown_0 rfl ?_
  refine xg_getI (x := (m 12 0 0)) dX12_thrown_1 fl_X12_109 rfl rfl ?_
  subst h
  exact xj_ireturn dX12_thrown_4 rfl (by decide) (by decide)
noncomputable def r_X12_told_j21 (x1 : Int32) (s0 : Int32) (m : Mem) : Option (Int32 × Mem) :=
  bd2 (r_X12_bad s0 1 1 m) fun z4 m3 => (if z4 = true then (some (0, m3)) else (bd2 (r_X12_courseOf 0 m3) fun z8 m7 => (if x1 = 0 then (if inb x1 4 = true then (some ((m7 52 0 x1.toNatClampNeg), m7)) else none) else if x1 = 1 then (if inb x1 4 = true then (some ((m7 52 0 x1.toNatClampNeg), m7)) else none) else if x1 = 2 then (if inb x1 4 = true then (some ((m7 52 0 x1.toNatClampNeg), m7)) else none) else if x1 = 3 then (some ((m7 60 0 110), m7)) else if x1 = 4 then (some ((m7 52 0 3), m7)) else if x1 = 5 then (some ((m7 12 0 42), m7)) else if x1 = 6 then (some (z8, m7)) else if x1 = 7 then (bd2 (r_X12_endOf 0 m7) fun z22 m21 => (some (z22, m21))) else if x1 = 8 then (bd1 (r_X12_believedIn 0 m7) fun z25 => (some (z25, m7))) else if x1 = 9 then (some ((m7 12 0 35), m7)) else (some ((m7 12 0 37), m7)))))
set_option maxHeartbeats 4000000 in
set_option maxRecDepth 20000 in
theorem ok_X12_told_j21 (x1 : Int32) (s0 : Int32) (m : Mem) {z : Int32} {m' : Mem} (h : r_X12_told_j21 x1 s0 m = some (z, m')) : Xj RX12 cX12_told 3 (some .int) 11 241 0 0 0 0 21 [(0, vR 12 0), (1, vI x1)] [vI s0, vR 12 0] m (oI z) m' := by
  unfold r_X12_told_j21 at h
  refine xj_iconst (z := 1) dX12_told_21 (by decide) ?_
  refine xj_iconst (z := 1) dX12_told_22 (by decide) ?_
  obtain ⟨z4, m3, e2, h⟩ := bd2_some h
  refine xc_Vb0 (st := []) (ok_X12_bad s0 1 1 m e2) dX12_told_23 cv_X12_191 rfl rfl (Nat.le_of_ble_eq_true rfl) (by decide) (by decide) (by decide) (by decide) ?_
  refine xj_if_eq (tgt := 31) dX12_told_26 (by decide) (fun c5 => ?_) (fun c5 => ?_)
  · rw [if_neg (b2i_f c5)] at h
    refine xj_aload_n 0 dX12_told_31 rfl ?_
    refine xj_aload_n 0 dX12_told_32 rfl ?_
    refine xg_getR (k' := 60) (i' := 0) dX12_told_33 fl_X12_73 rfl ?_
    obtain ⟨z8, m7, e6, h⟩ := bd2_some h
    refine xc_Vi0 (st := []) (ok_X12_courseOf 0 m3 e6) dX12_told_36 cv_X12_315 rfl rfl (Nat.le_of_ble_eq_true rfl) (by decide) (by decide) (by decide) (by decide) ?_
    refine xj_istore_n (ls' := [(2, vI z8), (0, vR 12 0), (1, vI x1)]) dX12_told_39 rfl (by decide) rfl ?_
    refine xj_iload_n 2 dX12_told_40 rfl ?_
    by_cases c9 : x1 = 0
    · rw [if_pos c9] at h
      refine xj_tableIn (off := 55) (tgt := 96) dX12_told_41 (by rw [c9]; decide) (by rw [c9]; decide) (by rw [c9]; decide) (by decide) ?_
      refine xj_aload_n 1 dX12_told_96 rfl ?_
      refine xg_getR (k' := 52) (i' := 0) dX12_told_97 fl_X12_23 rfl ?_
      refine xj_iload_n 2 dX12_told_100 rfl ?_
      by_cases c10 : inb x1 4 = true
      case neg => rw [if_neg c10] at h; cases h
      rw [if_pos c10] at h
      refine xg_iald (z := (m7 52 0 x1.toNatClampNeg)) (n := x1.toNatClampNeg) dX12_told_101 rfl (by decide) (inb_in c10) rfl rfl ?_
      cases h
      exact xj_ireturn dX12_told_102 rfl (by decide) (by decide)
    rw [if_neg c9] at h
    by_cases c11 : x1 = 1
    · rw [if_pos c11] at h
      refine xj_tableIn (off := 55) (tgt := 96) dX12_told_41 (by rw [c11]; decide) (by rw [c11]; decide) (by rw [c11]; decide) (by decide) ?_
      refine xj_aload_n 1 dX12_told_96 rfl ?_
      refine xg_getR (k' := 52) (i' := 0) dX12_told_97 fl_X12_23 rfl ?_
      refine xj_iload_n 2 dX12_told_100 rfl ?_
      by_cases c12 : inb x1 4 = true
      case neg => rw [if_neg c12] at h; cases h
      rw [if_pos c12] at h
      refine xg_iald (z := (m7 52 0 x1.toNatClampNeg)) (n := x1.toNatClampNeg) dX12_told_101 rfl (by decide) (inb_in c12) rfl rfl ?_
      cases h
      exact xj_ireturn dX12_told_102 rfl (by decide) (by decide)
    rw [if_neg c11] at h
    by_cases c13 : x1 = 2
    · rw [if_pos c13] at h
      refine xj_tableIn (off := 55) (tgt := 96) dX12_told_41 (by rw [c13]; decide) (by rw [c13]; decide) (by rw [c13]; decide) (by decide) ?_
      refine xj_aload_n 1 dX12_told_96 rfl ?_
      refine xg_getR (k' := 52) (i' := 0) dX12_told_97 fl_X12_23 rfl ?_
      refine xj_iload_n 2 dX12_told_100 rfl ?_
      by_cases c14 : inb x1 4 = true
      case neg => rw [if_neg c14] at h; cases h
      rw [if_pos c14] at h
      refine xg_iald (z := (m7 52 0 x1.toNatClampNeg)) (n := x1.toNatClampNeg) dX12_told_101 rfl (by decide) (inb_in c14) rfl rfl ?_
      cases h
      exact xj_ireturn dX12_told_102 rfl (by decide) (by decide)
    rw [if_neg c13] at h
    by_cases c15 : x1 = 3
    · rw [if_pos c15] at h
      refine xj_tableIn (off := 62) (tgt := 103) dX12_told_41 (by rw [c15]; decide) (by rw [c15]; decide) (by rw [c15]; decide) (by decide) ?_
      refine xj_aload_n 1 dX12_told_103 rfl ?_
      refine xg_getR (k' := 60) (i' := 0) dX12_told_104 fl_X12_73 rfl ?_
      refine xj_bipush (z := 110) dX12_told_107 (by decide) ?_
      refine xg_iald (z := (m7 60 0 110)) (n := 110) dX12_told_109 rfl (by decide) (inb_in (by decide)) (by decide) rfl ?_
      cases h
      exact xj_ireturn dX12_told_110 rfl (by decide) (by decide)
    rw [if_neg c15] at h
    by_cases c16 : x1 = 4
    · rw [if_pos c16] at h
      refine xj_tableIn (off := 70) (tgt := 111) dX12_told_41 (by rw [c16]; decide) (by rw [c16]; decide) (by rw [c16]; decide) (by decide) ?_
      refine xj_aload_n 1 dX12_told_111 rfl ?_
      refine xg_getR (k' := 52) (i' := 0) dX12_told_112 fl_X12_23 rfl ?_
      refine xj_iconst (z := 3) dX12_told_115 (by decide) ?_
      refine xg_iald (z := (m7 52 0 3)) (n := 3) dX12_told_116 rfl (by decide) (inb_in (by decide)) (by decide) rfl ?_
      cases h
      exact xj_ireturn dX12_told_117 rfl (by decide) (by decide)
    rw [if_neg c16] at h
    by_cases c17 : x1 = 5
    · rw [if_pos c17] at h
      refine xj_tableIn (off := 77) (tgt := 118) dX12_told_41 (by rw [c17]; decide) (by rw [c17]; decide) (by rw [c17]; decide) (by decide) ?_
      refine xj_aload_n 1 dX12_told_118 rfl ?_
      refine xg_getI (x := (m7 12 0 42)) dX12_told_119 fl_X12_305 rfl rfl ?_
      cases h
      exact xj_ireturn dX12_told_122 rfl (by decide) (by decide)
    rw [if_neg c17] at h
    by_cases c18 : x1 = 6
    · rw [if_pos c18] at h
      refine xj_tableIn (off := 82) (tgt := 123) dX12_told_41 (by rw [c18]; decide) (by rw [c18]; decide) (by rw [c18]; decide) (by decide) ?_
      refine xj_iload_n 0 dX12_told_123 rfl ?_
      cases h
      exact xj_ireturn dX12_told_124 rfl (by decide) (by decide)
    rw [if_neg c18] at h
    by_cases c19 : x1 = 7
    · rw [if_pos c19] at h
      refine xj_tableIn (off := 84) (tgt := 125) dX12_told_41 (by rw [c19]; decide) (by rw [c19]; decide) (by rw [c19]; decide) (by decide) ?_
      refine xj_aload_n 1 dX12_told_125 rfl ?_
      refine xj_aload_n 1 dX12_told_126 rfl ?_
      refine xg_getR (k' := 60) (i' := 0) dX12_told_127 fl_X12_73 rfl ?_
      obtain ⟨z22, m21, e20, h⟩ := bd2_some h
      refine xc_Vi0 (st := []) (ok_X12_endOf 0 m7 e20) dX12_told_130 cv_X12_346 rfl rfl (Nat.le_of_ble_eq_true rfl) (by decide) (by decide) (by decide) (by decide) ?_
      cases h
      exact xj_ireturn dX12_told_133 rfl (by decide) (by decide)
    rw [if_neg c19] at h
    by_cases c23 : x1 = 8
    · rw [if_pos c23] at h
      refine xj_tableIn (off := 93) (tgt := 134) dX12_told_41 (by rw [c23]; decide) (by rw [c23]; decide) (by rw [c23]; decide) (by decide) ?_
      refine xj_aload_n 1 dX12_told_134 rfl ?_
      refine xj_aload_n 1 dX12_told_135 rfl ?_
      refine xg_getR (k' := 60) (i' := 0) dX12_told_136 fl_X12_73 rfl ?_
      obtain ⟨z25, e24, h⟩ := bd1_some h
      refine xc_Vi0 (st := []) (ok_X12_believedIn 0 m7 e24) dX12_told_139 cv_X12_349 rfl rfl (Nat.le_of_ble_eq_true rfl) (by decide) (by decide) (by decide) (by decide) ?_
      cases h
      exact xj_ireturn dX12_told_142 rfl (by decide) (by decide)
    rw [if_neg c23] at h
    by_cases c26 : x1 = 9
    · rw [if_pos c26] at h
      refine xj_tableIn (off := 102) (tgt := 143) dX12_told_41 (by rw [c26]; decide) (by rw [c26]; decide) (by rw [c26]; decide) (by decide) ?_
      refine xj_aload_n 1 dX12_told_143 rfl ?_
      refine xg_getI (x := (m7 12 0 35)) dX12_told_144 fl_X12_211 rfl rfl ?_
      cases h
      exact xj_ireturn dX12_told_147 rfl (by decide) (by decide)
    rw [if_neg c26] at h
    refine xj_tableOut (tgt := 148) dX12_told_41 ?_ (by decide) ?_
    · have nc9 := lv_neT c9 (show (0 : Int32).toInt = 0 by decide)
      have nc11 := lv_neT c11 (show (1 : Int32).toInt = 1 by decide)
      have nc13 := lv_neT c13 (show (2 : Int32).toInt = 2 by decide)
      have nc15 := lv_neT c15 (show (3 : Int32).toInt = 3 by decide)
      have nc16 := lv_neT c16 (show (4 : Int32).toInt = 4 by decide)
      have nc17 := lv_neT c17 (show (5 : Int32).toInt = 5 by decide)
      have nc18 := lv_neT c18 (show (6 : Int32).toInt = 6 by decide)
      have nc19 := lv_neT c19 (show (7 : Int32).toInt = 7 by decide)
      have nc23 := lv_neT c23 (show (8 : Int32).toInt = 8 by decide)
      have nc26 := lv_neT c26 (show (9 : Int32).toInt = 9 by decide)
      omega
    refine xj_aload_n 1 dX12_told_148 rfl ?_
    refine xg_getI (x := (m7 12 0 37)) dX12_told_149 fl_X12_217 rfl rfl ?_
    cases h
    exact xj_ireturn dX12_told_152 rfl (by decide) (by decide)
  · rw [if_pos (b2i_t c5)] at h
    refine xj_iconst (z := 0) dX12_told_29 (by decide) ?_
    cases h
    exact xj_ireturn dX12_told_30 rfl (by decide) (by decide)
noncomputable def r_X12_told (x1 : Int32) (m : Mem) : Option (Int32 × Mem) :=
  if (r_X12_in x1 0 10) = true then (r_X12_told_j21 x1 0 (wr m 12 0 0 0)) else (r_X12_told_j21 x1 1 (wr m 12 0 0 0))
set_option maxHeartbeats 4000000 in
set_option maxRecDepth 20000 in
theorem ok_X12_told (x1 : Int32) (m : Mem) {z : Int32} {m' : Mem} (h : r_X12_told x1 m = some (z, m')) : Mt yX12_told cX12_told 3 (some .int) 11 241 0 0 [vR 12 0, vI x1] m (oI z) m' := by
  refine Mt.of (by decide) (Nat.le_of_ble_eq_true rfl) (by decide +kernel) (hhF_ne (by decide)) ?_
  show Xj RX12 cX12_told 3 (some .int) 11 241 0 0 0 0 0 [(0, vR 12 0), (1, vI x1)] [] m (oI z) m'
  unfold r_X12_told at h
  refine xj_aload_n 0 dX12_told_0 rfl ?_
  refine xj_iconst (z := 0) dX12_told_1 (by decide) ?_
  refine xj_putI dX12_told_2 fw_X12_109 rfl ?_
  refine xj_aload_n 0 dX12_told_5 rfl ?_
  refine xj_iload_n 1 dX12_told_6 rfl ?_
  refine xj_iconst (z := 0) dX12_told_7 (by decide) ?_
  refine xj_bipush (z := 10) dX12_told_8 (by decide) ?_
  refine xc_Sb0 (st := [vR 12 0]) (ok_X12_in x1 0 10 (wr m 12 0 0 0) rfl) dX12_told_10 cs_X12_143 rfl rfl (Nat.le_of_ble_eq_true rfl) (by decide) (by decide) (by decide) (by decide) ?_
  refine xj_if_ne (tgt := 20) dX12_told_13 (by decide) (fun c1 => ?_) (fun c1 => ?_)
  · rw [if_pos (b2i_t c1)] at h
    refine xj_iconst (z := 0) dX12_told_20 (by decide) ?_
    exact ok_X12_told_j21 x1 0 (wr m 12 0 0 0) h 
  · rw [if_neg (b2i_f c1)] at h
    refine xj_iconst (z := 1) dX12_told_16 (by decide) ?_
    refine xj_goto (tgt := 21) dX12_told_17 (by decide) ?_
    exact ok_X12_told_j21 x1 1 (wr m 12 0 0 0) h 
noncomputable def r_X12_undo (m : Mem) : Option (Int32 × Mem) :=
  if (m 12 0 36) = 0 then (some ((-1), (wr m 12 0 0 0))) else (if inb ((m 12 0 36) - 1) 16 = true then (bd1 (r_X12_copies (2 + (((m 12 0 36) - 1).toNatClampNeg)) 0 (wr (wr m 12 0 0 0) 12 0 36 ((m 12 0 36) - 1))) fun m4 => (some ((m4 12 0 36), (wr m4 12 0 37 0)))) else none)
set_option maxHeartbeats 4000000 in
set_option maxRecDepth 20000 in
theorem ok_X12_undo (m : Mem) {z : Int32} {m' : Mem} (h : r_X12_undo m = some (z, m')) : Mt yX12_undo cX12_undo 1 (some .int) 2 22 0 0 [vR 12 0] m (oI z) m' := by
  refine Mt.of (by decide) (Nat.le_of_ble_eq_true rfl) (by decide +kernel) (hhF_ne (by decide)) ?_
  show Xj RX12 cX12_undo 1 (some .int) 2 22 0 0 0 0 0 [(0, vR 12 0)] [] m (oI z) m'
  unfold r_X12_undo at h
  refine xj_aload_n 0 dX12_undo_0 rfl ?_
  refine xj_iconst (z := 0) dX12_undo_1 (by decide) ?_
  refine xj_putI dX12_undo_2 fw_X12_109 rfl ?_
  refine xj_aload_n 0 dX12_undo_5 rfl ?_
  refine xg_getI (x := (m 12 0 36)) dX12_undo_6 fl_X12_214 rfl rfl ?_
  refine xj_if_ne (tgt := 14) dX12_undo_9 (by decide) (fun c1 => ?_) (fun c1 => ?_)
  · rw [if_neg c1] at h
    refine xj_aload_n 0 dX12_undo_14 rfl ?_
    refine xj_dup dX12_undo_15 rfl ?_
    refine xg_getI (x := (m 12 0 36)) dX12_undo_16 fl_X12_214 rfl rfl ?_
    refine xj_iconst (z := 1) dX12_undo_19 (by decide) ?_
    refine xj_isub dX12_undo_20 ?_
    refine xj_putI dX12_undo_21 fw_X12_214 rfl ?_
    refine xj_aload_n 0 dX12_undo_24 rfl ?_
    refine xg_getR (k' := 91) (i' := 0) dX12_undo_25 fl_X12_79 rfl ?_
    refine xj_aload_n 0 dX12_undo_28 rfl ?_
    refine xg_getI (x := ((m 12 0 36) - 1)) dX12_undo_29 fl_X12_214 rfl rfl ?_
    by_cases c2 : inb ((m 12 0 36) - 1) 16 = true
    case neg => rw [if_neg c2] at h; cases h
    rw [if_pos c2] at h
    refine xg_aald (k' := 60) (i' := 2 + (((m 12 0 36) - 1).toNatClampNeg)) (n := ((m 12 0 36) - 1).toNatClampNeg) dX12_undo_32 rfl (by decide) (inb_in c2) rfl rfl ?_
    refine xj_aload_n 0 dX12_undo_33 rfl ?_
    refine xg_getR (k' := 60) (i' := 0) dX12_undo_34 fl_X12_73 rfl ?_
    obtain ⟨m4, e3, h⟩ := bd1_some h
    refine xc_Sv0 (st := []) (ok_X12_copies (2 + (((m 12 0 36) - 1).toNatClampNeg)) 0 (wr (wr m 12 0 0 0) 12 0 36 ((m 12 0 36) - 1)) e3) dX12_undo_37 cs_X12_342 rfl rfl (Nat.le_of_ble_eq_true rfl) (by decide) (by decide) (by decide) (by decide) ?_
    refine xj_aload_n 0 dX12_undo_40 rfl ?_
    refine xj_iconst (z := 0) dX12_undo_41 (by decide) ?_
    refine xj_putI dX12_undo_42 fw_X12_217 rfl ?_
    refine xj_aload_n 0 dX12_undo_45 rfl ?_
    refine xg_getI (x := (m4 12 0 36)) dX12_undo_46 fl_X12_214 rfl rfl ?_
    cases h
    exact xj_ireturn dX12_undo_49 rfl (by decide) (by decide)
  · rw [if_pos c1] at h
    refine xj_iconst (z := (-1)) dX12_undo_12 (by decide) ?_
    cases h
    exact xj_ireturn dX12_undo_13 rfl (by decide) (by decide)
noncomputable def r_X12_uphill_j65_c17 (x2 : Int32) (s0 : Int32) (s1 : Int32) (m : Mem) : Option ((Int32 × Int32) ⊕ (Int32)) :=
  some (Sum.inl ((s1 ||| s0), x2 + 1))
set_option maxHeartbeats 4000000 in
set_option maxRecDepth 20000 in
theorem ok_X12_uphill_j65_c17 (x2 : Int32) (s0 : Int32) (s1 : Int32) (m : Mem) {r : (Int32 × Int32) ⊕ (Int32)} (h : r_X12_uphill_j65_c17 x2 s0 s1 m = some r) {o : Ou} {M' : Mem} (kb : ∀ (x1' : Int32) (x2' : Int32), r = Sum.inl (x1', x2') → Xj RX12 cX12_uphill 3 (some .int) 9 199 0 0 0 0 17 [(0, vR 12 0), (1, vI x1'), (2, vI x2')] [] m o M') (ke : ∀ (x1' : Int32), r = Sum.inr x1' → Xj RX12 cX12_uphill 3 (some .int) 9 199 0 0 0 0 73 [(1, vI x1')] [] m o M') : Xj RX12 cX12_uphill 3 (some .int) 9 199 0 0 0 0 65 [(0, vR 12 0), (2, vI x2)] [vI s0, vI s1] m o M' := by
  unfold r_X12_uphill_j65_c17 at h
  refine xj_ior dX12_uphill_65 ?_
  refine xj_istore_n (ls' := [(1, vI (s1 ||| s0)), (0, vR 12 0), (2, vI x2)]) dX12_uphill_66 rfl (by decide) rfl ?_
  refine xj_iinc (z := x2 + 1) (ls' := [(2, vI (x2 + 1)), (1, vI (s1 ||| s0)), (0, vR 12 0)]) 2 dX12_uphill_67 rfl rfl (by decide) rfl ?_
  refine xj_goto (tgt := 17) dX12_uphill_70 (by decide) ?_
  cases h
  refine xj_pick (ls' := [(0, vR 12 0), (1, vI (s1 ||| s0)), (2, vI (x2 + 1))]) [2, 1, 0] rfl ?_
  exact kb (s1 ||| s0) (x2 + 1) rfl
noncomputable def r_X12_uphill_j64_c17 (x2 : Int32) (s0 : Int32) (m : Mem) : Option ((Int32 × Int32) ⊕ (Int32)) :=
  r_X12_uphill_j65_c17 x2 0 s0 m
set_option maxHeartbeats 4000000 in
set_option maxRecDepth 20000 in
theorem ok_X12_uphill_j64_c17 (x2 : Int32) (s0 : Int32) (m : Mem) {r : (Int32 × Int32) ⊕ (Int32)} (h : r_X12_uphill_j64_c17 x2 s0 m = some r) {o : Ou} {M' : Mem} (kb : ∀ (x1' : Int32) (x2' : Int32), r = Sum.inl (x1', x2') → Xj RX12 cX12_uphill 3 (some .int) 9 199 0 0 0 0 17 [(0, vR 12 0), (1, vI x1'), (2, vI x2')] [] m o M') (ke : ∀ (x1' : Int32), r = Sum.inr x1' → Xj RX12 cX12_uphill 3 (some .int) 9 199 0 0 0 0 73 [(1, vI x1')] [] m o M') : Xj RX12 cX12_uphill 3 (some .int) 9 199 0 0 0 0 64 [(0, vR 12 0), (2, vI x2)] [vI s0] m o M' := by
  unfold r_X12_uphill_j64_c17 at h
  refine xj_iconst (z := 0) dX12_uphill_64 (by decide) ?_
  exact ok_X12_uphill_j65_c17 x2 0 s0 m h kb ke
noncomputable def r_X12_uphill_b17 (m : Mem) (x1 : Int32) (x2 : Int32) : Option ((Int32 × Int32) ⊕ (Int32)) :=
  if (m 52 0 0) ≤ x2 then (some (Sum.inr x1)) else (if inb x2 12 = true then (if (m 57 0 x2.toNatClampNeg) = (-1) then (r_X12_uphill_j64_c17 x2 x1 m) else (if inb (m 57 0 x2.toNatClampNeg) 12 = true then (if (m 54 0 ((m 57 0 x2.toNatClampNeg).toNatClampNeg)) ≤ (m 54 0 x2.toNatClampNeg) then (r_X12_uphill_j64_c17 x2 x1 m) else (r_X12_uphill_j65_c17 x2 (1 <<< (x2 &&& 31)) x1 m)) else none)) else none)
set_option maxHeartbeats 4000000 in
set_option maxRecDepth 20000 in
theorem ok_X12_uphill_b17 (m : Mem) (x1 : Int32) (x2 : Int32) {r : (Int32 × Int32) ⊕ (Int32)} (h : r_X12_uphill_b17 m x1 x2 = some r) {o : Ou} {M' : Mem} (kb : ∀ (x1' : Int32) (x2' : Int32), r = Sum.inl (x1', x2') → Xj RX12 cX12_uphill 3 (some .int) 9 199 0 0 0 0 17 [(0, vR 12 0), (1, vI x1'), (2, vI x2')] [] m o M') (ke : ∀ (x1' : Int32), r = Sum.inr x1' → Xj RX12 cX12_uphill 3 (some .int) 9 199 0 0 0 0 73 [(1, vI x1')] [] m o M') : Xj RX12 cX12_uphill 3 (some .int) 9 199 0 0 0 0 17 [(0, vR 12 0), (1, vI x1), (2, vI x2)] [] m o M' := by
  unfold r_X12_uphill_b17 at h
  refine xj_iload_n 2 dX12_uphill_17 rfl ?_
  refine xj_aload_n 0 dX12_uphill_18 rfl ?_
  refine xg_getR (k' := 52) (i' := 0) dX12_uphill_19 fl_X12_23 rfl ?_
  refine xj_iconst (z := 0) dX12_uphill_22 (by decide) ?_
  refine xg_iald (z := (m 52 0 0)) (n := 0) dX12_uphill_23 rfl (by decide) (inb_in (by decide)) (by decide) rfl ?_
  refine xj_icmp_ge (tgt := 73) dX12_uphill_24 (by decide) (fun c3 => ?_) (fun c3 => ?_)
  · rw [if_pos c3] at h
    cases h
    refine xj_pick (ls' := [(1, vI x1)]) [1] rfl ?_
    exact ke x1 rfl
  · rw [if_neg c3] at h
    refine xj_iload_n 1 dX12_uphill_27 rfl ?_
    refine xj_aload_n 0 dX12_uphill_28 rfl ?_
    refine xg_getR (k' := 57) (i' := 0) dX12_uphill_29 fl_X12_85 rfl ?_
    refine xj_iload_n 2 dX12_uphill_32 rfl ?_
    by_cases c4 : inb x2 12 = true
    case neg => rw [if_neg c4] at h; cases h
    rw [if_pos c4] at h
    refine xg_iald (z := (m 57 0 x2.toNatClampNeg)) (n := x2.toNatClampNeg) dX12_uphill_33 rfl (by decide) (inb_in c4) rfl rfl ?_
    refine xj_iconst (z := (-1)) dX12_uphill_34 (by decide) ?_
    refine xj_icmp_eq (tgt := 64) dX12_uphill_35 (by decide) (fun c5 => ?_) (fun c5 => ?_)
    · rw [if_pos c5] at h
      refine xj_pick (ls' := [(0, vR 12 0), (2, vI x2)]) [0, 2] rfl ?_
      exact ok_X12_uphill_j64_c17 x2 x1 m h kb ke
    · rw [if_neg c5] at h
      refine xj_aload_n 0 dX12_uphill_38 rfl ?_
      refine xg_getR (k' := 54) (i' := 0) dX12_uphill_39 fl_X12_29 rfl ?_
      refine xj_aload_n 0 dX12_uphill_42 rfl ?_
      refine xg_getR (k' := 57) (i' := 0) dX12_uphill_43 fl_X12_85 rfl ?_
      refine xj_iload_n 2 dX12_uphill_46 rfl ?_
      refine xg_iald (z := (m 57 0 x2.toNatClampNeg)) (n := x2.toNatClampNeg) dX12_uphill_47 rfl (by decide) (inb_in c4) rfl rfl ?_
      by_cases c6 : inb (m 57 0 x2.toNatClampNeg) 12 = true
      case neg => rw [if_neg c6] at h; cases h
      rw [if_pos c6] at h
      refine xg_iald (z := (m 54 0 ((m 57 0 x2.toNatClampNeg).toNatClampNeg))) (n := (m 57 0 x2.toNatClampNeg).toNatClampNeg) dX12_uphill_48 rfl (by decide) (inb_in c6) rfl rfl ?_
      refine xj_aload_n 0 dX12_uphill_49 rfl ?_
      refine xg_getR (k' := 54) (i' := 0) dX12_uphill_50 fl_X12_29 rfl ?_
      refine xj_iload_n 2 dX12_uphill_53 rfl ?_
      refine xg_iald (z := (m 54 0 x2.toNatClampNeg)) (n := x2.toNatClampNeg) dX12_uphill_54 rfl (by decide) (inb_in c4) rfl rfl ?_
      refine xj_icmp_le (tgt := 64) dX12_uphill_55 (by decide) (fun c7 => ?_) (fun c7 => ?_)
      · rw [if_pos c7] at h
        refine xj_pick (ls' := [(0, vR 12 0), (2, vI x2)]) [0, 2] rfl ?_
        exact ok_X12_uphill_j64_c17 x2 x1 m h kb ke
      · rw [if_neg c7] at h
        refine xj_iconst (z := 1) dX12_uphill_58 (by decide) ?_
        refine xj_iload_n 2 dX12_uphill_59 rfl ?_
        refine xj_ishl dX12_uphill_60 ?_
        refine xj_goto (tgt := 65) dX12_uphill_61 (by decide) ?_
        refine xj_pick (ls' := [(0, vR 12 0), (2, vI x2)]) [0, 2] rfl ?_
        exact ok_X12_uphill_j65_c17 x2 (1 <<< (x2 &&& 31)) x1 m h kb ke
noncomputable def r_X12_uphill_e73_h17 (x1 : Int32) (m : Mem) : Option (Int32 × Mem) :=
  some (x1, m)
set_option maxHeartbeats 4000000 in
set_option maxRecDepth 20000 in
theorem ok_X12_uphill_e73_h17 (x1 : Int32) (m : Mem) {z : Int32} {m' : Mem} (h : r_X12_uphill_e73_h17 x1 m = some (z, m')) : Xj RX12 cX12_uphill 3 (some .int) 9 199 0 0 0 0 73 [(1, vI x1)] [] m (oI z) m' := by
  unfold r_X12_uphill_e73_h17 at h
  refine xj_iload_n 0 dX12_uphill_73 rfl ?_
  cases h
  exact xj_ireturn dX12_uphill_74 rfl (by decide) (by decide)
noncomputable def r_X12_uphill_l17 (x1 : Int32) (x2 : Int32) (m : Mem) : Option (Int32 × Mem) :=
  bd1 (loopO (fun s => r_X12_uphill_b17 m s.1 s.2) (x1, x2)) (fun e => r_X12_uphill_e73_h17 e m)
set_option maxHeartbeats 4000000 in
set_option maxRecDepth 20000 in
theorem ok_X12_uphill_l17 (x1 : Int32) (x2 : Int32) (m : Mem) {z : Int32} {m' : Mem} (h : r_X12_uphill_l17 x1 x2 m = some (z, m')) : Xj RX12 cX12_uphill 3 (some .int) 9 199 0 0 0 0 17 [(0, vR 12 0), (1, vI x1), (2, vI x2)] [] m (oI z) m' := by
  unfold r_X12_uphill_l17 at h
  obtain ⟨e, e1, h⟩ := bd1_some h
  refine loopO_ok (P := fun s : (Int32 × Int32) => Xj RX12 cX12_uphill 3 (some .int) 9 199 0 0 0 0 17 [(0, vR 12 0), (1, vI s.1), (2, vI s.2)] [] m (oI z) m') (Q := fun e : (Int32) => Xj RX12 cX12_uphill 3 (some .int) 9 199 0 0 0 0 73 [(1, vI e)] [] m (oI z) m') ?_ _ _ e1 ?_
  · intro s r9 h9 hi hx
    exact ok_X12_uphill_b17 m s.1 s.2 h9 (by rintro _ _ rfl; exact hi _ rfl) (by rintro _ rfl; exact hx _ rfl)
  · exact ok_X12_uphill_e73_h17 e m h 
noncomputable def r_X12_uphill (m : Mem) : Option (Int32 × Mem) :=
  bd1 (r_X12_laysNext 0 (wr m 12 0 0 0)) fun m2 => (r_X12_uphill_l17 0 0 m2)
set_option maxHeartbeats 4000000 in
set_option maxRecDepth 20000 in
theorem ok_X12_uphill (m : Mem) {z : Int32} {m' : Mem} (h : r_X12_uphill m = some (z, m')) : Mt yX12_uphill cX12_uphill 3 (some .int) 9 199 0 0 [vR 12 0] m (oI z) m' := by
  refine Mt.of (by decide) (Nat.le_of_ble_eq_true rfl) (by decide +kernel) (hhF_ne (by decide)) ?_
  show Xj RX12 cX12_uphill 3 (some .int) 9 199 0 0 0 0 0 [(0, vR 12 0)] [] m (oI z) m'
  unfold r_X12_uphill at h
  refine xj_aload_n 0 dX12_uphill_0 rfl ?_
  refine xj_iconst (z := 0) dX12_uphill_1 (by decide) ?_
  refine xj_putI dX12_uphill_2 fw_X12_109 rfl ?_
  refine xj_iconst (z := 0) dX12_uphill_5 (by decide) ?_
  refine xj_istore_n (ls' := [(1, vI 0), (0, vR 12 0)]) dX12_uphill_6 rfl (by decide) rfl ?_
  refine xj_aload_n 1 dX12_uphill_7 rfl ?_
  refine xj_aload_n 1 dX12_uphill_8 rfl ?_
  refine xg_getR (k' := 60) (i' := 0) dX12_uphill_9 fl_X12_73 rfl ?_
  obtain ⟨m2, e1, h⟩ := bd1_some h
  refine xc_Vv0 (st := []) (ok_X12_laysNext 0 (wr m 12 0 0 0) e1) dX12_uphill_12 cv_X12_308 rfl rfl (Nat.le_of_ble_eq_true rfl) (by decide) (by decide) (by decide) (by decide) ?_
  refine xj_iconst (z := 0) dX12_uphill_15 (by decide) ?_
  refine xj_istore_n (ls' := [(2, vI 0), (1, vI 0), (0, vR 12 0)]) dX12_uphill_16 rfl (by decide) rfl ?_
  refine xj_pick (ls' := [(0, vR 12 0), (1, vI 0), (2, vI 0)]) [2, 1, 0] rfl ?_
  exact ok_X12_uphill_l17 0 0 m2 h 
noncomputable def r_X12_way_j27 (x1 : Int32) (x2 : Int32) (s0 : Int32) (m : Mem) : Option (Int32 × Mem) :=
  bd2 (r_X12_bad s0 1 0 m) fun z9 m8 => (if z9 = true then (some (0, m8)) else (bd1 (r_X12_laysFar m8) fun m12 => (if inb x1 12 = true then (if inb x2 12 = true then (if (m12 89 x1.toNatClampNeg x2.toNatClampNeg) < 99 then (some ((m12 89 x1.toNatClampNeg x2.toNatClampNeg), m12)) else (some ((-1), m12))) else none) else none)))
set_option maxHeartbeats 4000000 in
set_option maxRecDepth 20000 in
theorem ok_X12_way_j27 (x1 : Int32) (x2 : Int32) (s0 : Int32) (m : Mem) {z : Int32} {m' : Mem} (h : r_X12_way_j27 x1 x2 s0 m = some (z, m')) : Xj RX12 cX12_way 3 (some .int) 3 46 0 0 0 0 27 [(0, vR 12 0), (1, vI x1), (2, vI x2)] [vI s0, vR 12 0] m (oI z) m' := by
  unfold r_X12_way_j27 at h
  refine xj_iconst (z := 1) dX12_way_27 (by decide) ?_
  refine xj_iconst (z := 0) dX12_way_28 (by decide) ?_
  obtain ⟨z9, m8, e7, h⟩ := bd2_some h
  refine xc_Vb0 (st := []) (ok_X12_bad s0 1 0 m e7) dX12_way_29 cv_X12_191 rfl rfl (Nat.le_of_ble_eq_true rfl) (by decide) (by decide) (by decide) (by decide) ?_
  refine xj_if_eq (tgt := 37) dX12_way_32 (by decide) (fun c10 => ?_) (fun c10 => ?_)
  · rw [if_neg (b2i_f c10)] at h
    refine xj_aload_n 0 dX12_way_37 rfl ?_
    obtain ⟨m12, e11, h⟩ := bd1_some h
    refine xc_Vv0 (st := []) (ok_X12_laysFar m8 e11) dX12_way_38 cv_X12_390 rfl rfl (Nat.le_of_ble_eq_true rfl) (by decide) (by decide) (by decide) (by decide) ?_
    refine xj_aload_n 0 dX12_way_41 rfl ?_
    refine xg_getR (k' := 90) (i' := 0) dX12_way_42 fl_X12_100 rfl ?_
    refine xj_iload_n 1 dX12_way_45 rfl ?_
    by_cases c13 : inb x1 12 = true
    case neg => rw [if_neg c13] at h; cases h
    rw [if_pos c13] at h
    refine xg_aald (k' := 89) (i' := x1.toNatClampNeg) (n := x1.toNatClampNeg) dX12_way_46 rfl (by decide) (inb_in c13) rfl rfl ?_
    refine xj_iload_n 2 dX12_way_47 rfl ?_
    by_cases c14 : inb x2 12 = true
    case neg => rw [if_neg c14] at h; cases h
    rw [if_pos c14] at h
    refine xg_iald (z := (m12 89 x1.toNatClampNeg x2.toNatClampNeg)) (n := x2.toNatClampNeg) dX12_way_48 rfl (by decide) (inb_in c14) rfl rfl ?_
    refine xj_bipush (z := 99) dX12_way_49 (by decide) ?_
    refine xj_icmp_lt (tgt := 58) dX12_way_51 (by decide) (fun c15 => ?_) (fun c15 => ?_)
    · rw [if_pos c15] at h
      refine xj_aload_n 0 dX12_way_58 rfl ?_
      refine xg_getR (k' := 90) (i' := 0) dX12_way_59 fl_X12_100 rfl ?_
      refine xj_iload_n 1 dX12_way_62 rfl ?_
      refine xg_aald (k' := 89) (i' := x1.toNatClampNeg) (n := x1.toNatClampNeg) dX12_way_63 rfl (by decide) (inb_in c13) rfl rfl ?_
      refine xj_iload_n 2 dX12_way_64 rfl ?_
      refine xg_iald (z := (m12 89 x1.toNatClampNeg x2.toNatClampNeg)) (n := x2.toNatClampNeg) dX12_way_65 rfl (by decide) (inb_in c14) rfl rfl ?_
      cases h
      exact xj_ireturn dX12_way_66 rfl (by decide) (by decide)
    · rw [if_neg c15] at h
      refine xj_iconst (z := (-1)) dX12_way_54 (by decide) ?_
      refine xj_goto (tgt := 66) dX12_way_55 (by decide) ?_
      cases h
      exact xj_ireturn dX12_way_66 rfl (by decide) (by decide)
  · rw [if_pos (b2i_t c10)] at h
    refine xj_iconst (z := 0) dX12_way_35 (by decide) ?_
    cases h
    exact xj_ireturn dX12_way_36 rfl (by decide) (by decide)
noncomputable def r_X12_way_j22 (x1 : Int32) (x2 : Int32) (m : Mem) : Option (Int32 × Mem) :=
  r_X12_way_j27 x1 x2 1 m
set_option maxHeartbeats 4000000 in
set_option maxRecDepth 20000 in
theorem ok_X12_way_j22 (x1 : Int32) (x2 : Int32) (m : Mem) {z : Int32} {m' : Mem} (h : r_X12_way_j22 x1 x2 m = some (z, m')) : Xj RX12 cX12_way 3 (some .int) 3 46 0 0 0 0 22 [(0, vR 12 0), (1, vI x1), (2, vI x2)] [vR 12 0] m (oI z) m' := by
  unfold r_X12_way_j22 at h
  refine xj_iconst (z := 1) dX12_way_22 (by decide) ?_
  refine xj_goto (tgt := 27) dX12_way_23 (by decide) ?_
  exact ok_X12_way_j27 x1 x2 1 m h 
noncomputable def r_X12_way (x1 : Int32) (x2 : Int32) (m : Mem) : Option (Int32 × Mem) :=
  bd1 (r_X12_isPlace x1 (wr m 12 0 0 0)) fun z2 => (if z2 = true then (bd1 (r_X12_isPlace x2 (wr m 12 0 0 0)) fun z5 => (if z5 = true then (r_X12_way_j27 x1 x2 0 (wr m 12 0 0 0)) else (r_X12_way_j22 x1 x2 (wr m 12 0 0 0)))) else (r_X12_way_j22 x1 x2 (wr m 12 0 0 0)))
set_option maxHeartbeats 4000000 in
set_option maxRecDepth 20000 in
theorem ok_X12_way (x1 : Int32) (x2 : Int32) (m : Mem) {z : Int32} {m' : Mem} (h : r_X12_way x1 x2 m = some (z, m')) : Mt yX12_way cX12_way 3 (some .int) 3 46 0 0 [vR 12 0, vI x1, vI x2] m (oI z) m' := by
  refine Mt.of (by decide) (Nat.le_of_ble_eq_true rfl) (by decide +kernel) (hhF_ne (by decide)) ?_
  show Xj RX12 cX12_way 3 (some .int) 3 46 0 0 0 0 0 [(0, vR 12 0), (1, vI x1), (2, vI x2)] [] m (oI z) m'
  unfold r_X12_way at h
  refine xj_aload_n 0 dX12_way_0 rfl ?_
  refine xj_iconst (z := 0) dX12_way_1 (by decide) ?_
  refine xj_putI dX12_way_2 fw_X12_109 rfl ?_
  refine xj_aload_n 0 dX12_way_5 rfl ?_
  refine xj_aload_n 0 dX12_way_6 rfl ?_
  refine xj_iload_n 1 dX12_way_7 rfl ?_
  obtain ⟨z2, e1, h⟩ := bd1_some h
  refine xc_Vb0 (st := [vR 12 0]) (ok_X12_isPlace x1 (wr m 12 0 0 0) e1) dX12_way_8 cv_X12_352 rfl rfl (Nat.le_of_ble_eq_true rfl) (by decide) (by decide) (by decide) (by decide) ?_
  refine xj_if_eq (tgt := 22) dX12_way_11 (by decide) (fun c3 => ?_) (fun c3 => ?_)
  · rw [if_neg (b2i_f c3)] at h
    exact ok_X12_way_j22 x1 x2 (wr m 12 0 0 0) h 
  · rw [if_pos (b2i_t c3)] at h
    refine xj_aload_n 0 dX12_way_14 rfl ?_
    refine xj_iload_n 2 dX12_way_15 rfl ?_
    obtain ⟨z5, e4, h⟩ := bd1_some h
    refine xc_Vb0 (st := [vR 12 0]) (ok_X12_isPlace x2 (wr m 12 0 0 0) e4) dX12_way_16 cv_X12_352 rfl rfl (Nat.le_of_ble_eq_true rfl) (by decide) (by decide) (by decide) (by decide) ?_
    refine xj_if_ne (tgt := 26) dX12_way_19 (by decide) (fun c6 => ?_) (fun c6 => ?_)
    · rw [if_pos (b2i_t c6)] at h
      refine xj_iconst (z := 0) dX12_way_26 (by decide) ?_
      exact ok_X12_way_j27 x1 x2 0 (wr m 12 0 0 0) h 
    · rw [if_neg (b2i_f c6)] at h
      exact ok_X12_way_j22 x1 x2 (wr m 12 0 0 0) h 
noncomputable def r_X12_who_j95_c49 (x1 : Int32) (x2 : Int32) (x3 : Int32) (x4 : Int32) (x5 : Int32) (m : Mem) : Option ((Int32 × Int32 × Int32 × Int32 × Mem) ⊕ (Int32 × Int32 × Int32 × Mem)) :=
  some (Sum.inl (x2, x3, x4, x5 + 1, m))
set_option maxHeartbeats 4000000 in
set_option maxRecDepth 20000 in
theorem ok_X12_who_j95_c49 (x1 : Int32) (x2 : Int32) (x3 : Int32) (x4 : Int32) (x5 : Int32) (m : Mem) {r : (Int32 × Int32 × Int32 × Int32 × Mem) ⊕ (Int32 × Int32 × Int32 × Mem)} (h : r_X12_who_j95_c49 x1 x2 x3 x4 x5 m = some r) {o : Ou} {M' : Mem} (kb : ∀ (x2' : Int32) (x3' : Int32) (x4' : Int32) (x5' : Int32) (m'' : Mem), r = Sum.inl (x2', x3', x4', x5', m'') → Xj RX12 cX12_who 6 (some .int) 9 199 0 0 0 0 49 [(0, vR 12 0), (1, vI x1), (2, vI x2'), (3, vI x3'), (4, vI x4'), (5, vI x5')] [] m'' o M') (ke : ∀ (x2' : Int32) (x3' : Int32) (x4' : Int32) (m'' : Mem), r = Sum.inr (x2', x3', x4', m'') → Xj RX12 cX12_who 6 (some .int) 9 199 0 0 0 0 101 [(1, vI x1), (2, vI x2'), (3, vI x3'), (4, vI x4')] [] m'' o M') : Xj RX12 cX12_who 6 (some .int) 9 199 0 0 0 0 95 [(0, vR 12 0), (1, vI x1), (2, vI x2), (3, vI x3), (4, vI x4), (5, vI x5)] [] m o M' := by
  unfold r_X12_who_j95_c49 at h
  refine xj_iinc (z := x5 + 1) (ls' := [(5, vI (x5 + 1)), (0, vR 12 0), (1, vI x1), (2, vI x2), (3, vI x3), (4, vI x4)]) 5 dX12_who_95 rfl rfl (by decide) rfl ?_
  refine xj_goto (tgt := 49) dX12_who_98 (by decide) ?_
  cases h
  refine xj_pick (ls' := [(0, vR 12 0), (1, vI x1), (2, vI x2), (3, vI x3), (4, vI x4), (5, vI (x5 + 1))]) [1, 2, 3, 4, 5, 0] rfl ?_
  exact kb x2 x3 x4 (x5 + 1) m rfl
noncomputable def r_X12_who_j84_c49 (x1 : Int32) (x2 : Int32) (x4 : Int32) (x5 : Int32) (s0 : Int32) (m : Mem) : Option ((Int32 × Int32 × Int32 × Int32 × Mem) ⊕ (Int32 × Int32 × Int32 × Mem)) :=
  r_X12_who_j95_c49 x1 (x2 + 1) s0 (x4 &&& x5) x5 m
set_option maxHeartbeats 4000000 in
set_option maxRecDepth 20000 in
theorem ok_X12_who_j84_c49 (x1 : Int32) (x2 : Int32) (x4 : Int32) (x5 : Int32) (s0 : Int32) (m : Mem) {r : (Int32 × Int32 × Int32 × Int32 × Mem) ⊕ (Int32 × Int32 × Int32 × Mem)} (h : r_X12_who_j84_c49 x1 x2 x4 x5 s0 m = some r) {o : Ou} {M' : Mem} (kb : ∀ (x2' : Int32) (x3' : Int32) (x4' : Int32) (x5' : Int32) (m'' : Mem), r = Sum.inl (x2', x3', x4', x5', m'') → Xj RX12 cX12_who 6 (some .int) 9 199 0 0 0 0 49 [(0, vR 12 0), (1, vI x1), (2, vI x2'), (3, vI x3'), (4, vI x4'), (5, vI x5')] [] m'' o M') (ke : ∀ (x2' : Int32) (x3' : Int32) (x4' : Int32) (m'' : Mem), r = Sum.inr (x2', x3', x4', m'') → Xj RX12 cX12_who 6 (some .int) 9 199 0 0 0 0 101 [(1, vI x1), (2, vI x2'), (3, vI x3'), (4, vI x4')] [] m'' o M') : Xj RX12 cX12_who 6 (some .int) 9 199 0 0 0 0 84 [(0, vR 12 0), (1, vI x1), (2, vI x2), (4, vI x4), (5, vI x5)] [vI s0] m o M' := by
  unfold r_X12_who_j84_c49 at h
  refine xj_istore_n (ls' := [(3, vI s0), (0, vR 12 0), (1, vI x1), (2, vI x2), (4, vI x4), (5, vI x5)]) dX12_who_84 rfl (by decide) rfl ?_
  refine xj_iload 4 dX12_who_85 rfl ?_
  refine xj_iload 5 dX12_who_87 rfl ?_
  refine xj_iand dX12_who_89 ?_
  refine xj_istore (ls' := [(4, vI (x4 &&& x5)), (3, vI s0), (0, vR 12 0), (1, vI x1), (2, vI x2), (5, vI x5)]) dX12_who_90 (by decide) rfl ?_
  refine xj_iinc (z := x2 + 1) (ls' := [(2, vI (x2 + 1)), (4, vI (x4 &&& x5)), (3, vI s0), (0, vR 12 0), (1, vI x1), (5, vI x5)]) 4 dX12_who_92 rfl rfl (by decide) rfl ?_
  refine xj_pick (ls' := [(0, vR 12 0), (1, vI x1), (2, vI (x2 + 1)), (3, vI s0), (4, vI (x4 &&& x5)), (5, vI x5)]) [3, 4, 0, 2, 1, 5] rfl ?_
  exact ok_X12_who_j95_c49 x1 (x2 + 1) s0 (x4 &&& x5) x5 m h kb ke
noncomputable def r_X12_who_b49 (x1 : Int32) (x2 : Int32) (x3 : Int32) (x4 : Int32) (x5 : Int32) (m : Mem) : Option ((Int32 × Int32 × Int32 × Int32 × Mem) ⊕ (Int32 × Int32 × Int32 × Mem)) :=
  if (1 <<< ((m 52 0 2) &&& 31)) ≤ x5 then (some (Sum.inr (x2, x3, x4, m))) else (bd2 (r_X12_isForgotten x5 m) fun z9 m8 => (if z9 = true then (if x2 = 0 then (r_X12_who_j84_c49 x1 x2 x4 x5 x5 m8) else (r_X12_who_j84_c49 x1 x2 x4 x5 x3 m8)) else (r_X12_who_j95_c49 x1 x2 x3 x4 x5 m8)))
set_option maxHeartbeats 4000000 in
set_option maxRecDepth 20000 in
theorem ok_X12_who_b49 (x1 : Int32) (x2 : Int32) (x3 : Int32) (x4 : Int32) (x5 : Int32) (m : Mem) {r : (Int32 × Int32 × Int32 × Int32 × Mem) ⊕ (Int32 × Int32 × Int32 × Mem)} (h : r_X12_who_b49 x1 x2 x3 x4 x5 m = some r) {o : Ou} {M' : Mem} (kb : ∀ (x2' : Int32) (x3' : Int32) (x4' : Int32) (x5' : Int32) (m'' : Mem), r = Sum.inl (x2', x3', x4', x5', m'') → Xj RX12 cX12_who 6 (some .int) 9 199 0 0 0 0 49 [(0, vR 12 0), (1, vI x1), (2, vI x2'), (3, vI x3'), (4, vI x4'), (5, vI x5')] [] m'' o M') (ke : ∀ (x2' : Int32) (x3' : Int32) (x4' : Int32) (m'' : Mem), r = Sum.inr (x2', x3', x4', m'') → Xj RX12 cX12_who 6 (some .int) 9 199 0 0 0 0 101 [(1, vI x1), (2, vI x2'), (3, vI x3'), (4, vI x4')] [] m'' o M') : Xj RX12 cX12_who 6 (some .int) 9 199 0 0 0 0 49 [(0, vR 12 0), (1, vI x1), (2, vI x2), (3, vI x3), (4, vI x4), (5, vI x5)] [] m o M' := by
  unfold r_X12_who_b49 at h
  refine xj_iload 5 dX12_who_49 rfl ?_
  refine xj_iconst (z := 1) dX12_who_51 (by decide) ?_
  refine xj_aload_n 0 dX12_who_52 rfl ?_
  refine xg_getR (k' := 52) (i' := 0) dX12_who_53 fl_X12_23 rfl ?_
  refine xj_iconst (z := 2) dX12_who_56 (by decide) ?_
  refine xg_iald (z := (m 52 0 2)) (n := 2) dX12_who_57 rfl (by decide) (inb_in (by decide)) (by decide) rfl ?_
  refine xj_ishl dX12_who_58 ?_
  refine xj_icmp_ge (tgt := 101) dX12_who_59 (by decide) (fun c6 => ?_) (fun c6 => ?_)
  · rw [if_pos c6] at h
    cases h
    refine xj_pick (ls' := [(1, vI x1), (2, vI x2), (3, vI x3), (4, vI x4)]) [1, 2, 3, 4] rfl ?_
    exact ke x2 x3 x4 m rfl
  · rw [if_neg c6] at h
    refine xj_aload_n 0 dX12_who_62 rfl ?_
    refine xj_iload 5 dX12_who_63 rfl ?_
    obtain ⟨z9, m8, e7, h⟩ := bd2_some h
    refine xc_Vb0 (st := []) (ok_X12_isForgotten x5 m e7) dX12_who_65 cv_X12_384 rfl rfl (Nat.le_of_ble_eq_true rfl) (by decide) (by decide) (by decide) (by decide) ?_
    refine xj_if_ne (tgt := 74) dX12_who_68 (by decide) (fun c10 => ?_) (fun c10 => ?_)
    · rw [if_pos (b2i_t c10)] at h
      refine xj_iload_n 2 dX12_who_74 rfl ?_
      refine xj_if_ne (tgt := 83) dX12_who_75 (by decide) (fun c11 => ?_) (fun c11 => ?_)
      · rw [if_neg c11] at h
        refine xj_iload_n 3 dX12_who_83 rfl ?_
        refine xj_pick (ls' := [(0, vR 12 0), (1, vI x1), (2, vI x2), (4, vI x4), (5, vI x5)]) [0, 1, 2, 4, 5] rfl ?_
        exact ok_X12_who_j84_c49 x1 x2 x4 x5 x3 m8 h kb ke
      · rw [if_pos c11] at h
        refine xj_iload 5 dX12_who_78 rfl ?_
        refine xj_goto (tgt := 84) dX12_who_80 (by decide) ?_
        refine xj_pick (ls' := [(0, vR 12 0), (1, vI x1), (2, vI x2), (4, vI x4), (5, vI x5)]) [0, 1, 2, 4, 5] rfl ?_
        exact ok_X12_who_j84_c49 x1 x2 x4 x5 x5 m8 h kb ke
    · rw [if_neg (b2i_f c10)] at h
      refine xj_goto (tgt := 95) dX12_who_71 (by decide) ?_
      exact ok_X12_who_j95_c49 x1 x2 x3 x4 x5 m8 h kb ke
noncomputable def r_X12_who_e101_h49 (x1 : Int32) (x2 : Int32) (x3 : Int32) (x4 : Int32) (m : Mem) : Option (Int32 × Mem) :=
  if x1 = 0 then (some (x2, m)) else (if x1 = 1 then (some (x3, m)) else (if x2 = 0 then (some (0, m)) else (some (x4, m))))
set_option maxHeartbeats 4000000 in
set_option maxRecDepth 20000 in
theorem ok_X12_who_e101_h49 (x1 : Int32) (x2 : Int32) (x3 : Int32) (x4 : Int32) (m : Mem) {z : Int32} {m' : Mem} (h : r_X12_who_e101_h49 x1 x2 x3 x4 m = some (z, m')) : Xj RX12 cX12_who 6 (some .int) 9 199 0 0 0 0 101 [(1, vI x1), (2, vI x2), (3, vI x3), (4, vI x4)] [] m (oI z) m' := by
  unfold r_X12_who_e101_h49 at h
  refine xj_iload_n 0 dX12_who_101 rfl ?_
  refine xj_if_ne (tgt := 109) dX12_who_102 (by decide) (fun c12 => ?_) (fun c12 => ?_)
  · rw [if_neg c12] at h
    refine xj_iload_n 0 dX12_who_109 rfl ?_
    refine xj_iconst (z := 1) dX12_who_110 (by decide) ?_
    refine xj_icmp_ne (tgt := 118) dX12_who_111 (by decide) (fun c13 => ?_) (fun c13 => ?_)
    · rw [if_neg c13] at h
      refine xj_iload_n 1 dX12_who_118 rfl ?_
      refine xj_if_ne (tgt := 126) dX12_who_119 (by decide) (fun c14 => ?_) (fun c14 => ?_)
      · rw [if_neg c14] at h
        refine xj_iload 3 dX12_who_126 rfl ?_
        cases h
        exact xj_ireturn dX12_who_128 rfl (by decide) (by decide)
      · rw [if_pos c14] at h
        refine xj_iconst (z := 0) dX12_who_122 (by decide) ?_
        refine xj_goto (tgt := 128) dX12_who_123 (by decide) ?_
        cases h
        exact xj_ireturn dX12_who_128 rfl (by decide) (by decide)
    · rw [if_pos c13] at h
      refine xj_iload_n 2 dX12_who_114 rfl ?_
      refine xj_goto (tgt := 128) dX12_who_115 (by decide) ?_
      cases h
      exact xj_ireturn dX12_who_128 rfl (by decide) (by decide)
  · rw [if_pos c12] at h
    refine xj_iload_n 1 dX12_who_105 rfl ?_
    refine xj_goto (tgt := 128) dX12_who_106 (by decide) ?_
    cases h
    exact xj_ireturn dX12_who_128 rfl (by decide) (by decide)
noncomputable def r_X12_who_l49 (x1 : Int32) (x2 : Int32) (x3 : Int32) (x4 : Int32) (x5 : Int32) (m : Mem) : Option (Int32 × Mem) :=
  bd1 (loopO (fun s => r_X12_who_b49 x1 s.1 s.2.1 s.2.2.1 s.2.2.2.1 s.2.2.2.2) (x2, x3, x4, x5, m)) (fun e => r_X12_who_e101_h49 x1 e.1 e.2.1 e.2.2.1 e.2.2.2)
set_option maxHeartbeats 4000000 in
set_option maxRecDepth 20000 in
theorem ok_X12_who_l49 (x1 : Int32) (x2 : Int32) (x3 : Int32) (x4 : Int32) (x5 : Int32) (m : Mem) {z : Int32} {m' : Mem} (h : r_X12_who_l49 x1 x2 x3 x4 x5 m = some (z, m')) : Xj RX12 cX12_who 6 (some .int) 9 199 0 0 0 0 49 [(0, vR 12 0), (1, vI x1), (2, vI x2), (3, vI x3), (4, vI x4), (5, vI x5)] [] m (oI z) m' := by
  unfold r_X12_who_l49 at h
  obtain ⟨e, e1, h⟩ := bd1_some h
  refine loopO_ok (P := fun s : (Int32 × Int32 × Int32 × Int32 × Mem) => Xj RX12 cX12_who 6 (some .int) 9 199 0 0 0 0 49 [(0, vR 12 0), (1, vI x1), (2, vI s.1), (3, vI s.2.1), (4, vI s.2.2.1), (5, vI s.2.2.2.1)] [] s.2.2.2.2 (oI z) m') (Q := fun e : (Int32 × Int32 × Int32 × Mem) => Xj RX12 cX12_who 6 (some .int) 9 199 0 0 0 0 101 [(1, vI x1), (2, vI e.1), (3, vI e.2.1), (4, vI e.2.2.1)] [] e.2.2.2 (oI z) m') ?_ _ _ e1 ?_
  · intro s r9 h9 hi hx
    exact ok_X12_who_b49 x1 s.1 s.2.1 s.2.2.1 s.2.2.2.1 s.2.2.2.2 h9 (by rintro _ _ _ _ _ rfl; exact hi _ rfl) (by rintro _ _ _ _ rfl; exact hx _ rfl)
  · exact ok_X12_who_e101_h49 x1 e.1 e.2.1 e.2.2.1 e.2.2.2 h 
noncomputable def r_X12_who_j20 (x1 : Int32) (s0 : Int32) (m : Mem) : Option (Int32 × Mem) :=
  bd2 (r_X12_bad s0 1 1 m) fun z4 m3 => (if z4 = true then (some (0, m3)) else (r_X12_who_l49 x1 0 (-1) ((1 <<< ((m3 52 0 2) &&& 31)) - 1) 0 m3))
set_option maxHeartbeats 4000000 in
set_option maxRecDepth 20000 in
theorem ok_X12_who_j20 (x1 : Int32) (s0 : Int32) (m : Mem) {z : Int32} {m' : Mem} (h : r_X12_who_j20 x1 s0 m = some (z, m')) : Xj RX12 cX12_who 6 (some .int) 9 199 0 0 0 0 20 [(0, vR 12 0), (1, vI x1)] [vI s0, vR 12 0] m (oI z) m' := by
  unfold r_X12_who_j20 at h
  refine xj_iconst (z := 1) dX12_who_20 (by decide) ?_
  refine xj_iconst (z := 1) dX12_who_21 (by decide) ?_
  obtain ⟨z4, m3, e2, h⟩ := bd2_some h
  refine xc_Vb0 (st := []) (ok_X12_bad s0 1 1 m e2) dX12_who_22 cv_X12_191 rfl rfl (Nat.le_of_ble_eq_true rfl) (by decide) (by decide) (by decide) (by decide) ?_
  refine xj_if_eq (tgt := 30) dX12_who_25 (by decide) (fun c5 => ?_) (fun c5 => ?_)
  · rw [if_neg (b2i_f c5)] at h
    refine xj_iconst (z := 0) dX12_who_30 (by decide) ?_
    refine xj_istore_n (ls' := [(2, vI 0), (0, vR 12 0), (1, vI x1)]) dX12_who_31 rfl (by decide) rfl ?_
    refine xj_iconst (z := (-1)) dX12_who_32 (by decide) ?_
    refine xj_istore_n (ls' := [(3, vI (-1)), (2, vI 0), (0, vR 12 0), (1, vI x1)]) dX12_who_33 rfl (by decide) rfl ?_
    refine xj_iconst (z := 1) dX12_who_34 (by decide) ?_
    refine xj_aload_n 2 dX12_who_35 rfl ?_
    refine xg_getR (k' := 52) (i' := 0) dX12_who_36 fl_X12_23 rfl ?_
    refine xj_iconst (z := 2) dX12_who_39 (by decide) ?_
    refine xg_iald (z := (m3 52 0 2)) (n := 2) dX12_who_40 rfl (by decide) (inb_in (by decide)) (by decide) rfl ?_
    refine xj_ishl dX12_who_41 ?_
    refine xj_iconst (z := 1) dX12_who_42 (by decide) ?_
    refine xj_isub dX12_who_43 ?_
    refine xj_istore (ls' := [(4, vI ((1 <<< ((m3 52 0 2) &&& 31)) - 1)), (3, vI (-1)), (2, vI 0), (0, vR 12 0), (1, vI x1)]) dX12_who_44 (by decide) rfl ?_
    refine xj_iconst (z := 0) dX12_who_46 (by decide) ?_
    refine xj_istore (ls' := [(5, vI 0), (4, vI ((1 <<< ((m3 52 0 2) &&& 31)) - 1)), (3, vI (-1)), (2, vI 0), (0, vR 12 0), (1, vI x1)]) dX12_who_47 (by decide) rfl ?_
    refine xj_pick (ls' := [(0, vR 12 0), (1, vI x1), (2, vI 0), (3, vI (-1)), (4, vI ((1 <<< ((m3 52 0 2) &&& 31)) - 1)), (5, vI 0)]) [4, 5, 3, 2, 1, 0] rfl ?_
    exact ok_X12_who_l49 x1 0 (-1) ((1 <<< ((m3 52 0 2) &&& 31)) - 1) 0 m3 h 
  · rw [if_pos (b2i_t c5)] at h
    refine xj_iconst (z := 0) dX12_who_28 (by decide) ?_
    cases h
    exact xj_ireturn dX12_who_29 rfl (by decide) (by decide)
noncomputable def r_X12_who (x1 : Int32) (m : Mem) : Option (Int32 × Mem) :=
  if (r_X12_in x1 0 2) = true then (r_X12_who_j20 x1 0 (wr m 12 0 0 0)) else (r_X12_who_j20 x1 1 (wr m 12 0 0 0))
set_option maxHeartbeats 4000000 in
set_option maxRecDepth 20000 in
theorem ok_X12_who (x1 : Int32) (m : Mem) {z : Int32} {m' : Mem} (h : r_X12_who x1 m = some (z, m')) : Mt yX12_who cX12_who 6 (some .int) 9 199 0 0 [vR 12 0, vI x1] m (oI z) m' := by
  refine Mt.of (by decide) (Nat.le_of_ble_eq_true rfl) (by decide +kernel) (hhF_ne (by decide)) ?_
  show Xj RX12 cX12_who 6 (some .int) 9 199 0 0 0 0 0 [(0, vR 12 0), (1, vI x1)] [] m (oI z) m'
  unfold r_X12_who at h
  refine xj_aload_n 0 dX12_who_0 rfl ?_
  refine xj_iconst (z := 0) dX12_who_1 (by decide) ?_
  refine xj_putI dX12_who_2 fw_X12_109 rfl ?_
  refine xj_aload_n 0 dX12_who_5 rfl ?_
  refine xj_iload_n 1 dX12_who_6 rfl ?_
  refine xj_iconst (z := 0) dX12_who_7 (by decide) ?_
  refine xj_iconst (z := 2) dX12_who_8 (by decide) ?_
  refine xc_Sb0 (st := [vR 12 0]) (ok_X12_in x1 0 2 (wr m 12 0 0 0) rfl) dX12_who_9 cs_X12_143 rfl rfl (Nat.le_of_ble_eq_true rfl) (by decide) (by decide) (by decide) (by decide) ?_
  refine xj_if_ne (tgt := 19) dX12_who_12 (by decide) (fun c1 => ?_) (fun c1 => ?_)
  · rw [if_pos (b2i_t c1)] at h
    refine xj_iconst (z := 0) dX12_who_19 (by decide) ?_
    exact ok_X12_who_j20 x1 0 (wr m 12 0 0 0) h 
  · rw [if_neg (b2i_f c1)] at h
    refine xj_iconst (z := 1) dX12_who_15 (by decide) ?_
    refine xj_goto (tgt := 20) dX12_who_16 (by decide) ?_
    exact ok_X12_who_j20 x1 1 (wr m 12 0 0 0) h 
noncomputable def r_X12_work_b72 (m : Mem) : Option ((Mem) ⊕ (Mem)) :=
  if (m 12 0 5) = 0 then (if (m 12 0 2) ≤ (m 12 0 4) then (some (Sum.inr m)) else (bd1 (r_X12_readsStep_t m) fun m13 => (bd1 (r_X12_blanks m13) fun m15 => (some (Sum.inl m15))))) else (some (Sum.inr m))
set_option maxHeartbeats 4000000 in
set_option maxRecDepth 20000 in
theorem ok_X12_work_b72 (m : Mem) {r : (Mem) ⊕ (Mem)} (h : r_X12_work_b72 m = some r) {o : Ou} {M' : Mem} (kb : ∀ (m'' : Mem), r = Sum.inl m'' → Xj RX12 cX12_work 2 (some .int) 22 510 0 0 0 0 72 [(0, vR 12 0)] [] m'' o M') (ke : ∀ (m'' : Mem), r = Sum.inr m'' → Xj RX12 cX12_work 2 (some .int) 22 510 0 0 0 0 101 [(0, vR 12 0)] [] m'' o M') : Xj RX12 cX12_work 2 (some .int) 22 510 0 0 0 0 72 [(0, vR 12 0)] [] m o M' := by
  unfold r_X12_work_b72 at h
  refine xj_aload_n 0 dX12_work_72 rfl ?_
  refine xg_getI (x := (m 12 0 5)) dX12_work_73 fl_X12_125 rfl rfl ?_
  refine xj_if_ne (tgt := 101) dX12_work_76 (by decide) (fun c10 => ?_) (fun c10 => ?_)
  · rw [if_neg c10] at h
    cases h
    exact ke m rfl
  · rw [if_pos c10] at h
    refine xj_aload_n 0 dX12_work_79 rfl ?_
    refine xg_getI (x := (m 12 0 4)) dX12_work_80 fl_X12_118 rfl rfl ?_
    refine xj_aload_n 0 dX12_work_83 rfl ?_
    refine xg_getI (x := (m 12 0 2)) dX12_work_84 fl_X12_115 rfl rfl ?_
    refine xj_icmp_ge (tgt := 101) dX12_work_87 (by decide) (fun c11 => ?_) (fun c11 => ?_)
    · rw [if_pos c11] at h
      cases h
      exact ke m rfl
    · rw [if_neg c11] at h
      refine xj_aload_n 0 dX12_work_90 rfl ?_
      obtain ⟨m13, e12, h⟩ := bd1_some h
      refine xc_Vv0 (st := []) (ok_X12_readsStep_t m e12) dX12_work_91 cv_X12_279 rfl rfl (Nat.le_of_ble_eq_true rfl) (by decide) (by decide) (by decide) (by decide) ?_
      refine xj_aload_n 0 dX12_work_94 rfl ?_
      obtain ⟨m15, e14, h⟩ := bd1_some h
      refine xc_Vv0 (st := []) (ok_X12_blanks m13 e14) dX12_work_95 cv_X12_131 rfl rfl (Nat.le_of_ble_eq_true rfl) (by decide) (by decide) (by decide) (by decide) ?_
      refine xj_goto (tgt := 72) dX12_work_98 (by decide) ?_
      cases h
      exact kb m15 rfl
noncomputable def r_X12_work_j101 (m : Mem) : Option (Int32 × Mem) :=
  if (m 12 0 5) = 0 then (if inb (m 12 0 36) 16 = true then (bd1 (r_X12_copies 0 (2 + ((m 12 0 36).toNatClampNeg)) (wr m 12 0 3 (-1))) fun m19 => (bd1 (r_X12_goes_t 0 (m19 12 0 30) (wr (wr (wr (wr m19 12 0 36 ((m19 12 0 36) + 1)) 12 0 43 0) 12 0 44 0) 12 0 37 0)) fun m21 => (some ((m21 12 0 44), m21)))) else none) else (bd2 (r_X12_ends m) fun z24 m23 => (some (z24, m23)))
set_option maxHeartbeats 4000000 in
set_option maxRecDepth 20000 in
theorem ok_X12_work_j101 (m : Mem) {z : Int32} {m' : Mem} (h : r_X12_work_j101 m = some (z, m')) : Xj RX12 cX12_work 2 (some .int) 22 510 0 0 0 0 101 [(0, vR 12 0)] [] m (oI z) m' := by
  unfold r_X12_work_j101 at h
  refine xj_aload_n 0 dX12_work_101 rfl ?_
  refine xg_getI (x := (m 12 0 5)) dX12_work_102 fl_X12_125 rfl rfl ?_
  refine xj_if_eq (tgt := 113) dX12_work_105 (by decide) (fun c16 => ?_) (fun c16 => ?_)
  · rw [if_pos c16] at h
    refine xj_aload_n 0 dX12_work_113 rfl ?_
    refine xj_iconst (z := (-1)) dX12_work_114 (by decide) ?_
    refine xj_putI dX12_work_115 fw_X12_9 rfl ?_
    refine xj_aload_n 0 dX12_work_118 rfl ?_
    refine xg_getR (k' := 60) (i' := 0) dX12_work_119 fl_X12_73 rfl ?_
    refine xj_aload_n 0 dX12_work_122 rfl ?_
    refine xg_getR (k' := 91) (i' := 0) dX12_work_123 fl_X12_79 rfl ?_
    refine xj_aload_n 0 dX12_work_126 rfl ?_
    refine xg_getI (x := (m 12 0 36)) dX12_work_127 fl_X12_214 rfl rfl ?_
    by_cases c17 : inb (m 12 0 36) 16 = true
    case neg => rw [if_neg c17] at h; cases h
    rw [if_pos c17] at h
    refine xg_aald (k' := 60) (i' := 2 + ((m 12 0 36).toNatClampNeg)) (n := (m 12 0 36).toNatClampNeg) dX12_work_130 rfl (by decide) (inb_in c17) rfl rfl ?_
    obtain ⟨m19, e18, h⟩ := bd1_some h
    refine xc_Sv0 (st := []) (ok_X12_copies 0 (2 + ((m 12 0 36).toNatClampNeg)) (wr m 12 0 3 (-1)) e18) dX12_work_131 cs_X12_342 rfl rfl (Nat.le_of_ble_eq_true rfl) (by decide) (by decide) (by decide) (by decide) ?_
    refine xj_aload_n 0 dX12_work_134 rfl ?_
    refine xj_dup dX12_work_135 rfl ?_
    refine xg_getI (x := (m19 12 0 36)) dX12_work_136 fl_X12_214 rfl rfl ?_
    refine xj_iconst (z := 1) dX12_work_139 (by decide) ?_
    refine xj_iadd dX12_work_140 ?_
    refine xj_putI dX12_work_141 fw_X12_214 rfl ?_
    refine xj_aload_n 0 dX12_work_144 rfl ?_
    refine xj_iconst (z := 0) dX12_work_145 (by decide) ?_
    refine xj_putI dX12_work_146 fw_X12_329 rfl ?_
    refine xj_aload_n 0 dX12_work_149 rfl ?_
    refine xj_iconst (z := 0) dX12_work_150 (by decide) ?_
    refine xj_putI dX12_work_151 fw_X12_339 rfl ?_
    refine xj_aload_n 0 dX12_work_154 rfl ?_
    refine xj_iconst (z := 0) dX12_work_155 (by decide) ?_
    refine xj_putI dX12_work_156 fw_X12_217 rfl ?_
    refine xj_aload_n 0 dX12_work_159 rfl ?_
    refine xj_iconst (z := 0) dX12_work_160 (by decide) ?_
    refine xj_aload_n 0 dX12_work_161 rfl ?_
    refine xg_getI (x := (m19 12 0 30)) dX12_work_162 fl_X12_273 rfl rfl ?_
    obtain ⟨m21, e20, h⟩ := bd1_some h
    refine xc_Vv0 (st := []) (ok_X12_goes_t 0 (m19 12 0 30) (wr (wr (wr (wr m19 12 0 36 ((m19 12 0 36) + 1)) 12 0 43 0) 12 0 44 0) 12 0 37 0) e20) dX12_work_165 cv_X12_332 rfl rfl (Nat.le_of_ble_eq_true rfl) (by decide) (by decide) (by decide) (by decide) ?_
    refine xj_aload_n 0 dX12_work_168 rfl ?_
    refine xg_getI (x := (m21 12 0 44)) dX12_work_169 fl_X12_339 rfl rfl ?_
    cases h
    exact xj_ireturn dX12_work_172 rfl (by decide) (by decide)
  · rw [if_neg c16] at h
    refine xj_aload_n 0 dX12_work_108 rfl ?_
    obtain ⟨z24, m23, e22, h⟩ := bd2_some h
    refine xc_Vi0 (st := []) (ok_X12_ends m e22) dX12_work_109 cv_X12_201 rfl rfl (Nat.le_of_ble_eq_true rfl) (by decide) (by decide) (by decide) (by decide) ?_
    cases h
    exact xj_ireturn dX12_work_112 rfl (by decide) (by decide)
noncomputable def r_X12_work_e101_h72 (m : Mem) : Option (Int32 × Mem) :=
  r_X12_work_j101 m
set_option maxHeartbeats 4000000 in
set_option maxRecDepth 20000 in
theorem ok_X12_work_e101_h72 (m : Mem) {z : Int32} {m' : Mem} (h : r_X12_work_e101_h72 m = some (z, m')) : Xj RX12 cX12_work 2 (some .int) 22 510 0 0 0 0 101 [(0, vR 12 0)] [] m (oI z) m' := by
  unfold r_X12_work_e101_h72 at h
  exact ok_X12_work_j101 m h 
noncomputable def r_X12_work_l72 (m : Mem) : Option (Int32 × Mem) :=
  bd1 (loopO (fun s => r_X12_work_b72 s) m) (fun e => r_X12_work_e101_h72 e)
set_option maxHeartbeats 4000000 in
set_option maxRecDepth 20000 in
theorem ok_X12_work_l72 (m : Mem) {z : Int32} {m' : Mem} (h : r_X12_work_l72 m = some (z, m')) : Xj RX12 cX12_work 2 (some .int) 22 510 0 0 0 0 72 [(0, vR 12 0)] [] m (oI z) m' := by
  unfold r_X12_work_l72 at h
  obtain ⟨e, e1, h⟩ := bd1_some h
  refine loopO_ok (P := fun s : (Mem) => Xj RX12 cX12_work 2 (some .int) 22 510 0 0 0 0 72 [(0, vR 12 0)] [] s (oI z) m') (Q := fun e : (Mem) => Xj RX12 cX12_work 2 (some .int) 22 510 0 0 0 0 101 [(0, vR 12 0)] [] e (oI z) m') ?_ _ _ e1 ?_
  · intro s r9 h9 hi hx
    exact ok_X12_work_b72 s h9 (by rintro _ rfl; exact hi _ rfl) (by rintro _ rfl; exact hx _ rfl)
  · exact ok_X12_work_e101_h72 e h 
noncomputable def r_X12_work_j30 (x1 : Int32) (s0 : Int32) (m : Mem) : Option (Int32 × Mem) :=
  bd2 (r_X12_bad s0 1 1 m) fun z5 m4 => (if z5 = true then (some (0, m4)) else (if (m4 12 0 36) = 16 then (some ((-20), (wr (wr m4 12 0 1 0) 12 0 3 (-1)))) else (bd1 (r_X12_starts x1 m4) fun m9 => (r_X12_work_l72 (wr m9 12 0 30 0)))))
set_option maxHeartbeats 4000000 in
set_option maxRecDepth 20000 in
theorem ok_X12_work_j30 (x1 : Int32) (s0 : Int32) (m : Mem) {z : Int32} {m' : Mem} (h : r_X12_work_j30 x1 s0 m = some (z, m')) : Xj RX12 cX12_work 2 (some .int) 22 510 0 0 0 0 30 [(0, vR 12 0), (1, vI x1)] [vI s0, vR 12 0] m (oI z) m' := by
  unfold r_X12_work_j30 at h
  refine xj_iconst (z := 1) dX12_work_30 (by decide) ?_
  refine xj_iconst (z := 1) dX12_work_31 (by decide) ?_
  obtain ⟨z5, m4, e3, h⟩ := bd2_some h
  refine xc_Vb0 (st := []) (ok_X12_bad s0 1 1 m e3) dX12_work_32 cv_X12_191 rfl rfl (Nat.le_of_ble_eq_true rfl) (by decide) (by decide) (by decide) (by decide) ?_
  refine xj_if_eq (tgt := 40) dX12_work_35 (by decide) (fun c6 => ?_) (fun c6 => ?_)
  · rw [if_neg (b2i_f c6)] at h
    refine xj_aload_n 0 dX12_work_40 rfl ?_
    refine xg_getI (x := (m4 12 0 36)) dX12_work_41 fl_X12_214 rfl rfl ?_
    refine xj_bipush (z := 16) dX12_work_44 (by decide) ?_
    refine xj_icmp_ne (tgt := 62) dX12_work_46 (by decide) (fun c7 => ?_) (fun c7 => ?_)
    · rw [if_neg c7] at h
      refine xj_aload_n 0 dX12_work_62 rfl ?_
      refine xj_iload_n 1 dX12_work_63 rfl ?_
      obtain ⟨m9, e8, h⟩ := bd1_some h
      refine xc_Vv0 (st := []) (ok_X12_starts x1 m4 e8) dX12_work_64 cv_X12_195 rfl rfl (Nat.le_of_ble_eq_true rfl) (by decide) (by decide) (by decide) (by decide) ?_
      refine xj_aload_n 0 dX12_work_67 rfl ?_
      refine xj_iconst (z := 0) dX12_work_68 (by decide) ?_
      refine xj_putI dX12_work_69 fw_X12_273 rfl ?_
      refine xj_pick (ls' := [(0, vR 12 0)]) [0] rfl ?_
      exact ok_X12_work_l72 (wr m9 12 0 30 0) h 
    · rw [if_pos c7] at h
      refine xj_aload_n 0 dX12_work_49 rfl ?_
      refine xj_iconst (z := 0) dX12_work_50 (by decide) ?_
      refine xj_putI dX12_work_51 fw_X12_112 rfl ?_
      refine xj_aload_n 0 dX12_work_54 rfl ?_
      refine xj_iconst (z := (-1)) dX12_work_55 (by decide) ?_
      refine xj_putI dX12_work_56 fw_X12_9 rfl ?_
      refine xj_bipush (z := (-20)) dX12_work_59 (by decide) ?_
      cases h
      exact xj_ireturn dX12_work_61 rfl (by decide) (by decide)
  · rw [if_pos (b2i_t c6)] at h
    refine xj_iconst (z := 0) dX12_work_38 (by decide) ?_
    cases h
    exact xj_ireturn dX12_work_39 rfl (by decide) (by decide)
noncomputable def r_X12_work_j25 (x1 : Int32) (m : Mem) : Option (Int32 × Mem) :=
  r_X12_work_j30 x1 1 m
set_option maxHeartbeats 4000000 in
set_option maxRecDepth 20000 in
theorem ok_X12_work_j25 (x1 : Int32) (m : Mem) {z : Int32} {m' : Mem} (h : r_X12_work_j25 x1 m = some (z, m')) : Xj RX12 cX12_work 2 (some .int) 22 510 0 0 0 0 25 [(0, vR 12 0), (1, vI x1)] [vR 12 0] m (oI z) m' := by
  unfold r_X12_work_j25 at h
  refine xj_iconst (z := 1) dX12_work_25 (by decide) ?_
  refine xj_goto (tgt := 30) dX12_work_26 (by decide) ?_
  exact ok_X12_work_j30 x1 1 m h 
noncomputable def r_X12_work (x1 : Int32) (m : Mem) : Option (Int32 × Mem) :=
  if (r_X12_in x1 0 (m 12 0 1)) = true then (if x1 ≤ 150 then (r_X12_work_j30 x1 0 (wr m 12 0 0 0)) else (r_X12_work_j25 x1 (wr m 12 0 0 0))) else (r_X12_work_j25 x1 (wr m 12 0 0 0))
set_option maxHeartbeats 4000000 in
set_option maxRecDepth 20000 in
theorem ok_X12_work (x1 : Int32) (m : Mem) {z : Int32} {m' : Mem} (h : r_X12_work x1 m = some (z, m')) : Mt yX12_work cX12_work 2 (some .int) 22 510 0 0 [vR 12 0, vI x1] m (oI z) m' := by
  refine Mt.of (by decide) (Nat.le_of_ble_eq_true rfl) (by decide +kernel) (hhF_ne (by decide)) ?_
  show Xj RX12 cX12_work 2 (some .int) 22 510 0 0 0 0 0 [(0, vR 12 0), (1, vI x1)] [] m (oI z) m'
  unfold r_X12_work at h
  refine xj_aload_n 0 dX12_work_0 rfl ?_
  refine xj_iconst (z := 0) dX12_work_1 (by decide) ?_
  refine xj_putI dX12_work_2 fw_X12_109 rfl ?_
  refine xj_aload_n 0 dX12_work_5 rfl ?_
  refine xj_iload_n 1 dX12_work_6 rfl ?_
  refine xj_iconst (z := 0) dX12_work_7 (by decide) ?_
  refine xj_aload_n 0 dX12_work_8 rfl ?_
  refine xg_getI (x := (m 12 0 1)) dX12_work_9 fl_X12_112 rfl rfl ?_
  refine xc_Sb0 (st := [vR 12 0]) (ok_X12_in x1 0 (m 12 0 1) (wr m 12 0 0 0) rfl) dX12_work_12 cs_X12_143 rfl rfl (Nat.le_of_ble_eq_true rfl) (by decide) (by decide) (by decide) (by decide) ?_
  refine xj_if_eq (tgt := 25) dX12_work_15 (by decide) (fun c1 => ?_) (fun c1 => ?_)
  · rw [if_neg (b2i_f c1)] at h
    exact ok_X12_work_j25 x1 (wr m 12 0 0 0) h 
  · rw [if_pos (b2i_t c1)] at h
    refine xj_iload_n 1 dX12_work_18 rfl ?_
    refine xj_sipush (z := 150) dX12_work_19 (by decide) ?_
    refine xj_icmp_le (tgt := 29) dX12_work_22 (by decide) (fun c2 => ?_) (fun c2 => ?_)
    · rw [if_pos c2] at h
      refine xj_iconst (z := 0) dX12_work_29 (by decide) ?_
      exact ok_X12_work_j30 x1 0 (wr m 12 0 0 0) h 
    · rw [if_neg c2] at h
      exact ok_X12_work_j25 x1 (wr m 12 0 0 0) h 
noncomputable def r_X12_would_j110 (x1 : Int32) (x2 : Int32) (x3 : Int32) (x4 : Int32) (x5 : Int32) (x6 : Int32) (x7 : Int32) (x8 : Int32) (x9 : Int32) (s0 : Int32) (m : Mem) : Option (Int32 × Mem) :=
  bd2 (r_X12_bad s0 1 1 m) fun z12 m11 => (if z12 = true then (some (0, m11)) else (bd2 (r_X12_drawBy x1 x2 x3 x4 x5 x6 x7 x8 x9 m11) fun z16 m15 => (some (z16, m15))))
set_option maxHeartbeats 4000000 in
set_option maxRecDepth 20000 in
theorem ok_X12_would_j110 (x1 : Int32) (x2 : Int32) (x3 : Int32) (x4 : Int32) (x5 : Int32) (x6 : Int32) (x7 : Int32) (x8 : Int32) (x9 : Int32) (s0 : Int32) (m : Mem) {z : Int32} {m' : Mem} (h : r_X12_would_j110 x1 x2 x3 x4 x5 x6 x7 x8 x9 s0 m = some (z, m')) : Xj RX12 cX12_would 10 (some .int) 5 94 0 0 0 0 110 [(0, vR 12 0), (1, vI x1), (2, vI x2), (3, vI x3), (4, vI x4), (5, vI x5), (6, vI x6), (7, vI x7), (8, vI x8), (9, vI x9)] [vI s0, vR 12 0] m (oI z) m' := by
  unfold r_X12_would_j110 at h
  refine xj_iconst (z := 1) dX12_would_110 (by decide) ?_
  refine xj_iconst (z := 1) dX12_would_111 (by decide) ?_
  obtain ⟨z12, m11, e10, h⟩ := bd2_some h
  refine xc_Vb0 (st := []) (ok_X12_bad s0 1 1 m e10) dX12_would_112 cv_X12_191 rfl rfl (Nat.le_of_ble_eq_true rfl) (by decide) (by decide) (by decide) (by decide) ?_
  refine xj_if_eq (tgt := 120) dX12_would_115 (by decide) (fun c13 => ?_) (fun c13 => ?_)
  · rw [if_neg (b2i_f c13)] at h
    refine xj_aload_n 0 dX12_would_120 rfl ?_
    refine xj_iload_n 1 dX12_would_121 rfl ?_
    refine xj_iload_n 2 dX12_would_122 rfl ?_
    refine xj_iload_n 3 dX12_would_123 rfl ?_
    refine xj_iload 4 dX12_would_124 rfl ?_
    refine xj_iload 5 dX12_would_126 rfl ?_
    refine xj_iload 6 dX12_would_128 rfl ?_
    refine xj_iload 7 dX12_would_130 rfl ?_
    refine xj_iload 8 dX12_would_132 rfl ?_
    refine xj_iload 9 dX12_would_134 rfl ?_
    obtain ⟨z16, m15, e14, h⟩ := bd2_some h
    refine xc_Vi0 (st := []) (ok_X12_drawBy x1 x2 x3 x4 x5 x6 x7 x8 x9 m11 e14) dX12_would_136 cv_X12_289 rfl rfl (Nat.le_of_ble_eq_true rfl) (by decide) (by decide) (by decide) (by decide) ?_
    cases h
    exact xj_ireturn dX12_would_139 rfl (by decide) (by decide)
  · rw [if_pos (b2i_t c13)] at h
    refine xj_iconst (z := 0) dX12_would_118 (by decide) ?_
    cases h
    exact xj_ireturn dX12_would_119 rfl (by decide) (by decide)
noncomputable def r_X12_would_j105 (x1 : Int32) (x2 : Int32) (x3 : Int32) (x4 : Int32) (x5 : Int32) (x6 : Int32) (x7 : Int32) (x8 : Int32) (x9 : Int32) (m : Mem) : Option (Int32 × Mem) :=
  r_X12_would_j110 x1 x2 x3 x4 x5 x6 x7 x8 x9 1 m
set_option maxHeartbeats 4000000 in
set_option maxRecDepth 20000 in
theorem ok_X12_would_j105 (x1 : Int32) (x2 : Int32) (x3 : Int32) (x4 : Int32) (x5 : Int32) (x6 : Int32) (x7 : Int32) (x8 : Int32) (x9 : Int32) (m : Mem) {z : Int32} {m' : Mem} (h : r_X12_would_j105 x1 x2 x3 x4 x5 x6 x7 x8 x9 m = some (z, m')) : Xj RX12 cX12_would 10 (some .int) 5 94 0 0 0 0 105 [(0, vR 12 0), (1, vI x1), (2, vI x2), (3, vI x3), (4, vI x4), (5, vI x5), (6, vI x6), (7, vI x7), (8, vI x8), (9, vI x9)] [vR 12 0] m (oI z) m' := by
  unfold r_X12_would_j105 at h
  refine xj_iconst (z := 1) dX12_would_105 (by decide) ?_
  refine xj_goto (tgt := 110) dX12_would_106 (by decide) ?_
  exact ok_X12_would_j110 x1 x2 x3 x4 x5 x6 x7 x8 x9 1 m h 
noncomputable def r_X12_would (x1 : Int32) (x2 : Int32) (x3 : Int32) (x4 : Int32) (x5 : Int32) (x6 : Int32) (x7 : Int32) (x8 : Int32) (x9 : Int32) (m : Mem) : Option (Int32 × Mem) :=
  if (r_X12_in x1 (-60) 60) = true then (if (r_X12_in x2 0 54) = true then (if (r_X12_in x3 0 54) = true then (if (r_X12_in x4 0 6) = true then (if (r_X12_in x5 0 9) = true then (if (r_X12_in x6 0 999) = true then (if (r_X12_in x7 0 500) = true then (if (r_X12_in x8 0 11) = true then (if (r_X12_in x9 0 11) = true then (r_X12_would_j110 x1 x2 x3 x4 x5 x6 x7 x8 x9 0 (wr m 12 0 0 0)) else (r_X12_would_j105 x1 x2 x3 x4 x5 x6 x7 x8 x9 (wr m 12 0 0 0))) else (r_X12_would_j105 x1 x2 x3 x4 x5 x6 x7 x8 x9 (wr m 12 0 0 0))) else (r_X12_would_j105 x1 x2 x3 x4 x5 x6 x7 x8 x9 (wr m 12 0 0 0))) else (r_X12_would_j105 x1 x2 x3 x4 x5 x6 x7 x8 x9 (wr m 12 0 0 0))) else (r_X12_would_j105 x1 x2 x3 x4 x5 x6 x7 x8 x9 (wr m 12 0 0 0))) else (r_X12_would_j105 x1 x2 x3 x4 x5 x6 x7 x8 x9 (wr m 12 0 0 0))) else (r_X12_would_j105 x1 x2 x3 x4 x5 x6 x7 x8 x9 (wr m 12 0 0 0))) else (r_X12_would_j105 x1 x2 x3 x4 x5 x6 x7 x8 x9 (wr m 12 0 0 0))) else (r_X12_would_j105 x1 x2 x3 x4 x5 x6 x7 x8 x9 (wr m 12 0 0 0))
set_option maxHeartbeats 4000000 in
set_option maxRecDepth 20000 in
theorem ok_X12_would (x1 : Int32) (x2 : Int32) (x3 : Int32) (x4 : Int32) (x5 : Int32) (x6 : Int32) (x7 : Int32) (x8 : Int32) (x9 : Int32) (m : Mem) {z : Int32} {m' : Mem} (h : r_X12_would x1 x2 x3 x4 x5 x6 x7 x8 x9 m = some (z, m')) : Mt yX12_would cX12_would 10 (some .int) 5 94 0 0 [vR 12 0, vI x1, vI x2, vI x3, vI x4, vI x5, vI x6, vI x7, vI x8, vI x9] m (oI z) m' := by
  refine Mt.of (by decide) (Nat.le_of_ble_eq_true rfl) (by decide +kernel) (hhF_ne (by decide)) ?_
  show Xj RX12 cX12_would 10 (some .int) 5 94 0 0 0 0 0 [(0, vR 12 0), (1, vI x1), (2, vI x2), (3, vI x3), (4, vI x4), (5, vI x5), (6, vI x6), (7, vI x7), (8, vI x8), (9, vI x9)] [] m (oI z) m'
  unfold r_X12_would at h
  refine xj_aload_n 0 dX12_would_0 rfl ?_
  refine xj_iconst (z := 0) dX12_would_1 (by decide) ?_
  refine xj_putI dX12_would_2 fw_X12_109 rfl ?_
  refine xj_aload_n 0 dX12_would_5 rfl ?_
  refine xj_iload_n 1 dX12_would_6 rfl ?_
  refine xj_bipush (z := (-60)) dX12_would_7 (by decide) ?_
  refine xj_bipush (z := 60) dX12_would_9 (by decide) ?_
  refine xc_Sb0 (st := [vR 12 0]) (ok_X12_in x1 (-60) 60 (wr m 12 0 0 0) rfl) dX12_would_11 cs_X12_143 rfl rfl (Nat.le_of_ble_eq_true rfl) (by decide) (by decide) (by decide) (by decide) ?_
  refine xj_if_eq (tgt := 105) dX12_would_14 (by decide) (fun c1 => ?_) (fun c1 => ?_)
  · rw [if_neg (b2i_f c1)] at h
    exact ok_X12_would_j105 x1 x2 x3 x4 x5 x6 x7 x8 x9 (wr m 12 0 0 0) h 
  · rw [if_pos (b2i_t c1)] at h
    refine xj_iload_n 2 dX12_would_17 rfl ?_
    refine xj_iconst (z := 0) dX12_would_18 (by decide) ?_
    refine xj_bipush (z := 54) dX12_would_19 (by decide) ?_
    refine xc_Sb0 (st := [vR 12 0]) (ok_X12_in x2 0 54 (wr m 12 0 0 0) rfl) dX12_would_21 cs_X12_143 rfl rfl (Nat.le_of_ble_eq_true rfl) (by decide) (by decide) (by decide) (by decide) ?_
    refine xj_if_eq (tgt := 105) dX12_would_24 (by decide) (fun c2 => ?_) (fun c2 => ?_)
    · rw [if_neg (b2i_f c2)] at h
      exact ok_X12_would_j105 x1 x2 x3 x4 x5 x6 x7 x8 x9 (wr m 12 0 0 0) h 
    · rw [if_pos (b2i_t c2)] at h
      refine xj_iload_n 3 dX12_would_27 rfl ?_
      refine xj_iconst (z := 0) dX12_would_28 (by decide) ?_
      refine xj_bipush (z := 54) dX12_would_29 (by decide) ?_
      refine xc_Sb0 (st := [vR 12 0]) (ok_X12_in x3 0 54 (wr m 12 0 0 0) rfl) dX12_would_31 cs_X12_143 rfl rfl (Nat.le_of_ble_eq_true rfl) (by decide) (by decide) (by decide) (by decide) ?_
      refine xj_if_eq (tgt := 105) dX12_would_34 (by decide) (fun c3 => ?_) (fun c3 => ?_)
      · rw [if_neg (b2i_f c3)] at h
        exact ok_X12_would_j105 x1 x2 x3 x4 x5 x6 x7 x8 x9 (wr m 12 0 0 0) h 
      · rw [if_pos (b2i_t c3)] at h
        refine xj_iload 4 dX12_would_37 rfl ?_
        refine xj_iconst (z := 0) dX12_would_39 (by decide) ?_
        refine xj_bipush (z := 6) dX12_would_40 (by decide) ?_
        refine xc_Sb0 (st := [vR 12 0]) (ok_X12_in x4 0 6 (wr m 12 0 0 0) rfl) dX12_would_42 cs_X12_143 rfl rfl (Nat.le_of_ble_eq_true rfl) (by decide) (by decide) (by decide) (by decide) ?_
        refine xj_if_eq (tgt := 105) dX12_would_45 (by decide) (fun c4 => ?_) (fun c4 => ?_)
        · rw [if_neg (b2i_f c4)] at h
          exact ok_X12_would_j105 x1 x2 x3 x4 x5 x6 x7 x8 x9 (wr m 12 0 0 0) h 
        · rw [if_pos (b2i_t c4)] at h
          refine xj_iload 5 dX12_would_48 rfl ?_
          refine xj_iconst (z := 0) dX12_would_50 (by decide) ?_
          refine xj_bipush (z := 9) dX12_would_51 (by decide) ?_
          refine xc_Sb0 (st := [vR 12 0]) (ok_X12_in x5 0 9 (wr m 12 0 0 0) rfl) dX12_would_53 cs_X12_143 rfl rfl (Nat.le_of_ble_eq_true rfl) (by decide) (by decide) (by decide) (by decide) ?_
          refine xj_if_eq (tgt := 105) dX12_would_56 (by decide) (fun c5 => ?_) (fun c5 => ?_)
          · rw [if_neg (b2i_f c5)] at h
            exact ok_X12_would_j105 x1 x2 x3 x4 x5 x6 x7 x8 x9 (wr m 12 0 0 0) h 
          · rw [if_pos (b2i_t c5)] at h
            refine xj_iload 6 dX12_would_59 rfl ?_
            refine xj_iconst (z := 0) dX12_would_61 (by decide) ?_
            refine xj_sipush (z := 999) dX12_would_62 (by decide) ?_
            refine xc_Sb0 (st := [vR 12 0]) (ok_X12_in x6 0 999 (wr m 12 0 0 0) rfl) dX12_would_65 cs_X12_143 rfl rfl (Nat.le_of_ble_eq_true rfl) (by decide) (by decide) (by decide) (by decide) ?_
            refine xj_if_eq (tgt := 105) dX12_would_68 (by decide) (fun c6 => ?_) (fun c6 => ?_)
            · rw [if_neg (b2i_f c6)] at h
              exact ok_X12_would_j105 x1 x2 x3 x4 x5 x6 x7 x8 x9 (wr m 12 0 0 0) h 
            · rw [if_pos (b2i_t c6)] at h
              refine xj_iload 7 dX12_would_71 rfl ?_
              refine xj_iconst (z := 0) dX12_would_73 (by decide) ?_
              refine xj_sipush (z := 500) dX12_would_74 (by decide) ?_
              refine xc_Sb0 (st := [vR 12 0]) (ok_X12_in x7 0 500 (wr m 12 0 0 0) rfl) dX12_would_77 cs_X12_143 rfl rfl (Nat.le_of_ble_eq_true rfl) (by decide) (by decide) (by decide) (by decide) ?_
              refine xj_if_eq (tgt := 105) dX12_would_80 (by decide) (fun c7 => ?_) (fun c7 => ?_)
              · rw [if_neg (b2i_f c7)] at h
                exact ok_X12_would_j105 x1 x2 x3 x4 x5 x6 x7 x8 x9 (wr m 12 0 0 0) h 
              · rw [if_pos (b2i_t c7)] at h
                refine xj_iload 8 dX12_would_83 rfl ?_
                refine xj_iconst (z := 0) dX12_would_85 (by decide) ?_
                refine xj_bipush (z := 11) dX12_would_86 (by decide) ?_
                refine xc_Sb0 (st := [vR 12 0]) (ok_X12_in x8 0 11 (wr m 12 0 0 0) rfl) dX12_would_88 cs_X12_143 rfl rfl (Nat.le_of_ble_eq_true rfl) (by decide) (by decide) (by decide) (by decide) ?_
                refine xj_if_eq (tgt := 105) dX12_would_91 (by decide) (fun c8 => ?_) (fun c8 => ?_)
                · rw [if_neg (b2i_f c8)] at h
                  exact ok_X12_would_j105 x1 x2 x3 x4 x5 x6 x7 x8 x9 (wr m 12 0 0 0) h 
                · rw [if_pos (b2i_t c8)] at h
                  refine xj_iload 9 dX12_would_94 rfl ?_
                  refine xj_iconst (z := 0) dX12_would_96 (by decide) ?_
                  refine xj_bipush (z := 11) dX12_would_97 (by decide) ?_
                  refine xc_Sb0 (st := [vR 12 0]) (ok_X12_in x9 0 11 (wr m 12 0 0 0) rfl) dX12_would_99 cs_X12_143 rfl rfl (Nat.le_of_ble_eq_true rfl) (by decide) (by decide) (by decide) (by decide) ?_
                  refine xj_if_ne (tgt := 109) dX12_would_102 (by decide) (fun c9 => ?_) (fun c9 => ?_)
                  · rw [if_pos (b2i_t c9)] at h
                    refine xj_iconst (z := 0) dX12_would_109 (by decide) ?_
                    exact ok_X12_would_j110 x1 x2 x3 x4 x5 x6 x7 x8 x9 0 (wr m 12 0 0 0) h 
                  · rw [if_neg (b2i_f c9)] at h
                    exact ok_X12_would_j105 x1 x2 x3 x4 x5 x6 x7 x8 x9 (wr m 12 0 0 0) h 
noncomputable def r_X12_year_j29 (x1 : Int32) (x2 : Int32) (x3 : Int32) (x4 : Int32) (s0 : Int32) (m : Mem) : Option (Int32 × Mem) :=
  bd2 (r_X12_bad s0 1 1 m) fun z5 m4 => (if z5 = true then (some (0, m4)) else (bd1 (r_X12_yearBy x1 x2 x3 m4) fun m8 => (if x4 = 0 then (bd2 (r_X12_endOf 1 m8) fun z12 m11 => (some (z12, m11))) else if x4 = 1 then (bd1 (r_X12_believedIn 1 m8) fun z15 => (some (z15, m8))) else if x4 = 2 then (some ((m8 12 0 51), m8)) else (bd2 (r_X12_courseOf 1 m8) fun z19 m18 => (some (z19, m18))))))
set_option maxHeartbeats 4000000 in
set_option maxRecDepth 20000 in
theorem ok_X12_year_j29 (x1 : Int32) (x2 : Int32) (x3 : Int32) (x4 : Int32) (s0 : Int32) (m : Mem) {z : Int32} {m' : Mem} (h : r_X12_year_j29 x1 x2 x3 x4 s0 m = some (z, m')) : Xj RX12 cX12_year 5 (some .int) 12 270 0 0 0 0 29 [(0, vR 12 0), (1, vI x1), (2, vI x2), (3, vI x3), (4, vI x4)] [vI s0, vR 12 0] m (oI z) m' := by
  unfold r_X12_year_j29 at h
  refine xj_iconst (z := 1) dX12_year_29 (by decide) ?_
  refine xj_iconst (z := 1) dX12_year_30 (by decide) ?_
  obtain ⟨z5, m4, e3, h⟩ := bd2_some h
  refine xc_Vb0 (st := []) (ok_X12_bad s0 1 1 m e3) dX12_year_31 cv_X12_191 rfl rfl (Nat.le_of_ble_eq_true rfl) (by decide) (by decide) (by decide) (by decide) ?_
  refine xj_if_eq (tgt := 39) dX12_year_34 (by decide) (fun c6 => ?_) (fun c6 => ?_)
  · rw [if_neg (b2i_f c6)] at h
    refine xj_aload_n 0 dX12_year_39 rfl ?_
    refine xj_iload_n 1 dX12_year_40 rfl ?_
    refine xj_iload_n 2 dX12_year_41 rfl ?_
    refine xj_iload_n 3 dX12_year_42 rfl ?_
    obtain ⟨m8, e7, h⟩ := bd1_some h
    refine xc_Vv0 (st := []) (ok_X12_yearBy x1 x2 x3 m4 e7) dX12_year_43 cv_X12_418 rfl rfl (Nat.le_of_ble_eq_true rfl) (by decide) (by decide) (by decide) (by decide) ?_
    refine xj_iload 4 dX12_year_46 rfl ?_
    by_cases c9 : x4 = 0
    · rw [if_pos c9] at h
      refine xj_tableIn (off := 28) (tgt := 76) dX12_year_48 (by rw [c9]; decide) (by rw [c9]; decide) (by rw [c9]; decide) (by decide) ?_
      refine xj_aload_n 0 dX12_year_76 rfl ?_
      refine xj_aload_n 0 dX12_year_77 rfl ?_
      refine xg_getR (k' := 60) (i' := 1) dX12_year_78 fl_X12_76 rfl ?_
      obtain ⟨z12, m11, e10, h⟩ := bd2_some h
      refine xc_Vi0 (st := []) (ok_X12_endOf 1 m8 e10) dX12_year_81 cv_X12_346 rfl rfl (Nat.le_of_ble_eq_true rfl) (by decide) (by decide) (by decide) (by decide) ?_
      cases h
      exact xj_ireturn dX12_year_84 rfl (by decide) (by decide)
    rw [if_neg c9] at h
    by_cases c13 : x4 = 1
    · rw [if_pos c13] at h
      refine xj_tableIn (off := 37) (tgt := 85) dX12_year_48 (by rw [c13]; decide) (by rw [c13]; decide) (by rw [c13]; decide) (by decide) ?_
      refine xj_aload_n 0 dX12_year_85 rfl ?_
      refine xj_aload_n 0 dX12_year_86 rfl ?_
      refine xg_getR (k' := 60) (i' := 1) dX12_year_87 fl_X12_76 rfl ?_
      obtain ⟨z15, e14, h⟩ := bd1_some h
      refine xc_Vi0 (st := []) (ok_X12_believedIn 1 m8 e14) dX12_year_90 cv_X12_349 rfl rfl (Nat.le_of_ble_eq_true rfl) (by decide) (by decide) (by decide) (by decide) ?_
      cases h
      exact xj_ireturn dX12_year_93 rfl (by decide) (by decide)
    rw [if_neg c13] at h
    by_cases c16 : x4 = 2
    · rw [if_pos c16] at h
      refine xj_tableIn (off := 46) (tgt := 94) dX12_year_48 (by rw [c16]; decide) (by rw [c16]; decide) (by rw [c16]; decide) (by decide) ?_
      refine xj_aload_n 0 dX12_year_94 rfl ?_
      refine xg_getI (x := (m8 12 0 51)) dX12_year_95 fl_X12_409 rfl rfl ?_
      cases h
      exact xj_ireturn dX12_year_98 rfl (by decide) (by decide)
    rw [if_neg c16] at h
    refine xj_tableOut (tgt := 99) dX12_year_48 ?_ (by decide) ?_
    · have nc9 := lv_neT c9 (show (0 : Int32).toInt = 0 by decide)
      have nc13 := lv_neT c13 (show (1 : Int32).toInt = 1 by decide)
      have nc16 := lv_neT c16 (show (2 : Int32).toInt = 2 by decide)
      omega
    refine xj_aload_n 0 dX12_year_99 rfl ?_
    refine xj_aload_n 0 dX12_year_100 rfl ?_
    refine xg_getR (k' := 60) (i' := 1) dX12_year_101 fl_X12_76 rfl ?_
    obtain ⟨z19, m18, e17, h⟩ := bd2_some h
    refine xc_Vi0 (st := []) (ok_X12_courseOf 1 m8 e17) dX12_year_104 cv_X12_315 rfl rfl (Nat.le_of_ble_eq_true rfl) (by decide) (by decide) (by decide) (by decide) ?_
    cases h
    exact xj_ireturn dX12_year_107 rfl (by decide) (by decide)
  · rw [if_pos (b2i_t c6)] at h
    refine xj_iconst (z := 0) dX12_year_37 (by decide) ?_
    cases h
    exact xj_ireturn dX12_year_38 rfl (by decide) (by decide)
noncomputable def r_X12_year_j24 (x1 : Int32) (x2 : Int32) (x3 : Int32) (x4 : Int32) (m : Mem) : Option (Int32 × Mem) :=
  r_X12_year_j29 x1 x2 x3 x4 1 m
set_option maxHeartbeats 4000000 in
set_option maxRecDepth 20000 in
theorem ok_X12_year_j24 (x1 : Int32) (x2 : Int32) (x3 : Int32) (x4 : Int32) (m : Mem) {z : Int32} {m' : Mem} (h : r_X12_year_j24 x1 x2 x3 x4 m = some (z, m')) : Xj RX12 cX12_year 5 (some .int) 12 270 0 0 0 0 24 [(0, vR 12 0), (1, vI x1), (2, vI x2), (3, vI x3), (4, vI x4)] [vR 12 0] m (oI z) m' := by
  unfold r_X12_year_j24 at h
  refine xj_iconst (z := 1) dX12_year_24 (by decide) ?_
  refine xj_goto (tgt := 29) dX12_year_25 (by decide) ?_
  exact ok_X12_year_j29 x1 x2 x3 x4 1 m h 
noncomputable def r_X12_year (x1 : Int32) (x2 : Int32) (x3 : Int32) (x4 : Int32) (m : Mem) : Option (Int32 × Mem) :=
  if (r_X12_isYear x2 x3) = true then (if (r_X12_in x4 0 3) = true then (r_X12_year_j29 x1 x2 x3 x4 0 (wr m 12 0 0 0)) else (r_X12_year_j24 x1 x2 x3 x4 (wr m 12 0 0 0))) else (r_X12_year_j24 x1 x2 x3 x4 (wr m 12 0 0 0))
set_option maxHeartbeats 4000000 in
set_option maxRecDepth 20000 in
theorem ok_X12_year (x1 : Int32) (x2 : Int32) (x3 : Int32) (x4 : Int32) (m : Mem) {z : Int32} {m' : Mem} (h : r_X12_year x1 x2 x3 x4 m = some (z, m')) : Mt yX12_year cX12_year 5 (some .int) 12 270 0 0 [vR 12 0, vI x1, vI x2, vI x3, vI x4] m (oI z) m' := by
  refine Mt.of (by decide) (Nat.le_of_ble_eq_true rfl) (by decide +kernel) (hhF_ne (by decide)) ?_
  show Xj RX12 cX12_year 5 (some .int) 12 270 0 0 0 0 0 [(0, vR 12 0), (1, vI x1), (2, vI x2), (3, vI x3), (4, vI x4)] [] m (oI z) m'
  unfold r_X12_year at h
  refine xj_aload_n 0 dX12_year_0 rfl ?_
  refine xj_iconst (z := 0) dX12_year_1 (by decide) ?_
  refine xj_putI dX12_year_2 fw_X12_109 rfl ?_
  refine xj_aload_n 0 dX12_year_5 rfl ?_
  refine xj_iload_n 2 dX12_year_6 rfl ?_
  refine xj_iload_n 3 dX12_year_7 rfl ?_
  refine xc_Sb0 (st := [vR 12 0]) (ok_X12_isYear x2 x3 (wr m 12 0 0 0) rfl) dX12_year_8 cs_X12_415 rfl rfl (Nat.le_of_ble_eq_true rfl) (by decide) (by decide) (by decide) (by decide) ?_
  refine xj_if_eq (tgt := 24) dX12_year_11 (by decide) (fun c1 => ?_) (fun c1 => ?_)
  · rw [if_neg (b2i_f c1)] at h
    exact ok_X12_year_j24 x1 x2 x3 x4 (wr m 12 0 0 0) h 
  · rw [if_pos (b2i_t c1)] at h
    refine xj_iload 4 dX12_year_14 rfl ?_
    refine xj_iconst (z := 0) dX12_year_16 (by decide) ?_
    refine xj_iconst (z := 3) dX12_year_17 (by decide) ?_
    refine xc_Sb0 (st := [vR 12 0]) (ok_X12_in x4 0 3 (wr m 12 0 0 0) rfl) dX12_year_18 cs_X12_143 rfl rfl (Nat.le_of_ble_eq_true rfl) (by decide) (by decide) (by decide) (by decide) ?_
    refine xj_if_ne (tgt := 28) dX12_year_21 (by decide) (fun c2 => ?_) (fun c2 => ?_)
    · rw [if_pos (b2i_t c2)] at h
      refine xj_iconst (z := 0) dX12_year_28 (by decide) ?_
      exact ok_X12_year_j29 x1 x2 x3 x4 0 (wr m 12 0 0 0) h 
    · rw [if_neg (b2i_f c2)] at h
      exact ok_X12_year_j24 x1 x2 x3 x4 (wr m 12 0 0 0) h 
