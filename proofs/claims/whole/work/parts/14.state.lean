theorem dX7_forgetAllOf_0 : decode cX7_forgetAllOf 0 = .ok (.iconst 0, 1) := by decide +kernel
theorem dX7_forgetAllOf_1 : decode cX7_forgetAllOf 1 = .ok (.istore_n 2, 1) := by decide +kernel
theorem dX7_forgetAllOf_2 : decode cX7_forgetAllOf 2 = .ok (.iload_n 2, 1) := by decide +kernel
theorem dX7_forgetAllOf_3 : decode cX7_forgetAllOf 3 = .ok (.bipush 12, 2) := by decide +kernel
theorem dX7_forgetAllOf_5 : decode cX7_forgetAllOf 5 = .ok (.if_icmp .ge 21, 3) := by decide +kernel
theorem dX7_forgetAllOf_8 : decode cX7_forgetAllOf 8 = .ok (.aload_n 0, 1) := by decide +kernel
theorem dX7_forgetAllOf_9 : decode cX7_forgetAllOf 9 = .ok (.getfield 18, 3) := by decide +kernel
theorem dX7_forgetAllOf_12 : decode cX7_forgetAllOf 12 = .ok (.iload_n 1, 1) := by decide +kernel
theorem dX7_forgetAllOf_13 : decode cX7_forgetAllOf 13 = .ok (.bipush 12, 2) := by decide +kernel
theorem dX7_forgetAllOf_15 : decode cX7_forgetAllOf 15 = .ok (.imul, 1) := by decide +kernel
theorem dX7_forgetAllOf_16 : decode cX7_forgetAllOf 16 = .ok (.iload_n 2, 1) := by decide +kernel
theorem dX7_forgetAllOf_17 : decode cX7_forgetAllOf 17 = .ok (.iadd, 1) := by decide +kernel
theorem dX7_forgetAllOf_18 : decode cX7_forgetAllOf 18 = .ok (.iconst (-1), 1) := by decide +kernel
theorem dX7_forgetAllOf_19 : decode cX7_forgetAllOf 19 = .ok (.iastore, 1) := by decide +kernel
theorem dX7_forgetAllOf_20 : decode cX7_forgetAllOf 20 = .ok (.iinc 2 1, 3) := by decide +kernel
theorem dX7_forgetAllOf_23 : decode cX7_forgetAllOf 23 = .ok (.goto (-21), 3) := by decide +kernel
theorem dX7_forgetAllOf_26 : decode cX7_forgetAllOf 26 = .ok (.return_, 1) := by decide +kernel
theorem dX7_addLeader_0 : decode cX7_addLeader 0 = .ok (.aload_n 0, 1) := by decide +kernel
theorem dX7_addLeader_1 : decode cX7_addLeader 1 = .ok (.getfield 36, 3) := by decide +kernel
theorem dX7_addLeader_4 : decode cX7_addLeader 4 = .ok (.bipush 8, 2) := by decide +kernel
theorem dX7_addLeader_6 : decode cX7_addLeader 6 = .ok (.if_icmp .ge 41, 3) := by decide +kernel
theorem dX7_addLeader_9 : decode cX7_addLeader 9 = .ok (.aload_n 0, 1) := by decide +kernel
theorem dX7_addLeader_10 : decode cX7_addLeader 10 = .ok (.getfield 11, 3) := by decide +kernel
theorem dX7_addLeader_13 : decode cX7_addLeader 13 = .ok (.aload_n 0, 1) := by decide +kernel
theorem dX7_addLeader_14 : decode cX7_addLeader 14 = .ok (.getfield 36, 3) := by decide +kernel
theorem dX7_addLeader_17 : decode cX7_addLeader 17 = .ok (.iload_n 1, 1) := by decide +kernel
theorem dX7_addLeader_18 : decode cX7_addLeader 18 = .ok (.iastore, 1) := by decide +kernel
theorem dX7_addLeader_19 : decode cX7_addLeader 19 = .ok (.aload_n 0, 1) := by decide +kernel
theorem dX7_addLeader_20 : decode cX7_addLeader 20 = .ok (.getfield 15, 3) := by decide +kernel
theorem dX7_addLeader_23 : decode cX7_addLeader 23 = .ok (.aload_n 0, 1) := by decide +kernel
theorem dX7_addLeader_24 : decode cX7_addLeader 24 = .ok (.getfield 36, 3) := by decide +kernel
theorem dX7_addLeader_27 : decode cX7_addLeader 27 = .ok (.iconst (-1), 1) := by decide +kernel
theorem dX7_addLeader_28 : decode cX7_addLeader 28 = .ok (.iastore, 1) := by decide +kernel
theorem dX7_addLeader_29 : decode cX7_addLeader 29 = .ok (.aload_n 0, 1) := by decide +kernel
theorem dX7_addLeader_30 : decode cX7_addLeader 30 = .ok (.aload_n 0, 1) := by decide +kernel
theorem dX7_addLeader_31 : decode cX7_addLeader 31 = .ok (.getfield 36, 3) := by decide +kernel
theorem dX7_addLeader_34 : decode cX7_addLeader 34 = .ok (.invokevirtual 50, 3) := by decide +kernel
theorem dX7_addLeader_37 : decode cX7_addLeader 37 = .ok (.aload_n 0, 1) := by decide +kernel
theorem dX7_addLeader_38 : decode cX7_addLeader 38 = .ok (.dup, 1) := by decide +kernel
theorem dX7_addLeader_39 : decode cX7_addLeader 39 = .ok (.getfield 36, 3) := by decide +kernel
theorem dX7_addLeader_42 : decode cX7_addLeader 42 = .ok (.iconst 1, 1) := by decide +kernel
theorem dX7_addLeader_43 : decode cX7_addLeader 43 = .ok (.iadd, 1) := by decide +kernel
theorem dX7_addLeader_44 : decode cX7_addLeader 44 = .ok (.putfield 36, 3) := by decide +kernel
theorem dX7_addLeader_47 : decode cX7_addLeader 47 = .ok (.return_, 1) := by decide +kernel
theorem dX7_begin_0 : decode cX7_begin 0 = .ok (.aload_n 0, 1) := by decide +kernel
theorem dX7_begin_1 : decode cX7_begin 1 = .ok (.iconst 0, 1) := by decide +kernel
theorem dX7_begin_2 : decode cX7_begin 2 = .ok (.putfield 27, 3) := by decide +kernel
theorem dX7_begin_5 : decode cX7_begin 5 = .ok (.aload_n 0, 1) := by decide +kernel
theorem dX7_begin_6 : decode cX7_begin 6 = .ok (.aload_n 1, 1) := by decide +kernel
theorem dX7_begin_7 : decode cX7_begin 7 = .ok (.getfield 31, 3) := by decide +kernel
theorem dX7_begin_10 : decode cX7_begin 10 = .ok (.putfield 36, 3) := by decide +kernel
theorem dX7_begin_13 : decode cX7_begin 13 = .ok (.aload_n 1, 1) := by decide +kernel
theorem dX7_begin_14 : decode cX7_begin 14 = .ok (.getfield 37, 3) := by decide +kernel
theorem dX7_begin_17 : decode cX7_begin 17 = .ok (.iconst 0, 1) := by decide +kernel
theorem dX7_begin_18 : decode cX7_begin 18 = .ok (.aload_n 0, 1) := by decide +kernel
theorem dX7_begin_19 : decode cX7_begin 19 = .ok (.getfield 11, 3) := by decide +kernel
theorem dX7_begin_22 : decode cX7_begin 22 = .ok (.iconst 0, 1) := by decide +kernel
theorem dX7_begin_23 : decode cX7_begin 23 = .ok (.bipush 6, 2) := by decide +kernel
theorem dX7_begin_25 : decode cX7_begin 25 = .ok (.invokestatic 38, 3) := by decide +kernel
theorem dX7_begin_28 : decode cX7_begin 28 = .ok (.aload_n 1, 1) := by decide +kernel
theorem dX7_begin_29 : decode cX7_begin 29 = .ok (.getfield 44, 3) := by decide +kernel
theorem dX7_begin_32 : decode cX7_begin 32 = .ok (.iconst 0, 1) := by decide +kernel
theorem dX7_begin_33 : decode cX7_begin 33 = .ok (.aload_n 0, 1) := by decide +kernel
theorem dX7_begin_34 : decode cX7_begin 34 = .ok (.getfield 15, 3) := by decide +kernel
theorem dX7_begin_37 : decode cX7_begin 37 = .ok (.iconst 0, 1) := by decide +kernel
theorem dX7_begin_38 : decode cX7_begin 38 = .ok (.bipush 6, 2) := by decide +kernel
theorem dX7_begin_40 : decode cX7_begin 40 = .ok (.invokestatic 38, 3) := by decide +kernel
theorem dX7_begin_43 : decode cX7_begin 43 = .ok (.aload_n 1, 1) := by decide +kernel
theorem dX7_begin_44 : decode cX7_begin 44 = .ok (.getfield 47, 3) := by decide +kernel
theorem dX7_begin_47 : decode cX7_begin 47 = .ok (.iconst 0, 1) := by decide +kernel
theorem dX7_begin_48 : decode cX7_begin 48 = .ok (.aload_n 0, 1) := by decide +kernel
theorem dX7_begin_49 : decode cX7_begin 49 = .ok (.getfield 18, 3) := by decide +kernel
theorem dX7_begin_52 : decode cX7_begin 52 = .ok (.iconst 0, 1) := by decide +kernel
theorem dX7_begin_53 : decode cX7_begin 53 = .ok (.aload_n 1, 1) := by decide +kernel
theorem dX7_begin_54 : decode cX7_begin 54 = .ok (.getfield 47, 3) := by decide +kernel
theorem dX7_begin_57 : decode cX7_begin 57 = .ok (.arraylength, 1) := by decide +kernel
theorem dX7_begin_58 : decode cX7_begin 58 = .ok (.invokestatic 38, 3) := by decide +kernel
theorem dX7_begin_61 : decode cX7_begin 61 = .ok (.iconst 0, 1) := by decide +kernel
theorem dX7_begin_62 : decode cX7_begin 62 = .ok (.istore_n 2, 1) := by decide +kernel
theorem dX7_begin_63 : decode cX7_begin 63 = .ok (.iload_n 2, 1) := by decide +kernel
theorem dX7_begin_64 : decode cX7_begin 64 = .ok (.bipush 16, 2) := by decide +kernel
theorem dX7_begin_66 : decode cX7_begin 66 = .ok (.if_icmp .ge 23, 3) := by decide +kernel
theorem dX7_begin_69 : decode cX7_begin 69 = .ok (.aload_n 0, 1) := by decide +kernel
theorem dX7_begin_70 : decode cX7_begin 70 = .ok (.getfield 21, 3) := by decide +kernel
theorem dX7_begin_73 : decode cX7_begin 73 = .ok (.iload_n 2, 1) := by decide +kernel
theorem dX7_begin_74 : decode cX7_begin 74 = .ok (.iconst 0, 1) := by decide +kernel
theorem dX7_begin_75 : decode cX7_begin 75 = .ok (.iastore, 1) := by decide +kernel
theorem dX7_begin_76 : decode cX7_begin 76 = .ok (.aload_n 0, 1) := by decide +kernel
theorem dX7_begin_77 : decode cX7_begin 77 = .ok (.getfield 24, 3) := by decide +kernel
theorem dX7_begin_80 : decode cX7_begin 80 = .ok (.iload_n 2, 1) := by decide +kernel
theorem dX7_begin_81 : decode cX7_begin 81 = .ok (.iconst 0, 1) := by decide +kernel
theorem dX7_begin_82 : decode cX7_begin 82 = .ok (.iastore, 1) := by decide +kernel
theorem dX7_begin_83 : decode cX7_begin 83 = .ok (.iinc 2 1, 3) := by decide +kernel
theorem dX7_begin_86 : decode cX7_begin 86 = .ok (.goto (-23), 3) := by decide +kernel
theorem dX7_begin_89 : decode cX7_begin 89 = .ok (.return_, 1) := by decide +kernel
theorem dX7_believes_0 : decode cX7_believes 0 = .ok (.aload_n 0, 1) := by decide +kernel
theorem dX7_believes_1 : decode cX7_believes 1 = .ok (.getfield 18, 3) := by decide +kernel
theorem dX7_believes_4 : decode cX7_believes 4 = .ok (.iload_n 1, 1) := by decide +kernel
theorem dX7_believes_5 : decode cX7_believes 5 = .ok (.bipush 12, 2) := by decide +kernel
theorem dX7_believes_7 : decode cX7_believes 7 = .ok (.imul, 1) := by decide +kernel
theorem dX7_believes_8 : decode cX7_believes 8 = .ok (.iload_n 2, 1) := by decide +kernel
theorem dX7_believes_9 : decode cX7_believes 9 = .ok (.iadd, 1) := by decide +kernel
theorem dX7_believes_10 : decode cX7_believes 10 = .ok (.iaload, 1) := by decide +kernel
theorem dX7_believes_11 : decode cX7_believes 11 = .ok (.ireturn, 1) := by decide +kernel
theorem dX7_believedBy_0 : decode cX7_believedBy 0 = .ok (.iconst 0, 1) := by decide +kernel
theorem dX7_believedBy_1 : decode cX7_believedBy 1 = .ok (.istore_n 2, 1) := by decide +kernel
theorem dX7_believedBy_2 : decode cX7_believedBy 2 = .ok (.iconst 0, 1) := by decide +kernel
theorem dX7_believedBy_3 : decode cX7_believedBy 3 = .ok (.istore_n 3, 1) := by decide +kernel
theorem dX7_believedBy_4 : decode cX7_believedBy 4 = .ok (.iload_n 3, 1) := by decide +kernel
theorem dX7_believedBy_5 : decode cX7_believedBy 5 = .ok (.bipush 12, 2) := by decide +kernel
theorem dX7_believedBy_7 : decode cX7_believedBy 7 = .ok (.if_icmp .ge 22, 3) := by decide +kernel
theorem dX7_believedBy_10 : decode cX7_believedBy 10 = .ok (.aload_n 0, 1) := by decide +kernel
theorem dX7_believedBy_11 : decode cX7_believedBy 11 = .ok (.iload_n 1, 1) := by decide +kernel
theorem dX7_believedBy_12 : decode cX7_believedBy 12 = .ok (.iload_n 3, 1) := by decide +kernel
theorem dX7_believedBy_13 : decode cX7_believedBy 13 = .ok (.invokevirtual 54, 3) := by decide +kernel
theorem dX7_believedBy_16 : decode cX7_believedBy 16 = .ok (.iconst (-1), 1) := by decide +kernel
theorem dX7_believedBy_17 : decode cX7_believedBy 17 = .ok (.if_icmp .eq 6, 3) := by decide +kernel
theorem dX7_believedBy_20 : decode cX7_believedBy 20 = .ok (.iinc 2 1, 3) := by decide +kernel
theorem dX7_believedBy_23 : decode cX7_believedBy 23 = .ok (.iinc 3 1, 3) := by decide +kernel
theorem dX7_believedBy_26 : decode cX7_believedBy 26 = .ok (.goto (-22), 3) := by decide +kernel
theorem dX7_believedBy_29 : decode cX7_believedBy 29 = .ok (.iload_n 2, 1) := by decide +kernel
theorem dX7_believedBy_30 : decode cX7_believedBy 30 = .ok (.ireturn, 1) := by decide +kernel
theorem dX7_believedInAll_0 : decode cX7_believedInAll 0 = .ok (.iconst 0, 1) := by decide +kernel
theorem dX7_believedInAll_1 : decode cX7_believedInAll 1 = .ok (.istore_n 1, 1) := by decide +kernel
theorem dX7_believedInAll_2 : decode cX7_believedInAll 2 = .ok (.iconst 0, 1) := by decide +kernel
theorem dX7_believedInAll_3 : decode cX7_believedInAll 3 = .ok (.istore_n 2, 1) := by decide +kernel
theorem dX7_believedInAll_4 : decode cX7_believedInAll 4 = .ok (.iload_n 2, 1) := by decide +kernel
theorem dX7_believedInAll_5 : decode cX7_believedInAll 5 = .ok (.aload_n 0, 1) := by decide +kernel
theorem dX7_believedInAll_6 : decode cX7_believedInAll 6 = .ok (.getfield 36, 3) := by decide +kernel
theorem dX7_believedInAll_9 : decode cX7_believedInAll 9 = .ok (.if_icmp .ge 17, 3) := by decide +kernel
theorem dX7_believedInAll_12 : decode cX7_believedInAll 12 = .ok (.iload_n 1, 1) := by decide +kernel
theorem dX7_believedInAll_13 : decode cX7_believedInAll 13 = .ok (.aload_n 0, 1) := by decide +kernel
theorem dX7_believedInAll_14 : decode cX7_believedInAll 14 = .ok (.iload_n 2, 1) := by decide +kernel
theorem dX7_believedInAll_15 : decode cX7_believedInAll 15 = .ok (.invokevirtual 58, 3) := by decide +kernel
theorem dX7_believedInAll_18 : decode cX7_believedInAll 18 = .ok (.iadd, 1) := by decide +kernel
theorem dX7_believedInAll_19 : decode cX7_believedInAll 19 = .ok (.istore_n 1, 1) := by decide +kernel
theorem dX7_believedInAll_20 : decode cX7_believedInAll 20 = .ok (.iinc 2 1, 3) := by decide +kernel
theorem dX7_believedInAll_23 : decode cX7_believedInAll 23 = .ok (.goto (-19), 3) := by decide +kernel
theorem dX7_believedInAll_26 : decode cX7_believedInAll 26 = .ok (.iload_n 1, 1) := by decide +kernel
theorem dX7_believedInAll_27 : decode cX7_believedInAll 27 = .ok (.ireturn, 1) := by decide +kernel
theorem dX7_copyFrom_0 : decode cX7_copyFrom 0 = .ok (.aload_n 0, 1) := by decide +kernel
theorem dX7_copyFrom_1 : decode cX7_copyFrom 1 = .ok (.aload_n 1, 1) := by decide +kernel
theorem dX7_copyFrom_2 : decode cX7_copyFrom 2 = .ok (.getfield 27, 3) := by decide +kernel
theorem dX7_copyFrom_5 : decode cX7_copyFrom 5 = .ok (.putfield 27, 3) := by decide +kernel
theorem dX7_copyFrom_8 : decode cX7_copyFrom 8 = .ok (.aload_n 0, 1) := by decide +kernel
theorem dX7_copyFrom_9 : decode cX7_copyFrom 9 = .ok (.aload_n 1, 1) := by decide +kernel
theorem dX7_copyFrom_10 : decode cX7_copyFrom 10 = .ok (.getfield 36, 3) := by decide +kernel
theorem dX7_copyFrom_13 : decode cX7_copyFrom 13 = .ok (.putfield 36, 3) := by decide +kernel
theorem dX7_copyFrom_16 : decode cX7_copyFrom 16 = .ok (.aload_n 1, 1) := by decide +kernel
theorem dX7_copyFrom_17 : decode cX7_copyFrom 17 = .ok (.getfield 11, 3) := by decide +kernel
theorem dX7_copyFrom_20 : decode cX7_copyFrom 20 = .ok (.iconst 0, 1) := by decide +kernel
theorem dX7_copyFrom_21 : decode cX7_copyFrom 21 = .ok (.aload_n 0, 1) := by decide +kernel
theorem dX7_copyFrom_22 : decode cX7_copyFrom 22 = .ok (.getfield 11, 3) := by decide +kernel
theorem dX7_copyFrom_25 : decode cX7_copyFrom 25 = .ok (.iconst 0, 1) := by decide +kernel
theorem dX7_copyFrom_26 : decode cX7_copyFrom 26 = .ok (.aload_n 0, 1) := by decide +kernel
theorem dX7_copyFrom_27 : decode cX7_copyFrom 27 = .ok (.getfield 11, 3) := by decide +kernel
theorem dX7_copyFrom_30 : decode cX7_copyFrom 30 = .ok (.arraylength, 1) := by decide +kernel
theorem dX7_copyFrom_31 : decode cX7_copyFrom 31 = .ok (.invokestatic 38, 3) := by decide +kernel
theorem dX7_copyFrom_34 : decode cX7_copyFrom 34 = .ok (.aload_n 1, 1) := by decide +kernel
theorem dX7_copyFrom_35 : decode cX7_copyFrom 35 = .ok (.getfield 15, 3) := by decide +kernel
theorem dX7_copyFrom_38 : decode cX7_copyFrom 38 = .ok (.iconst 0, 1) := by decide +kernel
theorem dX7_copyFrom_39 : decode cX7_copyFrom 39 = .ok (.aload_n 0, 1) := by decide +kernel
theorem dX7_copyFrom_40 : decode cX7_copyFrom 40 = .ok (.getfield 15, 3) := by decide +kernel
theorem dX7_copyFrom_43 : decode cX7_copyFrom 43 = .ok (.iconst 0, 1) := by decide +kernel
theorem dX7_copyFrom_44 : decode cX7_copyFrom 44 = .ok (.aload_n 0, 1) := by decide +kernel
theorem dX7_copyFrom_45 : decode cX7_copyFrom 45 = .ok (.getfield 15, 3) := by decide +kernel
theorem dX7_copyFrom_48 : decode cX7_copyFrom 48 = .ok (.arraylength, 1) := by decide +kernel
theorem dX7_copyFrom_49 : decode cX7_copyFrom 49 = .ok (.invokestatic 38, 3) := by decide +kernel
theorem dX7_copyFrom_52 : decode cX7_copyFrom 52 = .ok (.aload_n 1, 1) := by decide +kernel
theorem dX7_copyFrom_53 : decode cX7_copyFrom 53 = .ok (.getfield 18, 3) := by decide +kernel
theorem dX7_copyFrom_56 : decode cX7_copyFrom 56 = .ok (.iconst 0, 1) := by decide +kernel
theorem dX7_copyFrom_57 : decode cX7_copyFrom 57 = .ok (.aload_n 0, 1) := by decide +kernel
theorem dX7_copyFrom_58 : decode cX7_copyFrom 58 = .ok (.getfield 18, 3) := by decide +kernel
theorem dX7_copyFrom_61 : decode cX7_copyFrom 61 = .ok (.iconst 0, 1) := by decide +kernel
theorem dX7_copyFrom_62 : decode cX7_copyFrom 62 = .ok (.aload_n 0, 1) := by decide +kernel
theorem dX7_copyFrom_63 : decode cX7_copyFrom 63 = .ok (.getfield 18, 3) := by decide +kernel
theorem dX7_copyFrom_66 : decode cX7_copyFrom 66 = .ok (.arraylength, 1) := by decide +kernel
theorem dX7_copyFrom_67 : decode cX7_copyFrom 67 = .ok (.invokestatic 38, 3) := by decide +kernel
theorem dX7_copyFrom_70 : decode cX7_copyFrom 70 = .ok (.aload_n 1, 1) := by decide +kernel
theorem dX7_copyFrom_71 : decode cX7_copyFrom 71 = .ok (.getfield 21, 3) := by decide +kernel
theorem dX7_copyFrom_74 : decode cX7_copyFrom 74 = .ok (.iconst 0, 1) := by decide +kernel
theorem dX7_copyFrom_75 : decode cX7_copyFrom 75 = .ok (.aload_n 0, 1) := by decide +kernel
theorem dX7_copyFrom_76 : decode cX7_copyFrom 76 = .ok (.getfield 21, 3) := by decide +kernel
theorem dX7_copyFrom_79 : decode cX7_copyFrom 79 = .ok (.iconst 0, 1) := by decide +kernel
theorem dX7_copyFrom_80 : decode cX7_copyFrom 80 = .ok (.aload_n 0, 1) := by decide +kernel
theorem dX7_copyFrom_81 : decode cX7_copyFrom 81 = .ok (.getfield 21, 3) := by decide +kernel
theorem dX7_copyFrom_84 : decode cX7_copyFrom 84 = .ok (.arraylength, 1) := by decide +kernel
theorem dX7_copyFrom_85 : decode cX7_copyFrom 85 = .ok (.invokestatic 38, 3) := by decide +kernel
theorem dX7_copyFrom_88 : decode cX7_copyFrom 88 = .ok (.aload_n 1, 1) := by decide +kernel
theorem dX7_copyFrom_89 : decode cX7_copyFrom 89 = .ok (.getfield 24, 3) := by decide +kernel
theorem dX7_copyFrom_92 : decode cX7_copyFrom 92 = .ok (.iconst 0, 1) := by decide +kernel
theorem dX7_copyFrom_93 : decode cX7_copyFrom 93 = .ok (.aload_n 0, 1) := by decide +kernel
theorem dX7_copyFrom_94 : decode cX7_copyFrom 94 = .ok (.getfield 24, 3) := by decide +kernel
theorem dX7_copyFrom_97 : decode cX7_copyFrom 97 = .ok (.iconst 0, 1) := by decide +kernel
theorem dX7_copyFrom_98 : decode cX7_copyFrom 98 = .ok (.aload_n 0, 1) := by decide +kernel
theorem dX7_copyFrom_99 : decode cX7_copyFrom 99 = .ok (.getfield 24, 3) := by decide +kernel
theorem dX7_copyFrom_102 : decode cX7_copyFrom 102 = .ok (.arraylength, 1) := by decide +kernel
theorem dX7_copyFrom_103 : decode cX7_copyFrom 103 = .ok (.invokestatic 38, 3) := by decide +kernel
theorem dX7_copyFrom_106 : decode cX7_copyFrom 106 = .ok (.return_, 1) := by decide +kernel
theorem dX7_forget_0 : decode cX7_forget 0 = .ok (.iload_n 1, 1) := by decide +kernel
theorem dX7_forget_1 : decode cX7_forget 1 = .ok (.bipush 12, 2) := by decide +kernel
theorem dX7_forget_3 : decode cX7_forget 3 = .ok (.imul, 1) := by decide +kernel
theorem dX7_forget_4 : decode cX7_forget 4 = .ok (.iload_n 2, 1) := by decide +kernel
theorem dX7_forget_5 : decode cX7_forget 5 = .ok (.iadd, 1) := by decide +kernel
theorem dX7_forget_6 : decode cX7_forget 6 = .ok (.istore_n 3, 1) := by decide +kernel
theorem dX7_forget_7 : decode cX7_forget 7 = .ok (.aload_n 0, 1) := by decide +kernel
theorem dX7_forget_8 : decode cX7_forget 8 = .ok (.getfield 18, 3) := by decide +kernel
theorem dX7_forget_11 : decode cX7_forget 11 = .ok (.iload_n 3, 1) := by decide +kernel
theorem dX7_forget_12 : decode cX7_forget 12 = .ok (.iaload, 1) := by decide +kernel
theorem dX7_forget_13 : decode cX7_forget 13 = .ok (.iconst (-1), 1) := by decide +kernel
theorem dX7_forget_14 : decode cX7_forget 14 = .ok (.if_icmp .eq 7, 3) := by decide +kernel
theorem dX7_forget_17 : decode cX7_forget 17 = .ok (.iconst 1, 1) := by decide +kernel
theorem dX7_forget_18 : decode cX7_forget 18 = .ok (.goto 4, 3) := by decide +kernel
theorem dX7_forget_21 : decode cX7_forget 21 = .ok (.iconst 0, 1) := by decide +kernel
theorem dX7_forget_22 : decode cX7_forget 22 = .ok (.istore 4, 2) := by decide +kernel
theorem dX7_forget_24 : decode cX7_forget 24 = .ok (.aload_n 0, 1) := by decide +kernel
theorem dX7_forget_25 : decode cX7_forget 25 = .ok (.getfield 18, 3) := by decide +kernel
theorem dX7_forget_28 : decode cX7_forget 28 = .ok (.iload_n 3, 1) := by decide +kernel
theorem dX7_forget_29 : decode cX7_forget 29 = .ok (.iconst (-1), 1) := by decide +kernel
theorem dX7_forget_30 : decode cX7_forget 30 = .ok (.iastore, 1) := by decide +kernel
theorem dX7_forget_31 : decode cX7_forget 31 = .ok (.iload 4, 2) := by decide +kernel
theorem dX7_forget_33 : decode cX7_forget 33 = .ok (.ireturn, 1) := by decide +kernel
theorem dX7_forgetAll_0 : decode cX7_forgetAll 0 = .ok (.iconst 0, 1) := by decide +kernel
theorem dX7_forgetAll_1 : decode cX7_forgetAll 1 = .ok (.istore_n 2, 1) := by decide +kernel
theorem dX7_forgetAll_2 : decode cX7_forgetAll 2 = .ok (.iload_n 2, 1) := by decide +kernel
theorem dX7_forgetAll_3 : decode cX7_forgetAll 3 = .ok (.aload_n 0, 1) := by decide +kernel
theorem dX7_forgetAll_4 : decode cX7_forgetAll 4 = .ok (.getfield 36, 3) := by decide +kernel
theorem dX7_forgetAll_7 : decode cX7_forgetAll 7 = .ok (.if_icmp .ge 22, 3) := by decide +kernel
theorem dX7_forgetAll_10 : decode cX7_forgetAll 10 = .ok (.iload_n 1, 1) := by decide +kernel
theorem dX7_forgetAll_11 : decode cX7_forgetAll 11 = .ok (.iload_n 2, 1) := by decide +kernel
theorem dX7_forgetAll_12 : decode cX7_forgetAll 12 = .ok (.ishr, 1) := by decide +kernel
theorem dX7_forgetAll_13 : decode cX7_forgetAll 13 = .ok (.iconst 1, 1) := by decide +kernel
theorem dX7_forgetAll_14 : decode cX7_forgetAll 14 = .ok (.iand, 1) := by decide +kernel
theorem dX7_forgetAll_15 : decode cX7_forgetAll 15 = .ok (.ifCond .eq 8, 3) := by decide +kernel
theorem dX7_forgetAll_18 : decode cX7_forgetAll 18 = .ok (.aload_n 0, 1) := by decide +kernel
theorem dX7_forgetAll_19 : decode cX7_forgetAll 19 = .ok (.iload_n 2, 1) := by decide +kernel
theorem dX7_forgetAll_20 : decode cX7_forgetAll 20 = .ok (.invokevirtual 50, 3) := by decide +kernel
theorem dX7_forgetAll_23 : decode cX7_forgetAll 23 = .ok (.iinc 2 1, 3) := by decide +kernel
theorem dX7_forgetAll_26 : decode cX7_forgetAll 26 = .ok (.goto (-24), 3) := by decide +kernel
theorem dX7_forgetAll_29 : decode cX7_forgetAll 29 = .ok (.return_, 1) := by decide +kernel
theorem dX7_personsIn_0 : decode cX7_personsIn 0 = .ok (.iconst 0, 1) := by decide +kernel
theorem dX7_personsIn_1 : decode cX7_personsIn 1 = .ok (.istore_n 2, 1) := by decide +kernel
theorem dX7_personsIn_2 : decode cX7_personsIn 2 = .ok (.iconst 0, 1) := by decide +kernel
theorem dX7_personsIn_3 : decode cX7_personsIn 3 = .ok (.istore_n 3, 1) := by decide +kernel
theorem dX7_personsIn_4 : decode cX7_personsIn 4 = .ok (.iload_n 3, 1) := by decide +kernel
theorem dX7_personsIn_5 : decode cX7_personsIn 5 = .ok (.aload_n 0, 1) := by decide +kernel
theorem dX7_personsIn_6 : decode cX7_personsIn 6 = .ok (.getfield 36, 3) := by decide +kernel
theorem dX7_personsIn_9 : decode cX7_personsIn 9 = .ok (.if_icmp .ge 25, 3) := by decide +kernel
theorem dX7_personsIn_12 : decode cX7_personsIn 12 = .ok (.aload_n 0, 1) := by decide +kernel
theorem dX7_personsIn_13 : decode cX7_personsIn 13 = .ok (.getfield 15, 3) := by decide +kernel
theorem dX7_personsIn_16 : decode cX7_personsIn 16 = .ok (.iload_n 3, 1) := by decide +kernel
theorem dX7_personsIn_17 : decode cX7_personsIn 17 = .ok (.iaload, 1) := by decide +kernel
theorem dX7_personsIn_18 : decode cX7_personsIn 18 = .ok (.iload_n 1, 1) := by decide +kernel
theorem dX7_personsIn_19 : decode cX7_personsIn 19 = .ok (.if_icmp .ne 9, 3) := by decide +kernel
theorem dX7_personsIn_22 : decode cX7_personsIn 22 = .ok (.iload_n 2, 1) := by decide +kernel
theorem dX7_personsIn_23 : decode cX7_personsIn 23 = .ok (.iconst 1, 1) := by decide +kernel
theorem dX7_personsIn_24 : decode cX7_personsIn 24 = .ok (.iload_n 3, 1) := by decide +kernel
theorem dX7_personsIn_25 : decode cX7_personsIn 25 = .ok (.ishl, 1) := by decide +kernel
theorem dX7_personsIn_26 : decode cX7_personsIn 26 = .ok (.ior, 1) := by decide +kernel
theorem dX7_personsIn_27 : decode cX7_personsIn 27 = .ok (.istore_n 2, 1) := by decide +kernel
theorem dX7_personsIn_28 : decode cX7_personsIn 28 = .ok (.iinc 3 1, 3) := by decide +kernel
theorem dX7_personsIn_31 : decode cX7_personsIn 31 = .ok (.goto (-27), 3) := by decide +kernel
theorem dX7_personsIn_34 : decode cX7_personsIn 34 = .ok (.iload_n 2, 1) := by decide +kernel
theorem dX7_personsIn_35 : decode cX7_personsIn 35 = .ok (.ireturn, 1) := by decide +kernel
theorem dX7_tell_0 : decode cX7_tell 0 = .ok (.iload_n 1, 1) := by decide +kernel
theorem dX7_tell_1 : decode cX7_tell 1 = .ok (.bipush 12, 2) := by decide +kernel
theorem dX7_tell_3 : decode cX7_tell 3 = .ok (.imul, 1) := by decide +kernel
theorem dX7_tell_4 : decode cX7_tell 4 = .ok (.iload_n 2, 1) := by decide +kernel
theorem dX7_tell_5 : decode cX7_tell 5 = .ok (.iadd, 1) := by decide +kernel
theorem dX7_tell_6 : decode cX7_tell 6 = .ok (.istore 4, 2) := by decide +kernel
theorem dX7_tell_8 : decode cX7_tell 8 = .ok (.aload_n 0, 1) := by decide +kernel
theorem dX7_tell_9 : decode cX7_tell 9 = .ok (.getfield 18, 3) := by decide +kernel
theorem dX7_tell_12 : decode cX7_tell 12 = .ok (.iload 4, 2) := by decide +kernel
theorem dX7_tell_14 : decode cX7_tell 14 = .ok (.iaload, 1) := by decide +kernel
theorem dX7_tell_15 : decode cX7_tell 15 = .ok (.iload_n 3, 1) := by decide +kernel
theorem dX7_tell_16 : decode cX7_tell 16 = .ok (.if_icmp .eq 7, 3) := by decide +kernel
theorem dX7_tell_19 : decode cX7_tell 19 = .ok (.iconst 1, 1) := by decide +kernel
theorem dX7_tell_20 : decode cX7_tell 20 = .ok (.goto 4, 3) := by decide +kernel
theorem dX7_tell_23 : decode cX7_tell 23 = .ok (.iconst 0, 1) := by decide +kernel
theorem dX7_tell_24 : decode cX7_tell 24 = .ok (.istore 5, 2) := by decide +kernel
theorem dX7_tell_26 : decode cX7_tell 26 = .ok (.aload_n 0, 1) := by decide +kernel
theorem dX7_tell_27 : decode cX7_tell 27 = .ok (.getfield 18, 3) := by decide +kernel
theorem dX7_tell_30 : decode cX7_tell 30 = .ok (.iload 4, 2) := by decide +kernel
theorem dX7_tell_32 : decode cX7_tell 32 = .ok (.iload_n 3, 1) := by decide +kernel
theorem dX7_tell_33 : decode cX7_tell 33 = .ok (.iastore, 1) := by decide +kernel
theorem dX7_tell_34 : decode cX7_tell 34 = .ok (.iload 5, 2) := by decide +kernel
theorem dX7_tell_36 : decode cX7_tell 36 = .ok (.ireturn, 1) := by decide +kernel
noncomputable def r_X7_forgetAllOf_b2 (i0 : Nat) (x1 : Int32) (x2 : Int32) (m : Mem) : Option ((Int32 × Mem) ⊕ (Mem)) :=
  if 12 ≤ x2 then (some (Sum.inr m)) else (if inb ((x1 * 12) + x2) 96 = true then (some (Sum.inl (x2 + 1, (wr m 22 i0 (((x1 * 12) + x2).toNatClampNeg) (-1))))) else none)
set_option maxHeartbeats 4000000 in
set_option maxRecDepth 20000 in
theorem ok_X7_forgetAllOf_b2 (i0 : Nat) (x1 : Int32) (x2 : Int32) (m : Mem) {r : (Int32 × Mem) ⊕ (Mem)} (h : r_X7_forgetAllOf_b2 i0 x1 x2 m = some r) {o : Ou} {M' : Mem} (kb : ∀ (x2' : Int32) (m'' : Mem), r = Sum.inl (x2', m'') → Xj RX7 cX7_forgetAllOf 3 none 1 0 0 0 0 0 2 [(0, vR 7 i0), (1, vI x1), (2, vI x2')] [] m'' o M') (ke : ∀ (m'' : Mem), r = Sum.inr m'' → Xj RX7 cX7_forgetAllOf 3 none 1 0 0 0 0 0 26 [] [] m'' o M') : Xj RX7 cX7_forgetAllOf 3 none 1 0 0 0 0 0 2 [(0, vR 7 i0), (1, vI x1), (2, vI x2)] [] m o M' := by
  unfold r_X7_forgetAllOf_b2 at h
  refine xj_iload_n 2 dX7_forgetAllOf_2 rfl ?_
  refine xj_bipush (z := 12) dX7_forgetAllOf_3 (by decide) ?_
  refine xj_icmp_ge (tgt := 26) dX7_forgetAllOf_5 (by decide) (fun c1 => ?_) (fun c1 => ?_)
  · rw [if_pos c1] at h
    cases h
    refine xj_pick (ls' := []) [] rfl ?_
    exact ke m rfl
  · rw [if_neg c1] at h
    refine xj_aload_n 0 dX7_forgetAllOf_8 rfl ?_
    refine xg_getR (k' := 22) (i' := i0) dX7_forgetAllOf_9 fl_X7_18 rfl ?_
    refine xj_iload_n 1 dX7_forgetAllOf_12 rfl ?_
    refine xj_bipush (z := 12) dX7_forgetAllOf_13 (by decide) ?_
    refine xj_imul dX7_forgetAllOf_15 ?_
    refine xj_iload_n 2 dX7_forgetAllOf_16 rfl ?_
    refine xj_iadd dX7_forgetAllOf_17 ?_
    refine xj_iconst (z := (-1)) dX7_forgetAllOf_18 (by decide) ?_
    by_cases c2 : inb ((x1 * 12) + x2) 96 = true
    case neg => rw [if_neg c2] at h; cases h
    rw [if_pos c2] at h
    refine xg_iast (n := ((x1 * 12) + x2).toNatClampNeg) dX7_forgetAllOf_19 rfl (by decide) (inb_in c2) rfl ?_
    refine xj_iinc (z := x2 + 1) (ls' := [(2, vI (x2 + 1)), (0, vR 7 i0), (1, vI x1)]) 2 dX7_forgetAllOf_20 rfl rfl (by decide) rfl ?_
    refine xj_goto (tgt := 2) dX7_forgetAllOf_23 (by decide) ?_
    cases h
    refine xj_pick (ls' := [(0, vR 7 i0), (1, vI x1), (2, vI (x2 + 1))]) [1, 2, 0] rfl ?_
    exact kb (x2 + 1) (wr m 22 i0 (((x1 * 12) + x2).toNatClampNeg) (-1)) rfl
noncomputable def r_X7_forgetAllOf_e26_h2 (m : Mem) : Option Mem :=
  some m
set_option maxHeartbeats 4000000 in
set_option maxRecDepth 20000 in
theorem ok_X7_forgetAllOf_e26_h2 (m : Mem) {m' : Mem} (h : r_X7_forgetAllOf_e26_h2 m = some m') : Xj RX7 cX7_forgetAllOf 3 none 1 0 0 0 0 0 26 [] [] m oV m' := by
  unfold r_X7_forgetAllOf_e26_h2 at h
  cases h
  exact xj_return dX7_forgetAllOf_26 (by decide) (by decide)
noncomputable def r_X7_forgetAllOf_l2 (i0 : Nat) (x1 : Int32) (x2 : Int32) (m : Mem) : Option Mem :=
  bd1 (loopO (fun s => r_X7_forgetAllOf_b2 i0 x1 s.1 s.2) (x2, m)) (fun e => r_X7_forgetAllOf_e26_h2 e)
set_option maxHeartbeats 4000000 in
set_option maxRecDepth 20000 in
theorem ok_X7_forgetAllOf_l2 (i0 : Nat) (x1 : Int32) (x2 : Int32) (m : Mem) {m' : Mem} (h : r_X7_forgetAllOf_l2 i0 x1 x2 m = some m') : Xj RX7 cX7_forgetAllOf 3 none 1 0 0 0 0 0 2 [(0, vR 7 i0), (1, vI x1), (2, vI x2)] [] m oV m' := by
  unfold r_X7_forgetAllOf_l2 at h
  obtain ⟨e, e1, h⟩ := bd1_some h
  refine loopO_ok (P := fun s : (Int32 × Mem) => Xj RX7 cX7_forgetAllOf 3 none 1 0 0 0 0 0 2 [(0, vR 7 i0), (1, vI x1), (2, vI s.1)] [] s.2 oV m') (Q := fun e : (Mem) => Xj RX7 cX7_forgetAllOf 3 none 1 0 0 0 0 0 26 [] [] e oV m') ?_ _ _ e1 ?_
  · intro s r9 h9 hi hx
    exact ok_X7_forgetAllOf_b2 i0 x1 s.1 s.2 h9 (by rintro _ _ rfl; exact hi _ rfl) (by rintro _ rfl; exact hx _ rfl)
  · exact ok_X7_forgetAllOf_e26_h2 e h 
noncomputable def r_X7_forgetAllOf (i0 : Nat) (x1 : Int32) (m : Mem) : Option Mem :=
  r_X7_forgetAllOf_l2 i0 x1 0 m
set_option maxHeartbeats 4000000 in
set_option maxRecDepth 20000 in
theorem ok_X7_forgetAllOf (i0 : Nat) (x1 : Int32) (m : Mem) {m' : Mem} (h : r_X7_forgetAllOf i0 x1 m = some m') : Mt yX7_forgetAllOf cX7_forgetAllOf 3 none 1 0 0 0 [vR 7 i0, vI x1] m oV m' := by
  refine Mt.of (by decide) (Nat.le_of_ble_eq_true rfl) (by decide +kernel) (hhF_ne (by decide)) ?_
  show Xj RX7 cX7_forgetAllOf 3 none 1 0 0 0 0 0 0 [(0, vR 7 i0), (1, vI x1)] [] m oV m'
  unfold r_X7_forgetAllOf at h
  refine xj_iconst (z := 0) dX7_forgetAllOf_0 (by decide) ?_
  refine xj_istore_n (ls' := [(2, vI 0), (0, vR 7 i0), (1, vI x1)]) dX7_forgetAllOf_1 rfl (by decide) rfl ?_
  refine xj_pick (ls' := [(0, vR 7 i0), (1, vI x1), (2, vI 0)]) [1, 2, 0] rfl ?_
  exact ok_X7_forgetAllOf_l2 i0 x1 0 m h 
noncomputable def r_X7_addLeader (i0 : Nat) (x1 : Int32) (m : Mem) : Option Mem :=
  if 8 ≤ (m 7 i0 1) then (some m) else (if inb (m 7 i0 1) 8 = true then (bd1 (r_X7_forgetAllOf i0 (m 7 i0 1) (wr (wr m 20 i0 ((m 7 i0 1).toNatClampNeg) x1) 21 i0 ((m 7 i0 1).toNatClampNeg) (-1))) fun m4 => (some (wr m4 7 i0 1 ((m4 7 i0 1) + 1)))) else none)
set_option maxHeartbeats 4000000 in
set_option maxRecDepth 20000 in
theorem ok_X7_addLeader (i0 : Nat) (x1 : Int32) (m : Mem) {m' : Mem} (h : r_X7_addLeader i0 x1 m = some m') : Mt yX7_addLeader cX7_addLeader 2 none 2 22 0 0 [vR 7 i0, vI x1] m oV m' := by
  refine Mt.of (by decide) (Nat.le_of_ble_eq_true rfl) (by decide +kernel) (hhF_ne (by decide)) ?_
  show Xj RX7 cX7_addLeader 2 none 2 22 0 0 0 0 0 [(0, vR 7 i0), (1, vI x1)] [] m oV m'
  unfold r_X7_addLeader at h
  refine xj_aload_n 0 dX7_addLeader_0 rfl ?_
  refine xg_getI (x := (m 7 i0 1)) dX7_addLeader_1 fl_X7_36 rfl rfl ?_
  refine xj_bipush (z := 8) dX7_addLeader_4 (by decide) ?_
  refine xj_icmp_ge (tgt := 47) dX7_addLeader_6 (by decide) (fun c1 => ?_) (fun c1 => ?_)
  · rw [if_pos c1] at h
    cases h
    exact xj_return dX7_addLeader_47 (by decide) (by decide)
  · rw [if_neg c1] at h
    refine xj_aload_n 0 dX7_addLeader_9 rfl ?_
    refine xg_getR (k' := 20) (i' := i0) dX7_addLeader_10 fl_X7_11 rfl ?_
    refine xj_aload_n 0 dX7_addLeader_13 rfl ?_
    refine xg_getI (x := (m 7 i0 1)) dX7_addLeader_14 fl_X7_36 rfl rfl ?_
    refine xj_iload_n 1 dX7_addLeader_17 rfl ?_
    by_cases c2 : inb (m 7 i0 1) 8 = true
    case neg => rw [if_neg c2] at h; cases h
    rw [if_pos c2] at h
    refine xg_iast (n := (m 7 i0 1).toNatClampNeg) dX7_addLeader_18 rfl (by decide) (inb_in c2) rfl ?_
    refine xj_aload_n 0 dX7_addLeader_19 rfl ?_
    refine xg_getR (k' := 21) (i' := i0) dX7_addLeader_20 fl_X7_15 rfl ?_
    refine xj_aload_n 0 dX7_addLeader_23 rfl ?_
    refine xg_getI (x := (m 7 i0 1)) dX7_addLeader_24 fl_X7_36 rfl rfl ?_
    refine xj_iconst (z := (-1)) dX7_addLeader_27 (by decide) ?_
    refine xg_iast (n := (m 7 i0 1).toNatClampNeg) dX7_addLeader_28 rfl (by decide) (inb_in c2) rfl ?_
    refine xj_aload_n 0 dX7_addLeader_29 rfl ?_
    refine xj_aload_n 0 dX7_addLeader_30 rfl ?_
    refine xg_getI (x := (m 7 i0 1)) dX7_addLeader_31 fl_X7_36 rfl rfl ?_
    obtain ⟨m4, e3, h⟩ := bd1_some h
    refine xc_Vv0 (st := []) (ok_X7_forgetAllOf i0 (m 7 i0 1) (wr (wr m 20 i0 ((m 7 i0 1).toNatClampNeg) x1) 21 i0 ((m 7 i0 1).toNatClampNeg) (-1)) e3) dX7_addLeader_34 cv_X7_50 rfl rfl (Nat.le_of_ble_eq_true rfl) (by decide) (by decide) (by decide) (by decide) ?_
    refine xj_aload_n 0 dX7_addLeader_37 rfl ?_
    refine xj_dup dX7_addLeader_38 rfl ?_
    refine xg_getI (x := (m4 7 i0 1)) dX7_addLeader_39 fl_X7_36 rfl rfl ?_
    refine xj_iconst (z := 1) dX7_addLeader_42 (by decide) ?_
    refine xj_iadd dX7_addLeader_43 ?_
    refine xj_putI dX7_addLeader_44 fw_X7_36 rfl ?_
    cases h
    exact xj_return dX7_addLeader_47 (by decide) (by decide)
noncomputable def r_X7_begin_b63 (i0 : Nat) (x2 : Int32) (m : Mem) : Option ((Int32 × Mem) ⊕ (Mem)) :=
  if 16 ≤ x2 then (some (Sum.inr m)) else (if inb x2 16 = true then (some (Sum.inl (x2 + 1, (wr (wr m 23 i0 x2.toNatClampNeg 0) 24 i0 x2.toNatClampNeg 0)))) else none)
set_option maxHeartbeats 4000000 in
set_option maxRecDepth 20000 in
theorem ok_X7_begin_b63 (i0 : Nat) (x2 : Int32) (m : Mem) {r : (Int32 × Mem) ⊕ (Mem)} (h : r_X7_begin_b63 i0 x2 m = some r) {o : Ou} {M' : Mem} (kb : ∀ (x2' : Int32) (m'' : Mem), r = Sum.inl (x2', m'') → Xj RX7 cX7_begin 3 none 1 88 0 0 0 0 63 [(0, vR 7 i0), (2, vI x2')] [] m'' o M') (ke : ∀ (m'' : Mem), r = Sum.inr m'' → Xj RX7 cX7_begin 3 none 1 88 0 0 0 0 89 [] [] m'' o M') : Xj RX7 cX7_begin 3 none 1 88 0 0 0 0 63 [(0, vR 7 i0), (2, vI x2)] [] m o M' := by
  unfold r_X7_begin_b63 at h
  refine xj_iload_n 1 dX7_begin_63 rfl ?_
  refine xj_bipush (z := 16) dX7_begin_64 (by decide) ?_
  refine xj_icmp_ge (tgt := 89) dX7_begin_66 (by decide) (fun c1 => ?_) (fun c1 => ?_)
  · rw [if_pos c1] at h
    cases h
    refine xj_pick (ls' := []) [] rfl ?_
    exact ke m rfl
  · rw [if_neg c1] at h
    refine xj_aload_n 0 dX7_begin_69 rfl ?_
    refine xg_getR (k' := 23) (i' := i0) dX7_begin_70 fl_X7_21 rfl ?_
    refine xj_iload_n 1 dX7_begin_73 rfl ?_
    refine xj_iconst (z := 0) dX7_begin_74 (by decide) ?_
    by_cases c2 : inb x2 16 = true
    case neg => rw [if_neg c2] at h; cases h
    rw [if_pos c2] at h
    refine xg_iast (n := x2.toNatClampNeg) dX7_begin_75 rfl (by decide) (inb_in c2) rfl ?_
    refine xj_aload_n 0 dX7_begin_76 rfl ?_
    refine xg_getR (k' := 24) (i' := i0) dX7_begin_77 fl_X7_24 rfl ?_
    refine xj_iload_n 1 dX7_begin_80 rfl ?_
    refine xj_iconst (z := 0) dX7_begin_81 (by decide) ?_
    refine xg_iast (n := x2.toNatClampNeg) dX7_begin_82 rfl (by decide) (inb_in c2) rfl ?_
    refine xj_iinc (z := x2 + 1) (ls' := [(2, vI (x2 + 1)), (0, vR 7 i0)]) 1 dX7_begin_83 rfl rfl (by decide) rfl ?_
    refine xj_goto (tgt := 63) dX7_begin_86 (by decide) ?_
    cases h
    refine xj_pick (ls' := [(0, vR 7 i0), (2, vI (x2 + 1))]) [1, 0] rfl ?_
    exact kb (x2 + 1) (wr (wr m 23 i0 x2.toNatClampNeg 0) 24 i0 x2.toNatClampNeg 0) rfl
noncomputable def r_X7_begin_e89_h63 (m : Mem) : Option Mem :=
  some m
set_option maxHeartbeats 4000000 in
set_option maxRecDepth 20000 in
theorem ok_X7_begin_e89_h63 (m : Mem) {m' : Mem} (h : r_X7_begin_e89_h63 m = some m') : Xj RX7 cX7_begin 3 none 1 88 0 0 0 0 89 [] [] m oV m' := by
  unfold r_X7_begin_e89_h63 at h
  cases h
  exact xj_return dX7_begin_89 (by decide) (by decide)
noncomputable def r_X7_begin_l63 (i0 : Nat) (x2 : Int32) (m : Mem) : Option Mem :=
  bd1 (loopO (fun s => r_X7_begin_b63 i0 s.1 s.2) (x2, m)) (fun e => r_X7_begin_e89_h63 e)
set_option maxHeartbeats 4000000 in
set_option maxRecDepth 20000 in
theorem ok_X7_begin_l63 (i0 : Nat) (x2 : Int32) (m : Mem) {m' : Mem} (h : r_X7_begin_l63 i0 x2 m = some m') : Xj RX7 cX7_begin 3 none 1 88 0 0 0 0 63 [(0, vR 7 i0), (2, vI x2)] [] m oV m' := by
  unfold r_X7_begin_l63 at h
  obtain ⟨e, e1, h⟩ := bd1_some h
  refine loopO_ok (P := fun s : (Int32 × Mem) => Xj RX7 cX7_begin 3 none 1 88 0 0 0 0 63 [(0, vR 7 i0), (2, vI s.1)] [] s.2 oV m') (Q := fun e : (Mem) => Xj RX7 cX7_begin 3 none 1 88 0 0 0 0 89 [] [] e oV m') ?_ _ _ e1 ?_
  · intro s r9 h9 hi hx
    exact ok_X7_begin_b63 i0 s.1 s.2 h9 (by rintro _ _ rfl; exact hi _ rfl) (by rintro _ rfl; exact hx _ rfl)
  · exact ok_X7_begin_e89_h63 e h 
noncomputable def r_X7_begin (i0 : Nat) (i1 : Nat) (m : Mem) : Option Mem :=
  r_X7_begin_l63 i0 0 (cpM (cpM (cpM (wr (wr m 7 i0 0 0) 7 i0 1 (m 3 i1 2)) 30 i1 0 20 i0 0 6) 31 i1 0 21 i0 0 6) 32 i1 0 22 i0 0 72)
set_option maxHeartbeats 4000000 in
set_option maxRecDepth 20000 in
theorem ok_X7_begin (i0 : Nat) (i1 : Nat) (m : Mem) {m' : Mem} (h : r_X7_begin i0 i1 m = some m') : Mt yX7_begin cX7_begin 3 none 1 88 0 0 [vR 7 i0, vR 3 i1] m oV m' := by
  refine Mt.of (by decide) (Nat.le_of_ble_eq_true rfl) (by decide +kernel) (hhF_ne (by decide)) ?_
  show Xj RX7 cX7_begin 3 none 1 88 0 0 0 0 0 [(0, vR 7 i0), (1, vR 3 i1)] [] m oV m'
  unfold r_X7_begin at h
  refine xj_aload_n 0 dX7_begin_0 rfl ?_
  refine xj_iconst (z := 0) dX7_begin_1 (by decide) ?_
  refine xj_putI dX7_begin_2 fw_X7_27 rfl ?_
  refine xj_aload_n 0 dX7_begin_5 rfl ?_
  refine xj_aload_n 1 dX7_begin_6 rfl ?_
  refine xg_getI (x := (m 3 i1 2)) dX7_begin_7 fl_X7_31 rfl rfl ?_
  refine xj_putI dX7_begin_10 fw_X7_36 rfl ?_
  refine xj_aload_n 1 dX7_begin_13 rfl ?_
  refine xg_getR (k' := 30) (i' := i1) dX7_begin_14 fl_X7_37 rfl ?_
  refine xj_iconst (z := 0) dX7_begin_17 (by decide) ?_
  refine xj_aload_n 0 dX7_begin_18 rfl ?_
  refine xg_getR (k' := 20) (i' := i0) dX7_begin_19 fl_X7_11 rfl ?_
  refine xj_iconst (z := 0) dX7_begin_22 (by decide) ?_
  refine xj_bipush (z := 6) dX7_begin_23 (by decide) ?_
  refine xg_copy (s' := 0) (d' := 0) (n' := 6) dX7_begin_25 cp_X7_38 rfl rfl (by decide) (by decide) (by decide) (by decide) (by decide) (by decide) (by decide) (by decide) (by decide) (by decide) (by decide) (Nat.le_of_ble_eq_true rfl) ?_
  refine xj_aload_n 1 dX7_begin_28 rfl ?_
  refine xg_getR (k' := 31) (i' := i1) dX7_begin_29 fl_X7_44 rfl ?_
  refine xj_iconst (z := 0) dX7_begin_32 (by decide) ?_
  refine xj_aload_n 0 dX7_begin_33 rfl ?_
  refine xg_getR (k' := 21) (i' := i0) dX7_begin_34 fl_X7_15 rfl ?_
  refine xj_iconst (z := 0) dX7_begin_37 (by decide) ?_
  refine xj_bipush (z := 6) dX7_begin_38 (by decide) ?_
  refine xg_copy (s' := 0) (d' := 0) (n' := 6) dX7_begin_40 cp_X7_38 rfl rfl (by decide) (by decide) (by decide) (by decide) (by decide) (by decide) (by decide) (by decide) (by decide) (by decide) (by decide) (Nat.le_of_ble_eq_true rfl) ?_
  refine xj_aload_n 1 dX7_begin_43 rfl ?_
  refine xg_getR (k' := 32) (i' := i1) dX7_begin_44 fl_X7_47 rfl ?_
  refine xj_iconst (z := 0) dX7_begin_47 (by decide) ?_
  refine xj_aload_n 0 dX7_begin_48 rfl ?_
  refine xg_getR (k' := 22) (i' := i0) dX7_begin_49 fl_X7_18 rfl ?_
  refine xj_iconst (z := 0) dX7_begin_52 (by decide) ?_
  refine xj_aload_n 1 dX7_begin_53 rfl ?_
  refine xg_getR (k' := 32) (i' := i1) dX7_begin_54 fl_X7_47 rfl ?_
  refine xj_alen (x := 72) dX7_begin_57 (by decide) (by decide) (by decide) (by decide) ?_
  refine xg_copy (s' := 0) (d' := 0) (n' := 72) dX7_begin_58 cp_X7_38 rfl rfl (by decide) (by decide) (by decide) (by decide) (by decide) (by decide) (by decide) (by decide) (by decide) (by decide) (by decide) (Nat.le_of_ble_eq_true rfl) ?_
  refine xj_iconst (z := 0) dX7_begin_61 (by decide) ?_
  refine xj_istore_n (ls' := [(2, vI 0), (0, vR 7 i0), (1, vR 3 i1)]) dX7_begin_62 rfl (by decide) rfl ?_
  refine xj_pick (ls' := [(0, vR 7 i0), (2, vI 0)]) [1, 0] rfl ?_
  exact ok_X7_begin_l63 i0 0 (cpM (cpM (cpM (wr (wr m 7 i0 0 0) 7 i0 1 (m 3 i1 2)) 30 i1 0 20 i0 0 6) 31 i1 0 21 i0 0 6) 32 i1 0 22 i0 0 72) h 
noncomputable def r_X7_believes (i0 : Nat) (x1 : Int32) (x2 : Int32) (m : Mem) : Option Int32 :=
  if inb ((x1 * 12) + x2) 96 = true then (some (m 22 i0 (((x1 * 12) + x2).toNatClampNeg))) else none
set_option maxHeartbeats 4000000 in
set_option maxRecDepth 20000 in
theorem ok_X7_believes (i0 : Nat) (x1 : Int32) (x2 : Int32) (m : Mem) {z : Int32} (h : r_X7_believes i0 x1 x2 m = some z) : Mt yX7_believes cX7_believes 3 (some .int) 1 0 0 0 [vR 7 i0, vI x1, vI x2] m (oI z) m := by
  refine Mt.of (by decide) (Nat.le_of_ble_eq_true rfl) (by decide +kernel) (hhF_ne (by decide)) ?_
  show Xj RX7 cX7_believes 3 (some .int) 1 0 0 0 0 0 0 [(0, vR 7 i0), (1, vI x1), (2, vI x2)] [] m (oI z) m
  unfold r_X7_believes at h
  refine xj_aload_n 0 dX7_believes_0 rfl ?_
  refine xg_getR (k' := 22) (i' := i0) dX7_believes_1 fl_X7_18 rfl ?_
  refine xj_iload_n 1 dX7_believes_4 rfl ?_
  refine xj_bipush (z := 12) dX7_believes_5 (by decide) ?_
  refine xj_imul dX7_believes_7 ?_
  refine xj_iload_n 2 dX7_believes_8 rfl ?_
  refine xj_iadd dX7_believes_9 ?_
  by_cases c1 : inb ((x1 * 12) + x2) 96 = true
  case neg => rw [if_neg c1] at h; cases h
  rw [if_pos c1] at h
  refine xg_iald (z := (m 22 i0 (((x1 * 12) + x2).toNatClampNeg))) (n := ((x1 * 12) + x2).toNatClampNeg) dX7_believes_10 rfl (by decide) (inb_in c1) rfl rfl ?_
  cases h
  exact xj_ireturn dX7_believes_11 rfl (by decide) (by decide)
noncomputable def r_X7_believedBy_j23_c4 (i0 : Nat) (x1 : Int32) (x2 : Int32) (x3 : Int32) (m : Mem) : Option ((Int32 × Int32) ⊕ (Int32)) :=
  some (Sum.inl (x2, x3 + 1))
set_option maxHeartbeats 4000000 in
set_option maxRecDepth 20000 in
theorem ok_X7_believedBy_j23_c4 (i0 : Nat) (x1 : Int32) (x2 : Int32) (x3 : Int32) (m : Mem) {r : (Int32 × Int32) ⊕ (Int32)} (h : r_X7_believedBy_j23_c4 i0 x1 x2 x3 m = some r) {o : Ou} {M' : Mem} (kb : ∀ (x2' : Int32) (x3' : Int32), r = Sum.inl (x2', x3') → Xj RX7 cX7_believedBy 4 (some .int) 2 22 0 0 0 0 4 [(0, vR 7 i0), (1, vI x1), (2, vI x2'), (3, vI x3')] [] m o M') (ke : ∀ (x2' : Int32), r = Sum.inr x2' → Xj RX7 cX7_believedBy 4 (some .int) 2 22 0 0 0 0 29 [(2, vI x2')] [] m o M') : Xj RX7 cX7_believedBy 4 (some .int) 2 22 0 0 0 0 23 [(0, vR 7 i0), (1, vI x1), (2, vI x2), (3, vI x3)] [] m o M' := by
  unfold r_X7_believedBy_j23_c4 at h
  refine xj_iinc (z := x3 + 1) (ls' := [(3, vI (x3 + 1)), (0, vR 7 i0), (1, vI x1), (2, vI x2)]) 3 dX7_believedBy_23 rfl rfl (by decide) rfl ?_
  refine xj_goto (tgt := 4) dX7_believedBy_26 (by decide) ?_
  cases h
  refine xj_pick (ls' := [(0, vR 7 i0), (1, vI x1), (2, vI x2), (3, vI (x3 + 1))]) [1, 2, 3, 0] rfl ?_
  exact kb x2 (x3 + 1) rfl
noncomputable def r_X7_believedBy_b4 (i0 : Nat) (x1 : Int32) (m : Mem) (x2 : Int32) (x3 : Int32) : Option ((Int32 × Int32) ⊕ (Int32)) :=
  if 12 ≤ x3 then (some (Sum.inr x2)) else (bd1 (r_X7_believes i0 x1 x3 m) fun z3 => (if z3 = (-1) then (r_X7_believedBy_j23_c4 i0 x1 x2 x3 m) else (r_X7_believedBy_j23_c4 i0 x1 (x2 + 1) x3 m)))
set_option maxHeartbeats 4000000 in
set_option maxRecDepth 20000 in
theorem ok_X7_believedBy_b4 (i0 : Nat) (x1 : Int32) (m : Mem) (x2 : Int32) (x3 : Int32) {r : (Int32 × Int32) ⊕ (Int32)} (h : r_X7_believedBy_b4 i0 x1 m x2 x3 = some r) {o : Ou} {M' : Mem} (kb : ∀ (x2' : Int32) (x3' : Int32), r = Sum.inl (x2', x3') → Xj RX7 cX7_believedBy 4 (some .int) 2 22 0 0 0 0 4 [(0, vR 7 i0), (1, vI x1), (2, vI x2'), (3, vI x3')] [] m o M') (ke : ∀ (x2' : Int32), r = Sum.inr x2' → Xj RX7 cX7_believedBy 4 (some .int) 2 22 0 0 0 0 29 [(2, vI x2')] [] m o M') : Xj RX7 cX7_believedBy 4 (some .int) 2 22 0 0 0 0 4 [(0, vR 7 i0), (1, vI x1), (2, vI x2), (3, vI x3)] [] m o M' := by
  unfold r_X7_believedBy_b4 at h
  refine xj_iload_n 3 dX7_believedBy_4 rfl ?_
  refine xj_bipush (z := 12) dX7_believedBy_5 (by decide) ?_
  refine xj_icmp_ge (tgt := 29) dX7_believedBy_7 (by decide) (fun c1 => ?_) (fun c1 => ?_)
  · rw [if_pos c1] at h
    cases h
    refine xj_pick (ls' := [(2, vI x2)]) [2] rfl ?_
    exact ke x2 rfl
  · rw [if_neg c1] at h
    refine xj_aload_n 0 dX7_believedBy_10 rfl ?_
    refine xj_iload_n 1 dX7_believedBy_11 rfl ?_
    refine xj_iload_n 3 dX7_believedBy_12 rfl ?_
    obtain ⟨z3, e2, h⟩ := bd1_some h
    refine xc_Vi0 (st := []) (ok_X7_believes i0 x1 x3 m e2) dX7_believedBy_13 cv_X7_54 rfl rfl (Nat.le_of_ble_eq_true rfl) (by decide) (by decide) (by decide) (by decide) ?_
    refine xj_iconst (z := (-1)) dX7_believedBy_16 (by decide) ?_
    refine xj_icmp_eq (tgt := 23) dX7_believedBy_17 (by decide) (fun c4 => ?_) (fun c4 => ?_)
    · rw [if_pos c4] at h
      exact ok_X7_believedBy_j23_c4 i0 x1 x2 x3 m h kb ke
    · rw [if_neg c4] at h
      refine xj_iinc (z := x2 + 1) (ls' := [(2, vI (x2 + 1)), (0, vR 7 i0), (1, vI x1), (3, vI x3)]) 2 dX7_believedBy_20 rfl rfl (by decide) rfl ?_
      refine xj_pick (ls' := [(0, vR 7 i0), (1, vI x1), (2, vI (x2 + 1)), (3, vI x3)]) [1, 2, 0, 3] rfl ?_
      exact ok_X7_believedBy_j23_c4 i0 x1 (x2 + 1) x3 m h kb ke
noncomputable def r_X7_believedBy_e29_h4 (x2 : Int32) (m : Mem) : Option Int32 :=
  some x2
set_option maxHeartbeats 4000000 in
set_option maxRecDepth 20000 in
theorem ok_X7_believedBy_e29_h4 (x2 : Int32) (m : Mem) {z : Int32} (h : r_X7_believedBy_e29_h4 x2 m = some z) : Xj RX7 cX7_believedBy 4 (some .int) 2 22 0 0 0 0 29 [(2, vI x2)] [] m (oI z) m := by
  unfold r_X7_believedBy_e29_h4 at h
  refine xj_iload_n 0 dX7_believedBy_29 rfl ?_
  cases h
  exact xj_ireturn dX7_believedBy_30 rfl (by decide) (by decide)
noncomputable def r_X7_believedBy_l4 (i0 : Nat) (x1 : Int32) (x2 : Int32) (x3 : Int32) (m : Mem) : Option Int32 :=
  bd1 (loopO (fun s => r_X7_believedBy_b4 i0 x1 m s.1 s.2) (x2, x3)) (fun e => r_X7_believedBy_e29_h4 e m)
set_option maxHeartbeats 4000000 in
set_option maxRecDepth 20000 in
theorem ok_X7_believedBy_l4 (i0 : Nat) (x1 : Int32) (x2 : Int32) (x3 : Int32) (m : Mem) {z : Int32} (h : r_X7_believedBy_l4 i0 x1 x2 x3 m = some z) : Xj RX7 cX7_believedBy 4 (some .int) 2 22 0 0 0 0 4 [(0, vR 7 i0), (1, vI x1), (2, vI x2), (3, vI x3)] [] m (oI z) m := by
  unfold r_X7_believedBy_l4 at h
  obtain ⟨e, e1, h⟩ := bd1_some h
  refine loopO_ok (P := fun s : (Int32 × Int32) => Xj RX7 cX7_believedBy 4 (some .int) 2 22 0 0 0 0 4 [(0, vR 7 i0), (1, vI x1), (2, vI s.1), (3, vI s.2)] [] m (oI z) m) (Q := fun e : (Int32) => Xj RX7 cX7_believedBy 4 (some .int) 2 22 0 0 0 0 29 [(2, vI e)] [] m (oI z) m) ?_ _ _ e1 ?_
  · intro s r9 h9 hi hx
    exact ok_X7_believedBy_b4 i0 x1 m s.1 s.2 h9 (by rintro _ _ rfl; exact hi _ rfl) (by rintro _ rfl; exact hx _ rfl)
  · exact ok_X7_believedBy_e29_h4 e m h 
noncomputable def r_X7_believedBy (i0 : Nat) (x1 : Int32) (m : Mem) : Option Int32 :=
  r_X7_believedBy_l4 i0 x1 0 0 m
set_option maxHeartbeats 4000000 in
set_option maxRecDepth 20000 in
theorem ok_X7_believedBy (i0 : Nat) (x1 : Int32) (m : Mem) {z : Int32} (h : r_X7_believedBy i0 x1 m = some z) : Mt yX7_believedBy cX7_believedBy 4 (some .int) 2 22 0 0 [vR 7 i0, vI x1] m (oI z) m := by
  refine Mt.of (by decide) (Nat.le_of_ble_eq_true rfl) (by decide +kernel) (hhF_ne (by decide)) ?_
  show Xj RX7 cX7_believedBy 4 (some .int) 2 22 0 0 0 0 0 [(0, vR 7 i0), (1, vI x1)] [] m (oI z) m
  unfold r_X7_believedBy at h
  refine xj_iconst (z := 0) dX7_believedBy_0 (by decide) ?_
  refine xj_istore_n (ls' := [(2, vI 0), (0, vR 7 i0), (1, vI x1)]) dX7_believedBy_1 rfl (by decide) rfl ?_
  refine xj_iconst (z := 0) dX7_believedBy_2 (by decide) ?_
  refine xj_istore_n (ls' := [(3, vI 0), (2, vI 0), (0, vR 7 i0), (1, vI x1)]) dX7_believedBy_3 rfl (by decide) rfl ?_
  refine xj_pick (ls' := [(0, vR 7 i0), (1, vI x1), (2, vI 0), (3, vI 0)]) [2, 3, 1, 0] rfl ?_
  exact ok_X7_believedBy_l4 i0 x1 0 0 m h 
noncomputable def r_X7_believedInAll_b4 (i0 : Nat) (m : Mem) (x1 : Int32) (x2 : Int32) : Option ((Int32 × Int32) ⊕ (Int32)) :=
  if (m 7 i0 1) ≤ x2 then (some (Sum.inr x1)) else (bd1 (r_X7_believedBy i0 x2 m) fun z3 => (some (Sum.inl ((x1 + z3), x2 + 1))))
set_option maxHeartbeats 4000000 in
set_option maxRecDepth 20000 in
theorem ok_X7_believedInAll_b4 (i0 : Nat) (m : Mem) (x1 : Int32) (x2 : Int32) {r : (Int32 × Int32) ⊕ (Int32)} (h : r_X7_believedInAll_b4 i0 m x1 x2 = some r) {o : Ou} {M' : Mem} (kb : ∀ (x1' : Int32) (x2' : Int32), r = Sum.inl (x1', x2') → Xj RX7 cX7_believedInAll 3 (some .int) 3 45 0 0 0 0 4 [(0, vR 7 i0), (1, vI x1'), (2, vI x2')] [] m o M') (ke : ∀ (x1' : Int32), r = Sum.inr x1' → Xj RX7 cX7_believedInAll 3 (some .int) 3 45 0 0 0 0 26 [(1, vI x1')] [] m o M') : Xj RX7 cX7_believedInAll 3 (some .int) 3 45 0 0 0 0 4 [(0, vR 7 i0), (1, vI x1), (2, vI x2)] [] m o M' := by
  unfold r_X7_believedInAll_b4 at h
  refine xj_iload_n 2 dX7_believedInAll_4 rfl ?_
  refine xj_aload_n 0 dX7_believedInAll_5 rfl ?_
  refine xg_getI (x := (m 7 i0 1)) dX7_believedInAll_6 fl_X7_36 rfl rfl ?_
  refine xj_icmp_ge (tgt := 26) dX7_believedInAll_9 (by decide) (fun c1 => ?_) (fun c1 => ?_)
  · rw [if_pos c1] at h
    cases h
    refine xj_pick (ls' := [(1, vI x1)]) [1] rfl ?_
    exact ke x1 rfl
  · rw [if_neg c1] at h
    refine xj_iload_n 1 dX7_believedInAll_12 rfl ?_
    refine xj_aload_n 0 dX7_believedInAll_13 rfl ?_
    refine xj_iload_n 2 dX7_believedInAll_14 rfl ?_
    obtain ⟨z3, e2, h⟩ := bd1_some h
    refine xc_Vi0 (st := [vI x1]) (ok_X7_believedBy i0 x2 m e2) dX7_believedInAll_15 cv_X7_58 rfl rfl (Nat.le_of_ble_eq_true rfl) (by decide) (by decide) (by decide) (by decide) ?_
    refine xj_iadd dX7_believedInAll_18 ?_
    refine xj_istore_n (ls' := [(1, vI (x1 + z3)), (0, vR 7 i0), (2, vI x2)]) dX7_believedInAll_19 rfl (by decide) rfl ?_
    refine xj_iinc (z := x2 + 1) (ls' := [(2, vI (x2 + 1)), (1, vI (x1 + z3)), (0, vR 7 i0)]) 2 dX7_believedInAll_20 rfl rfl (by decide) rfl ?_
    refine xj_goto (tgt := 4) dX7_believedInAll_23 (by decide) ?_
    cases h
    refine xj_pick (ls' := [(0, vR 7 i0), (1, vI (x1 + z3)), (2, vI (x2 + 1))]) [2, 1, 0] rfl ?_
    exact kb (x1 + z3) (x2 + 1) rfl
noncomputable def r_X7_believedInAll_e26_h4 (x1 : Int32) (m : Mem) : Option Int32 :=
  some x1
set_option maxHeartbeats 4000000 in
set_option maxRecDepth 20000 in
theorem ok_X7_believedInAll_e26_h4 (x1 : Int32) (m : Mem) {z : Int32} (h : r_X7_believedInAll_e26_h4 x1 m = some z) : Xj RX7 cX7_believedInAll 3 (some .int) 3 45 0 0 0 0 26 [(1, vI x1)] [] m (oI z) m := by
  unfold r_X7_believedInAll_e26_h4 at h
  refine xj_iload_n 0 dX7_believedInAll_26 rfl ?_
  cases h
  exact xj_ireturn dX7_believedInAll_27 rfl (by decide) (by decide)
noncomputable def r_X7_believedInAll_l4 (i0 : Nat) (x1 : Int32) (x2 : Int32) (m : Mem) : Option Int32 :=
  bd1 (loopO (fun s => r_X7_believedInAll_b4 i0 m s.1 s.2) (x1, x2)) (fun e => r_X7_believedInAll_e26_h4 e m)
set_option maxHeartbeats 4000000 in
set_option maxRecDepth 20000 in
theorem ok_X7_believedInAll_l4 (i0 : Nat) (x1 : Int32) (x2 : Int32) (m : Mem) {z : Int32} (h : r_X7_believedInAll_l4 i0 x1 x2 m = some z) : Xj RX7 cX7_believedInAll 3 (some .int) 3 45 0 0 0 0 4 [(0, vR 7 i0), (1, vI x1), (2, vI x2)] [] m (oI z) m := by
  unfold r_X7_believedInAll_l4 at h
  obtain ⟨e, e1, h⟩ := bd1_some h
  refine loopO_ok (P := fun s : (Int32 × Int32) => Xj RX7 cX7_believedInAll 3 (some .int) 3 45 0 0 0 0 4 [(0, vR 7 i0), (1, vI s.1), (2, vI s.2)] [] m (oI z) m) (Q := fun e : (Int32) => Xj RX7 cX7_believedInAll 3 (some .int) 3 45 0 0 0 0 26 [(1, vI e)] [] m (oI z) m) ?_ _ _ e1 ?_
  · intro s r9 h9 hi hx
    exact ok_X7_believedInAll_b4 i0 m s.1 s.2 h9 (by rintro _ _ rfl; exact hi _ rfl) (by rintro _ rfl; exact hx _ rfl)
  · exact ok_X7_believedInAll_e26_h4 e m h 
noncomputable def r_X7_believedInAll (i0 : Nat) (m : Mem) : Option Int32 :=
  r_X7_believedInAll_l4 i0 0 0 m
set_option maxHeartbeats 4000000 in
set_option maxRecDepth 20000 in
theorem ok_X7_believedInAll (i0 : Nat) (m : Mem) {z : Int32} (h : r_X7_believedInAll i0 m = some z) : Mt yX7_believedInAll cX7_believedInAll 3 (some .int) 3 45 0 0 [vR 7 i0] m (oI z) m := by
  refine Mt.of (by decide) (Nat.le_of_ble_eq_true rfl) (by decide +kernel) (hhF_ne (by decide)) ?_
  show Xj RX7 cX7_believedInAll 3 (some .int) 3 45 0 0 0 0 0 [(0, vR 7 i0)] [] m (oI z) m
  unfold r_X7_believedInAll at h
  refine xj_iconst (z := 0) dX7_believedInAll_0 (by decide) ?_
  refine xj_istore_n (ls' := [(1, vI 0), (0, vR 7 i0)]) dX7_believedInAll_1 rfl (by decide) rfl ?_
  refine xj_iconst (z := 0) dX7_believedInAll_2 (by decide) ?_
  refine xj_istore_n (ls' := [(2, vI 0), (1, vI 0), (0, vR 7 i0)]) dX7_believedInAll_3 rfl (by decide) rfl ?_
  refine xj_pick (ls' := [(0, vR 7 i0), (1, vI 0), (2, vI 0)]) [2, 1, 0] rfl ?_
  exact ok_X7_believedInAll_l4 i0 0 0 m h 
noncomputable def r_X7_copyFrom (i0 : Nat) (i1 : Nat) (m : Mem) : Option Mem :=
  some (cpM (cpM (cpM (cpM (cpM (wr (wr m 7 i0 0 (m 7 i1 0)) 7 i0 1 ((wr m 7 i0 0 (m 7 i1 0)) 7 i1 1)) 20 i1 0 20 i0 0 8) 21 i1 0 21 i0 0 8) 22 i1 0 22 i0 0 96) 23 i1 0 23 i0 0 16) 24 i1 0 24 i0 0 16)
set_option maxHeartbeats 4000000 in
set_option maxRecDepth 20000 in
theorem ok_X7_copyFrom (i0 : Nat) (i1 : Nat) (m : Mem) {m' : Mem} (h : r_X7_copyFrom i0 i1 m = some m') : Mt yX7_copyFrom cX7_copyFrom 2 none 1 88 0 0 [vR 7 i0, vR 7 i1] m oV m' := by
  refine Mt.of (by decide) (Nat.le_of_ble_eq_true rfl) (by decide +kernel) (hhF_ne (by decide)) ?_
  show Xj RX7 cX7_copyFrom 2 none 1 88 0 0 0 0 0 [(0, vR 7 i0), (1, vR 7 i1)] [] m oV m'
  unfold r_X7_copyFrom at h
  refine xj_aload_n 0 dX7_copyFrom_0 rfl ?_
  refine xj_aload_n 1 dX7_copyFrom_1 rfl ?_
  refine xg_getI (x := (m 7 i1 0)) dX7_copyFrom_2 fl_X7_27 rfl rfl ?_
  refine xj_putI dX7_copyFrom_5 fw_X7_27 rfl ?_
  refine xj_aload_n 0 dX7_copyFrom_8 rfl ?_
  refine xj_aload_n 1 dX7_copyFrom_9 rfl ?_
  refine xg_getI (x := ((wr m 7 i0 0 (m 7 i1 0)) 7 i1 1)) dX7_copyFrom_10 fl_X7_36 rfl (by first | rfl | simp [wr]) ?_
  refine xj_putI dX7_copyFrom_13 fw_X7_36 rfl ?_
  refine xj_aload_n 1 dX7_copyFrom_16 rfl ?_
  refine xg_getR (k' := 20) (i' := i1) dX7_copyFrom_17 fl_X7_11 rfl ?_
  refine xj_iconst (z := 0) dX7_copyFrom_20 (by decide) ?_
  refine xj_aload_n 0 dX7_copyFrom_21 rfl ?_
  refine xg_getR (k' := 20) (i' := i0) dX7_copyFrom_22 fl_X7_11 rfl ?_
  refine xj_iconst (z := 0) dX7_copyFrom_25 (by decide) ?_
  refine xj_aload_n 0 dX7_copyFrom_26 rfl ?_
  refine xg_getR (k' := 20) (i' := i0) dX7_copyFrom_27 fl_X7_11 rfl ?_
  refine xj_alen (x := 8) dX7_copyFrom_30 (by decide) (by decide) (by decide) (by decide) ?_
  refine xg_copy (s' := 0) (d' := 0) (n' := 8) dX7_copyFrom_31 cp_X7_38 rfl rfl (by decide) (by decide) (by decide) (by decide) (by decide) (by decide) (by decide) (by decide) (by decide) (by decide) (by decide) (Nat.le_of_ble_eq_true rfl) ?_
  refine xj_aload_n 1 dX7_copyFrom_34 rfl ?_
  refine xg_getR (k' := 21) (i' := i1) dX7_copyFrom_35 fl_X7_15 rfl ?_
  refine xj_iconst (z := 0) dX7_copyFrom_38 (by decide) ?_
  refine xj_aload_n 0 dX7_copyFrom_39 rfl ?_
  refine xg_getR (k' := 21) (i' := i0) dX7_copyFrom_40 fl_X7_15 rfl ?_
  refine xj_iconst (z := 0) dX7_copyFrom_43 (by decide) ?_
  refine xj_aload_n 0 dX7_copyFrom_44 rfl ?_
  refine xg_getR (k' := 21) (i' := i0) dX7_copyFrom_45 fl_X7_15 rfl ?_
  refine xj_alen (x := 8) dX7_copyFrom_48 (by decide) (by decide) (by decide) (by decide) ?_
  refine xg_copy (s' := 0) (d' := 0) (n' := 8) dX7_copyFrom_49 cp_X7_38 rfl rfl (by decide) (by decide) (by decide) (by decide) (by decide) (by decide) (by decide) (by decide) (by decide) (by decide) (by decide) (Nat.le_of_ble_eq_true rfl) ?_
  refine xj_aload_n 1 dX7_copyFrom_52 rfl ?_
  refine xg_getR (k' := 22) (i' := i1) dX7_copyFrom_53 fl_X7_18 rfl ?_
  refine xj_iconst (z := 0) dX7_copyFrom_56 (by decide) ?_
  refine xj_aload_n 0 dX7_copyFrom_57 rfl ?_
  refine xg_getR (k' := 22) (i' := i0) dX7_copyFrom_58 fl_X7_18 rfl ?_
  refine xj_iconst (z := 0) dX7_copyFrom_61 (by decide) ?_
  refine xj_aload_n 0 dX7_copyFrom_62 rfl ?_
  refine xg_getR (k' := 22) (i' := i0) dX7_copyFrom_63 fl_X7_18 rfl ?_
  refine xj_alen (x := 96) dX7_copyFrom_66 (by decide) (by decide) (by decide) (by decide) ?_
  refine xg_copy (s' := 0) (d' := 0) (n' := 96) dX7_copyFrom_67 cp_X7_38 rfl rfl (by decide) (by decide) (by decide) (by decide) (by decide) (by decide) (by decide) (by decide) (by decide) (by decide) (by decide) (Nat.le_of_ble_eq_true rfl) ?_
  refine xj_aload_n 1 dX7_copyFrom_70 rfl ?_
  refine xg_getR (k' := 23) (i' := i1) dX7_copyFrom_71 fl_X7_21 rfl ?_
  refine xj_iconst (z := 0) dX7_copyFrom_74 (by decide) ?_
  refine xj_aload_n 0 dX7_copyFrom_75 rfl ?_
  refine xg_getR (k' := 23) (i' := i0) dX7_copyFrom_76 fl_X7_21 rfl ?_
  refine xj_iconst (z := 0) dX7_copyFrom_79 (by decide) ?_
  refine xj_aload_n 0 dX7_copyFrom_80 rfl ?_
  refine xg_getR (k' := 23) (i' := i0) dX7_copyFrom_81 fl_X7_21 rfl ?_
  refine xj_alen (x := 16) dX7_copyFrom_84 (by decide) (by decide) (by decide) (by decide) ?_
  refine xg_copy (s' := 0) (d' := 0) (n' := 16) dX7_copyFrom_85 cp_X7_38 rfl rfl (by decide) (by decide) (by decide) (by decide) (by decide) (by decide) (by decide) (by decide) (by decide) (by decide) (by decide) (Nat.le_of_ble_eq_true rfl) ?_
  refine xj_aload_n 1 dX7_copyFrom_88 rfl ?_
  refine xg_getR (k' := 24) (i' := i1) dX7_copyFrom_89 fl_X7_24 rfl ?_
  refine xj_iconst (z := 0) dX7_copyFrom_92 (by decide) ?_
  refine xj_aload_n 0 dX7_copyFrom_93 rfl ?_
  refine xg_getR (k' := 24) (i' := i0) dX7_copyFrom_94 fl_X7_24 rfl ?_
  refine xj_iconst (z := 0) dX7_copyFrom_97 (by decide) ?_
  refine xj_aload_n 0 dX7_copyFrom_98 rfl ?_
  refine xg_getR (k' := 24) (i' := i0) dX7_copyFrom_99 fl_X7_24 rfl ?_
  refine xj_alen (x := 16) dX7_copyFrom_102 (by decide) (by decide) (by decide) (by decide) ?_
  refine xg_copy (s' := 0) (d' := 0) (n' := 16) dX7_copyFrom_103 cp_X7_38 rfl rfl (by decide) (by decide) (by decide) (by decide) (by decide) (by decide) (by decide) (by decide) (by decide) (by decide) (by decide) (Nat.le_of_ble_eq_true rfl) ?_
  cases h
  exact xj_return dX7_copyFrom_106 (by decide) (by decide)
noncomputable def r_X7_forget_j22 (i0 : Nat) (x3 : Int32) (s0 : Int32) (m : Mem) : Option (Bool × Mem) :=
  if inb x3 96 = true then (if inb s0 2 = true then (some (decide (s0 = 1), (wr m 22 i0 x3.toNatClampNeg (-1)))) else none) else none
set_option maxHeartbeats 4000000 in
set_option maxRecDepth 20000 in
theorem ok_X7_forget_j22 (i0 : Nat) (x3 : Int32) (s0 : Int32) (m : Mem) {z : Bool} {m' : Mem} (h : r_X7_forget_j22 i0 x3 s0 m = some (z, m')) : Xj RX7 cX7_forget 5 (some .boolean) 1 0 0 0 0 0 22 [(0, vR 7 i0), (3, vI x3)] [vI s0] m (oB z) m' := by
  unfold r_X7_forget_j22 at h
  refine xj_istore (ls' := [(4, vI s0), (0, vR 7 i0), (3, vI x3)]) dX7_forget_22 (by decide) rfl ?_
  refine xj_aload_n 1 dX7_forget_24 rfl ?_
  refine xg_getR (k' := 22) (i' := i0) dX7_forget_25 fl_X7_18 rfl ?_
  refine xj_iload_n 2 dX7_forget_28 rfl ?_
  refine xj_iconst (z := (-1)) dX7_forget_29 (by decide) ?_
  by_cases c3 : inb x3 96 = true
  case neg => rw [if_neg c3] at h; cases h
  rw [if_pos c3] at h
  refine xg_iast (n := x3.toNatClampNeg) dX7_forget_30 rfl (by decide) (inb_in c3) rfl ?_
  refine xj_iload 0 dX7_forget_31 rfl ?_
  by_cases c4 : inb s0 2 = true
  case neg => rw [if_neg c4] at h; cases h
  rw [if_pos c4] at h
  cases h
  exact xj_iretB dX7_forget_33 c4 (by decide) (by decide)
noncomputable def r_X7_forget (i0 : Nat) (x1 : Int32) (x2 : Int32) (m : Mem) : Option (Bool × Mem) :=
  if inb ((x1 * 12) + x2) 96 = true then (if (m 22 i0 (((x1 * 12) + x2).toNatClampNeg)) = (-1) then (r_X7_forget_j22 i0 ((x1 * 12) + x2) 0 m) else (r_X7_forget_j22 i0 ((x1 * 12) + x2) 1 m)) else none
set_option maxHeartbeats 4000000 in
set_option maxRecDepth 20000 in
theorem ok_X7_forget (i0 : Nat) (x1 : Int32) (x2 : Int32) (m : Mem) {z : Bool} {m' : Mem} (h : r_X7_forget i0 x1 x2 m = some (z, m')) : Mt yX7_forget cX7_forget 5 (some .boolean) 1 0 0 0 [vR 7 i0, vI x1, vI x2] m (oB z) m' := by
  refine Mt.of (by decide) (Nat.le_of_ble_eq_true rfl) (by decide +kernel) (hhF_ne (by decide)) ?_
  show Xj RX7 cX7_forget 5 (some .boolean) 1 0 0 0 0 0 0 [(0, vR 7 i0), (1, vI x1), (2, vI x2)] [] m (oB z) m'
  unfold r_X7_forget at h
  refine xj_iload_n 1 dX7_forget_0 rfl ?_
  refine xj_bipush (z := 12) dX7_forget_1 (by decide) ?_
  refine xj_imul dX7_forget_3 ?_
  refine xj_iload_n 2 dX7_forget_4 rfl ?_
  refine xj_iadd dX7_forget_5 ?_
  refine xj_istore_n (ls' := [(3, vI ((x1 * 12) + x2)), (0, vR 7 i0), (1, vI x1), (2, vI x2)]) dX7_forget_6 rfl (by decide) rfl ?_
  refine xj_aload_n 1 dX7_forget_7 rfl ?_
  refine xg_getR (k' := 22) (i' := i0) dX7_forget_8 fl_X7_18 rfl ?_
  refine xj_iload_n 0 dX7_forget_11 rfl ?_
  by_cases c1 : inb ((x1 * 12) + x2) 96 = true
  case neg => rw [if_neg c1] at h; cases h
  rw [if_pos c1] at h
  refine xg_iald (z := (m 22 i0 (((x1 * 12) + x2).toNatClampNeg))) (n := ((x1 * 12) + x2).toNatClampNeg) dX7_forget_12 rfl (by decide) (inb_in c1) rfl rfl ?_
  refine xj_iconst (z := (-1)) dX7_forget_13 (by decide) ?_
  refine xj_icmp_eq (tgt := 21) dX7_forget_14 (by decide) (fun c2 => ?_) (fun c2 => ?_)
  · rw [if_pos c2] at h
    refine xj_iconst (z := 0) dX7_forget_21 (by decide) ?_
    refine xj_pick (ls' := [(0, vR 7 i0), (3, vI ((x1 * 12) + x2))]) [1, 0] rfl ?_
    exact ok_X7_forget_j22 i0 ((x1 * 12) + x2) 0 m h 
  · rw [if_neg c2] at h
    refine xj_iconst (z := 1) dX7_forget_17 (by decide) ?_
    refine xj_goto (tgt := 22) dX7_forget_18 (by decide) ?_
    refine xj_pick (ls' := [(0, vR 7 i0), (3, vI ((x1 * 12) + x2))]) [1, 0] rfl ?_
    exact ok_X7_forget_j22 i0 ((x1 * 12) + x2) 1 m h 
noncomputable def r_X7_forgetAll_j23_c2 (i0 : Nat) (x1 : Int32) (x2 : Int32) (m : Mem) : Option ((Int32 × Mem) ⊕ (Mem)) :=
  some (Sum.inl (x2 + 1, m))
set_option maxHeartbeats 4000000 in
set_option maxRecDepth 20000 in
theorem ok_X7_forgetAll_j23_c2 (i0 : Nat) (x1 : Int32) (x2 : Int32) (m : Mem) {r : (Int32 × Mem) ⊕ (Mem)} (h : r_X7_forgetAll_j23_c2 i0 x1 x2 m = some r) {o : Ou} {M' : Mem} (kb : ∀ (x2' : Int32) (m'' : Mem), r = Sum.inl (x2', m'') → Xj RX7 cX7_forgetAll 3 none 2 22 0 0 0 0 2 [(0, vR 7 i0), (1, vI x1), (2, vI x2')] [] m'' o M') (ke : ∀ (m'' : Mem), r = Sum.inr m'' → Xj RX7 cX7_forgetAll 3 none 2 22 0 0 0 0 29 [] [] m'' o M') : Xj RX7 cX7_forgetAll 3 none 2 22 0 0 0 0 23 [(0, vR 7 i0), (1, vI x1), (2, vI x2)] [] m o M' := by
  unfold r_X7_forgetAll_j23_c2 at h
  refine xj_iinc (z := x2 + 1) (ls' := [(2, vI (x2 + 1)), (0, vR 7 i0), (1, vI x1)]) 2 dX7_forgetAll_23 rfl rfl (by decide) rfl ?_
  refine xj_goto (tgt := 2) dX7_forgetAll_26 (by decide) ?_
  cases h
  refine xj_pick (ls' := [(0, vR 7 i0), (1, vI x1), (2, vI (x2 + 1))]) [1, 2, 0] rfl ?_
  exact kb (x2 + 1) m rfl
noncomputable def r_X7_forgetAll_b2 (i0 : Nat) (x1 : Int32) (x2 : Int32) (m : Mem) : Option ((Int32 × Mem) ⊕ (Mem)) :=
  if (m 7 i0 1) ≤ x2 then (some (Sum.inr m)) else (if ((x1 >>> (x2 &&& 31)) &&& 1) = 0 then (r_X7_forgetAll_j23_c2 i0 x1 x2 m) else (bd1 (r_X7_forgetAllOf i0 x2 m) fun m4 => (r_X7_forgetAll_j23_c2 i0 x1 x2 m4)))
set_option maxHeartbeats 4000000 in
set_option maxRecDepth 20000 in
theorem ok_X7_forgetAll_b2 (i0 : Nat) (x1 : Int32) (x2 : Int32) (m : Mem) {r : (Int32 × Mem) ⊕ (Mem)} (h : r_X7_forgetAll_b2 i0 x1 x2 m = some r) {o : Ou} {M' : Mem} (kb : ∀ (x2' : Int32) (m'' : Mem), r = Sum.inl (x2', m'') → Xj RX7 cX7_forgetAll 3 none 2 22 0 0 0 0 2 [(0, vR 7 i0), (1, vI x1), (2, vI x2')] [] m'' o M') (ke : ∀ (m'' : Mem), r = Sum.inr m'' → Xj RX7 cX7_forgetAll 3 none 2 22 0 0 0 0 29 [] [] m'' o M') : Xj RX7 cX7_forgetAll 3 none 2 22 0 0 0 0 2 [(0, vR 7 i0), (1, vI x1), (2, vI x2)] [] m o M' := by
  unfold r_X7_forgetAll_b2 at h
  refine xj_iload_n 2 dX7_forgetAll_2 rfl ?_
  refine xj_aload_n 0 dX7_forgetAll_3 rfl ?_
  refine xg_getI (x := (m 7 i0 1)) dX7_forgetAll_4 fl_X7_36 rfl rfl ?_
  refine xj_icmp_ge (tgt := 29) dX7_forgetAll_7 (by decide) (fun c1 => ?_) (fun c1 => ?_)
  · rw [if_pos c1] at h
    cases h
    refine xj_pick (ls' := []) [] rfl ?_
    exact ke m rfl
  · rw [if_neg c1] at h
    refine xj_iload_n 1 dX7_forgetAll_10 rfl ?_
    refine xj_iload_n 2 dX7_forgetAll_11 rfl ?_
    refine xj_ishr dX7_forgetAll_12 ?_
    refine xj_iconst (z := 1) dX7_forgetAll_13 (by decide) ?_
    refine xj_iand dX7_forgetAll_14 ?_
    refine xj_if_eq (tgt := 23) dX7_forgetAll_15 (by decide) (fun c2 => ?_) (fun c2 => ?_)
    · rw [if_pos c2] at h
      exact ok_X7_forgetAll_j23_c2 i0 x1 x2 m h kb ke
    · rw [if_neg c2] at h
      refine xj_aload_n 0 dX7_forgetAll_18 rfl ?_
      refine xj_iload_n 2 dX7_forgetAll_19 rfl ?_
      obtain ⟨m4, e3, h⟩ := bd1_some h
      refine xc_Vv0 (st := []) (ok_X7_forgetAllOf i0 x2 m e3) dX7_forgetAll_20 cv_X7_50 rfl rfl (Nat.le_of_ble_eq_true rfl) (by decide) (by decide) (by decide) (by decide) ?_
      exact ok_X7_forgetAll_j23_c2 i0 x1 x2 m4 h kb ke
noncomputable def r_X7_forgetAll_e29_h2 (m : Mem) : Option Mem :=
  some m
set_option maxHeartbeats 4000000 in
set_option maxRecDepth 20000 in
theorem ok_X7_forgetAll_e29_h2 (m : Mem) {m' : Mem} (h : r_X7_forgetAll_e29_h2 m = some m') : Xj RX7 cX7_forgetAll 3 none 2 22 0 0 0 0 29 [] [] m oV m' := by
  unfold r_X7_forgetAll_e29_h2 at h
  cases h
  exact xj_return dX7_forgetAll_29 (by decide) (by decide)
noncomputable def r_X7_forgetAll_l2 (i0 : Nat) (x1 : Int32) (x2 : Int32) (m : Mem) : Option Mem :=
  bd1 (loopO (fun s => r_X7_forgetAll_b2 i0 x1 s.1 s.2) (x2, m)) (fun e => r_X7_forgetAll_e29_h2 e)
set_option maxHeartbeats 4000000 in
set_option maxRecDepth 20000 in
theorem ok_X7_forgetAll_l2 (i0 : Nat) (x1 : Int32) (x2 : Int32) (m : Mem) {m' : Mem} (h : r_X7_forgetAll_l2 i0 x1 x2 m = some m') : Xj RX7 cX7_forgetAll 3 none 2 22 0 0 0 0 2 [(0, vR 7 i0), (1, vI x1), (2, vI x2)] [] m oV m' := by
  unfold r_X7_forgetAll_l2 at h
  obtain ⟨e, e1, h⟩ := bd1_some h
  refine loopO_ok (P := fun s : (Int32 × Mem) => Xj RX7 cX7_forgetAll 3 none 2 22 0 0 0 0 2 [(0, vR 7 i0), (1, vI x1), (2, vI s.1)] [] s.2 oV m') (Q := fun e : (Mem) => Xj RX7 cX7_forgetAll 3 none 2 22 0 0 0 0 29 [] [] e oV m') ?_ _ _ e1 ?_
  · intro s r9 h9 hi hx
    exact ok_X7_forgetAll_b2 i0 x1 s.1 s.2 h9 (by rintro _ _ rfl; exact hi _ rfl) (by rintro _ rfl; exact hx _ rfl)
  · exact ok_X7_forgetAll_e29_h2 e h 
noncomputable def r_X7_forgetAll (i0 : Nat) (x1 : Int32) (m : Mem) : Option Mem :=
  r_X7_forgetAll_l2 i0 x1 0 m
set_option maxHeartbeats 4000000 in
set_option maxRecDepth 20000 in
theorem ok_X7_forgetAll (i0 : Nat) (x1 : Int32) (m : Mem) {m' : Mem} (h : r_X7_forgetAll i0 x1 m = some m') : Mt yX7_forgetAll cX7_forgetAll 3 none 2 22 0 0 [vR 7 i0, vI x1] m oV m' := by
  refine Mt.of (by decide) (Nat.le_of_ble_eq_true rfl) (by decide +kernel) (hhF_ne (by decide)) ?_
  show Xj RX7 cX7_forgetAll 3 none 2 22 0 0 0 0 0 [(0, vR 7 i0), (1, vI x1)] [] m oV m'
  unfold r_X7_forgetAll at h
  refine xj_iconst (z := 0) dX7_forgetAll_0 (by decide) ?_
  refine xj_istore_n (ls' := [(2, vI 0), (0, vR 7 i0), (1, vI x1)]) dX7_forgetAll_1 rfl (by decide) rfl ?_
  refine xj_pick (ls' := [(0, vR 7 i0), (1, vI x1), (2, vI 0)]) [1, 2, 0] rfl ?_
  exact ok_X7_forgetAll_l2 i0 x1 0 m h 
noncomputable def r_X7_personsIn_j28_c4 (i0 : Nat) (x1 : Int32) (x2 : Int32) (x3 : Int32) (m : Mem) : Option ((Int32 × Int32) ⊕ (Int32)) :=
  some (Sum.inl (x2, x3 + 1))
set_option maxHeartbeats 4000000 in
set_option maxRecDepth 20000 in
theorem ok_X7_personsIn_j28_c4 (i0 : Nat) (x1 : Int32) (x2 : Int32) (x3 : Int32) (m : Mem) {r : (Int32 × Int32) ⊕ (Int32)} (h : r_X7_personsIn_j28_c4 i0 x1 x2 x3 m = some r) {o : Ou} {M' : Mem} (kb : ∀ (x2' : Int32) (x3' : Int32), r = Sum.inl (x2', x3') → Xj RX7 cX7_personsIn 4 (some .int) 1 0 0 0 0 0 4 [(0, vR 7 i0), (1, vI x1), (2, vI x2'), (3, vI x3')] [] m o M') (ke : ∀ (x2' : Int32), r = Sum.inr x2' → Xj RX7 cX7_personsIn 4 (some .int) 1 0 0 0 0 0 34 [(2, vI x2')] [] m o M') : Xj RX7 cX7_personsIn 4 (some .int) 1 0 0 0 0 0 28 [(0, vR 7 i0), (1, vI x1), (2, vI x2), (3, vI x3)] [] m o M' := by
  unfold r_X7_personsIn_j28_c4 at h
  refine xj_iinc (z := x3 + 1) (ls' := [(3, vI (x3 + 1)), (0, vR 7 i0), (1, vI x1), (2, vI x2)]) 3 dX7_personsIn_28 rfl rfl (by decide) rfl ?_
  refine xj_goto (tgt := 4) dX7_personsIn_31 (by decide) ?_
  cases h
  refine xj_pick (ls' := [(0, vR 7 i0), (1, vI x1), (2, vI x2), (3, vI (x3 + 1))]) [1, 2, 3, 0] rfl ?_
  exact kb x2 (x3 + 1) rfl
noncomputable def r_X7_personsIn_b4 (i0 : Nat) (x1 : Int32) (m : Mem) (x2 : Int32) (x3 : Int32) : Option ((Int32 × Int32) ⊕ (Int32)) :=
  if (m 7 i0 1) ≤ x3 then (some (Sum.inr x2)) else (if inb x3 8 = true then (if (m 21 i0 x3.toNatClampNeg) = x1 then (r_X7_personsIn_j28_c4 i0 x1 (x2 ||| (1 <<< (x3 &&& 31))) x3 m) else (r_X7_personsIn_j28_c4 i0 x1 x2 x3 m)) else none)
set_option maxHeartbeats 4000000 in
set_option maxRecDepth 20000 in
theorem ok_X7_personsIn_b4 (i0 : Nat) (x1 : Int32) (m : Mem) (x2 : Int32) (x3 : Int32) {r : (Int32 × Int32) ⊕ (Int32)} (h : r_X7_personsIn_b4 i0 x1 m x2 x3 = some r) {o : Ou} {M' : Mem} (kb : ∀ (x2' : Int32) (x3' : Int32), r = Sum.inl (x2', x3') → Xj RX7 cX7_personsIn 4 (some .int) 1 0 0 0 0 0 4 [(0, vR 7 i0), (1, vI x1), (2, vI x2'), (3, vI x3')] [] m o M') (ke : ∀ (x2' : Int32), r = Sum.inr x2' → Xj RX7 cX7_personsIn 4 (some .int) 1 0 0 0 0 0 34 [(2, vI x2')] [] m o M') : Xj RX7 cX7_personsIn 4 (some .int) 1 0 0 0 0 0 4 [(0, vR 7 i0), (1, vI x1), (2, vI x2), (3, vI x3)] [] m o M' := by
  unfold r_X7_personsIn_b4 at h
  refine xj_iload_n 3 dX7_personsIn_4 rfl ?_
  refine xj_aload_n 0 dX7_personsIn_5 rfl ?_
  refine xg_getI (x := (m 7 i0 1)) dX7_personsIn_6 fl_X7_36 rfl rfl ?_
  refine xj_icmp_ge (tgt := 34) dX7_personsIn_9 (by decide) (fun c1 => ?_) (fun c1 => ?_)
  · rw [if_pos c1] at h
    cases h
    refine xj_pick (ls' := [(2, vI x2)]) [2] rfl ?_
    exact ke x2 rfl
  · rw [if_neg c1] at h
    refine xj_aload_n 0 dX7_personsIn_12 rfl ?_
    refine xg_getR (k' := 21) (i' := i0) dX7_personsIn_13 fl_X7_15 rfl ?_
    refine xj_iload_n 3 dX7_personsIn_16 rfl ?_
    by_cases c2 : inb x3 8 = true
    case neg => rw [if_neg c2] at h; cases h
    rw [if_pos c2] at h
    refine xg_iald (z := (m 21 i0 x3.toNatClampNeg)) (n := x3.toNatClampNeg) dX7_personsIn_17 rfl (by decide) (inb_in c2) rfl rfl ?_
    refine xj_iload_n 1 dX7_personsIn_18 rfl ?_
    refine xj_icmp_ne (tgt := 28) dX7_personsIn_19 (by decide) (fun c3 => ?_) (fun c3 => ?_)
    · rw [if_neg c3] at h
      exact ok_X7_personsIn_j28_c4 i0 x1 x2 x3 m h kb ke
    · rw [if_pos c3] at h
      refine xj_iload_n 2 dX7_personsIn_22 rfl ?_
      refine xj_iconst (z := 1) dX7_personsIn_23 (by decide) ?_
      refine xj_iload_n 3 dX7_personsIn_24 rfl ?_
      refine xj_ishl dX7_personsIn_25 ?_
      refine xj_ior dX7_personsIn_26 ?_
      refine xj_istore_n (ls' := [(2, vI (x2 ||| (1 <<< (x3 &&& 31)))), (0, vR 7 i0), (1, vI x1), (3, vI x3)]) dX7_personsIn_27 rfl (by decide) rfl ?_
      refine xj_pick (ls' := [(0, vR 7 i0), (1, vI x1), (2, vI (x2 ||| (1 <<< (x3 &&& 31)))), (3, vI x3)]) [1, 2, 0, 3] rfl ?_
      exact ok_X7_personsIn_j28_c4 i0 x1 (x2 ||| (1 <<< (x3 &&& 31))) x3 m h kb ke
noncomputable def r_X7_personsIn_e34_h4 (x2 : Int32) (m : Mem) : Option Int32 :=
  some x2
set_option maxHeartbeats 4000000 in
set_option maxRecDepth 20000 in
theorem ok_X7_personsIn_e34_h4 (x2 : Int32) (m : Mem) {z : Int32} (h : r_X7_personsIn_e34_h4 x2 m = some z) : Xj RX7 cX7_personsIn 4 (some .int) 1 0 0 0 0 0 34 [(2, vI x2)] [] m (oI z) m := by
  unfold r_X7_personsIn_e34_h4 at h
  refine xj_iload_n 0 dX7_personsIn_34 rfl ?_
  cases h
  exact xj_ireturn dX7_personsIn_35 rfl (by decide) (by decide)
noncomputable def r_X7_personsIn_l4 (i0 : Nat) (x1 : Int32) (x2 : Int32) (x3 : Int32) (m : Mem) : Option Int32 :=
  bd1 (loopO (fun s => r_X7_personsIn_b4 i0 x1 m s.1 s.2) (x2, x3)) (fun e => r_X7_personsIn_e34_h4 e m)
set_option maxHeartbeats 4000000 in
set_option maxRecDepth 20000 in
theorem ok_X7_personsIn_l4 (i0 : Nat) (x1 : Int32) (x2 : Int32) (x3 : Int32) (m : Mem) {z : Int32} (h : r_X7_personsIn_l4 i0 x1 x2 x3 m = some z) : Xj RX7 cX7_personsIn 4 (some .int) 1 0 0 0 0 0 4 [(0, vR 7 i0), (1, vI x1), (2, vI x2), (3, vI x3)] [] m (oI z) m := by
  unfold r_X7_personsIn_l4 at h
  obtain ⟨e, e1, h⟩ := bd1_some h
  refine loopO_ok (P := fun s : (Int32 × Int32) => Xj RX7 cX7_personsIn 4 (some .int) 1 0 0 0 0 0 4 [(0, vR 7 i0), (1, vI x1), (2, vI s.1), (3, vI s.2)] [] m (oI z) m) (Q := fun e : (Int32) => Xj RX7 cX7_personsIn 4 (some .int) 1 0 0 0 0 0 34 [(2, vI e)] [] m (oI z) m) ?_ _ _ e1 ?_
  · intro s r9 h9 hi hx
    exact ok_X7_personsIn_b4 i0 x1 m s.1 s.2 h9 (by rintro _ _ rfl; exact hi _ rfl) (by rintro _ rfl; exact hx _ rfl)
  · exact ok_X7_personsIn_e34_h4 e m h 
noncomputable def r_X7_personsIn (i0 : Nat) (x1 : Int32) (m : Mem) : Option Int32 :=
  r_X7_personsIn_l4 i0 x1 0 0 m
set_option maxHeartbeats 4000000 in
set_option maxRecDepth 20000 in
theorem ok_X7_personsIn (i0 : Nat) (x1 : Int32) (m : Mem) {z : Int32} (h : r_X7_personsIn i0 x1 m = some z) : Mt yX7_personsIn cX7_personsIn 4 (some .int) 1 0 0 0 [vR 7 i0, vI x1] m (oI z) m := by
  refine Mt.of (by decide) (Nat.le_of_ble_eq_true rfl) (by decide +kernel) (hhF_ne (by decide)) ?_
  show Xj RX7 cX7_personsIn 4 (some .int) 1 0 0 0 0 0 0 [(0, vR 7 i0), (1, vI x1)] [] m (oI z) m
  unfold r_X7_personsIn at h
  refine xj_iconst (z := 0) dX7_personsIn_0 (by decide) ?_
  refine xj_istore_n (ls' := [(2, vI 0), (0, vR 7 i0), (1, vI x1)]) dX7_personsIn_1 rfl (by decide) rfl ?_
  refine xj_iconst (z := 0) dX7_personsIn_2 (by decide) ?_
  refine xj_istore_n (ls' := [(3, vI 0), (2, vI 0), (0, vR 7 i0), (1, vI x1)]) dX7_personsIn_3 rfl (by decide) rfl ?_
  refine xj_pick (ls' := [(0, vR 7 i0), (1, vI x1), (2, vI 0), (3, vI 0)]) [2, 3, 1, 0] rfl ?_
  exact ok_X7_personsIn_l4 i0 x1 0 0 m h 
noncomputable def r_X7_tell_j24 (i0 : Nat) (x3 : Int32) (x4 : Int32) (s0 : Int32) (m : Mem) : Option (Bool × Mem) :=
  if inb x4 96 = true then (if inb s0 2 = true then (some (decide (s0 = 1), (wr m 22 i0 x4.toNatClampNeg x3))) else none) else none
set_option maxHeartbeats 4000000 in
set_option maxRecDepth 20000 in
theorem ok_X7_tell_j24 (i0 : Nat) (x3 : Int32) (x4 : Int32) (s0 : Int32) (m : Mem) {z : Bool} {m' : Mem} (h : r_X7_tell_j24 i0 x3 x4 s0 m = some (z, m')) : Xj RX7 cX7_tell 6 (some .boolean) 1 0 0 0 0 0 24 [(0, vR 7 i0), (3, vI x3), (4, vI x4)] [vI s0] m (oB z) m' := by
  unfold r_X7_tell_j24 at h
  refine xj_istore (ls' := [(5, vI s0), (0, vR 7 i0), (3, vI x3), (4, vI x4)]) dX7_tell_24 (by decide) rfl ?_
  refine xj_aload_n 1 dX7_tell_26 rfl ?_
  refine xg_getR (k' := 22) (i' := i0) dX7_tell_27 fl_X7_18 rfl ?_
  refine xj_iload 3 dX7_tell_30 rfl ?_
  refine xj_iload_n 2 dX7_tell_32 rfl ?_
  by_cases c3 : inb x4 96 = true
  case neg => rw [if_neg c3] at h; cases h
  rw [if_pos c3] at h
  refine xg_iast (n := x4.toNatClampNeg) dX7_tell_33 rfl (by decide) (inb_in c3) rfl ?_
  refine xj_iload 0 dX7_tell_34 rfl ?_
  by_cases c4 : inb s0 2 = true
  case neg => rw [if_neg c4] at h; cases h
  rw [if_pos c4] at h
  cases h
  exact xj_iretB dX7_tell_36 c4 (by decide) (by decide)
noncomputable def r_X7_tell (i0 : Nat) (x1 : Int32) (x2 : Int32) (x3 : Int32) (m : Mem) : Option (Bool × Mem) :=
  if inb ((x1 * 12) + x2) 96 = true then (if (m 22 i0 (((x1 * 12) + x2).toNatClampNeg)) = x3 then (r_X7_tell_j24 i0 x3 ((x1 * 12) + x2) 0 m) else (r_X7_tell_j24 i0 x3 ((x1 * 12) + x2) 1 m)) else none
set_option maxHeartbeats 4000000 in
set_option maxRecDepth 20000 in
theorem ok_X7_tell (i0 : Nat) (x1 : Int32) (x2 : Int32) (x3 : Int32) (m : Mem) {z : Bool} {m' : Mem} (h : r_X7_tell i0 x1 x2 x3 m = some (z, m')) : Mt yX7_tell cX7_tell 6 (some .boolean) 1 0 0 0 [vR 7 i0, vI x1, vI x2, vI x3] m (oB z) m' := by
  refine Mt.of (by decide) (Nat.le_of_ble_eq_true rfl) (by decide +kernel) (hhF_ne (by decide)) ?_
  show Xj RX7 cX7_tell 6 (some .boolean) 1 0 0 0 0 0 0 [(0, vR 7 i0), (1, vI x1), (2, vI x2), (3, vI x3)] [] m (oB z) m'
  unfold r_X7_tell at h
  refine xj_iload_n 1 dX7_tell_0 rfl ?_
  refine xj_bipush (z := 12) dX7_tell_1 (by decide) ?_
  refine xj_imul dX7_tell_3 ?_
  refine xj_iload_n 2 dX7_tell_4 rfl ?_
  refine xj_iadd dX7_tell_5 ?_
  refine xj_istore (ls' := [(4, vI ((x1 * 12) + x2)), (0, vR 7 i0), (1, vI x1), (2, vI x2), (3, vI x3)]) dX7_tell_6 (by decide) rfl ?_
  refine xj_aload_n 1 dX7_tell_8 rfl ?_
  refine xg_getR (k' := 22) (i' := i0) dX7_tell_9 fl_X7_18 rfl ?_
  refine xj_iload 0 dX7_tell_12 rfl ?_
  by_cases c1 : inb ((x1 * 12) + x2) 96 = true
  case neg => rw [if_neg c1] at h; cases h
  rw [if_pos c1] at h
  refine xg_iald (z := (m 22 i0 (((x1 * 12) + x2).toNatClampNeg))) (n := ((x1 * 12) + x2).toNatClampNeg) dX7_tell_14 rfl (by decide) (inb_in c1) rfl rfl ?_
  refine xj_iload_n 4 dX7_tell_15 rfl ?_
  refine xj_icmp_eq (tgt := 23) dX7_tell_16 (by decide) (fun c2 => ?_) (fun c2 => ?_)
  · rw [if_pos c2] at h
    refine xj_iconst (z := 0) dX7_tell_23 (by decide) ?_
    refine xj_pick (ls' := [(0, vR 7 i0), (3, vI x3), (4, vI ((x1 * 12) + x2))]) [1, 4, 0] rfl ?_
    exact ok_X7_tell_j24 i0 x3 ((x1 * 12) + x2) 0 m h 
  · rw [if_neg c2] at h
    refine xj_iconst (z := 1) dX7_tell_19 (by decide) ?_
    refine xj_goto (tgt := 24) dX7_tell_20 (by decide) ?_
    refine xj_pick (ls' := [(0, vR 7 i0), (3, vI x3), (4, vI ((x1 * 12) + x2))]) [1, 4, 0] rfl ?_
    exact ok_X7_tell_j24 i0 x3 ((x1 * 12) + x2) 1 m h 
