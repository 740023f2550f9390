theorem dX0_comesTo_0 : decode cX0_comesTo 0 = .ok (.aload_n 0, 1) := by decide +kernel
theorem dX0_comesTo_1 : decode cX0_comesTo 1 = .ok (.getfield 28, 3) := by decide +kernel
theorem dX0_comesTo_4 : decode cX0_comesTo 4 = .ok (.getfield 94, 3) := by decide +kernel
theorem dX0_comesTo_7 : decode cX0_comesTo 7 = .ok (.istore_n 2, 1) := by decide +kernel
theorem dX0_comesTo_8 : decode cX0_comesTo 8 = .ok (.iconst 0, 1) := by decide +kernel
theorem dX0_comesTo_9 : decode cX0_comesTo 9 = .ok (.istore_n 3, 1) := by decide +kernel
theorem dX0_comesTo_10 : decode cX0_comesTo 10 = .ok (.iload_n 3, 1) := by decide +kernel
theorem dX0_comesTo_11 : decode cX0_comesTo 11 = .ok (.aload_n 0, 1) := by decide +kernel
theorem dX0_comesTo_12 : decode cX0_comesTo 12 = .ok (.getfield 28, 3) := by decide +kernel
theorem dX0_comesTo_15 : decode cX0_comesTo 15 = .ok (.getfield 54, 3) := by decide +kernel
theorem dX0_comesTo_18 : decode cX0_comesTo 18 = .ok (.if_icmp .ge 28, 3) := by decide +kernel
theorem dX0_comesTo_21 : decode cX0_comesTo 21 = .ok (.iload_n 2, 1) := by decide +kernel
theorem dX0_comesTo_22 : decode cX0_comesTo 22 = .ok (.iconst (-1), 1) := by decide +kernel
theorem dX0_comesTo_23 : decode cX0_comesTo 23 = .ok (.if_icmp .eq 23, 3) := by decide +kernel
theorem dX0_comesTo_26 : decode cX0_comesTo 26 = .ok (.iload_n 2, 1) := by decide +kernel
theorem dX0_comesTo_27 : decode cX0_comesTo 27 = .ok (.iload_n 1, 1) := by decide +kernel
theorem dX0_comesTo_28 : decode cX0_comesTo 28 = .ok (.if_icmp .ne 5, 3) := by decide +kernel
theorem dX0_comesTo_31 : decode cX0_comesTo 31 = .ok (.iconst 1, 1) := by decide +kernel
theorem dX0_comesTo_32 : decode cX0_comesTo 32 = .ok (.ireturn, 1) := by decide +kernel
theorem dX0_comesTo_33 : decode cX0_comesTo 33 = .ok (.aload_n 0, 1) := by decide +kernel
theorem dX0_comesTo_34 : decode cX0_comesTo 34 = .ok (.getfield 18, 3) := by decide +kernel
theorem dX0_comesTo_37 : decode cX0_comesTo 37 = .ok (.iload_n 2, 1) := by decide +kernel
theorem dX0_comesTo_38 : decode cX0_comesTo 38 = .ok (.iaload, 1) := by decide +kernel
theorem dX0_comesTo_39 : decode cX0_comesTo 39 = .ok (.istore_n 2, 1) := by decide +kernel
theorem dX0_comesTo_40 : decode cX0_comesTo 40 = .ok (.iinc 3 1, 3) := by decide +kernel
theorem dX0_comesTo_43 : decode cX0_comesTo 43 = .ok (.goto (-33), 3) := by decide +kernel
theorem dX0_comesTo_46 : decode cX0_comesTo 46 = .ok (.iconst 0, 1) := by decide +kernel
theorem dX0_comesTo_47 : decode cX0_comesTo 47 = .ok (.ireturn, 1) := by decide +kernel
theorem dX0_findDigs_0 : decode cX0_findDigs 0 = .ok (.aload_n 0, 1) := by decide +kernel
theorem dX0_findDigs_1 : decode cX0_findDigs 1 = .ok (.getfield 28, 3) := by decide +kernel
theorem dX0_findDigs_4 : decode cX0_findDigs 4 = .ok (.iload_n 2, 1) := by decide +kernel
theorem dX0_findDigs_5 : decode cX0_findDigs 5 = .ok (.iload_n 3, 1) := by decide +kernel
theorem dX0_findDigs_6 : decode cX0_findDigs 6 = .ok (.invokevirtual 82, 3) := by decide +kernel
theorem dX0_findDigs_9 : decode cX0_findDigs 9 = .ok (.istore 4, 2) := by decide +kernel
theorem dX0_findDigs_11 : decode cX0_findDigs 11 = .ok (.iload 4, 2) := by decide +kernel
theorem dX0_findDigs_13 : decode cX0_findDigs 13 = .ok (.iconst (-1), 1) := by decide +kernel
theorem dX0_findDigs_14 : decode cX0_findDigs 14 = .ok (.if_icmp .ne 5, 3) := by decide +kernel
theorem dX0_findDigs_17 : decode cX0_findDigs 17 = .ok (.iconst (-1), 1) := by decide +kernel
theorem dX0_findDigs_18 : decode cX0_findDigs 18 = .ok (.ireturn, 1) := by decide +kernel
theorem dX0_findDigs_19 : decode cX0_findDigs 19 = .ok (.aload_n 0, 1) := by decide +kernel
theorem dX0_findDigs_20 : decode cX0_findDigs 20 = .ok (.getfield 12, 3) := by decide +kernel
theorem dX0_findDigs_23 : decode cX0_findDigs 23 = .ok (.aload_n 1, 1) := by decide +kernel
theorem dX0_findDigs_24 : decode cX0_findDigs 24 = .ok (.invokevirtual 36, 3) := by decide +kernel
theorem dX0_findDigs_27 : decode cX0_findDigs 27 = .ok (.aload_n 1, 1) := by decide +kernel
theorem dX0_findDigs_28 : decode cX0_findDigs 28 = .ok (.getfield 153, 3) := by decide +kernel
theorem dX0_findDigs_31 : decode cX0_findDigs 31 = .ok (.iload 4, 2) := by decide +kernel
theorem dX0_findDigs_33 : decode cX0_findDigs 33 = .ok (.iaload, 1) := by decide +kernel
theorem dX0_findDigs_34 : decode cX0_findDigs 34 = .ok (.istore 5, 2) := by decide +kernel
theorem dX0_findDigs_36 : decode cX0_findDigs 36 = .ok (.iload 5, 2) := by decide +kernel
theorem dX0_findDigs_38 : decode cX0_findDigs 38 = .ok (.bipush 9, 2) := by decide +kernel
theorem dX0_findDigs_40 : decode cX0_findDigs 40 = .ok (.if_icmp .gt 48, 3) := by decide +kernel
theorem dX0_findDigs_43 : decode cX0_findDigs 43 = .ok (.aload_n 0, 1) := by decide +kernel
theorem dX0_findDigs_44 : decode cX0_findDigs 44 = .ok (.getfield 12, 3) := by decide +kernel
theorem dX0_findDigs_47 : decode cX0_findDigs 47 = .ok (.getfield 153, 3) := by decide +kernel
theorem dX0_findDigs_50 : decode cX0_findDigs 50 = .ok (.iload 4, 2) := by decide +kernel
theorem dX0_findDigs_52 : decode cX0_findDigs 52 = .ok (.iload 5, 2) := by decide +kernel
theorem dX0_findDigs_54 : decode cX0_findDigs 54 = .ok (.iastore, 1) := by decide +kernel
theorem dX0_findDigs_55 : decode cX0_findDigs 55 = .ok (.aload_n 0, 1) := by decide +kernel
theorem dX0_findDigs_56 : decode cX0_findDigs 56 = .ok (.getfield 32, 3) := by decide +kernel
theorem dX0_findDigs_59 : decode cX0_findDigs 59 = .ok (.aload_n 0, 1) := by decide +kernel
theorem dX0_findDigs_60 : decode cX0_findDigs 60 = .ok (.getfield 12, 3) := by decide +kernel
theorem dX0_findDigs_63 : decode cX0_findDigs 63 = .ok (.iload_n 2, 1) := by decide +kernel
theorem dX0_findDigs_64 : decode cX0_findDigs 64 = .ok (.invokevirtual 60, 3) := by decide +kernel
theorem dX0_findDigs_67 : decode cX0_findDigs 67 = .ok (.iload_n 3, 1) := by decide +kernel
theorem dX0_findDigs_68 : decode cX0_findDigs 68 = .ok (.if_icmp .ne 14, 3) := by decide +kernel
theorem dX0_findDigs_71 : decode cX0_findDigs 71 = .ok (.iload 5, 2) := by decide +kernel
theorem dX0_findDigs_73 : decode cX0_findDigs 73 = .ok (.aload_n 1, 1) := by decide +kernel
theorem dX0_findDigs_74 : decode cX0_findDigs 74 = .ok (.getfield 153, 3) := by decide +kernel
theorem dX0_findDigs_77 : decode cX0_findDigs 77 = .ok (.iload 4, 2) := by decide +kernel
theorem dX0_findDigs_79 : decode cX0_findDigs 79 = .ok (.iaload, 1) := by decide +kernel
theorem dX0_findDigs_80 : decode cX0_findDigs 80 = .ok (.isub, 1) := by decide +kernel
theorem dX0_findDigs_81 : decode cX0_findDigs 81 = .ok (.ireturn, 1) := by decide +kernel
theorem dX0_findDigs_82 : decode cX0_findDigs 82 = .ok (.iinc 5 1, 3) := by decide +kernel
theorem dX0_findDigs_85 : decode cX0_findDigs 85 = .ok (.goto (-49), 3) := by decide +kernel
theorem dX0_findDigs_88 : decode cX0_findDigs 88 = .ok (.iconst (-1), 1) := by decide +kernel
theorem dX0_findDigs_89 : decode cX0_findDigs 89 = .ok (.ireturn, 1) := by decide +kernel
theorem dX0_tryForgotten_0 : decode cX0_tryForgotten 0 = .ok (.aload_n 0, 1) := by decide +kernel
theorem dX0_tryForgotten_1 : decode cX0_tryForgotten 1 = .ok (.getfield 12, 3) := by decide +kernel
theorem dX0_tryForgotten_4 : decode cX0_tryForgotten 4 = .ok (.aload_n 1, 1) := by decide +kernel
theorem dX0_tryForgotten_5 : decode cX0_tryForgotten 5 = .ok (.invokevirtual 36, 3) := by decide +kernel
theorem dX0_tryForgotten_8 : decode cX0_tryForgotten 8 = .ok (.aload_n 0, 1) := by decide +kernel
theorem dX0_tryForgotten_9 : decode cX0_tryForgotten 9 = .ok (.getfield 12, 3) := by decide +kernel
theorem dX0_tryForgotten_12 : decode cX0_tryForgotten 12 = .ok (.iload_n 2, 1) := by decide +kernel
theorem dX0_tryForgotten_13 : decode cX0_tryForgotten 13 = .ok (.invokevirtual 113, 3) := by decide +kernel
theorem dX0_tryForgotten_16 : decode cX0_tryForgotten 16 = .ok (.return_, 1) := by decide +kernel
theorem dX0_goesAsTold_0 : decode cX0_goesAsTold 0 = .ok (.iconst 0, 1) := by decide +kernel
theorem dX0_goesAsTold_1 : decode cX0_goesAsTold 1 = .ok (.istore_n 2, 1) := by decide +kernel
theorem dX0_goesAsTold_2 : decode cX0_goesAsTold 2 = .ok (.iload_n 2, 1) := by decide +kernel
theorem dX0_goesAsTold_3 : decode cX0_goesAsTold 3 = .ok (.aload_n 0, 1) := by decide +kernel
theorem dX0_goesAsTold_4 : decode cX0_goesAsTold 4 = .ok (.getfield 28, 3) := by decide +kernel
theorem dX0_goesAsTold_7 : decode cX0_goesAsTold 7 = .ok (.getfield 54, 3) := by decide +kernel
theorem dX0_goesAsTold_10 : decode cX0_goesAsTold 10 = .ok (.if_icmp .ge 39, 3) := by decide +kernel
theorem dX0_goesAsTold_13 : decode cX0_goesAsTold 13 = .ok (.aload_n 1, 1) := by decide +kernel
theorem dX0_goesAsTold_14 : decode cX0_goesAsTold 14 = .ok (.getfield 130, 3) := by decide +kernel
theorem dX0_goesAsTold_17 : decode cX0_goesAsTold 17 = .ok (.iload_n 2, 1) := by decide +kernel
theorem dX0_goesAsTold_18 : decode cX0_goesAsTold 18 = .ok (.iaload, 1) := by decide +kernel
theorem dX0_goesAsTold_19 : decode cX0_goesAsTold 19 = .ok (.istore_n 3, 1) := by decide +kernel
theorem dX0_goesAsTold_20 : decode cX0_goesAsTold 20 = .ok (.iload_n 3, 1) := by decide +kernel
theorem dX0_goesAsTold_21 : decode cX0_goesAsTold 21 = .ok (.iconst (-1), 1) := by decide +kernel
theorem dX0_goesAsTold_22 : decode cX0_goesAsTold 22 = .ok (.if_icmp .eq 21, 3) := by decide +kernel
theorem dX0_goesAsTold_25 : decode cX0_goesAsTold 25 = .ok (.aload_n 0, 1) := by decide +kernel
theorem dX0_goesAsTold_26 : decode cX0_goesAsTold 26 = .ok (.getfield 32, 3) := by decide +kernel
theorem dX0_goesAsTold_29 : decode cX0_goesAsTold 29 = .ok (.aload_n 0, 1) := by decide +kernel
theorem dX0_goesAsTold_30 : decode cX0_goesAsTold 30 = .ok (.getfield 12, 3) := by decide +kernel
theorem dX0_goesAsTold_33 : decode cX0_goesAsTold 33 = .ok (.iload_n 2, 1) := by decide +kernel
theorem dX0_goesAsTold_34 : decode cX0_goesAsTold 34 = .ok (.invokevirtual 60, 3) := by decide +kernel
theorem dX0_goesAsTold_37 : decode cX0_goesAsTold 37 = .ok (.iload_n 3, 1) := by decide +kernel
theorem dX0_goesAsTold_38 : decode cX0_goesAsTold 38 = .ok (.if_icmp .eq 5, 3) := by decide +kernel
theorem dX0_goesAsTold_41 : decode cX0_goesAsTold 41 = .ok (.iconst 0, 1) := by decide +kernel
theorem dX0_goesAsTold_42 : decode cX0_goesAsTold 42 = .ok (.ireturn, 1) := by decide +kernel
theorem dX0_goesAsTold_43 : decode cX0_goesAsTold 43 = .ok (.iinc 2 1, 3) := by decide +kernel
theorem dX0_goesAsTold_46 : decode cX0_goesAsTold 46 = .ok (.goto (-44), 3) := by decide +kernel
theorem dX0_goesAsTold_49 : decode cX0_goesAsTold 49 = .ok (.iconst 1, 1) := by decide +kernel
theorem dX0_goesAsTold_50 : decode cX0_goesAsTold 50 = .ok (.ireturn, 1) := by decide +kernel
theorem dX0_tallyOpenPlaces_0 : decode cX0_tallyOpenPlaces 0 = .ok (.iconst 0, 1) := by decide +kernel
theorem dX0_tallyOpenPlaces_1 : decode cX0_tallyOpenPlaces 1 = .ok (.istore_n 2, 1) := by decide +kernel
theorem dX0_tallyOpenPlaces_2 : decode cX0_tallyOpenPlaces 2 = .ok (.iload_n 2, 1) := by decide +kernel
theorem dX0_tallyOpenPlaces_3 : decode cX0_tallyOpenPlaces 3 = .ok (.aload_n 0, 1) := by decide +kernel
theorem dX0_tallyOpenPlaces_4 : decode cX0_tallyOpenPlaces 4 = .ok (.getfield 28, 3) := by decide +kernel
theorem dX0_tallyOpenPlaces_7 : decode cX0_tallyOpenPlaces 7 = .ok (.getfield 54, 3) := by decide +kernel
theorem dX0_tallyOpenPlaces_10 : decode cX0_tallyOpenPlaces 10 = .ok (.if_icmp .ge 47, 3) := by decide +kernel
theorem dX0_tallyOpenPlaces_13 : decode cX0_tallyOpenPlaces 13 = .ok (.aload_n 1, 1) := by decide +kernel
theorem dX0_tallyOpenPlaces_14 : decode cX0_tallyOpenPlaces 14 = .ok (.getfield 130, 3) := by decide +kernel
theorem dX0_tallyOpenPlaces_17 : decode cX0_tallyOpenPlaces 17 = .ok (.iload_n 2, 1) := by decide +kernel
theorem dX0_tallyOpenPlaces_18 : decode cX0_tallyOpenPlaces 18 = .ok (.iaload, 1) := by decide +kernel
theorem dX0_tallyOpenPlaces_19 : decode cX0_tallyOpenPlaces 19 = .ok (.iconst (-1), 1) := by decide +kernel
theorem dX0_tallyOpenPlaces_20 : decode cX0_tallyOpenPlaces 20 = .ok (.if_icmp .ne 31, 3) := by decide +kernel
theorem dX0_tallyOpenPlaces_23 : decode cX0_tallyOpenPlaces 23 = .ok (.aload_n 0, 1) := by decide +kernel
theorem dX0_tallyOpenPlaces_24 : decode cX0_tallyOpenPlaces 24 = .ok (.getfield 25, 3) := by decide +kernel
theorem dX0_tallyOpenPlaces_27 : decode cX0_tallyOpenPlaces 27 = .ok (.iload_n 2, 1) := by decide +kernel
theorem dX0_tallyOpenPlaces_28 : decode cX0_tallyOpenPlaces 28 = .ok (.bipush 13, 2) := by decide +kernel
theorem dX0_tallyOpenPlaces_30 : decode cX0_tallyOpenPlaces 30 = .ok (.imul, 1) := by decide +kernel
theorem dX0_tallyOpenPlaces_31 : decode cX0_tallyOpenPlaces 31 = .ok (.iconst 1, 1) := by decide +kernel
theorem dX0_tallyOpenPlaces_32 : decode cX0_tallyOpenPlaces 32 = .ok (.iadd, 1) := by decide +kernel
theorem dX0_tallyOpenPlaces_33 : decode cX0_tallyOpenPlaces 33 = .ok (.aload_n 0, 1) := by decide +kernel
theorem dX0_tallyOpenPlaces_34 : decode cX0_tallyOpenPlaces 34 = .ok (.getfield 32, 3) := by decide +kernel
theorem dX0_tallyOpenPlaces_37 : decode cX0_tallyOpenPlaces 37 = .ok (.aload_n 0, 1) := by decide +kernel
theorem dX0_tallyOpenPlaces_38 : decode cX0_tallyOpenPlaces 38 = .ok (.getfield 12, 3) := by decide +kernel
theorem dX0_tallyOpenPlaces_41 : decode cX0_tallyOpenPlaces 41 = .ok (.iload_n 2, 1) := by decide +kernel
theorem dX0_tallyOpenPlaces_42 : decode cX0_tallyOpenPlaces 42 = .ok (.invokevirtual 60, 3) := by decide +kernel
theorem dX0_tallyOpenPlaces_45 : decode cX0_tallyOpenPlaces 45 = .ok (.iadd, 1) := by decide +kernel
theorem dX0_tallyOpenPlaces_46 : decode cX0_tallyOpenPlaces 46 = .ok (.dup2, 1) := by decide +kernel
theorem dX0_tallyOpenPlaces_47 : decode cX0_tallyOpenPlaces 47 = .ok (.iaload, 1) := by decide +kernel
theorem dX0_tallyOpenPlaces_48 : decode cX0_tallyOpenPlaces 48 = .ok (.iconst 1, 1) := by decide +kernel
theorem dX0_tallyOpenPlaces_49 : decode cX0_tallyOpenPlaces 49 = .ok (.iadd, 1) := by decide +kernel
theorem dX0_tallyOpenPlaces_50 : decode cX0_tallyOpenPlaces 50 = .ok (.iastore, 1) := by decide +kernel
theorem dX0_tallyOpenPlaces_51 : decode cX0_tallyOpenPlaces 51 = .ok (.iinc 2 1, 3) := by decide +kernel
theorem dX0_tallyOpenPlaces_54 : decode cX0_tallyOpenPlaces 54 = .ok (.goto (-52), 3) := by decide +kernel
theorem dX0_tallyOpenPlaces_57 : decode cX0_tallyOpenPlaces 57 = .ok (.return_, 1) := by decide +kernel
theorem dX0_worstOf_0 : decode cX0_worstOf 0 = .ok (.iconst 0, 1) := by decide +kernel
theorem dX0_worstOf_1 : decode cX0_worstOf 1 = .ok (.istore_n 2, 1) := by decide +kernel
theorem dX0_worstOf_2 : decode cX0_worstOf 2 = .ok (.iconst 0, 1) := by decide +kernel
theorem dX0_worstOf_3 : decode cX0_worstOf 3 = .ok (.istore_n 3, 1) := by decide +kernel
theorem dX0_worstOf_4 : decode cX0_worstOf 4 = .ok (.iload_n 3, 1) := by decide +kernel
theorem dX0_worstOf_5 : decode cX0_worstOf 5 = .ok (.bipush 12, 2) := by decide +kernel
theorem dX0_worstOf_7 : decode cX0_worstOf 7 = .ok (.if_icmp .gt 25, 3) := by decide +kernel
theorem dX0_worstOf_10 : decode cX0_worstOf 10 = .ok (.iload_n 2, 1) := by decide +kernel
theorem dX0_worstOf_11 : decode cX0_worstOf 11 = .ok (.aload_n 0, 1) := by decide +kernel
theorem dX0_worstOf_12 : decode cX0_worstOf 12 = .ok (.getfield 25, 3) := by decide +kernel
theorem dX0_worstOf_15 : decode cX0_worstOf 15 = .ok (.iload_n 1, 1) := by decide +kernel
theorem dX0_worstOf_16 : decode cX0_worstOf 16 = .ok (.bipush 13, 2) := by decide +kernel
theorem dX0_worstOf_18 : decode cX0_worstOf 18 = .ok (.imul, 1) := by decide +kernel
theorem dX0_worstOf_19 : decode cX0_worstOf 19 = .ok (.iload_n 3, 1) := by decide +kernel
theorem dX0_worstOf_20 : decode cX0_worstOf 20 = .ok (.iadd, 1) := by decide +kernel
theorem dX0_worstOf_21 : decode cX0_worstOf 21 = .ok (.iaload, 1) := by decide +kernel
theorem dX0_worstOf_22 : decode cX0_worstOf 22 = .ok (.invokestatic 148, 3) := by decide +kernel
theorem dX0_worstOf_25 : decode cX0_worstOf 25 = .ok (.istore_n 2, 1) := by decide +kernel
theorem dX0_worstOf_26 : decode cX0_worstOf 26 = .ok (.iinc 3 1, 3) := by decide +kernel
theorem dX0_worstOf_29 : decode cX0_worstOf 29 = .ok (.goto (-25), 3) := by decide +kernel
theorem dX0_worstOf_32 : decode cX0_worstOf 32 = .ok (.iload_n 2, 1) := by decide +kernel
theorem dX0_worstOf_33 : decode cX0_worstOf 33 = .ok (.ireturn, 1) := by decide +kernel
theorem dX0_findLook_0 : decode cX0_findLook 0 = .ok (.iconst 0, 1) := by decide +kernel
theorem dX0_findLook_1 : decode cX0_findLook 1 = .ok (.istore_n 3, 1) := by decide +kernel
theorem dX0_findLook_2 : decode cX0_findLook 2 = .ok (.iload_n 3, 1) := by decide +kernel
theorem dX0_findLook_3 : decode cX0_findLook 3 = .ok (.aload_n 0, 1) := by decide +kernel
theorem dX0_findLook_4 : decode cX0_findLook 4 = .ok (.getfield 25, 3) := by decide +kernel
theorem dX0_findLook_7 : decode cX0_findLook 7 = .ok (.arraylength, 1) := by decide +kernel
theorem dX0_findLook_8 : decode cX0_findLook 8 = .ok (.if_icmp .ge 16, 3) := by decide +kernel
theorem dX0_findLook_11 : decode cX0_findLook 11 = .ok (.aload_n 0, 1) := by decide +kernel
theorem dX0_findLook_12 : decode cX0_findLook 12 = .ok (.getfield 25, 3) := by decide +kernel
theorem dX0_findLook_15 : decode cX0_findLook 15 = .ok (.iload_n 3, 1) := by decide +kernel
theorem dX0_findLook_16 : decode cX0_findLook 16 = .ok (.iconst 0, 1) := by decide +kernel
theorem dX0_findLook_17 : decode cX0_findLook 17 = .ok (.iastore, 1) := by decide +kernel
theorem dX0_findLook_18 : decode cX0_findLook 18 = .ok (.iinc 3 1, 3) := by decide +kernel
theorem dX0_findLook_21 : decode cX0_findLook 21 = .ok (.goto (-19), 3) := by decide +kernel
theorem dX0_findLook_24 : decode cX0_findLook 24 = .ok (.iconst 0, 1) := by decide +kernel
theorem dX0_findLook_25 : decode cX0_findLook 25 = .ok (.istore_n 3, 1) := by decide +kernel
theorem dX0_findLook_26 : decode cX0_findLook 26 = .ok (.iload_n 3, 1) := by decide +kernel
theorem dX0_findLook_27 : decode cX0_findLook 27 = .ok (.iconst 1, 1) := by decide +kernel
theorem dX0_findLook_28 : decode cX0_findLook 28 = .ok (.aload_n 0, 1) := by decide +kernel
theorem dX0_findLook_29 : decode cX0_findLook 29 = .ok (.getfield 28, 3) := by decide +kernel
theorem dX0_findLook_32 : decode cX0_findLook 32 = .ok (.getfield 97, 3) := by decide +kernel
theorem dX0_findLook_35 : decode cX0_findLook 35 = .ok (.ishl, 1) := by decide +kernel
theorem dX0_findLook_36 : decode cX0_findLook 36 = .ok (.if_icmp .ge 28, 3) := by decide +kernel
theorem dX0_findLook_39 : decode cX0_findLook 39 = .ok (.aload_n 0, 1) := by decide +kernel
theorem dX0_findLook_40 : decode cX0_findLook 40 = .ok (.aload_n 1, 1) := by decide +kernel
theorem dX0_findLook_41 : decode cX0_findLook 41 = .ok (.iload_n 3, 1) := by decide +kernel
theorem dX0_findLook_42 : decode cX0_findLook 42 = .ok (.invokevirtual 106, 3) := by decide +kernel
theorem dX0_findLook_45 : decode cX0_findLook 45 = .ok (.aload_n 0, 1) := by decide +kernel
theorem dX0_findLook_46 : decode cX0_findLook 46 = .ok (.aload_n 2, 1) := by decide +kernel
theorem dX0_findLook_47 : decode cX0_findLook 47 = .ok (.invokevirtual 126, 3) := by decide +kernel
theorem dX0_findLook_50 : decode cX0_findLook 50 = .ok (.ifCond .eq 8, 3) := by decide +kernel
theorem dX0_findLook_53 : decode cX0_findLook 53 = .ok (.aload_n 0, 1) := by decide +kernel
theorem dX0_findLook_54 : decode cX0_findLook 54 = .ok (.aload_n 2, 1) := by decide +kernel
theorem dX0_findLook_55 : decode cX0_findLook 55 = .ok (.invokevirtual 135, 3) := by decide +kernel
theorem dX0_findLook_58 : decode cX0_findLook 58 = .ok (.iinc 3 1, 3) := by decide +kernel
theorem dX0_findLook_61 : decode cX0_findLook 61 = .ok (.goto (-35), 3) := by decide +kernel
theorem dX0_findLook_64 : decode cX0_findLook 64 = .ok (.aload_n 0, 1) := by decide +kernel
theorem dX0_findLook_65 : decode cX0_findLook 65 = .ok (.iconst (-1), 1) := by decide +kernel
theorem dX0_findLook_66 : decode cX0_findLook 66 = .ok (.putfield 139, 3) := by decide +kernel
theorem dX0_findLook_69 : decode cX0_findLook 69 = .ok (.aload_n 0, 1) := by decide +kernel
theorem dX0_findLook_70 : decode cX0_findLook 70 = .ok (.iconst (-1), 1) := by decide +kernel
theorem dX0_findLook_71 : decode cX0_findLook 71 = .ok (.putfield 142, 3) := by decide +kernel
theorem dX0_findLook_74 : decode cX0_findLook 74 = .ok (.iconst 0, 1) := by decide +kernel
theorem dX0_findLook_75 : decode cX0_findLook 75 = .ok (.istore_n 3, 1) := by decide +kernel
theorem dX0_findLook_76 : decode cX0_findLook 76 = .ok (.iload_n 3, 1) := by decide +kernel
theorem dX0_findLook_77 : decode cX0_findLook 77 = .ok (.aload_n 0, 1) := by decide +kernel
theorem dX0_findLook_78 : decode cX0_findLook 78 = .ok (.getfield 28, 3) := by decide +kernel
theorem dX0_findLook_81 : decode cX0_findLook 81 = .ok (.getfield 54, 3) := by decide +kernel
theorem dX0_findLook_84 : decode cX0_findLook 84 = .ok (.if_icmp .ge 54, 3) := by decide +kernel
theorem dX0_findLook_87 : decode cX0_findLook 87 = .ok (.aload_n 2, 1) := by decide +kernel
theorem dX0_findLook_88 : decode cX0_findLook 88 = .ok (.getfield 130, 3) := by decide +kernel
theorem dX0_findLook_91 : decode cX0_findLook 91 = .ok (.iload_n 3, 1) := by decide +kernel
theorem dX0_findLook_92 : decode cX0_findLook 92 = .ok (.iaload, 1) := by decide +kernel
theorem dX0_findLook_93 : decode cX0_findLook 93 = .ok (.iconst (-1), 1) := by decide +kernel
theorem dX0_findLook_94 : decode cX0_findLook 94 = .ok (.if_icmp .ne 38, 3) := by decide +kernel
theorem dX0_findLook_97 : decode cX0_findLook 97 = .ok (.aload_n 0, 1) := by decide +kernel
theorem dX0_findLook_98 : decode cX0_findLook 98 = .ok (.iload_n 3, 1) := by decide +kernel
theorem dX0_findLook_99 : decode cX0_findLook 99 = .ok (.invokevirtual 145, 3) := by decide +kernel
theorem dX0_findLook_102 : decode cX0_findLook 102 = .ok (.istore 4, 2) := by decide +kernel
theorem dX0_findLook_104 : decode cX0_findLook 104 = .ok (.aload_n 0, 1) := by decide +kernel
theorem dX0_findLook_105 : decode cX0_findLook 105 = .ok (.getfield 139, 3) := by decide +kernel
theorem dX0_findLook_108 : decode cX0_findLook 108 = .ok (.iconst (-1), 1) := by decide +kernel
theorem dX0_findLook_109 : decode cX0_findLook 109 = .ok (.if_icmp .eq 12, 3) := by decide +kernel
theorem dX0_findLook_112 : decode cX0_findLook 112 = .ok (.iload 4, 2) := by decide +kernel
theorem dX0_findLook_114 : decode cX0_findLook 114 = .ok (.aload_n 0, 1) := by decide +kernel
theorem dX0_findLook_115 : decode cX0_findLook 115 = .ok (.getfield 142, 3) := by decide +kernel
theorem dX0_findLook_118 : decode cX0_findLook 118 = .ok (.if_icmp .ge 14, 3) := by decide +kernel
theorem dX0_findLook_121 : decode cX0_findLook 121 = .ok (.aload_n 0, 1) := by decide +kernel
theorem dX0_findLook_122 : decode cX0_findLook 122 = .ok (.iload_n 3, 1) := by decide +kernel
theorem dX0_findLook_123 : decode cX0_findLook 123 = .ok (.putfield 139, 3) := by decide +kernel
theorem dX0_findLook_126 : decode cX0_findLook 126 = .ok (.aload_n 0, 1) := by decide +kernel
theorem dX0_findLook_127 : decode cX0_findLook 127 = .ok (.iload 4, 2) := by decide +kernel
theorem dX0_findLook_129 : decode cX0_findLook 129 = .ok (.putfield 142, 3) := by decide +kernel
theorem dX0_findLook_132 : decode cX0_findLook 132 = .ok (.iinc 3 1, 3) := by decide +kernel
theorem dX0_findLook_135 : decode cX0_findLook 135 = .ok (.goto (-59), 3) := by decide +kernel
theorem dX0_findLook_138 : decode cX0_findLook 138 = .ok (.return_, 1) := by decide +kernel
theorem dX0_isSaid_0 : decode cX0_isSaid 0 = .ok (.aload_n 0, 1) := by decide +kernel
theorem dX0_isSaid_1 : decode cX0_isSaid 1 = .ok (.getfield 28, 3) := by decide +kernel
theorem dX0_isSaid_4 : decode cX0_isSaid 4 = .ok (.getfield 181, 3) := by decide +kernel
theorem dX0_isSaid_7 : decode cX0_isSaid 7 = .ok (.aload_n 0, 1) := by decide +kernel
theorem dX0_isSaid_8 : decode cX0_isSaid 8 = .ok (.getfield 28, 3) := by decide +kernel
theorem dX0_isSaid_11 : decode cX0_isSaid 11 = .ok (.getfield 94, 3) := by decide +kernel
theorem dX0_isSaid_14 : decode cX0_isSaid 14 = .ok (.iaload, 1) := by decide +kernel
theorem dX0_isSaid_15 : decode cX0_isSaid 15 = .ok (.iload_n 1, 1) := by decide +kernel
theorem dX0_isSaid_16 : decode cX0_isSaid 16 = .ok (.ishr, 1) := by decide +kernel
theorem dX0_isSaid_17 : decode cX0_isSaid 17 = .ok (.iconst 1, 1) := by decide +kernel
theorem dX0_isSaid_18 : decode cX0_isSaid 18 = .ok (.iand, 1) := by decide +kernel
theorem dX0_isSaid_19 : decode cX0_isSaid 19 = .ok (.ifCond .eq 7, 3) := by decide +kernel
theorem dX0_isSaid_22 : decode cX0_isSaid 22 = .ok (.iconst 1, 1) := by decide +kernel
theorem dX0_isSaid_23 : decode cX0_isSaid 23 = .ok (.goto 4, 3) := by decide +kernel
theorem dX0_isSaid_26 : decode cX0_isSaid 26 = .ok (.iconst 0, 1) := by decide +kernel
theorem dX0_isSaid_27 : decode cX0_isSaid 27 = .ok (.ireturn, 1) := by decide +kernel
theorem dX0_tryAllSayings_0 : decode cX0_tryAllSayings 0 = .ok (.aload_n 0, 1) := by decide +kernel
theorem dX0_tryAllSayings_1 : decode cX0_tryAllSayings 1 = .ok (.getfield 12, 3) := by decide +kernel
theorem dX0_tryAllSayings_4 : decode cX0_tryAllSayings 4 = .ok (.aload_n 1, 1) := by decide +kernel
theorem dX0_tryAllSayings_5 : decode cX0_tryAllSayings 5 = .ok (.invokevirtual 36, 3) := by decide +kernel
theorem dX0_tryAllSayings_8 : decode cX0_tryAllSayings 8 = .ok (.aload_n 0, 1) := by decide +kernel
theorem dX0_tryAllSayings_9 : decode cX0_tryAllSayings 9 = .ok (.getfield 12, 3) := by decide +kernel
theorem dX0_tryAllSayings_12 : decode cX0_tryAllSayings 12 = .ok (.iload_n 2, 1) := by decide +kernel
theorem dX0_tryAllSayings_13 : decode cX0_tryAllSayings 13 = .ok (.invokevirtual 178, 3) := by decide +kernel
theorem dX0_tryAllSayings_16 : decode cX0_tryAllSayings 16 = .ok (.aload_n 0, 1) := by decide +kernel
theorem dX0_tryAllSayings_17 : decode cX0_tryAllSayings 17 = .ok (.getfield 12, 3) := by decide +kernel
theorem dX0_tryAllSayings_20 : decode cX0_tryAllSayings 20 = .ok (.iload_n 2, 1) := by decide +kernel
theorem dX0_tryAllSayings_21 : decode cX0_tryAllSayings 21 = .ok (.invokevirtual 178, 3) := by decide +kernel
theorem dX0_tryAllSayings_24 : decode cX0_tryAllSayings 24 = .ok (.iconst 0, 1) := by decide +kernel
theorem dX0_tryAllSayings_25 : decode cX0_tryAllSayings 25 = .ok (.istore_n 3, 1) := by decide +kernel
theorem dX0_tryAllSayings_26 : decode cX0_tryAllSayings 26 = .ok (.iload_n 3, 1) := by decide +kernel
theorem dX0_tryAllSayings_27 : decode cX0_tryAllSayings 27 = .ok (.aload_n 0, 1) := by decide +kernel
theorem dX0_tryAllSayings_28 : decode cX0_tryAllSayings 28 = .ok (.getfield 28, 3) := by decide +kernel
theorem dX0_tryAllSayings_31 : decode cX0_tryAllSayings 31 = .ok (.getfield 54, 3) := by decide +kernel
theorem dX0_tryAllSayings_34 : decode cX0_tryAllSayings 34 = .ok (.if_icmp .ge 126, 3) := by decide +kernel
theorem dX0_tryAllSayings_37 : decode cX0_tryAllSayings 37 = .ok (.iconst 0, 1) := by decide +kernel
theorem dX0_tryAllSayings_38 : decode cX0_tryAllSayings 38 = .ok (.istore 4, 2) := by decide +kernel
theorem dX0_tryAllSayings_40 : decode cX0_tryAllSayings 40 = .ok (.iload 4, 2) := by decide +kernel
theorem dX0_tryAllSayings_42 : decode cX0_tryAllSayings 42 = .ok (.aload_n 0, 1) := by decide +kernel
theorem dX0_tryAllSayings_43 : decode cX0_tryAllSayings 43 = .ok (.getfield 28, 3) := by decide +kernel
theorem dX0_tryAllSayings_46 : decode cX0_tryAllSayings 46 = .ok (.getfield 54, 3) := by decide +kernel
theorem dX0_tryAllSayings_49 : decode cX0_tryAllSayings 49 = .ok (.if_icmp .ge 105, 3) := by decide +kernel
theorem dX0_tryAllSayings_52 : decode cX0_tryAllSayings 52 = .ok (.aload_n 0, 1) := by decide +kernel
theorem dX0_tryAllSayings_53 : decode cX0_tryAllSayings 53 = .ok (.iload_n 3, 1) := by decide +kernel
theorem dX0_tryAllSayings_54 : decode cX0_tryAllSayings 54 = .ok (.invokevirtual 168, 3) := by decide +kernel
theorem dX0_tryAllSayings_57 : decode cX0_tryAllSayings 57 = .ok (.ifCond .eq 91, 3) := by decide +kernel
theorem dX0_tryAllSayings_60 : decode cX0_tryAllSayings 60 = .ok (.aload_n 0, 1) := by decide +kernel
theorem dX0_tryAllSayings_61 : decode cX0_tryAllSayings 61 = .ok (.iload 4, 2) := by decide +kernel
theorem dX0_tryAllSayings_63 : decode cX0_tryAllSayings 63 = .ok (.invokevirtual 168, 3) := by decide +kernel
theorem dX0_tryAllSayings_66 : decode cX0_tryAllSayings 66 = .ok (.ifCond .eq 82, 3) := by decide +kernel
theorem dX0_tryAllSayings_69 : decode cX0_tryAllSayings 69 = .ok (.aload_n 0, 1) := by decide +kernel
theorem dX0_tryAllSayings_70 : decode cX0_tryAllSayings 70 = .ok (.getfield 12, 3) := by decide +kernel
theorem dX0_tryAllSayings_73 : decode cX0_tryAllSayings 73 = .ok (.aload_n 0, 1) := by decide +kernel
theorem dX0_tryAllSayings_74 : decode cX0_tryAllSayings 74 = .ok (.getfield 28, 3) := by decide +kernel
theorem dX0_tryAllSayings_77 : decode cX0_tryAllSayings 77 = .ok (.getfield 97, 3) := by decide +kernel
theorem dX0_tryAllSayings_80 : decode cX0_tryAllSayings 80 = .ok (.aload_n 0, 1) := by decide +kernel
theorem dX0_tryAllSayings_81 : decode cX0_tryAllSayings 81 = .ok (.getfield 28, 3) := by decide +kernel
theorem dX0_tryAllSayings_84 : decode cX0_tryAllSayings 84 = .ok (.getfield 94, 3) := by decide +kernel
theorem dX0_tryAllSayings_87 : decode cX0_tryAllSayings 87 = .ok (.iload_n 3, 1) := by decide +kernel
theorem dX0_tryAllSayings_88 : decode cX0_tryAllSayings 88 = .ok (.invokevirtual 86, 3) := by decide +kernel
theorem dX0_tryAllSayings_91 : decode cX0_tryAllSayings 91 = .ok (.pop, 1) := by decide +kernel
theorem dX0_tryAllSayings_92 : decode cX0_tryAllSayings 92 = .ok (.aload_n 0, 1) := by decide +kernel
theorem dX0_tryAllSayings_93 : decode cX0_tryAllSayings 93 = .ok (.getfield 12, 3) := by decide +kernel
theorem dX0_tryAllSayings_96 : decode cX0_tryAllSayings 96 = .ok (.aload_n 0, 1) := by decide +kernel
theorem dX0_tryAllSayings_97 : decode cX0_tryAllSayings 97 = .ok (.getfield 28, 3) := by decide +kernel
theorem dX0_tryAllSayings_100 : decode cX0_tryAllSayings 100 = .ok (.getfield 97, 3) := by decide +kernel
theorem dX0_tryAllSayings_103 : decode cX0_tryAllSayings 103 = .ok (.iconst 1, 1) := by decide +kernel
theorem dX0_tryAllSayings_104 : decode cX0_tryAllSayings 104 = .ok (.iadd, 1) := by decide +kernel
theorem dX0_tryAllSayings_105 : decode cX0_tryAllSayings 105 = .ok (.aload_n 0, 1) := by decide +kernel
theorem dX0_tryAllSayings_106 : decode cX0_tryAllSayings 106 = .ok (.getfield 28, 3) := by decide +kernel
theorem dX0_tryAllSayings_109 : decode cX0_tryAllSayings 109 = .ok (.getfield 94, 3) := by decide +kernel
theorem dX0_tryAllSayings_112 : decode cX0_tryAllSayings 112 = .ok (.iload 4, 2) := by decide +kernel
theorem dX0_tryAllSayings_114 : decode cX0_tryAllSayings 114 = .ok (.invokevirtual 86, 3) := by decide +kernel
theorem dX0_tryAllSayings_117 : decode cX0_tryAllSayings 117 = .ok (.pop, 1) := by decide +kernel
theorem dX0_tryAllSayings_118 : decode cX0_tryAllSayings 118 = .ok (.aload_n 0, 1) := by decide +kernel
theorem dX0_tryAllSayings_119 : decode cX0_tryAllSayings 119 = .ok (.getfield 22, 3) := by decide +kernel
theorem dX0_tryAllSayings_122 : decode cX0_tryAllSayings 122 = .ok (.iload_n 3, 1) := by decide +kernel
theorem dX0_tryAllSayings_123 : decode cX0_tryAllSayings 123 = .ok (.bipush 12, 2) := by decide +kernel
theorem dX0_tryAllSayings_125 : decode cX0_tryAllSayings 125 = .ok (.imul, 1) := by decide +kernel
theorem dX0_tryAllSayings_126 : decode cX0_tryAllSayings 126 = .ok (.iload 4, 2) := by decide +kernel
theorem dX0_tryAllSayings_128 : decode cX0_tryAllSayings 128 = .ok (.iadd, 1) := by decide +kernel
theorem dX0_tryAllSayings_129 : decode cX0_tryAllSayings 129 = .ok (.aload_n 0, 1) := by decide +kernel
theorem dX0_tryAllSayings_130 : decode cX0_tryAllSayings 130 = .ok (.getfield 32, 3) := by decide +kernel
theorem dX0_tryAllSayings_133 : decode cX0_tryAllSayings 133 = .ok (.aload_n 0, 1) := by decide +kernel
theorem dX0_tryAllSayings_134 : decode cX0_tryAllSayings 134 = .ok (.getfield 12, 3) := by decide +kernel
theorem dX0_tryAllSayings_137 : decode cX0_tryAllSayings 137 = .ok (.aload_n 0, 1) := by decide +kernel
theorem dX0_tryAllSayings_138 : decode cX0_tryAllSayings 138 = .ok (.getfield 28, 3) := by decide +kernel
theorem dX0_tryAllSayings_141 : decode cX0_tryAllSayings 141 = .ok (.getfield 94, 3) := by decide +kernel
theorem dX0_tryAllSayings_144 : decode cX0_tryAllSayings 144 = .ok (.invokevirtual 60, 3) := by decide +kernel
theorem dX0_tryAllSayings_147 : decode cX0_tryAllSayings 147 = .ok (.iastore, 1) := by decide +kernel
theorem dX0_tryAllSayings_148 : decode cX0_tryAllSayings 148 = .ok (.iinc 4 1, 3) := by decide +kernel
theorem dX0_tryAllSayings_151 : decode cX0_tryAllSayings 151 = .ok (.goto (-111), 3) := by decide +kernel
theorem dX0_tryAllSayings_154 : decode cX0_tryAllSayings 154 = .ok (.iinc 3 1, 3) := by decide +kernel
theorem dX0_tryAllSayings_157 : decode cX0_tryAllSayings 157 = .ok (.goto (-131), 3) := by decide +kernel
theorem dX0_tryAllSayings_160 : decode cX0_tryAllSayings 160 = .ok (.return_, 1) := by decide +kernel
theorem dX0_gain_0 : decode cX0_gain 0 = .ok (.aload_n 0, 1) := by decide +kernel
theorem dX0_gain_1 : decode cX0_gain 1 = .ok (.getfield 22, 3) := by decide +kernel
theorem dX0_gain_4 : decode cX0_gain 4 = .ok (.iload_n 1, 1) := by decide +kernel
theorem dX0_gain_5 : decode cX0_gain 5 = .ok (.bipush 12, 2) := by decide +kernel
theorem dX0_gain_7 : decode cX0_gain 7 = .ok (.imul, 1) := by decide +kernel
theorem dX0_gain_8 : decode cX0_gain 8 = .ok (.iload_n 2, 1) := by decide +kernel
theorem dX0_gain_9 : decode cX0_gain 9 = .ok (.iadd, 1) := by decide +kernel
theorem dX0_gain_10 : decode cX0_gain 10 = .ok (.iaload, 1) := by decide +kernel
theorem dX0_gain_11 : decode cX0_gain 11 = .ok (.istore 4, 2) := by decide +kernel
theorem dX0_gain_13 : decode cX0_gain 13 = .ok (.iload 4, 2) := by decide +kernel
theorem dX0_gain_15 : decode cX0_gain 15 = .ok (.iload_n 3, 1) := by decide +kernel
theorem dX0_gain_16 : decode cX0_gain 16 = .ok (.ifCond .eq 7, 3) := by decide +kernel
theorem dX0_gain_19 : decode cX0_gain 19 = .ok (.iload_n 1, 1) := by decide +kernel
theorem dX0_gain_20 : decode cX0_gain 20 = .ok (.goto 4, 3) := by decide +kernel
theorem dX0_gain_23 : decode cX0_gain 23 = .ok (.iload_n 2, 1) := by decide +kernel
theorem dX0_gain_24 : decode cX0_gain 24 = .ok (.if_icmp .eq 5, 3) := by decide +kernel
theorem dX0_gain_27 : decode cX0_gain 27 = .ok (.iconst 0, 1) := by decide +kernel
theorem dX0_gain_28 : decode cX0_gain 28 = .ok (.ireturn, 1) := by decide +kernel
theorem dX0_gain_29 : decode cX0_gain 29 = .ok (.iload_n 1, 1) := by decide +kernel
theorem dX0_gain_30 : decode cX0_gain 30 = .ok (.iload_n 2, 1) := by decide +kernel
theorem dX0_gain_31 : decode cX0_gain 31 = .ok (.if_icmp .ne 7, 3) := by decide +kernel
theorem dX0_gain_34 : decode cX0_gain 34 = .ok (.iconst 1, 1) := by decide +kernel
theorem dX0_gain_35 : decode cX0_gain 35 = .ok (.goto 4, 3) := by decide +kernel
theorem dX0_gain_38 : decode cX0_gain 38 = .ok (.iconst 2, 1) := by decide +kernel
theorem dX0_gain_39 : decode cX0_gain 39 = .ok (.ireturn, 1) := by decide +kernel
theorem dX0_isRest_0 : decode cX0_isRest 0 = .ok (.aload_n 0, 1) := by decide +kernel
theorem dX0_isRest_1 : decode cX0_isRest 1 = .ok (.iload_n 1, 1) := by decide +kernel
theorem dX0_isRest_2 : decode cX0_isRest 2 = .ok (.iload_n 2, 1) := by decide +kernel
theorem dX0_isRest_3 : decode cX0_isRest 3 = .ok (.iconst 1, 1) := by decide +kernel
theorem dX0_isRest_4 : decode cX0_isRest 4 = .ok (.invokevirtual 174, 3) := by decide +kernel
theorem dX0_isRest_7 : decode cX0_isRest 7 = .ok (.istore_n 3, 1) := by decide +kernel
theorem dX0_isRest_8 : decode cX0_isRest 8 = .ok (.aload_n 0, 1) := by decide +kernel
theorem dX0_isRest_9 : decode cX0_isRest 9 = .ok (.iload_n 1, 1) := by decide +kernel
theorem dX0_isRest_10 : decode cX0_isRest 10 = .ok (.iload_n 2, 1) := by decide +kernel
theorem dX0_isRest_11 : decode cX0_isRest 11 = .ok (.iconst 0, 1) := by decide +kernel
theorem dX0_isRest_12 : decode cX0_isRest 12 = .ok (.invokevirtual 174, 3) := by decide +kernel
theorem dX0_isRest_15 : decode cX0_isRest 15 = .ok (.istore 4, 2) := by decide +kernel
theorem dX0_isRest_17 : decode cX0_isRest 17 = .ok (.iconst 0, 1) := by decide +kernel
theorem dX0_isRest_18 : decode cX0_isRest 18 = .ok (.istore 5, 2) := by decide +kernel
theorem dX0_isRest_20 : decode cX0_isRest 20 = .ok (.iload 5, 2) := by decide +kernel
theorem dX0_isRest_22 : decode cX0_isRest 22 = .ok (.aload_n 0, 1) := by decide +kernel
theorem dX0_isRest_23 : decode cX0_isRest 23 = .ok (.getfield 28, 3) := by decide +kernel
theorem dX0_isRest_26 : decode cX0_isRest 26 = .ok (.getfield 54, 3) := by decide +kernel
theorem dX0_isRest_29 : decode cX0_isRest 29 = .ok (.if_icmp .ge 45, 3) := by decide +kernel
theorem dX0_isRest_32 : decode cX0_isRest 32 = .ok (.aload_n 0, 1) := by decide +kernel
theorem dX0_isRest_33 : decode cX0_isRest 33 = .ok (.iload 5, 2) := by decide +kernel
theorem dX0_isRest_35 : decode cX0_isRest 35 = .ok (.invokevirtual 168, 3) := by decide +kernel
theorem dX0_isRest_38 : decode cX0_isRest 38 = .ok (.ifCond .eq 30, 3) := by decide +kernel
theorem dX0_isRest_41 : decode cX0_isRest 41 = .ok (.aload_n 0, 1) := by decide +kernel
theorem dX0_isRest_42 : decode cX0_isRest 42 = .ok (.iload 5, 2) := by decide +kernel
theorem dX0_isRest_44 : decode cX0_isRest 44 = .ok (.iload_n 2, 1) := by decide +kernel
theorem dX0_isRest_45 : decode cX0_isRest 45 = .ok (.iconst 1, 1) := by decide +kernel
theorem dX0_isRest_46 : decode cX0_isRest 46 = .ok (.invokevirtual 174, 3) := by decide +kernel
theorem dX0_isRest_49 : decode cX0_isRest 49 = .ok (.iload_n 3, 1) := by decide +kernel
theorem dX0_isRest_50 : decode cX0_isRest 50 = .ok (.if_icmp .gt 16, 3) := by decide +kernel
theorem dX0_isRest_53 : decode cX0_isRest 53 = .ok (.aload_n 0, 1) := by decide +kernel
theorem dX0_isRest_54 : decode cX0_isRest 54 = .ok (.iload_n 1, 1) := by decide +kernel
theorem dX0_isRest_55 : decode cX0_isRest 55 = .ok (.iload 5, 2) := by decide +kernel
theorem dX0_isRest_57 : decode cX0_isRest 57 = .ok (.iconst 0, 1) := by decide +kernel
theorem dX0_isRest_58 : decode cX0_isRest 58 = .ok (.invokevirtual 174, 3) := by decide +kernel
theorem dX0_isRest_61 : decode cX0_isRest 61 = .ok (.iload 4, 2) := by decide +kernel
theorem dX0_isRest_63 : decode cX0_isRest 63 = .ok (.if_icmp .le 5, 3) := by decide +kernel
theorem dX0_isRest_66 : decode cX0_isRest 66 = .ok (.iconst 0, 1) := by decide +kernel
theorem dX0_isRest_67 : decode cX0_isRest 67 = .ok (.ireturn, 1) := by decide +kernel
theorem dX0_isRest_68 : decode cX0_isRest 68 = .ok (.iinc 5 1, 3) := by decide +kernel
theorem dX0_isRest_71 : decode cX0_isRest 71 = .ok (.goto (-51), 3) := by decide +kernel
theorem dX0_isRest_74 : decode cX0_isRest 74 = .ok (.iconst 1, 1) := by decide +kernel
theorem dX0_isRest_75 : decode cX0_isRest 75 = .ok (.ireturn, 1) := by decide +kernel
theorem dX0_findRests_0 : decode cX0_findRests 0 = .ok (.aload_n 0, 1) := by decide +kernel
theorem dX0_findRests_1 : decode cX0_findRests 1 = .ok (.iconst 0, 1) := by decide +kernel
theorem dX0_findRests_2 : decode cX0_findRests 2 = .ok (.putfield 156, 3) := by decide +kernel
theorem dX0_findRests_5 : decode cX0_findRests 5 = .ok (.aload_n 0, 1) := by decide +kernel
theorem dX0_findRests_6 : decode cX0_findRests 6 = .ok (.iconst (-1), 1) := by decide +kernel
theorem dX0_findRests_7 : decode cX0_findRests 7 = .ok (.putfield 159, 3) := by decide +kernel
theorem dX0_findRests_10 : decode cX0_findRests 10 = .ok (.aload_n 0, 1) := by decide +kernel
theorem dX0_findRests_11 : decode cX0_findRests 11 = .ok (.iconst 0, 1) := by decide +kernel
theorem dX0_findRests_12 : decode cX0_findRests 12 = .ok (.putfield 162, 3) := by decide +kernel
theorem dX0_findRests_15 : decode cX0_findRests 15 = .ok (.aload_n 0, 1) := by decide +kernel
theorem dX0_findRests_16 : decode cX0_findRests 16 = .ok (.aload_n 1, 1) := by decide +kernel
theorem dX0_findRests_17 : decode cX0_findRests 17 = .ok (.iload_n 2, 1) := by decide +kernel
theorem dX0_findRests_18 : decode cX0_findRests 18 = .ok (.invokevirtual 165, 3) := by decide +kernel
theorem dX0_findRests_21 : decode cX0_findRests 21 = .ok (.iconst 0, 1) := by decide +kernel
theorem dX0_findRests_22 : decode cX0_findRests 22 = .ok (.istore_n 3, 1) := by decide +kernel
theorem dX0_findRests_23 : decode cX0_findRests 23 = .ok (.iload_n 3, 1) := by decide +kernel
theorem dX0_findRests_24 : decode cX0_findRests 24 = .ok (.aload_n 0, 1) := by decide +kernel
theorem dX0_findRests_25 : decode cX0_findRests 25 = .ok (.getfield 28, 3) := by decide +kernel
theorem dX0_findRests_28 : decode cX0_findRests 28 = .ok (.getfield 54, 3) := by decide +kernel
theorem dX0_findRests_31 : decode cX0_findRests 31 = .ok (.if_icmp .ge 106, 3) := by decide +kernel
theorem dX0_findRests_34 : decode cX0_findRests 34 = .ok (.iconst 0, 1) := by decide +kernel
theorem dX0_findRests_35 : decode cX0_findRests 35 = .ok (.istore 4, 2) := by decide +kernel
theorem dX0_findRests_37 : decode cX0_findRests 37 = .ok (.iload 4, 2) := by decide +kernel
theorem dX0_findRests_39 : decode cX0_findRests 39 = .ok (.aload_n 0, 1) := by decide +kernel
theorem dX0_findRests_40 : decode cX0_findRests 40 = .ok (.getfield 28, 3) := by decide +kernel
theorem dX0_findRests_43 : decode cX0_findRests 43 = .ok (.getfield 54, 3) := by decide +kernel
theorem dX0_findRests_46 : decode cX0_findRests 46 = .ok (.if_icmp .ge 85, 3) := by decide +kernel
theorem dX0_findRests_49 : decode cX0_findRests 49 = .ok (.aload_n 0, 1) := by decide +kernel
theorem dX0_findRests_50 : decode cX0_findRests 50 = .ok (.iload_n 3, 1) := by decide +kernel
theorem dX0_findRests_51 : decode cX0_findRests 51 = .ok (.invokevirtual 168, 3) := by decide +kernel
theorem dX0_findRests_54 : decode cX0_findRests 54 = .ok (.ifCond .eq 71, 3) := by decide +kernel
theorem dX0_findRests_57 : decode cX0_findRests 57 = .ok (.aload_n 0, 1) := by decide +kernel
theorem dX0_findRests_58 : decode cX0_findRests 58 = .ok (.iload 4, 2) := by decide +kernel
theorem dX0_findRests_60 : decode cX0_findRests 60 = .ok (.invokevirtual 168, 3) := by decide +kernel
theorem dX0_findRests_63 : decode cX0_findRests 63 = .ok (.ifCond .eq 62, 3) := by decide +kernel
theorem dX0_findRests_66 : decode cX0_findRests 66 = .ok (.aload_n 0, 1) := by decide +kernel
theorem dX0_findRests_67 : decode cX0_findRests 67 = .ok (.iload_n 3, 1) := by decide +kernel
theorem dX0_findRests_68 : decode cX0_findRests 68 = .ok (.iload 4, 2) := by decide +kernel
theorem dX0_findRests_70 : decode cX0_findRests 70 = .ok (.invokevirtual 171, 3) := by decide +kernel
theorem dX0_findRests_73 : decode cX0_findRests 73 = .ok (.ifCond .eq 52, 3) := by decide +kernel
theorem dX0_findRests_76 : decode cX0_findRests 76 = .ok (.aload_n 0, 1) := by decide +kernel
theorem dX0_findRests_77 : decode cX0_findRests 77 = .ok (.getfield 156, 3) := by decide +kernel
theorem dX0_findRests_80 : decode cX0_findRests 80 = .ok (.ifCond .ne 35, 3) := by decide +kernel
theorem dX0_findRests_83 : decode cX0_findRests 83 = .ok (.aload_n 0, 1) := by decide +kernel
theorem dX0_findRests_84 : decode cX0_findRests 84 = .ok (.bipush 100, 2) := by decide +kernel
theorem dX0_findRests_86 : decode cX0_findRests 86 = .ok (.iload_n 3, 1) := by decide +kernel
theorem dX0_findRests_87 : decode cX0_findRests 87 = .ok (.imul, 1) := by decide +kernel
theorem dX0_findRests_88 : decode cX0_findRests 88 = .ok (.iload 4, 2) := by decide +kernel
theorem dX0_findRests_90 : decode cX0_findRests 90 = .ok (.iadd, 1) := by decide +kernel
theorem dX0_findRests_91 : decode cX0_findRests 91 = .ok (.putfield 159, 3) := by decide +kernel
theorem dX0_findRests_94 : decode cX0_findRests 94 = .ok (.aload_n 0, 1) := by decide +kernel
theorem dX0_findRests_95 : decode cX0_findRests 95 = .ok (.aload_n 0, 1) := by decide +kernel
theorem dX0_findRests_96 : decode cX0_findRests 96 = .ok (.iload_n 3, 1) := by decide +kernel
theorem dX0_findRests_97 : decode cX0_findRests 97 = .ok (.iload 4, 2) := by decide +kernel
theorem dX0_findRests_99 : decode cX0_findRests 99 = .ok (.iconst 1, 1) := by decide +kernel
theorem dX0_findRests_100 : decode cX0_findRests 100 = .ok (.invokevirtual 174, 3) := by decide +kernel
theorem dX0_findRests_103 : decode cX0_findRests 103 = .ok (.aload_n 0, 1) := by decide +kernel
theorem dX0_findRests_104 : decode cX0_findRests 104 = .ok (.iload_n 3, 1) := by decide +kernel
theorem dX0_findRests_105 : decode cX0_findRests 105 = .ok (.iload 4, 2) := by decide +kernel
theorem dX0_findRests_107 : decode cX0_findRests 107 = .ok (.iconst 0, 1) := by decide +kernel
theorem dX0_findRests_108 : decode cX0_findRests 108 = .ok (.invokevirtual 174, 3) := by decide +kernel
theorem dX0_findRests_111 : decode cX0_findRests 111 = .ok (.iadd, 1) := by decide +kernel
theorem dX0_findRests_112 : decode cX0_findRests 112 = .ok (.putfield 162, 3) := by decide +kernel
theorem dX0_findRests_115 : decode cX0_findRests 115 = .ok (.aload_n 0, 1) := by decide +kernel
theorem dX0_findRests_116 : decode cX0_findRests 116 = .ok (.dup, 1) := by decide +kernel
theorem dX0_findRests_117 : decode cX0_findRests 117 = .ok (.getfield 156, 3) := by decide +kernel
theorem dX0_findRests_120 : decode cX0_findRests 120 = .ok (.iconst 1, 1) := by decide +kernel
theorem dX0_findRests_121 : decode cX0_findRests 121 = .ok (.iadd, 1) := by decide +kernel
theorem dX0_findRests_122 : decode cX0_findRests 122 = .ok (.putfield 156, 3) := by decide +kernel
theorem dX0_findRests_125 : decode cX0_findRests 125 = .ok (.iinc 4 1, 3) := by decide +kernel
theorem dX0_findRests_128 : decode cX0_findRests 128 = .ok (.goto (-91), 3) := by decide +kernel
theorem dX0_findRests_131 : decode cX0_findRests 131 = .ok (.iinc 3 1, 3) := by decide +kernel
theorem dX0_findRests_134 : decode cX0_findRests 134 = .ok (.goto (-111), 3) := by decide +kernel
theorem dX0_findRests_137 : decode cX0_findRests 137 = .ok (.return_, 1) := by decide +kernel
theorem dX0_findSets_0 : decode cX0_findSets 0 = .ok (.aload_n 0, 1) := by decide +kernel
theorem dX0_findSets_1 : decode cX0_findSets 1 = .ok (.iconst 0, 1) := by decide +kernel
theorem dX0_findSets_2 : decode cX0_findSets 2 = .ok (.putfield 117, 3) := by decide +kernel
theorem dX0_findSets_5 : decode cX0_findSets 5 = .ok (.aload_n 0, 1) := by decide +kernel
theorem dX0_findSets_6 : decode cX0_findSets 6 = .ok (.iconst (-1), 1) := by decide +kernel
theorem dX0_findSets_7 : decode cX0_findSets 7 = .ok (.putfield 120, 3) := by decide +kernel
theorem dX0_findSets_10 : decode cX0_findSets 10 = .ok (.aload_n 0, 1) := by decide +kernel
theorem dX0_findSets_11 : decode cX0_findSets 11 = .ok (.iconst 0, 1) := by decide +kernel
theorem dX0_findSets_12 : decode cX0_findSets 12 = .ok (.putfield 123, 3) := by decide +kernel
theorem dX0_findSets_15 : decode cX0_findSets 15 = .ok (.iconst 0, 1) := by decide +kernel
theorem dX0_findSets_16 : decode cX0_findSets 16 = .ok (.istore_n 3, 1) := by decide +kernel
theorem dX0_findSets_17 : decode cX0_findSets 17 = .ok (.iload_n 3, 1) := by decide +kernel
theorem dX0_findSets_18 : decode cX0_findSets 18 = .ok (.iconst 1, 1) := by decide +kernel
theorem dX0_findSets_19 : decode cX0_findSets 19 = .ok (.aload_n 0, 1) := by decide +kernel
theorem dX0_findSets_20 : decode cX0_findSets 20 = .ok (.getfield 28, 3) := by decide +kernel
theorem dX0_findSets_23 : decode cX0_findSets 23 = .ok (.getfield 97, 3) := by decide +kernel
theorem dX0_findSets_26 : decode cX0_findSets 26 = .ok (.ishl, 1) := by decide +kernel
theorem dX0_findSets_27 : decode cX0_findSets 27 = .ok (.if_icmp .ge 73, 3) := by decide +kernel
theorem dX0_findSets_30 : decode cX0_findSets 30 = .ok (.aload_n 0, 1) := by decide +kernel
theorem dX0_findSets_31 : decode cX0_findSets 31 = .ok (.aload_n 1, 1) := by decide +kernel
theorem dX0_findSets_32 : decode cX0_findSets 32 = .ok (.iload_n 3, 1) := by decide +kernel
theorem dX0_findSets_33 : decode cX0_findSets 33 = .ok (.invokevirtual 106, 3) := by decide +kernel
theorem dX0_findSets_36 : decode cX0_findSets 36 = .ok (.aload_n 0, 1) := by decide +kernel
theorem dX0_findSets_37 : decode cX0_findSets 37 = .ok (.aload_n 2, 1) := by decide +kernel
theorem dX0_findSets_38 : decode cX0_findSets 38 = .ok (.invokevirtual 126, 3) := by decide +kernel
theorem dX0_findSets_41 : decode cX0_findSets 41 = .ok (.ifCond .eq 53, 3) := by decide +kernel
theorem dX0_findSets_44 : decode cX0_findSets 44 = .ok (.aload_n 0, 1) := by decide +kernel
theorem dX0_findSets_45 : decode cX0_findSets 45 = .ok (.aload_n 0, 1) := by decide +kernel
theorem dX0_findSets_46 : decode cX0_findSets 46 = .ok (.getfield 117, 3) := by decide +kernel
theorem dX0_findSets_49 : decode cX0_findSets 49 = .ok (.ifCond .ne 7, 3) := by decide +kernel
theorem dX0_findSets_52 : decode cX0_findSets 52 = .ok (.iload_n 3, 1) := by decide +kernel
theorem dX0_findSets_53 : decode cX0_findSets 53 = .ok (.goto 7, 3) := by decide +kernel
theorem dX0_findSets_56 : decode cX0_findSets 56 = .ok (.aload_n 0, 1) := by decide +kernel
theorem dX0_findSets_57 : decode cX0_findSets 57 = .ok (.getfield 120, 3) := by decide +kernel
theorem dX0_findSets_60 : decode cX0_findSets 60 = .ok (.putfield 120, 3) := by decide +kernel
theorem dX0_findSets_63 : decode cX0_findSets 63 = .ok (.aload_n 0, 1) := by decide +kernel
theorem dX0_findSets_64 : decode cX0_findSets 64 = .ok (.aload_n 0, 1) := by decide +kernel
theorem dX0_findSets_65 : decode cX0_findSets 65 = .ok (.getfield 117, 3) := by decide +kernel
theorem dX0_findSets_68 : decode cX0_findSets 68 = .ok (.ifCond .ne 7, 3) := by decide +kernel
theorem dX0_findSets_71 : decode cX0_findSets 71 = .ok (.iload_n 3, 1) := by decide +kernel
theorem dX0_findSets_72 : decode cX0_findSets 72 = .ok (.goto 9, 3) := by decide +kernel
theorem dX0_findSets_75 : decode cX0_findSets 75 = .ok (.aload_n 0, 1) := by decide +kernel
theorem dX0_findSets_76 : decode cX0_findSets 76 = .ok (.getfield 123, 3) := by decide +kernel
theorem dX0_findSets_79 : decode cX0_findSets 79 = .ok (.iload_n 3, 1) := by decide +kernel
theorem dX0_findSets_80 : decode cX0_findSets 80 = .ok (.iand, 1) := by decide +kernel
theorem dX0_findSets_81 : decode cX0_findSets 81 = .ok (.putfield 123, 3) := by decide +kernel
theorem dX0_findSets_84 : decode cX0_findSets 84 = .ok (.aload_n 0, 1) := by decide +kernel
theorem dX0_findSets_85 : decode cX0_findSets 85 = .ok (.dup, 1) := by decide +kernel
theorem dX0_findSets_86 : decode cX0_findSets 86 = .ok (.getfield 117, 3) := by decide +kernel
theorem dX0_findSets_89 : decode cX0_findSets 89 = .ok (.iconst 1, 1) := by decide +kernel
theorem dX0_findSets_90 : decode cX0_findSets 90 = .ok (.iadd, 1) := by decide +kernel
theorem dX0_findSets_91 : decode cX0_findSets 91 = .ok (.putfield 117, 3) := by decide +kernel
theorem dX0_findSets_94 : decode cX0_findSets 94 = .ok (.iinc 3 1, 3) := by decide +kernel
theorem dX0_findSets_97 : decode cX0_findSets 97 = .ok (.goto (-80), 3) := by decide +kernel
theorem dX0_findSets_100 : decode cX0_findSets 100 = .ok (.return_, 1) := by decide +kernel
theorem dJ6_bitCount_0f7a4_0 : decode cJ6_bitCount_0f7a4 0 = .ok (.iload_n 0, 1) := by decide +kernel
theorem dJ6_bitCount_0f7a4_1 : decode cJ6_bitCount_0f7a4 1 = .ok (.iload_n 0, 1) := by decide +kernel
theorem dJ6_bitCount_0f7a4_2 : decode cJ6_bitCount_0f7a4 2 = .ok (.iconst 1, 1) := by decide +kernel
theorem dJ6_bitCount_0f7a4_3 : decode cJ6_bitCount_0f7a4 3 = .ok (.iushr, 1) := by decide +kernel
theorem dJ6_bitCount_0f7a4_4 : decode cJ6_bitCount_0f7a4 4 = .ok (.ldc_w 265, 3) := by decide +kernel
theorem dJ6_bitCount_0f7a4_7 : decode cJ6_bitCount_0f7a4 7 = .ok (.iand, 1) := by decide +kernel
theorem dJ6_bitCount_0f7a4_8 : decode cJ6_bitCount_0f7a4 8 = .ok (.isub, 1) := by decide +kernel
theorem dJ6_bitCount_0f7a4_9 : decode cJ6_bitCount_0f7a4 9 = .ok (.istore_n 0, 1) := by decide +kernel
theorem dJ6_bitCount_0f7a4_10 : decode cJ6_bitCount_0f7a4 10 = .ok (.iload_n 0, 1) := by decide +kernel
theorem dJ6_bitCount_0f7a4_11 : decode cJ6_bitCount_0f7a4 11 = .ok (.ldc_w 266, 3) := by decide +kernel
theorem dJ6_bitCount_0f7a4_14 : decode cJ6_bitCount_0f7a4 14 = .ok (.iand, 1) := by decide +kernel
theorem dJ6_bitCount_0f7a4_15 : decode cJ6_bitCount_0f7a4 15 = .ok (.iload_n 0, 1) := by decide +kernel
theorem dJ6_bitCount_0f7a4_16 : decode cJ6_bitCount_0f7a4 16 = .ok (.iconst 2, 1) := by decide +kernel
theorem dJ6_bitCount_0f7a4_17 : decode cJ6_bitCount_0f7a4 17 = .ok (.iushr, 1) := by decide +kernel
theorem dJ6_bitCount_0f7a4_18 : decode cJ6_bitCount_0f7a4 18 = .ok (.ldc_w 266, 3) := by decide +kernel
theorem dJ6_bitCount_0f7a4_21 : decode cJ6_bitCount_0f7a4 21 = .ok (.iand, 1) := by decide +kernel
theorem dJ6_bitCount_0f7a4_22 : decode cJ6_bitCount_0f7a4 22 = .ok (.iadd, 1) := by decide +kernel
theorem dJ6_bitCount_0f7a4_23 : decode cJ6_bitCount_0f7a4 23 = .ok (.istore_n 0, 1) := by decide +kernel
theorem dJ6_bitCount_0f7a4_24 : decode cJ6_bitCount_0f7a4 24 = .ok (.iload_n 0, 1) := by decide +kernel
theorem dJ6_bitCount_0f7a4_25 : decode cJ6_bitCount_0f7a4 25 = .ok (.iload_n 0, 1) := by decide +kernel
theorem dJ6_bitCount_0f7a4_26 : decode cJ6_bitCount_0f7a4 26 = .ok (.iconst 4, 1) := by decide +kernel
theorem dJ6_bitCount_0f7a4_27 : decode cJ6_bitCount_0f7a4 27 = .ok (.iushr, 1) := by decide +kernel
theorem dJ6_bitCount_0f7a4_28 : decode cJ6_bitCount_0f7a4 28 = .ok (.iadd, 1) := by decide +kernel
theorem dJ6_bitCount_0f7a4_29 : decode cJ6_bitCount_0f7a4 29 = .ok (.ldc_w 267, 3) := by decide +kernel
theorem dJ6_bitCount_0f7a4_32 : decode cJ6_bitCount_0f7a4 32 = .ok (.iand, 1) := by decide +kernel
theorem dJ6_bitCount_0f7a4_33 : decode cJ6_bitCount_0f7a4 33 = .ok (.istore_n 0, 1) := by decide +kernel
theorem dJ6_bitCount_0f7a4_34 : decode cJ6_bitCount_0f7a4 34 = .ok (.iload_n 0, 1) := by decide +kernel
theorem dJ6_bitCount_0f7a4_35 : decode cJ6_bitCount_0f7a4 35 = .ok (.iload_n 0, 1) := by decide +kernel
theorem dJ6_bitCount_0f7a4_36 : decode cJ6_bitCount_0f7a4 36 = .ok (.bipush 8, 2) := by decide +kernel
theorem dJ6_bitCount_0f7a4_38 : decode cJ6_bitCount_0f7a4 38 = .ok (.iushr, 1) := by decide +kernel
theorem dJ6_bitCount_0f7a4_39 : decode cJ6_bitCount_0f7a4 39 = .ok (.iadd, 1) := by decide +kernel
theorem dJ6_bitCount_0f7a4_40 : decode cJ6_bitCount_0f7a4 40 = .ok (.istore_n 0, 1) := by decide +kernel
theorem dJ6_bitCount_0f7a4_41 : decode cJ6_bitCount_0f7a4 41 = .ok (.iload_n 0, 1) := by decide +kernel
theorem dJ6_bitCount_0f7a4_42 : decode cJ6_bitCount_0f7a4 42 = .ok (.iload_n 0, 1) := by decide +kernel
theorem dJ6_bitCount_0f7a4_43 : decode cJ6_bitCount_0f7a4 43 = .ok (.bipush 16, 2) := by decide +kernel
theorem dJ6_bitCount_0f7a4_45 : decode cJ6_bitCount_0f7a4 45 = .ok (.iushr, 1) := by decide +kernel
theorem dJ6_bitCount_0f7a4_46 : decode cJ6_bitCount_0f7a4 46 = .ok (.iadd, 1) := by decide +kernel
theorem dJ6_bitCount_0f7a4_47 : decode cJ6_bitCount_0f7a4 47 = .ok (.istore_n 0, 1) := by decide +kernel
theorem dJ6_bitCount_0f7a4_48 : decode cJ6_bitCount_0f7a4 48 = .ok (.iload_n 0, 1) := by decide +kernel
theorem dJ6_bitCount_0f7a4_49 : decode cJ6_bitCount_0f7a4 49 = .ok (.bipush 63, 2) := by decide +kernel
theorem dJ6_bitCount_0f7a4_51 : decode cJ6_bitCount_0f7a4 51 = .ok (.iand, 1) := by decide +kernel
theorem dJ6_bitCount_0f7a4_52 : decode cJ6_bitCount_0f7a4 52 = .ok (.ireturn, 1) := by decide +kernel
theorem dX0_findSilence_0 : decode cX0_findSilence 0 = .ok (.iconst (-1), 1) := by decide +kernel
theorem dX0_findSilence_1 : decode cX0_findSilence 1 = .ok (.istore_n 3, 1) := by decide +kernel
theorem dX0_findSilence_2 : decode cX0_findSilence 2 = .ok (.aload_n 0, 1) := by decide +kernel
theorem dX0_findSilence_3 : decode cX0_findSilence 3 = .ok (.getfield 28, 3) := by decide +kernel
theorem dX0_findSilence_6 : decode cX0_findSilence 6 = .ok (.getfield 97, 3) := by decide +kernel
theorem dX0_findSilence_9 : decode cX0_findSilence 9 = .ok (.iconst 1, 1) := by decide +kernel
theorem dX0_findSilence_10 : decode cX0_findSilence 10 = .ok (.iadd, 1) := by decide +kernel
theorem dX0_findSilence_11 : decode cX0_findSilence 11 = .ok (.istore 4, 2) := by decide +kernel
theorem dX0_findSilence_13 : decode cX0_findSilence 13 = .ok (.iconst 0, 1) := by decide +kernel
theorem dX0_findSilence_14 : decode cX0_findSilence 14 = .ok (.istore 5, 2) := by decide +kernel
theorem dX0_findSilence_16 : decode cX0_findSilence 16 = .ok (.iload 5, 2) := by decide +kernel
theorem dX0_findSilence_18 : decode cX0_findSilence 18 = .ok (.iconst 1, 1) := by decide +kernel
theorem dX0_findSilence_19 : decode cX0_findSilence 19 = .ok (.aload_n 0, 1) := by decide +kernel
theorem dX0_findSilence_20 : decode cX0_findSilence 20 = .ok (.getfield 28, 3) := by decide +kernel
theorem dX0_findSilence_23 : decode cX0_findSilence 23 = .ok (.getfield 97, 3) := by decide +kernel
theorem dX0_findSilence_26 : decode cX0_findSilence 26 = .ok (.ishl, 1) := by decide +kernel
theorem dX0_findSilence_27 : decode cX0_findSilence 27 = .ok (.if_icmp .ge 61, 3) := by decide +kernel
theorem dX0_findSilence_30 : decode cX0_findSilence 30 = .ok (.iload 5, 2) := by decide +kernel
theorem dX0_findSilence_32 : decode cX0_findSilence 32 = .ok (.invokestatic 100, 3) := by decide +kernel
theorem dX0_findSilence_35 : decode cX0_findSilence 35 = .ok (.iload 4, 2) := by decide +kernel
theorem dX0_findSilence_37 : decode cX0_findSilence 37 = .ok (.if_icmp .ge 45, 3) := by decide +kernel
theorem dX0_findSilence_40 : decode cX0_findSilence 40 = .ok (.aload_n 0, 1) := by decide +kernel
theorem dX0_findSilence_41 : decode cX0_findSilence 41 = .ok (.aload_n 1, 1) := by decide +kernel
theorem dX0_findSilence_42 : decode cX0_findSilence 42 = .ok (.iload 5, 2) := by decide +kernel
theorem dX0_findSilence_44 : decode cX0_findSilence 44 = .ok (.invokevirtual 106, 3) := by decide +kernel
theorem dX0_findSilence_47 : decode cX0_findSilence 47 = .ok (.aload_n 0, 1) := by decide +kernel
theorem dX0_findSilence_48 : decode cX0_findSilence 48 = .ok (.getfield 32, 3) := by decide +kernel
theorem dX0_findSilence_51 : decode cX0_findSilence 51 = .ok (.aload_n 0, 1) := by decide +kernel
theorem dX0_findSilence_52 : decode cX0_findSilence 52 = .ok (.getfield 12, 3) := by decide +kernel
theorem dX0_findSilence_55 : decode cX0_findSilence 55 = .ok (.invokevirtual 40, 3) := by decide +kernel
theorem dX0_findSilence_58 : decode cX0_findSilence 58 = .ok (.aload_n 0, 1) := by decide +kernel
theorem dX0_findSilence_59 : decode cX0_findSilence 59 = .ok (.getfield 32, 3) := by decide +kernel
theorem dX0_findSilence_62 : decode cX0_findSilence 62 = .ok (.getfield 110, 3) := by decide +kernel
theorem dX0_findSilence_65 : decode cX0_findSilence 65 = .ok (.iload_n 2, 1) := by decide +kernel
theorem dX0_findSilence_66 : decode cX0_findSilence 66 = .ok (.ishr, 1) := by decide +kernel
theorem dX0_findSilence_67 : decode cX0_findSilence 67 = .ok (.iconst 1, 1) := by decide +kernel
theorem dX0_findSilence_68 : decode cX0_findSilence 68 = .ok (.iand, 1) := by decide +kernel
theorem dX0_findSilence_69 : decode cX0_findSilence 69 = .ok (.ifCond .eq 13, 3) := by decide +kernel
theorem dX0_findSilence_72 : decode cX0_findSilence 72 = .ok (.iload 5, 2) := by decide +kernel
theorem dX0_findSilence_74 : decode cX0_findSilence 74 = .ok (.istore_n 3, 1) := by decide +kernel
theorem dX0_findSilence_75 : decode cX0_findSilence 75 = .ok (.iload 5, 2) := by decide +kernel
theorem dX0_findSilence_77 : decode cX0_findSilence 77 = .ok (.invokestatic 100, 3) := by decide +kernel
theorem dX0_findSilence_80 : decode cX0_findSilence 80 = .ok (.istore 4, 2) := by decide +kernel
theorem dX0_findSilence_82 : decode cX0_findSilence 82 = .ok (.iinc 5 1, 3) := by decide +kernel
theorem dX0_findSilence_85 : decode cX0_findSilence 85 = .ok (.goto (-69), 3) := by decide +kernel
theorem dX0_findSilence_88 : decode cX0_findSilence 88 = .ok (.iload_n 3, 1) := by decide +kernel
theorem dX0_findSilence_89 : decode cX0_findSilence 89 = .ok (.ireturn, 1) := by decide +kernel
theorem dX0_findStay_0 : decode cX0_findStay 0 = .ok (.aload_n 0, 1) := by decide +kernel
theorem dX0_findStay_1 : decode cX0_findStay 1 = .ok (.getfield 12, 3) := by decide +kernel
theorem dX0_findStay_4 : decode cX0_findStay 4 = .ok (.aload_n 1, 1) := by decide +kernel
theorem dX0_findStay_5 : decode cX0_findStay 5 = .ok (.invokevirtual 36, 3) := by decide +kernel
theorem dX0_findStay_8 : decode cX0_findStay 8 = .ok (.ldc2_w 48, 3) := by decide +kernel
theorem dX0_findStay_11 : decode cX0_findStay 11 = .ok (.lstore_n 2, 1) := by decide +kernel
theorem dX0_findStay_12 : decode cX0_findStay 12 = .ok (.iconst 0, 1) := by decide +kernel
theorem dX0_findStay_13 : decode cX0_findStay 13 = .ok (.istore 4, 2) := by decide +kernel
theorem dX0_findStay_15 : decode cX0_findStay 15 = .ok (.iconst 0, 1) := by decide +kernel
theorem dX0_findStay_16 : decode cX0_findStay 16 = .ok (.istore 5, 2) := by decide +kernel
theorem dX0_findStay_18 : decode cX0_findStay 18 = .ok (.iload 5, 2) := by decide +kernel
theorem dX0_findStay_20 : decode cX0_findStay 20 = .ok (.bipush 80, 2) := by decide +kernel
theorem dX0_findStay_22 : decode cX0_findStay 22 = .ok (.if_icmp .gt 68, 3) := by decide +kernel
theorem dX0_findStay_25 : decode cX0_findStay 25 = .ok (.aload_n 0, 1) := by decide +kernel
theorem dX0_findStay_26 : decode cX0_findStay 26 = .ok (.getfield 32, 3) := by decide +kernel
theorem dX0_findStay_29 : decode cX0_findStay 29 = .ok (.aload_n 0, 1) := by decide +kernel
theorem dX0_findStay_30 : decode cX0_findStay 30 = .ok (.getfield 12, 3) := by decide +kernel
theorem dX0_findStay_33 : decode cX0_findStay 33 = .ok (.invokevirtual 40, 3) := by decide +kernel
theorem dX0_findStay_36 : decode cX0_findStay 36 = .ok (.aload_n 0, 1) := by decide +kernel
theorem dX0_findStay_37 : decode cX0_findStay 37 = .ok (.getfield 32, 3) := by decide +kernel
theorem dX0_findStay_40 : decode cX0_findStay 40 = .ok (.invokevirtual 50, 3) := by decide +kernel
theorem dX0_findStay_43 : decode cX0_findStay 43 = .ok (.lload_n 2, 1) := by decide +kernel
theorem dX0_findStay_44 : decode cX0_findStay 44 = .ok (.lcmp, 1) := by decide +kernel
theorem dX0_findStay_45 : decode cX0_findStay 45 = .ok (.ifCond .eq 15, 3) := by decide +kernel
theorem dX0_findStay_48 : decode cX0_findStay 48 = .ok (.aload_n 0, 1) := by decide +kernel
theorem dX0_findStay_49 : decode cX0_findStay 49 = .ok (.getfield 32, 3) := by decide +kernel
theorem dX0_findStay_52 : decode cX0_findStay 52 = .ok (.invokevirtual 50, 3) := by decide +kernel
theorem dX0_findStay_55 : decode cX0_findStay 55 = .ok (.lstore_n 2, 1) := by decide +kernel
theorem dX0_findStay_56 : decode cX0_findStay 56 = .ok (.iload 5, 2) := by decide +kernel
theorem dX0_findStay_58 : decode cX0_findStay 58 = .ok (.istore 4, 2) := by decide +kernel
theorem dX0_findStay_60 : decode cX0_findStay 60 = .ok (.iload 5, 2) := by decide +kernel
theorem dX0_findStay_62 : decode cX0_findStay 62 = .ok (.iload 4, 2) := by decide +kernel
theorem dX0_findStay_64 : decode cX0_findStay 64 = .ok (.isub, 1) := by decide +kernel
theorem dX0_findStay_65 : decode cX0_findStay 65 = .ok (.bipush 20, 2) := by decide +kernel
theorem dX0_findStay_67 : decode cX0_findStay 67 = .ok (.if_icmp .ne 6, 3) := by decide +kernel
theorem dX0_findStay_70 : decode cX0_findStay 70 = .ok (.iload 4, 2) := by decide +kernel
theorem dX0_findStay_72 : decode cX0_findStay 72 = .ok (.ireturn, 1) := by decide +kernel
theorem dX0_findStay_73 : decode cX0_findStay 73 = .ok (.aload_n 0, 1) := by decide +kernel
theorem dX0_findStay_74 : decode cX0_findStay 74 = .ok (.getfield 32, 3) := by decide +kernel
theorem dX0_findStay_77 : decode cX0_findStay 77 = .ok (.aload_n 0, 1) := by decide +kernel
theorem dX0_findStay_78 : decode cX0_findStay 78 = .ok (.getfield 12, 3) := by decide +kernel
theorem dX0_findStay_81 : decode cX0_findStay 81 = .ok (.invokevirtual 45, 3) := by decide +kernel
theorem dX0_findStay_84 : decode cX0_findStay 84 = .ok (.iinc 5 1, 3) := by decide +kernel
theorem dX0_findStay_87 : decode cX0_findStay 87 = .ok (.goto (-69), 3) := by decide +kernel
theorem dX0_findStay_90 : decode cX0_findStay 90 = .ok (.iconst (-1), 1) := by decide +kernel
theorem dX0_findStay_91 : decode cX0_findStay 91 = .ok (.ireturn, 1) := by decide +kernel
theorem dX0_turnByTells_0 : decode cX0_turnByTells 0 = .ok (.iconst 0, 1) := by decide +kernel
theorem dX0_turnByTells_1 : decode cX0_turnByTells 1 = .ok (.istore_n 3, 1) := by decide +kernel
theorem dX0_turnByTells_2 : decode cX0_turnByTells 2 = .ok (.iload_n 3, 1) := by decide +kernel
theorem dX0_turnByTells_3 : decode cX0_turnByTells 3 = .ok (.aload_n 0, 1) := by decide +kernel
theorem dX0_turnByTells_4 : decode cX0_turnByTells 4 = .ok (.getfield 28, 3) := by decide +kernel
theorem dX0_turnByTells_7 : decode cX0_turnByTells 7 = .ok (.getfield 54, 3) := by decide +kernel
theorem dX0_turnByTells_10 : decode cX0_turnByTells 10 = .ok (.if_icmp .ge 56, 3) := by decide +kernel
theorem dX0_turnByTells_13 : decode cX0_turnByTells 13 = .ok (.aload_n 0, 1) := by decide +kernel
theorem dX0_turnByTells_14 : decode cX0_turnByTells 14 = .ok (.getfield 28, 3) := by decide +kernel
theorem dX0_turnByTells_17 : decode cX0_turnByTells 17 = .ok (.iload_n 2, 1) := by decide +kernel
theorem dX0_turnByTells_18 : decode cX0_turnByTells 18 = .ok (.iload_n 3, 1) := by decide +kernel
theorem dX0_turnByTells_19 : decode cX0_turnByTells 19 = .ok (.invokevirtual 82, 3) := by decide +kernel
theorem dX0_turnByTells_22 : decode cX0_turnByTells 22 = .ok (.iconst (-1), 1) := by decide +kernel
theorem dX0_turnByTells_23 : decode cX0_turnByTells 23 = .ok (.if_icmp .eq 37, 3) := by decide +kernel
theorem dX0_turnByTells_26 : decode cX0_turnByTells 26 = .ok (.aload_n 0, 1) := by decide +kernel
theorem dX0_turnByTells_27 : decode cX0_turnByTells 27 = .ok (.getfield 12, 3) := by decide +kernel
theorem dX0_turnByTells_30 : decode cX0_turnByTells 30 = .ok (.iload_n 1, 1) := by decide +kernel
theorem dX0_turnByTells_31 : decode cX0_turnByTells 31 = .ok (.iload_n 2, 1) := by decide +kernel
theorem dX0_turnByTells_32 : decode cX0_turnByTells 32 = .ok (.iload_n 3, 1) := by decide +kernel
theorem dX0_turnByTells_33 : decode cX0_turnByTells 33 = .ok (.invokevirtual 86, 3) := by decide +kernel
theorem dX0_turnByTells_36 : decode cX0_turnByTells 36 = .ok (.pop, 1) := by decide +kernel
theorem dX0_turnByTells_37 : decode cX0_turnByTells 37 = .ok (.aload_n 0, 1) := by decide +kernel
theorem dX0_turnByTells_38 : decode cX0_turnByTells 38 = .ok (.getfield 22, 3) := by decide +kernel
theorem dX0_turnByTells_41 : decode cX0_turnByTells 41 = .ok (.iload_n 2, 1) := by decide +kernel
theorem dX0_turnByTells_42 : decode cX0_turnByTells 42 = .ok (.bipush 12, 2) := by decide +kernel
theorem dX0_turnByTells_44 : decode cX0_turnByTells 44 = .ok (.imul, 1) := by decide +kernel
theorem dX0_turnByTells_45 : decode cX0_turnByTells 45 = .ok (.iload_n 3, 1) := by decide +kernel
theorem dX0_turnByTells_46 : decode cX0_turnByTells 46 = .ok (.iadd, 1) := by decide +kernel
theorem dX0_turnByTells_47 : decode cX0_turnByTells 47 = .ok (.aload_n 0, 1) := by decide +kernel
theorem dX0_turnByTells_48 : decode cX0_turnByTells 48 = .ok (.getfield 32, 3) := by decide +kernel
theorem dX0_turnByTells_51 : decode cX0_turnByTells 51 = .ok (.aload_n 0, 1) := by decide +kernel
theorem dX0_turnByTells_52 : decode cX0_turnByTells 52 = .ok (.getfield 12, 3) := by decide +kernel
theorem dX0_turnByTells_55 : decode cX0_turnByTells 55 = .ok (.iload_n 2, 1) := by decide +kernel
theorem dX0_turnByTells_56 : decode cX0_turnByTells 56 = .ok (.invokevirtual 60, 3) := by decide +kernel
theorem dX0_turnByTells_59 : decode cX0_turnByTells 59 = .ok (.iastore, 1) := by decide +kernel
theorem dX0_turnByTells_60 : decode cX0_turnByTells 60 = .ok (.iinc 3 1, 3) := by decide +kernel
theorem dX0_turnByTells_63 : decode cX0_turnByTells 63 = .ok (.goto (-61), 3) := by decide +kernel
theorem dX0_turnByTells_66 : decode cX0_turnByTells 66 = .ok (.return_, 1) := by decide +kernel
theorem dX0_secondHelps_0 : decode cX0_secondHelps 0 = .ok (.iconst 0, 1) := by decide +kernel
theorem dX0_secondHelps_1 : decode cX0_secondHelps 1 = .ok (.istore_n 3, 1) := by decide +kernel
theorem dX0_secondHelps_2 : decode cX0_secondHelps 2 = .ok (.iload_n 3, 1) := by decide +kernel
theorem dX0_secondHelps_3 : decode cX0_secondHelps 3 = .ok (.aload_n 0, 1) := by decide +kernel
theorem dX0_secondHelps_4 : decode cX0_secondHelps 4 = .ok (.getfield 28, 3) := by decide +kernel
theorem dX0_secondHelps_7 : decode cX0_secondHelps 7 = .ok (.getfield 54, 3) := by decide +kernel
theorem dX0_secondHelps_10 : decode cX0_secondHelps 10 = .ok (.if_icmp .ge 93, 3) := by decide +kernel
theorem dX0_secondHelps_13 : decode cX0_secondHelps 13 = .ok (.aload_n 0, 1) := by decide +kernel
theorem dX0_secondHelps_14 : decode cX0_secondHelps 14 = .ok (.getfield 18, 3) := by decide +kernel
theorem dX0_secondHelps_17 : decode cX0_secondHelps 17 = .ok (.iload_n 3, 1) := by decide +kernel
theorem dX0_secondHelps_18 : decode cX0_secondHelps 18 = .ok (.iaload, 1) := by decide +kernel
theorem dX0_secondHelps_19 : decode cX0_secondHelps 19 = .ok (.istore 4, 2) := by decide +kernel
theorem dX0_secondHelps_21 : decode cX0_secondHelps 21 = .ok (.iconst 0, 1) := by decide +kernel
theorem dX0_secondHelps_22 : decode cX0_secondHelps 22 = .ok (.istore 5, 2) := by decide +kernel
theorem dX0_secondHelps_24 : decode cX0_secondHelps 24 = .ok (.iload 5, 2) := by decide +kernel
theorem dX0_secondHelps_26 : decode cX0_secondHelps 26 = .ok (.aload_n 0, 1) := by decide +kernel
theorem dX0_secondHelps_27 : decode cX0_secondHelps 27 = .ok (.getfield 28, 3) := by decide +kernel
theorem dX0_secondHelps_30 : decode cX0_secondHelps 30 = .ok (.getfield 54, 3) := by decide +kernel
theorem dX0_secondHelps_33 : decode cX0_secondHelps 33 = .ok (.if_icmp .ge 56, 3) := by decide +kernel
theorem dX0_secondHelps_36 : decode cX0_secondHelps 36 = .ok (.iload_n 3, 1) := by decide +kernel
theorem dX0_secondHelps_37 : decode cX0_secondHelps 37 = .ok (.iload_n 2, 1) := by decide +kernel
theorem dX0_secondHelps_38 : decode cX0_secondHelps 38 = .ok (.if_icmp .eq 45, 3) := by decide +kernel
theorem dX0_secondHelps_41 : decode cX0_secondHelps 41 = .ok (.aload_n 0, 1) := by decide +kernel
theorem dX0_secondHelps_42 : decode cX0_secondHelps 42 = .ok (.getfield 28, 3) := by decide +kernel
theorem dX0_secondHelps_45 : decode cX0_secondHelps 45 = .ok (.iload_n 3, 1) := by decide +kernel
theorem dX0_secondHelps_46 : decode cX0_secondHelps 46 = .ok (.iload 5, 2) := by decide +kernel
theorem dX0_secondHelps_48 : decode cX0_secondHelps 48 = .ok (.invokevirtual 82, 3) := by decide +kernel
theorem dX0_secondHelps_51 : decode cX0_secondHelps 51 = .ok (.iconst (-1), 1) := by decide +kernel
theorem dX0_secondHelps_52 : decode cX0_secondHelps 52 = .ok (.if_icmp .eq 31, 3) := by decide +kernel
theorem dX0_secondHelps_55 : decode cX0_secondHelps 55 = .ok (.aload_n 0, 1) := by decide +kernel
theorem dX0_secondHelps_56 : decode cX0_secondHelps 56 = .ok (.getfield 18, 3) := by decide +kernel
theorem dX0_secondHelps_59 : decode cX0_secondHelps 59 = .ok (.iload_n 3, 1) := by decide +kernel
theorem dX0_secondHelps_60 : decode cX0_secondHelps 60 = .ok (.aload_n 0, 1) := by decide +kernel
theorem dX0_secondHelps_61 : decode cX0_secondHelps 61 = .ok (.getfield 22, 3) := by decide +kernel
theorem dX0_secondHelps_64 : decode cX0_secondHelps 64 = .ok (.iload_n 3, 1) := by decide +kernel
theorem dX0_secondHelps_65 : decode cX0_secondHelps 65 = .ok (.bipush 12, 2) := by decide +kernel
theorem dX0_secondHelps_67 : decode cX0_secondHelps 67 = .ok (.imul, 1) := by decide +kernel
theorem dX0_secondHelps_68 : decode cX0_secondHelps 68 = .ok (.iload 5, 2) := by decide +kernel
theorem dX0_secondHelps_70 : decode cX0_secondHelps 70 = .ok (.iadd, 1) := by decide +kernel
theorem dX0_secondHelps_71 : decode cX0_secondHelps 71 = .ok (.iaload, 1) := by decide +kernel
theorem dX0_secondHelps_72 : decode cX0_secondHelps 72 = .ok (.iastore, 1) := by decide +kernel
theorem dX0_secondHelps_73 : decode cX0_secondHelps 73 = .ok (.aload_n 0, 1) := by decide +kernel
theorem dX0_secondHelps_74 : decode cX0_secondHelps 74 = .ok (.iload_n 1, 1) := by decide +kernel
theorem dX0_secondHelps_75 : decode cX0_secondHelps 75 = .ok (.invokevirtual 74, 3) := by decide +kernel
theorem dX0_secondHelps_78 : decode cX0_secondHelps 78 = .ok (.ifCond .eq 5, 3) := by decide +kernel
theorem dX0_secondHelps_81 : decode cX0_secondHelps 81 = .ok (.iconst 1, 1) := by decide +kernel
theorem dX0_secondHelps_82 : decode cX0_secondHelps 82 = .ok (.ireturn, 1) := by decide +kernel
theorem dX0_secondHelps_83 : decode cX0_secondHelps 83 = .ok (.iinc 5 1, 3) := by decide +kernel
theorem dX0_secondHelps_86 : decode cX0_secondHelps 86 = .ok (.goto (-62), 3) := by decide +kernel
theorem dX0_secondHelps_89 : decode cX0_secondHelps 89 = .ok (.aload_n 0, 1) := by decide +kernel
theorem dX0_secondHelps_90 : decode cX0_secondHelps 90 = .ok (.getfield 18, 3) := by decide +kernel
theorem dX0_secondHelps_93 : decode cX0_secondHelps 93 = .ok (.iload_n 3, 1) := by decide +kernel
theorem dX0_secondHelps_94 : decode cX0_secondHelps 94 = .ok (.iload 4, 2) := by decide +kernel
theorem dX0_secondHelps_96 : decode cX0_secondHelps 96 = .ok (.iastore, 1) := by decide +kernel
theorem dX0_secondHelps_97 : decode cX0_secondHelps 97 = .ok (.iinc 3 1, 3) := by decide +kernel
theorem dX0_secondHelps_100 : decode cX0_secondHelps 100 = .ok (.goto (-98), 3) := by decide +kernel
theorem dX0_secondHelps_103 : decode cX0_secondHelps 103 = .ok (.iconst 0, 1) := by decide +kernel
theorem dX0_secondHelps_104 : decode cX0_secondHelps 104 = .ok (.ireturn, 1) := by decide +kernel
theorem dX0_firstOfTellings_0 : decode cX0_firstOfTellings 0 = .ok (.iconst 0, 1) := by decide +kernel
theorem dX0_firstOfTellings_1 : decode cX0_firstOfTellings 1 = .ok (.istore_n 3, 1) := by decide +kernel
theorem dX0_firstOfTellings_2 : decode cX0_firstOfTellings 2 = .ok (.iload_n 3, 1) := by decide +kernel
theorem dX0_firstOfTellings_3 : decode cX0_firstOfTellings 3 = .ok (.aload_n 0, 1) := by decide +kernel
theorem dX0_firstOfTellings_4 : decode cX0_firstOfTellings 4 = .ok (.getfield 28, 3) := by decide +kernel
theorem dX0_firstOfTellings_7 : decode cX0_firstOfTellings 7 = .ok (.getfield 54, 3) := by decide +kernel
theorem dX0_firstOfTellings_10 : decode cX0_firstOfTellings 10 = .ok (.if_icmp .ge 110, 3) := by decide +kernel
theorem dX0_firstOfTellings_13 : decode cX0_firstOfTellings 13 = .ok (.aload_n 0, 1) := by decide +kernel
theorem dX0_firstOfTellings_14 : decode cX0_firstOfTellings 14 = .ok (.getfield 18, 3) := by decide +kernel
theorem dX0_firstOfTellings_17 : decode cX0_firstOfTellings 17 = .ok (.iload_n 3, 1) := by decide +kernel
theorem dX0_firstOfTellings_18 : decode cX0_firstOfTellings 18 = .ok (.iaload, 1) := by decide +kernel
theorem dX0_firstOfTellings_19 : decode cX0_firstOfTellings 19 = .ok (.istore 4, 2) := by decide +kernel
theorem dX0_firstOfTellings_21 : decode cX0_firstOfTellings 21 = .ok (.iconst 0, 1) := by decide +kernel
theorem dX0_firstOfTellings_22 : decode cX0_firstOfTellings 22 = .ok (.istore 5, 2) := by decide +kernel
theorem dX0_firstOfTellings_24 : decode cX0_firstOfTellings 24 = .ok (.iload 5, 2) := by decide +kernel
theorem dX0_firstOfTellings_26 : decode cX0_firstOfTellings 26 = .ok (.aload_n 0, 1) := by decide +kernel
theorem dX0_firstOfTellings_27 : decode cX0_firstOfTellings 27 = .ok (.getfield 28, 3) := by decide +kernel
theorem dX0_firstOfTellings_30 : decode cX0_firstOfTellings 30 = .ok (.getfield 54, 3) := by decide +kernel
theorem dX0_firstOfTellings_33 : decode cX0_firstOfTellings 33 = .ok (.if_icmp .ge 73, 3) := by decide +kernel
theorem dX0_firstOfTellings_36 : decode cX0_firstOfTellings 36 = .ok (.aload_n 0, 1) := by decide +kernel
theorem dX0_firstOfTellings_37 : decode cX0_firstOfTellings 37 = .ok (.getfield 28, 3) := by decide +kernel
theorem dX0_firstOfTellings_40 : decode cX0_firstOfTellings 40 = .ok (.iload_n 3, 1) := by decide +kernel
theorem dX0_firstOfTellings_41 : decode cX0_firstOfTellings 41 = .ok (.iload 5, 2) := by decide +kernel
theorem dX0_firstOfTellings_43 : decode cX0_firstOfTellings 43 = .ok (.invokevirtual 82, 3) := by decide +kernel
theorem dX0_firstOfTellings_46 : decode cX0_firstOfTellings 46 = .ok (.iconst (-1), 1) := by decide +kernel
theorem dX0_firstOfTellings_47 : decode cX0_firstOfTellings 47 = .ok (.if_icmp .eq 53, 3) := by decide +kernel
theorem dX0_firstOfTellings_50 : decode cX0_firstOfTellings 50 = .ok (.aload_n 0, 1) := by decide +kernel
theorem dX0_firstOfTellings_51 : decode cX0_firstOfTellings 51 = .ok (.getfield 18, 3) := by decide +kernel
theorem dX0_firstOfTellings_54 : decode cX0_firstOfTellings 54 = .ok (.iload_n 3, 1) := by decide +kernel
theorem dX0_firstOfTellings_55 : decode cX0_firstOfTellings 55 = .ok (.aload_n 0, 1) := by decide +kernel
theorem dX0_firstOfTellings_56 : decode cX0_firstOfTellings 56 = .ok (.getfield 22, 3) := by decide +kernel
theorem dX0_firstOfTellings_59 : decode cX0_firstOfTellings 59 = .ok (.iload_n 3, 1) := by decide +kernel
theorem dX0_firstOfTellings_60 : decode cX0_firstOfTellings 60 = .ok (.bipush 12, 2) := by decide +kernel
theorem dX0_firstOfTellings_62 : decode cX0_firstOfTellings 62 = .ok (.imul, 1) := by decide +kernel
theorem dX0_firstOfTellings_63 : decode cX0_firstOfTellings 63 = .ok (.iload 5, 2) := by decide +kernel
theorem dX0_firstOfTellings_65 : decode cX0_firstOfTellings 65 = .ok (.iadd, 1) := by decide +kernel
theorem dX0_firstOfTellings_66 : decode cX0_firstOfTellings 66 = .ok (.iaload, 1) := by decide +kernel
theorem dX0_firstOfTellings_67 : decode cX0_firstOfTellings 67 = .ok (.iastore, 1) := by decide +kernel
theorem dX0_firstOfTellings_68 : decode cX0_firstOfTellings 68 = .ok (.iload_n 2, 1) := by decide +kernel
theorem dX0_firstOfTellings_69 : decode cX0_firstOfTellings 69 = .ok (.ifCond .eq 15, 3) := by decide +kernel
theorem dX0_firstOfTellings_72 : decode cX0_firstOfTellings 72 = .ok (.aload_n 0, 1) := by decide +kernel
theorem dX0_firstOfTellings_73 : decode cX0_firstOfTellings 73 = .ok (.iload_n 1, 1) := by decide +kernel
theorem dX0_firstOfTellings_74 : decode cX0_firstOfTellings 74 = .ok (.iload_n 3, 1) := by decide +kernel
theorem dX0_firstOfTellings_75 : decode cX0_firstOfTellings 75 = .ok (.invokevirtual 90, 3) := by decide +kernel
theorem dX0_firstOfTellings_78 : decode cX0_firstOfTellings 78 = .ok (.ifCond .eq 22, 3) := by decide +kernel
theorem dX0_firstOfTellings_81 : decode cX0_firstOfTellings 81 = .ok (.goto 11, 3) := by decide +kernel
theorem dX0_firstOfTellings_84 : decode cX0_firstOfTellings 84 = .ok (.aload_n 0, 1) := by decide +kernel
theorem dX0_firstOfTellings_85 : decode cX0_firstOfTellings 85 = .ok (.iload_n 1, 1) := by decide +kernel
theorem dX0_firstOfTellings_86 : decode cX0_firstOfTellings 86 = .ok (.invokevirtual 74, 3) := by decide +kernel
theorem dX0_firstOfTellings_89 : decode cX0_firstOfTellings 89 = .ok (.ifCond .eq 11, 3) := by decide +kernel
theorem dX0_firstOfTellings_92 : decode cX0_firstOfTellings 92 = .ok (.bipush 100, 2) := by decide +kernel
theorem dX0_firstOfTellings_94 : decode cX0_firstOfTellings 94 = .ok (.iload_n 3, 1) := by decide +kernel
theorem dX0_firstOfTellings_95 : decode cX0_firstOfTellings 95 = .ok (.imul, 1) := by decide +kernel
theorem dX0_firstOfTellings_96 : decode cX0_firstOfTellings 96 = .ok (.iload 5, 2) := by decide +kernel
theorem dX0_firstOfTellings_98 : decode cX0_firstOfTellings 98 = .ok (.iadd, 1) := by decide +kernel
theorem dX0_firstOfTellings_99 : decode cX0_firstOfTellings 99 = .ok (.ireturn, 1) := by decide +kernel
theorem dX0_firstOfTellings_100 : decode cX0_firstOfTellings 100 = .ok (.iinc 5 1, 3) := by decide +kernel
theorem dX0_firstOfTellings_103 : decode cX0_firstOfTellings 103 = .ok (.goto (-79), 3) := by decide +kernel
theorem dX0_firstOfTellings_106 : decode cX0_firstOfTellings 106 = .ok (.aload_n 0, 1) := by decide +kernel
theorem dX0_firstOfTellings_107 : decode cX0_firstOfTellings 107 = .ok (.getfield 18, 3) := by decide +kernel
theorem dX0_firstOfTellings_110 : decode cX0_firstOfTellings 110 = .ok (.iload_n 3, 1) := by decide +kernel
theorem dX0_firstOfTellings_111 : decode cX0_firstOfTellings 111 = .ok (.iload 4, 2) := by decide +kernel
theorem dX0_firstOfTellings_113 : decode cX0_firstOfTellings 113 = .ok (.iastore, 1) := by decide +kernel
theorem dX0_firstOfTellings_114 : decode cX0_firstOfTellings 114 = .ok (.iinc 3 1, 3) := by decide +kernel
theorem dX0_firstOfTellings_117 : decode cX0_firstOfTellings 117 = .ok (.goto (-115), 3) := by decide +kernel
theorem dX0_firstOfTellings_120 : decode cX0_firstOfTellings 120 = .ok (.iconst (-1), 1) := by decide +kernel
theorem dX0_firstOfTellings_121 : decode cX0_firstOfTellings 121 = .ok (.ireturn, 1) := by decide +kernel
theorem dX0_findTellings_0 : decode cX0_findTellings 0 = .ok (.aload_n 0, 1) := by decide +kernel
theorem dX0_findTellings_1 : decode cX0_findTellings 1 = .ok (.getfield 12, 3) := by decide +kernel
theorem dX0_findTellings_4 : decode cX0_findTellings 4 = .ok (.aload_n 1, 1) := by decide +kernel
theorem dX0_findTellings_5 : decode cX0_findTellings 5 = .ok (.invokevirtual 36, 3) := by decide +kernel
theorem dX0_findTellings_8 : decode cX0_findTellings 8 = .ok (.iconst 0, 1) := by decide +kernel
theorem dX0_findTellings_9 : decode cX0_findTellings 9 = .ok (.istore 4, 2) := by decide +kernel
theorem dX0_findTellings_11 : decode cX0_findTellings 11 = .ok (.iload 4, 2) := by decide +kernel
theorem dX0_findTellings_13 : decode cX0_findTellings 13 = .ok (.aload_n 0, 1) := by decide +kernel
theorem dX0_findTellings_14 : decode cX0_findTellings 14 = .ok (.getfield 28, 3) := by decide +kernel
theorem dX0_findTellings_17 : decode cX0_findTellings 17 = .ok (.getfield 54, 3) := by decide +kernel
theorem dX0_findTellings_20 : decode cX0_findTellings 20 = .ok (.if_icmp .ge 36, 3) := by decide +kernel
theorem dX0_findTellings_23 : decode cX0_findTellings 23 = .ok (.aload_n 0, 1) := by decide +kernel
theorem dX0_findTellings_24 : decode cX0_findTellings 24 = .ok (.getfield 18, 3) := by decide +kernel
theorem dX0_findTellings_27 : decode cX0_findTellings 27 = .ok (.iload 4, 2) := by decide +kernel
theorem dX0_findTellings_29 : decode cX0_findTellings 29 = .ok (.aload_n 0, 1) := by decide +kernel
theorem dX0_findTellings_30 : decode cX0_findTellings 30 = .ok (.getfield 32, 3) := by decide +kernel
theorem dX0_findTellings_33 : decode cX0_findTellings 33 = .ok (.aload_n 0, 1) := by decide +kernel
theorem dX0_findTellings_34 : decode cX0_findTellings 34 = .ok (.getfield 12, 3) := by decide +kernel
theorem dX0_findTellings_37 : decode cX0_findTellings 37 = .ok (.iload 4, 2) := by decide +kernel
theorem dX0_findTellings_39 : decode cX0_findTellings 39 = .ok (.invokevirtual 60, 3) := by decide +kernel
theorem dX0_findTellings_42 : decode cX0_findTellings 42 = .ok (.iastore, 1) := by decide +kernel
theorem dX0_findTellings_43 : decode cX0_findTellings 43 = .ok (.aload_n 0, 1) := by decide +kernel
theorem dX0_findTellings_44 : decode cX0_findTellings 44 = .ok (.iload_n 2, 1) := by decide +kernel
theorem dX0_findTellings_45 : decode cX0_findTellings 45 = .ok (.iload 4, 2) := by decide +kernel
theorem dX0_findTellings_47 : decode cX0_findTellings 47 = .ok (.invokevirtual 64, 3) := by decide +kernel
theorem dX0_findTellings_50 : decode cX0_findTellings 50 = .ok (.iinc 4 1, 3) := by decide +kernel
theorem dX0_findTellings_53 : decode cX0_findTellings 53 = .ok (.goto (-42), 3) := by decide +kernel
theorem dX0_findTellings_56 : decode cX0_findTellings 56 = .ok (.aload_n 0, 1) := by decide +kernel
theorem dX0_findTellings_57 : decode cX0_findTellings 57 = .ok (.iconst 0, 1) := by decide +kernel
theorem dX0_findTellings_58 : decode cX0_findTellings 58 = .ok (.putfield 68, 3) := by decide +kernel
theorem dX0_findTellings_61 : decode cX0_findTellings 61 = .ok (.aload_n 0, 1) := by decide +kernel
theorem dX0_findTellings_62 : decode cX0_findTellings 62 = .ok (.iconst (-1), 1) := by decide +kernel
theorem dX0_findTellings_63 : decode cX0_findTellings 63 = .ok (.putfield 71, 3) := by decide +kernel
theorem dX0_findTellings_66 : decode cX0_findTellings 66 = .ok (.aload_n 0, 1) := by decide +kernel
theorem dX0_findTellings_67 : decode cX0_findTellings 67 = .ok (.iload_n 3, 1) := by decide +kernel
theorem dX0_findTellings_68 : decode cX0_findTellings 68 = .ok (.invokevirtual 74, 3) := by decide +kernel
theorem dX0_findTellings_71 : decode cX0_findTellings 71 = .ok (.ifCond .eq 4, 3) := by decide +kernel
theorem dX0_findTellings_74 : decode cX0_findTellings 74 = .ok (.return_, 1) := by decide +kernel
theorem dX0_findTellings_75 : decode cX0_findTellings 75 = .ok (.aload_n 0, 1) := by decide +kernel
theorem dX0_findTellings_76 : decode cX0_findTellings 76 = .ok (.iconst 1, 1) := by decide +kernel
theorem dX0_findTellings_77 : decode cX0_findTellings 77 = .ok (.putfield 68, 3) := by decide +kernel
theorem dX0_findTellings_80 : decode cX0_findTellings 80 = .ok (.aload_n 0, 1) := by decide +kernel
theorem dX0_findTellings_81 : decode cX0_findTellings 81 = .ok (.aload_n 0, 1) := by decide +kernel
theorem dX0_findTellings_82 : decode cX0_findTellings 82 = .ok (.iload_n 3, 1) := by decide +kernel
theorem dX0_findTellings_83 : decode cX0_findTellings 83 = .ok (.iconst 0, 1) := by decide +kernel
theorem dX0_findTellings_84 : decode cX0_findTellings 84 = .ok (.invokevirtual 78, 3) := by decide +kernel
theorem dX0_findTellings_87 : decode cX0_findTellings 87 = .ok (.putfield 71, 3) := by decide +kernel
theorem dX0_findTellings_90 : decode cX0_findTellings 90 = .ok (.aload_n 0, 1) := by decide +kernel
theorem dX0_findTellings_91 : decode cX0_findTellings 91 = .ok (.getfield 71, 3) := by decide +kernel
theorem dX0_findTellings_94 : decode cX0_findTellings 94 = .ok (.iconst (-1), 1) := by decide +kernel
theorem dX0_findTellings_95 : decode cX0_findTellings 95 = .ok (.if_icmp .ne 18, 3) := by decide +kernel
theorem dX0_findTellings_98 : decode cX0_findTellings 98 = .ok (.aload_n 0, 1) := by decide +kernel
theorem dX0_findTellings_99 : decode cX0_findTellings 99 = .ok (.iconst 2, 1) := by decide +kernel
theorem dX0_findTellings_100 : decode cX0_findTellings 100 = .ok (.putfield 68, 3) := by decide +kernel
theorem dX0_findTellings_103 : decode cX0_findTellings 103 = .ok (.aload_n 0, 1) := by decide +kernel
theorem dX0_findTellings_104 : decode cX0_findTellings 104 = .ok (.aload_n 0, 1) := by decide +kernel
theorem dX0_findTellings_105 : decode cX0_findTellings 105 = .ok (.iload_n 3, 1) := by decide +kernel
theorem dX0_findTellings_106 : decode cX0_findTellings 106 = .ok (.iconst 1, 1) := by decide +kernel
theorem dX0_findTellings_107 : decode cX0_findTellings 107 = .ok (.invokevirtual 78, 3) := by decide +kernel
theorem dX0_findTellings_110 : decode cX0_findTellings 110 = .ok (.putfield 71, 3) := by decide +kernel
theorem dX0_findTellings_113 : decode cX0_findTellings 113 = .ok (.aload_n 0, 1) := by decide +kernel
theorem dX0_findTellings_114 : decode cX0_findTellings 114 = .ok (.getfield 71, 3) := by decide +kernel
theorem dX0_findTellings_117 : decode cX0_findTellings 117 = .ok (.iconst (-1), 1) := by decide +kernel
theorem dX0_findTellings_118 : decode cX0_findTellings 118 = .ok (.if_icmp .ne 8, 3) := by decide +kernel
theorem dX0_findTellings_121 : decode cX0_findTellings 121 = .ok (.aload_n 0, 1) := by decide +kernel
theorem dX0_findTellings_122 : decode cX0_findTellings 122 = .ok (.iconst (-1), 1) := by decide +kernel
theorem dX0_findTellings_123 : decode cX0_findTellings 123 = .ok (.putfield 68, 3) := by decide +kernel
theorem dX0_findTellings_126 : decode cX0_findTellings 126 = .ok (.return_, 1) := by decide +kernel
theorem dX0_traceAhead_0 : decode cX0_traceAhead 0 = .ok (.aload_n 0, 1) := by decide +kernel
theorem dX0_traceAhead_1 : decode cX0_traceAhead 1 = .ok (.getfield 12, 3) := by decide +kernel
theorem dX0_traceAhead_4 : decode cX0_traceAhead 4 = .ok (.aload_n 1, 1) := by decide +kernel
theorem dX0_traceAhead_5 : decode cX0_traceAhead 5 = .ok (.invokevirtual 36, 3) := by decide +kernel
theorem dX0_traceAhead_8 : decode cX0_traceAhead 8 = .ok (.aload_n 0, 1) := by decide +kernel
theorem dX0_traceAhead_9 : decode cX0_traceAhead 9 = .ok (.getfield 32, 3) := by decide +kernel
theorem dX0_traceAhead_12 : decode cX0_traceAhead 12 = .ok (.aload_n 0, 1) := by decide +kernel
theorem dX0_traceAhead_13 : decode cX0_traceAhead 13 = .ok (.getfield 12, 3) := by decide +kernel
theorem dX0_traceAhead_16 : decode cX0_traceAhead 16 = .ok (.invokevirtual 40, 3) := by decide +kernel
theorem dX0_traceAhead_19 : decode cX0_traceAhead 19 = .ok (.iconst 0, 1) := by decide +kernel
theorem dX0_traceAhead_20 : decode cX0_traceAhead 20 = .ok (.istore_n 3, 1) := by decide +kernel
theorem dX0_traceAhead_21 : decode cX0_traceAhead 21 = .ok (.iload_n 3, 1) := by decide +kernel
theorem dX0_traceAhead_22 : decode cX0_traceAhead 22 = .ok (.iload_n 2, 1) := by decide +kernel
theorem dX0_traceAhead_23 : decode cX0_traceAhead 23 = .ok (.if_icmp .ge 31, 3) := by decide +kernel
theorem dX0_traceAhead_26 : decode cX0_traceAhead 26 = .ok (.aload_n 0, 1) := by decide +kernel
theorem dX0_traceAhead_27 : decode cX0_traceAhead 27 = .ok (.getfield 32, 3) := by decide +kernel
theorem dX0_traceAhead_30 : decode cX0_traceAhead 30 = .ok (.aload_n 0, 1) := by decide +kernel
theorem dX0_traceAhead_31 : decode cX0_traceAhead 31 = .ok (.getfield 12, 3) := by decide +kernel
theorem dX0_traceAhead_34 : decode cX0_traceAhead 34 = .ok (.invokevirtual 45, 3) := by decide +kernel
theorem dX0_traceAhead_37 : decode cX0_traceAhead 37 = .ok (.aload_n 0, 1) := by decide +kernel
theorem dX0_traceAhead_38 : decode cX0_traceAhead 38 = .ok (.getfield 32, 3) := by decide +kernel
theorem dX0_traceAhead_41 : decode cX0_traceAhead 41 = .ok (.aload_n 0, 1) := by decide +kernel
theorem dX0_traceAhead_42 : decode cX0_traceAhead 42 = .ok (.getfield 12, 3) := by decide +kernel
theorem dX0_traceAhead_45 : decode cX0_traceAhead 45 = .ok (.invokevirtual 40, 3) := by decide +kernel
theorem dX0_traceAhead_48 : decode cX0_traceAhead 48 = .ok (.iinc 3 1, 3) := by decide +kernel
theorem dX0_traceAhead_51 : decode cX0_traceAhead 51 = .ok (.goto (-30), 3) := by decide +kernel
theorem dX0_traceAhead_54 : decode cX0_traceAhead 54 = .ok (.return_, 1) := by decide +kernel
theorem dX10_drawn_0 : decode cX10_drawn 0 = .ok (.aload_n 0, 1) := by decide +kernel
theorem dX10_drawn_1 : decode cX10_drawn 1 = .ok (.aload_n 0, 1) := by decide +kernel
theorem dX10_drawn_2 : decode cX10_drawn 2 = .ok (.getfield 28, 3) := by decide +kernel
theorem dX10_drawn_5 : decode cX10_drawn 5 = .ok (.ldc 71, 2) := by decide +kernel
theorem dX10_drawn_7 : decode cX10_drawn 7 = .ok (.imul, 1) := by decide +kernel
theorem dX10_drawn_8 : decode cX10_drawn 8 = .ok (.sipush 12345, 3) := by decide +kernel
theorem dX10_drawn_11 : decode cX10_drawn 11 = .ok (.iadd, 1) := by decide +kernel
theorem dX10_drawn_12 : decode cX10_drawn 12 = .ok (.putfield 28, 3) := by decide +kernel
theorem dX10_drawn_15 : decode cX10_drawn 15 = .ok (.iload_n 1, 1) := by decide +kernel
theorem dX10_drawn_16 : decode cX10_drawn 16 = .ok (.ifCond .gt 7, 3) := by decide +kernel
theorem dX10_drawn_19 : decode cX10_drawn 19 = .ok (.iconst 0, 1) := by decide +kernel
theorem dX10_drawn_20 : decode cX10_drawn 20 = .ok (.goto 16, 3) := by decide +kernel
theorem dX10_drawn_23 : decode cX10_drawn 23 = .ok (.aload_n 0, 1) := by decide +kernel
theorem dX10_drawn_24 : decode cX10_drawn 24 = .ok (.getfield 28, 3) := by decide +kernel
theorem dX10_drawn_27 : decode cX10_drawn 27 = .ok (.bipush 16, 2) := by decide +kernel
theorem dX10_drawn_29 : decode cX10_drawn 29 = .ok (.iushr, 1) := by decide +kernel
theorem dX10_drawn_30 : decode cX10_drawn 30 = .ok (.sipush 32767, 3) := by decide +kernel
theorem dX10_drawn_33 : decode cX10_drawn 33 = .ok (.iand, 1) := by decide +kernel
theorem dX10_drawn_34 : decode cX10_drawn 34 = .ok (.iload_n 1, 1) := by decide +kernel
theorem dX10_drawn_35 : decode cX10_drawn 35 = .ok (.irem, 1) := by decide +kernel
theorem dX10_drawn_36 : decode cX10_drawn 36 = .ok (.ireturn, 1) := by decide +kernel
theorem dX10_stir_0 : decode cX10_stir 0 = .ok (.aload_n 0, 1) := by decide +kernel
theorem dX10_stir_1 : decode cX10_stir 1 = .ok (.aload_n 0, 1) := by decide +kernel
theorem dX10_stir_2 : decode cX10_stir 2 = .ok (.getfield 16, 3) := by decide +kernel
theorem dX10_stir_5 : decode cX10_stir 5 = .ok (.getfield 35, 3) := by decide +kernel
theorem dX10_stir_8 : decode cX10_stir 8 = .ok (.invokevirtual 52, 3) := by decide +kernel
theorem dX10_stir_11 : decode cX10_stir 11 = .ok (.istore_n 2, 1) := by decide +kernel
theorem dX10_stir_12 : decode cX10_stir 12 = .ok (.aload_n 0, 1) := by decide +kernel
theorem dX10_stir_13 : decode cX10_stir 13 = .ok (.aload_n 0, 1) := by decide +kernel
theorem dX10_stir_14 : decode cX10_stir 14 = .ok (.getfield 16, 3) := by decide +kernel
theorem dX10_stir_17 : decode cX10_stir 17 = .ok (.getfield 56, 3) := by decide +kernel
theorem dX10_stir_20 : decode cX10_stir 20 = .ok (.invokevirtual 52, 3) := by decide +kernel
theorem dX10_stir_23 : decode cX10_stir 23 = .ok (.istore_n 3, 1) := by decide +kernel
theorem dX10_stir_24 : decode cX10_stir 24 = .ok (.aload_n 0, 1) := by decide +kernel
theorem dX10_stir_25 : decode cX10_stir 25 = .ok (.getfield 20, 3) := by decide +kernel
theorem dX10_stir_28 : decode cX10_stir 28 = .ok (.aload_n 0, 1) := by decide +kernel
theorem dX10_stir_29 : decode cX10_stir 29 = .ok (.getfield 10, 3) := by decide +kernel
theorem dX10_stir_32 : decode cX10_stir 32 = .ok (.iload_n 2, 1) := by decide +kernel
theorem dX10_stir_33 : decode cX10_stir 33 = .ok (.iload_n 3, 1) := by decide +kernel
theorem dX10_stir_34 : decode cX10_stir 34 = .ok (.invokevirtual 59, 3) := by decide +kernel
theorem dX10_stir_37 : decode cX10_stir 37 = .ok (.ifCond .eq 13, 3) := by decide +kernel
theorem dX10_stir_40 : decode cX10_stir 40 = .ok (.aload_n 0, 1) := by decide +kernel
theorem dX10_stir_41 : decode cX10_stir 41 = .ok (.dup, 1) := by decide +kernel
theorem dX10_stir_42 : decode cX10_stir 42 = .ok (.getfield 32, 3) := by decide +kernel
theorem dX10_stir_45 : decode cX10_stir 45 = .ok (.iconst 1, 1) := by decide +kernel
theorem dX10_stir_46 : decode cX10_stir 46 = .ok (.iadd, 1) := by decide +kernel
theorem dX10_stir_47 : decode cX10_stir 47 = .ok (.putfield 32, 3) := by decide +kernel
theorem dX10_stir_50 : decode cX10_stir 50 = .ok (.aload_n 0, 1) := by decide +kernel
theorem dX10_stir_51 : decode cX10_stir 51 = .ok (.bipush 16, 2) := by decide +kernel
theorem dX10_stir_53 : decode cX10_stir 53 = .ok (.invokevirtual 52, 3) := by decide +kernel
theorem dX10_stir_56 : decode cX10_stir 56 = .ok (.iload_n 1, 1) := by decide +kernel
theorem dX10_stir_57 : decode cX10_stir 57 = .ok (.if_icmp .ge 21, 3) := by decide +kernel
theorem dX10_stir_60 : decode cX10_stir 60 = .ok (.aload_n 0, 1) := by decide +kernel
theorem dX10_stir_61 : decode cX10_stir 61 = .ok (.getfield 10, 3) := by decide +kernel
theorem dX10_stir_64 : decode cX10_stir 64 = .ok (.iload_n 2, 1) := by decide +kernel
theorem dX10_stir_65 : decode cX10_stir 65 = .ok (.aload_n 0, 1) := by decide +kernel
theorem dX10_stir_66 : decode cX10_stir 66 = .ok (.getfield 10, 3) := by decide +kernel
theorem dX10_stir_69 : decode cX10_stir 69 = .ok (.getfield 63, 3) := by decide +kernel
theorem dX10_stir_72 : decode cX10_stir 72 = .ok (.iload_n 2, 1) := by decide +kernel
theorem dX10_stir_73 : decode cX10_stir 73 = .ok (.iaload, 1) := by decide +kernel
theorem dX10_stir_74 : decode cX10_stir 74 = .ok (.invokevirtual 67, 3) := by decide +kernel
theorem dX10_stir_77 : decode cX10_stir 77 = .ok (.pop, 1) := by decide +kernel
theorem dX10_stir_78 : decode cX10_stir 78 = .ok (.return_, 1) := by decide +kernel
theorem dX10_live_0 : decode cX10_live 0 = .ok (.aload_n 0, 1) := by decide +kernel
theorem dX10_live_1 : decode cX10_live 1 = .ok (.getfield 10, 3) := by decide +kernel
theorem dX10_live_4 : decode cX10_live 4 = .ok (.aload_n 1, 1) := by decide +kernel
theorem dX10_live_5 : decode cX10_live 5 = .ok (.invokevirtual 24, 3) := by decide +kernel
theorem dX10_live_8 : decode cX10_live 8 = .ok (.aload_n 0, 1) := by decide +kernel
theorem dX10_live_9 : decode cX10_live 9 = .ok (.iload_n 2, 1) := by decide +kernel
theorem dX10_live_10 : decode cX10_live 10 = .ok (.putfield 28, 3) := by decide +kernel
theorem dX10_live_13 : decode cX10_live 13 = .ok (.aload_n 0, 1) := by decide +kernel
theorem dX10_live_14 : decode cX10_live 14 = .ok (.iconst 0, 1) := by decide +kernel
theorem dX10_live_15 : decode cX10_live 15 = .ok (.putfield 32, 3) := by decide +kernel
theorem dX10_live_18 : decode cX10_live 18 = .ok (.iconst 0, 1) := by decide +kernel
theorem dX10_live_19 : decode cX10_live 19 = .ok (.istore 5, 2) := by decide +kernel
theorem dX10_live_21 : decode cX10_live 21 = .ok (.iload 5, 2) := by decide +kernel
theorem dX10_live_23 : decode cX10_live 23 = .ok (.iload_n 3, 1) := by decide +kernel
theorem dX10_live_24 : decode cX10_live 24 = .ok (.if_icmp .ge 47, 3) := by decide +kernel
theorem dX10_live_27 : decode cX10_live 27 = .ok (.aload_n 0, 1) := by decide +kernel
theorem dX10_live_28 : decode cX10_live 28 = .ok (.getfield 16, 3) := by decide +kernel
theorem dX10_live_31 : decode cX10_live 31 = .ok (.getfield 35, 3) := by decide +kernel
theorem dX10_live_34 : decode cX10_live 34 = .ok (.ifCond .le 9, 3) := by decide +kernel
theorem dX10_live_37 : decode cX10_live 37 = .ok (.aload_n 0, 1) := by decide +kernel
theorem dX10_live_38 : decode cX10_live 38 = .ok (.iload 4, 2) := by decide +kernel
theorem dX10_live_40 : decode cX10_live 40 = .ok (.invokevirtual 40, 3) := by decide +kernel
theorem dX10_live_43 : decode cX10_live 43 = .ok (.aload_n 0, 1) := by decide +kernel
theorem dX10_live_44 : decode cX10_live 44 = .ok (.getfield 20, 3) := by decide +kernel
theorem dX10_live_47 : decode cX10_live 47 = .ok (.aload_n 0, 1) := by decide +kernel
theorem dX10_live_48 : decode cX10_live 48 = .ok (.getfield 10, 3) := by decide +kernel
theorem dX10_live_51 : decode cX10_live 51 = .ok (.invokevirtual 44, 3) := by decide +kernel
theorem dX10_live_54 : decode cX10_live 54 = .ok (.aload_n 0, 1) := by decide +kernel
theorem dX10_live_55 : decode cX10_live 55 = .ok (.getfield 20, 3) := by decide +kernel
theorem dX10_live_58 : decode cX10_live 58 = .ok (.aload_n 0, 1) := by decide +kernel
theorem dX10_live_59 : decode cX10_live 59 = .ok (.getfield 10, 3) := by decide +kernel
theorem dX10_live_62 : decode cX10_live 62 = .ok (.invokevirtual 49, 3) := by decide +kernel
theorem dX10_live_65 : decode cX10_live 65 = .ok (.iinc 5 1, 3) := by decide +kernel
theorem dX10_live_68 : decode cX10_live 68 = .ok (.goto (-47), 3) := by decide +kernel
theorem dX10_live_71 : decode cX10_live 71 = .ok (.aload_n 0, 1) := by decide +kernel
theorem dX10_live_72 : decode cX10_live 72 = .ok (.getfield 20, 3) := by decide +kernel
theorem dX10_live_75 : decode cX10_live 75 = .ok (.aload_n 0, 1) := by decide +kernel
theorem dX10_live_76 : decode cX10_live 76 = .ok (.getfield 10, 3) := by decide +kernel
theorem dX10_live_79 : decode cX10_live 79 = .ok (.invokevirtual 44, 3) := by decide +kernel
theorem dX10_live_82 : decode cX10_live 82 = .ok (.return_, 1) := by decide +kernel
noncomputable def r_X0_comesTo_b10 (x1 : Int32) (m : Mem) (x2 : Int32) (x3 : Int32) : Option ((Int32 × Int32) ⊕ (Unit ⊕ Bool)) :=
  if (m 3 0 0) ≤ x3 then (some (Sum.inr (Sum.inl ()))) else (if x2 = (-1) then (some (Sum.inr (Sum.inl ()))) else (if x2 = x1 then (some (Sum.inr (Sum.inr true))) else (if inb x2 12 = true then (some (Sum.inl ((m 43 0 x2.toNatClampNeg), x3 + 1))) else none)))
set_option maxHeartbeats 4000000 in
set_option maxRecDepth 20000 in
theorem ok_X0_comesTo_b10 (x1 : Int32) (m : Mem) (x2 : Int32) (x3 : Int32) {r : (Int32 × Int32) ⊕ (Unit ⊕ Bool)} (h : r_X0_comesTo_b10 x1 m x2 x3 = some r) {o : Ou} {M' : Mem} (kb : ∀ (x2' : Int32) (x3' : Int32), r = Sum.inl (x2', x3') → Xj RX0 cX0_comesTo 4 (some .boolean) 1 0 0 0 0 0 10 [(0, vR 0 0), (1, vI x1), (2, vI x2'), (3, vI x3')] [] m o M') (ke : r = Sum.inr (Sum.inl ()) → Xj RX0 cX0_comesTo 4 (some .boolean) 1 0 0 0 0 0 46 [] [] m o M') (kr : ∀ (z : Bool), r = Sum.inr (Sum.inr z) → o = (oB z) ∧ M' = m) : Xj RX0 cX0_comesTo 4 (some .boolean) 1 0 0 0 0 0 10 [(0, vR 0 0), (1, vI x1), (2, vI x2), (3, vI x3)] [] m o M' := by
  unfold r_X0_comesTo_b10 at h
  refine xj_iload_n 3 dX0_comesTo_10 rfl ?_
  refine xj_aload_n 0 dX0_comesTo_11 rfl ?_
  refine xg_getR (k' := 3) (i' := 0) dX0_comesTo_12 fl_X0_28 rfl ?_
  refine xg_getI (x := (m 3 0 0)) dX0_comesTo_15 fl_X0_54 rfl rfl ?_
  refine xj_icmp_ge (tgt := 46) dX0_comesTo_18 (by decide) (fun c1 => ?_) (fun c1 => ?_)
  · rw [if_pos c1] at h
    cases h
    refine xj_pick (ls' := []) [] rfl ?_
    exact ke  rfl
  · rw [if_neg c1] at h
    refine xj_iload_n 2 dX0_comesTo_21 rfl ?_
    refine xj_iconst (z := (-1)) dX0_comesTo_22 (by decide) ?_
    refine xj_icmp_eq (tgt := 46) dX0_comesTo_23 (by decide) (fun c2 => ?_) (fun c2 => ?_)
    · rw [if_pos c2] at h
      cases h
      refine xj_pick (ls' := []) [] rfl ?_
      exact ke  rfl
    · rw [if_neg c2] at h
      refine xj_iload_n 2 dX0_comesTo_26 rfl ?_
      refine xj_iload_n 1 dX0_comesTo_27 rfl ?_
      refine xj_icmp_ne (tgt := 33) dX0_comesTo_28 (by decide) (fun c3 => ?_) (fun c3 => ?_)
      · rw [if_neg c3] at h
        refine xj_aload_n 0 dX0_comesTo_33 rfl ?_
        refine xg_getR (k' := 43) (i' := 0) dX0_comesTo_34 fl_X0_18 rfl ?_
        refine xj_iload_n 2 dX0_comesTo_37 rfl ?_
        by_cases c4 : inb x2 12 = true
        case neg => rw [if_neg c4] at h; cases h
        rw [if_pos c4] at h
        refine xg_iald (z := (m 43 0 x2.toNatClampNeg)) (n := x2.toNatClampNeg) dX0_comesTo_38 rfl (by decide) (inb_in c4) rfl rfl ?_
        refine xj_istore_n (ls' := [(2, vI (m 43 0 x2.toNatClampNeg)), (0, vR 0 0), (1, vI x1), (3, vI x3)]) dX0_comesTo_39 rfl (by decide) rfl ?_
        refine xj_iinc (z := x3 + 1) (ls' := [(3, vI (x3 + 1)), (2, vI (m 43 0 x2.toNatClampNeg)), (0, vR 0 0), (1, vI x1)]) 3 dX0_comesTo_40 rfl rfl (by decide) rfl ?_
        refine xj_goto (tgt := 10) dX0_comesTo_43 (by decide) ?_
        cases h
        refine xj_pick (ls' := [(0, vR 0 0), (1, vI x1), (2, vI (m 43 0 x2.toNatClampNeg)), (3, vI (x3 + 1))]) [2, 3, 1, 0] rfl ?_
        exact kb (m 43 0 x2.toNatClampNeg) (x3 + 1) rfl
      · rw [if_pos c3] at h
        refine xj_iconst (z := 1) dX0_comesTo_31 (by decide) ?_
        cases h
        obtain ⟨rfl, rfl⟩ := kr _ rfl
        exact xj_ireturn dX0_comesTo_32 rfl (by decide) (by decide)
noncomputable def r_X0_comesTo_e46_h10 (m : Mem) : Option Bool :=
  some false
set_option maxHeartbeats 4000000 in
set_option maxRecDepth 20000 in
theorem ok_X0_comesTo_e46_h10 (m : Mem) {z : Bool} (h : r_X0_comesTo_e46_h10 m = some z) : Xj RX0 cX0_comesTo 4 (some .boolean) 1 0 0 0 0 0 46 [] [] m (oB z) m := by
  unfold r_X0_comesTo_e46_h10 at h
  refine xj_iconst (z := 0) dX0_comesTo_46 (by decide) ?_
  cases h
  exact xj_ireturn dX0_comesTo_47 rfl (by decide) (by decide)
noncomputable def r_X0_comesTo_l10 (x1 : Int32) (x2 : Int32) (x3 : Int32) (m : Mem) : Option Bool :=
  bdS (loopO (fun s => r_X0_comesTo_b10 x1 m s.1 s.2) (x2, x3)) (fun e => r_X0_comesTo_e46_h10 m) (fun q => some q)
set_option maxHeartbeats 4000000 in
set_option maxRecDepth 20000 in
theorem ok_X0_comesTo_l10 (x1 : Int32) (x2 : Int32) (x3 : Int32) (m : Mem) {z : Bool} (h : r_X0_comesTo_l10 x1 x2 x3 m = some z) : Xj RX0 cX0_comesTo 4 (some .boolean) 1 0 0 0 0 0 10 [(0, vR 0 0), (1, vI x1), (2, vI x2), (3, vI x3)] [] m (oB z) m := by
  unfold r_X0_comesTo_l10 at h
  rcases bdS_some h with ⟨e, e1, h⟩ | ⟨q, e1, h⟩
  · refine loopO_ok (P := fun s : (Int32 × Int32) => Xj RX0 cX0_comesTo 4 (some .boolean) 1 0 0 0 0 0 10 [(0, vR 0 0), (1, vI x1), (2, vI s.1), (3, vI s.2)] [] m (oB z) m) (Q := Sum.elim (fun e : Unit => Xj RX0 cX0_comesTo 4 (some .boolean) 1 0 0 0 0 0 46 [] [] m (oB z) m) (fun q : Bool => (oB z) = (oB q) ∧ m = m)) ?_ _ _ e1 ?_
    · intro s r9 h9 hi hx
      exact ok_X0_comesTo_b10 x1 m s.1 s.2 h9 (by rintro _ _ rfl; exact hi _ rfl) (by rintro rfl; exact hx _ rfl) (by rintro _ rfl; exact hx _ rfl)
    · exact ok_X0_comesTo_e46_h10 m h 
  · refine loopO_ok (P := fun s : (Int32 × Int32) => Xj RX0 cX0_comesTo 4 (some .boolean) 1 0 0 0 0 0 10 [(0, vR 0 0), (1, vI x1), (2, vI s.1), (3, vI s.2)] [] m (oB z) m) (Q := Sum.elim (fun e : Unit => Xj RX0 cX0_comesTo 4 (some .boolean) 1 0 0 0 0 0 46 [] [] m (oB z) m) (fun q : Bool => (oB z) = (oB q) ∧ m = m)) ?_ _ _ e1 ?_
    · intro s r9 h9 hi hx
      exact ok_X0_comesTo_b10 x1 m s.1 s.2 h9 (by rintro _ _ rfl; exact hi _ rfl) (by rintro rfl; exact hx _ rfl) (by rintro _ rfl; exact hx _ rfl)
    · cases h; exact ⟨rfl, rfl⟩
noncomputable def r_X0_comesTo (x1 : Int32) (m : Mem) : Option Bool :=
  r_X0_comesTo_l10 x1 (m 3 0 3) 0 m
set_option maxHeartbeats 4000000 in
set_option maxRecDepth 20000 in
theorem ok_X0_comesTo (x1 : Int32) (m : Mem) {z : Bool} (h : r_X0_comesTo x1 m = some z) : Mt yX0_comesTo cX0_comesTo 4 (some .boolean) 1 0 0 0 [vR 0 0, vI x1] m (oB z) m := by
  refine Mt.of (by decide) (Nat.le_of_ble_eq_true rfl) (by decide +kernel) (hhF_ne (by decide)) ?_
  show Xj RX0 cX0_comesTo 4 (some .boolean) 1 0 0 0 0 0 0 [(0, vR 0 0), (1, vI x1)] [] m (oB z) m
  unfold r_X0_comesTo at h
  refine xj_aload_n 0 dX0_comesTo_0 rfl ?_
  refine xg_getR (k' := 3) (i' := 0) dX0_comesTo_1 fl_X0_28 rfl ?_
  refine xg_getI (x := (m 3 0 3)) dX0_comesTo_4 fl_X0_94 rfl rfl ?_
  refine xj_istore_n (ls' := [(2, vI (m 3 0 3)), (0, vR 0 0), (1, vI x1)]) dX0_comesTo_7 rfl (by decide) rfl ?_
  refine xj_iconst (z := 0) dX0_comesTo_8 (by decide) ?_
  refine xj_istore_n (ls' := [(3, vI 0), (2, vI (m 3 0 3)), (0, vR 0 0), (1, vI x1)]) dX0_comesTo_9 rfl (by decide) rfl ?_
  refine xj_pick (ls' := [(0, vR 0 0), (1, vI x1), (2, vI (m 3 0 3)), (3, vI 0)]) [2, 3, 1, 0] rfl ?_
  exact ok_X0_comesTo_l10 x1 (m 3 0 3) 0 m h 
noncomputable def r_X0_findDigs_b36 (i1 : Nat) (x2 : Int32) (x3 : Int32) (x4 : Int32) (x5 : Int32) (m : Mem) : Option ((Int32 × Mem) ⊕ ((Mem) ⊕ (Int32 × Mem))) :=
  if 9 < x5 then (some (Sum.inr (Sum.inl m))) else (if inb x4 16 = true then (bd2 (r_X6_goesOn 1 x2 (wr m 23 1 x4.toNatClampNeg x5)) fun z11 m10 => (if z11 = x3 then (some (Sum.inr (Sum.inr ((x5 - (m10 23 i1 x4.toNatClampNeg)), m10)))) else (some (Sum.inl (x5 + 1, m10))))) else none)
set_option maxHeartbeats 4000000 in
set_option maxRecDepth 20000 in
theorem ok_X0_findDigs_b36 (i1 : Nat) (x2 : Int32) (x3 : Int32) (x4 : Int32) (x5 : Int32) (m : Mem) {r : (Int32 × Mem) ⊕ ((Mem) ⊕ (Int32 × Mem))} (h : r_X0_findDigs_b36 i1 x2 x3 x4 x5 m = some r) {o : Ou} {M' : Mem} (kb : ∀ (x5' : Int32) (m'' : Mem), r = Sum.inl (x5', m'') → Xj RX0 cX0_findDigs 6 (some .int) 4 109 0 0 0 0 36 [(0, vR 0 0), (1, vR 7 i1), (2, vI x2), (3, vI x3), (4, vI x4), (5, vI x5')] [] m'' o M') (ke : ∀ (m'' : Mem), r = Sum.inr (Sum.inl m'') → Xj RX0 cX0_findDigs 6 (some .int) 4 109 0 0 0 0 88 [] [] m'' o M') (kr : ∀ (z : Int32) (m' : Mem), r = Sum.inr (Sum.inr (z, m')) → o = (oI z) ∧ M' = m') : Xj RX0 cX0_findDigs 6 (some .int) 4 109 0 0 0 0 36 [(0, vR 0 0), (1, vR 7 i1), (2, vI x2), (3, vI x3), (4, vI x4), (5, vI x5)] [] m o M' := by
  unfold r_X0_findDigs_b36 at h
  refine xj_iload 5 dX0_findDigs_36 rfl ?_
  refine xj_bipush (z := 9) dX0_findDigs_38 (by decide) ?_
  refine xj_icmp_gt (tgt := 88) dX0_findDigs_40 (by decide) (fun c7 => ?_) (fun c7 => ?_)
  · rw [if_pos c7] at h
    cases h
    refine xj_pick (ls' := []) [] rfl ?_
    exact ke m rfl
  · rw [if_neg c7] at h
    refine xj_aload_n 0 dX0_findDigs_43 rfl ?_
    refine xg_getR (k' := 7) (i' := 1) dX0_findDigs_44 fl_X0_12 rfl ?_
    refine xg_getR (k' := 23) (i' := 1) dX0_findDigs_47 fl_X0_153 rfl ?_
    refine xj_iload 4 dX0_findDigs_50 rfl ?_
    refine xj_iload 5 dX0_findDigs_52 rfl ?_
    by_cases c8 : inb x4 16 = true
    case neg => rw [if_neg c8] at h; cases h
    rw [if_pos c8] at h
    refine xg_iast (n := x4.toNatClampNeg) dX0_findDigs_54 rfl (by decide) (inb_in c8) rfl ?_
    refine xj_aload_n 0 dX0_findDigs_55 rfl ?_
    refine xg_getR (k' := 6) (i' := 0) dX0_findDigs_56 fl_X0_32 rfl ?_
    refine xj_aload_n 0 dX0_findDigs_59 rfl ?_
    refine xg_getR (k' := 7) (i' := 1) dX0_findDigs_60 fl_X0_12 rfl ?_
    refine xj_iload_n 2 dX0_findDigs_63 rfl ?_
    obtain ⟨z11, m10, e9, h⟩ := bd2_some h
    refine xc_Vi0 (st := []) (ok_X6_goesOn 1 x2 (wr m 23 1 x4.toNatClampNeg x5) e9) dX0_findDigs_64 cv_X0_60 rfl rfl (Nat.le_of_ble_eq_true rfl) (by decide) (by decide) (by decide) (by decide) ?_
    refine xj_iload_n 3 dX0_findDigs_67 rfl ?_
    refine xj_icmp_ne (tgt := 82) dX0_findDigs_68 (by decide) (fun c12 => ?_) (fun c12 => ?_)
    · rw [if_neg c12] at h
      refine xj_iinc (z := x5 + 1) (ls' := [(5, vI (x5 + 1)), (0, vR 0 0), (1, vR 7 i1), (2, vI x2), (3, vI x3), (4, vI x4)]) 5 dX0_findDigs_82 rfl rfl (by decide) rfl ?_
      refine xj_goto (tgt := 36) dX0_findDigs_85 (by decide) ?_
      cases h
      refine xj_pick (ls' := [(0, vR 0 0), (1, vR 7 i1), (2, vI x2), (3, vI x3), (4, vI x4), (5, vI (x5 + 1))]) [1, 2, 3, 4, 5, 0] rfl ?_
      exact kb (x5 + 1) m10 rfl
    · rw [if_pos c12] at h
      refine xj_iload 5 dX0_findDigs_71 rfl ?_
      refine xj_aload_n 1 dX0_findDigs_73 rfl ?_
      refine xg_getR (k' := 23) (i' := i1) dX0_findDigs_74 fl_X0_153 rfl ?_
      refine xj_iload 4 dX0_findDigs_77 rfl ?_
      refine xg_iald (z := (m10 23 i1 x4.toNatClampNeg)) (n := x4.toNatClampNeg) dX0_findDigs_79 rfl (by decide) (inb_in c8) rfl rfl ?_
      refine xj_isub dX0_findDigs_80 ?_
      cases h
      obtain ⟨rfl, rfl⟩ := kr _ _ rfl
      exact xj_ireturn dX0_findDigs_81 rfl (by decide) (by decide)
noncomputable def r_X0_findDigs_e88_h36 (m : Mem) : Option (Int32 × Mem) :=
  some ((-1), m)
set_option maxHeartbeats 4000000 in
set_option maxRecDepth 20000 in
theorem ok_X0_findDigs_e88_h36 (m : Mem) {z : Int32} {m' : Mem} (h : r_X0_findDigs_e88_h36 m = some (z, m')) : Xj RX0 cX0_findDigs 6 (some .int) 4 109 0 0 0 0 88 [] [] m (oI z) m' := by
  unfold r_X0_findDigs_e88_h36 at h
  refine xj_iconst (z := (-1)) dX0_findDigs_88 (by decide) ?_
  cases h
  exact xj_ireturn dX0_findDigs_89 rfl (by decide) (by decide)
noncomputable def r_X0_findDigs_l36 (i1 : Nat) (x2 : Int32) (x3 : Int32) (x4 : Int32) (x5 : Int32) (m : Mem) : Option (Int32 × Mem) :=
  bdS (loopO (fun s => r_X0_findDigs_b36 i1 x2 x3 x4 s.1 s.2) (x5, m)) (fun e => r_X0_findDigs_e88_h36 e) (fun q => some q)
set_option maxHeartbeats 4000000 in
set_option maxRecDepth 20000 in
theorem ok_X0_findDigs_l36 (i1 : Nat) (x2 : Int32) (x3 : Int32) (x4 : Int32) (x5 : Int32) (m : Mem) {z : Int32} {m' : Mem} (h : r_X0_findDigs_l36 i1 x2 x3 x4 x5 m = some (z, m')) : Xj RX0 cX0_findDigs 6 (some .int) 4 109 0 0 0 0 36 [(0, vR 0 0), (1, vR 7 i1), (2, vI x2), (3, vI x3), (4, vI x4), (5, vI x5)] [] m (oI z) m' := by
  unfold r_X0_findDigs_l36 at h
  rcases bdS_some h with ⟨e, e1, h⟩ | ⟨q, e1, h⟩
  · refine loopO_ok (P := fun s : (Int32 × Mem) => Xj RX0 cX0_findDigs 6 (some .int) 4 109 0 0 0 0 36 [(0, vR 0 0), (1, vR 7 i1), (2, vI x2), (3, vI x3), (4, vI x4), (5, vI s.1)] [] s.2 (oI z) m') (Q := Sum.elim (fun e : (Mem) => Xj RX0 cX0_findDigs 6 (some .int) 4 109 0 0 0 0 88 [] [] e (oI z) m') (fun q : (Int32 × Mem) => (oI z) = (oI q.1) ∧ m' = q.2)) ?_ _ _ e1 ?_
    · intro s r9 h9 hi hx
      exact ok_X0_findDigs_b36 i1 x2 x3 x4 s.1 s.2 h9 (by rintro _ _ rfl; exact hi _ rfl) (by rintro _ rfl; exact hx _ rfl) (by rintro _ _ rfl; exact hx _ rfl)
    · exact ok_X0_findDigs_e88_h36 e h 
  · refine loopO_ok (P := fun s : (Int32 × Mem) => Xj RX0 cX0_findDigs 6 (some .int) 4 109 0 0 0 0 36 [(0, vR 0 0), (1, vR 7 i1), (2, vI x2), (3, vI x3), (4, vI x4), (5, vI s.1)] [] s.2 (oI z) m') (Q := Sum.elim (fun e : (Mem) => Xj RX0 cX0_findDigs 6 (some .int) 4 109 0 0 0 0 88 [] [] e (oI z) m') (fun q : (Int32 × Mem) => (oI z) = (oI q.1) ∧ m' = q.2)) ?_ _ _ e1 ?_
    · intro s r9 h9 hi hx
      exact ok_X0_findDigs_b36 i1 x2 x3 x4 s.1 s.2 h9 (by rintro _ _ rfl; exact hi _ rfl) (by rintro _ rfl; exact hx _ rfl) (by rintro _ _ rfl; exact hx _ rfl)
    · cases h; exact ⟨rfl, rfl⟩
noncomputable def r_X0_findDigs (i1 : Nat) (x2 : Int32) (x3 : Int32) (m : Mem) : Option (Int32 × Mem) :=
  bd1 (r_X3_between 0 x2 x3 m) fun z2 => (if z2 = (-1) then (some ((-1), m)) else (bd1 (r_X7_copyFrom 1 i1 m) fun m5 => (if inb z2 16 = true then (r_X0_findDigs_l36 i1 x2 x3 z2 (m5 23 i1 z2.toNatClampNeg) m5) else none)))
set_option maxHeartbeats 4000000 in
set_option maxRecDepth 20000 in
theorem ok_X0_findDigs (i1 : Nat) (x2 : Int32) (x3 : Int32) (m : Mem) {z : Int32} {m' : Mem} (h : r_X0_findDigs i1 x2 x3 m = some (z, m')) : Mt yX0_findDigs cX0_findDigs 6 (some .int) 4 109 0 0 [vR 0 0, vR 7 i1, vI x2, vI x3] m (oI z) m' := by
  refine Mt.of (by decide) (Nat.le_of_ble_eq_true rfl) (by decide +kernel) (hhF_ne (by decide)) ?_
  show Xj RX0 cX0_findDigs 6 (some .int) 4 109 0 0 0 0 0 [(0, vR 0 0), (1, vR 7 i1), (2, vI x2), (3, vI x3)] [] m (oI z) m'
  unfold r_X0_findDigs at h
  refine xj_aload_n 0 dX0_findDigs_0 rfl ?_
  refine xg_getR (k' := 3) (i' := 0) dX0_findDigs_1 fl_X0_28 rfl ?_
  refine xj_iload_n 2 dX0_findDigs_4 rfl ?_
  refine xj_iload_n 3 dX0_findDigs_5 rfl ?_
  obtain ⟨z2, e1, h⟩ := bd1_some h
  refine xc_Vi0 (st := []) (ok_X3_between 0 x2 x3 m e1) dX0_findDigs_6 cv_X0_82 rfl rfl (Nat.le_of_ble_eq_true rfl) (by decide) (by decide) (by decide) (by decide) ?_
  refine xj_istore (ls' := [(4, vI z2), (0, vR 0 0), (1, vR 7 i1), (2, vI x2), (3, vI x3)]) dX0_findDigs_9 (by decide) rfl ?_
  refine xj_iload 0 dX0_findDigs_11 rfl ?_
  refine xj_iconst (z := (-1)) dX0_findDigs_13 (by decide) ?_
  refine xj_icmp_ne (tgt := 19) dX0_findDigs_14 (by decide) (fun c3 => ?_) (fun c3 => ?_)
  · rw [if_neg c3] at h
    refine xj_aload_n 1 dX0_findDigs_19 rfl ?_
    refine xg_getR (k' := 7) (i' := 1) dX0_findDigs_20 fl_X0_12 rfl ?_
    refine xj_aload_n 2 dX0_findDigs_23 rfl ?_
    obtain ⟨m5, e4, h⟩ := bd1_some h
    refine xc_Vv0 (st := []) (ok_X7_copyFrom 1 i1 m e4) dX0_findDigs_24 cv_X0_36 rfl rfl (Nat.le_of_ble_eq_true rfl) (by decide) (by decide) (by decide) (by decide) ?_
    refine xj_aload_n 2 dX0_findDigs_27 rfl ?_
    refine xg_getR (k' := 23) (i' := i1) dX0_findDigs_28 fl_X0_153 rfl ?_
    refine xj_iload 0 dX0_findDigs_31 rfl ?_
    by_cases c6 : inb z2 16 = true
    case neg => rw [if_neg c6] at h; cases h
    rw [if_pos c6] at h
    refine xg_iald (z := (m5 23 i1 z2.toNatClampNeg)) (n := z2.toNatClampNeg) dX0_findDigs_33 rfl (by decide) (inb_in c6) rfl rfl ?_
    refine xj_istore (ls' := [(5, vI (m5 23 i1 z2.toNatClampNeg)), (4, vI z2), (0, vR 0 0), (1, vR 7 i1), (2, vI x2), (3, vI x3)]) dX0_findDigs_34 (by decide) rfl ?_
    refine xj_pick (ls' := [(0, vR 0 0), (1, vR 7 i1), (2, vI x2), (3, vI x3), (4, vI z2), (5, vI (m5 23 i1 z2.toNatClampNeg))]) [2, 3, 4, 5, 1, 0] rfl ?_
    exact ok_X0_findDigs_l36 i1 x2 x3 z2 (m5 23 i1 z2.toNatClampNeg) m5 h 
  · rw [if_pos c3] at h
    refine xj_iconst (z := (-1)) dX0_findDigs_17 (by decide) ?_
    cases h
    exact xj_ireturn dX0_findDigs_18 rfl (by decide) (by decide)
noncomputable def r_X0_tryForgotten (i1 : Nat) (x2 : Int32) (m : Mem) : Option Mem :=
  bd1 (r_X7_copyFrom 1 i1 m) fun m2 => (bd1 (r_X7_forgetAll 1 x2 m2) fun m4 => (some m4))
set_option maxHeartbeats 4000000 in
set_option maxRecDepth 20000 in
theorem ok_X0_tryForgotten (i1 : Nat) (x2 : Int32) (m : Mem) {m' : Mem} (h : r_X0_tryForgotten i1 x2 m = some m') : Mt yX0_tryForgotten cX0_tryForgotten 3 none 3 109 0 0 [vR 0 0, vR 7 i1, vI x2] m oV m' := by
  refine Mt.of (by decide) (Nat.le_of_ble_eq_true rfl) (by decide +kernel) (hhF_ne (by decide)) ?_
  show Xj RX0 cX0_tryForgotten 3 none 3 109 0 0 0 0 0 [(0, vR 0 0), (1, vR 7 i1), (2, vI x2)] [] m oV m'
  unfold r_X0_tryForgotten at h
  refine xj_aload_n 0 dX0_tryForgotten_0 rfl ?_
  refine xg_getR (k' := 7) (i' := 1) dX0_tryForgotten_1 fl_X0_12 rfl ?_
  refine xj_aload_n 1 dX0_tryForgotten_4 rfl ?_
  obtain ⟨m2, e1, h⟩ := bd1_some h
  refine xc_Vv0 (st := []) (ok_X7_copyFrom 1 i1 m e1) dX0_tryForgotten_5 cv_X0_36 rfl rfl (Nat.le_of_ble_eq_true rfl) (by decide) (by decide) (by decide) (by decide) ?_
  refine xj_aload_n 0 dX0_tryForgotten_8 rfl ?_
  refine xg_getR (k' := 7) (i' := 1) dX0_tryForgotten_9 fl_X0_12 rfl ?_
  refine xj_iload_n 2 dX0_tryForgotten_12 rfl ?_
  obtain ⟨m4, e3, h⟩ := bd1_some h
  refine xc_Vv0 (st := []) (ok_X7_forgetAll 1 x2 m2 e3) dX0_tryForgotten_13 cv_X0_113 rfl rfl (Nat.le_of_ble_eq_true rfl) (by decide) (by decide) (by decide) (by decide) ?_
  cases h
  exact xj_return dX0_tryForgotten_16 (by decide) (by decide)
noncomputable def r_X0_goesAsTold_j43_c2 (i1 : Nat) (x2 : Int32) (m : Mem) : Option ((Int32 × Mem) ⊕ ((Mem) ⊕ (Bool × Mem))) :=
  some (Sum.inl (x2 + 1, m))
set_option maxHeartbeats 4000000 in
set_option maxRecDepth 20000 in
theorem ok_X0_goesAsTold_j43_c2 (i1 : Nat) (x2 : Int32) (m : Mem) {r : (Int32 × Mem) ⊕ ((Mem) ⊕ (Bool × Mem))} (h : r_X0_goesAsTold_j43_c2 i1 x2 m = some r) {o : Ou} {M' : Mem} (kb : ∀ (x2' : Int32) (m'' : Mem), r = Sum.inl (x2', m'') → Xj RX0 cX0_goesAsTold 4 (some .boolean) 4 79 0 0 0 0 2 [(0, vR 0 0), (1, vR 1 i1), (2, vI x2')] [] m'' o M') (ke : ∀ (m'' : Mem), r = Sum.inr (Sum.inl m'') → Xj RX0 cX0_goesAsTold 4 (some .boolean) 4 79 0 0 0 0 49 [] [] m'' o M') (kr : ∀ (z : Bool) (m' : Mem), r = Sum.inr (Sum.inr (z, m')) → o = (oB z) ∧ M' = m') : Xj RX0 cX0_goesAsTold 4 (some .boolean) 4 79 0 0 0 0 43 [(0, vR 0 0), (1, vR 1 i1), (2, vI x2)] [] m o M' := by
  unfold r_X0_goesAsTold_j43_c2 at h
  refine xj_iinc (z := x2 + 1) (ls' := [(2, vI (x2 + 1)), (0, vR 0 0), (1, vR 1 i1)]) 2 dX0_goesAsTold_43 rfl rfl (by decide) rfl ?_
  refine xj_goto (tgt := 2) dX0_goesAsTold_46 (by decide) ?_
  cases h
  refine xj_pick (ls' := [(0, vR 0 0), (1, vR 1 i1), (2, vI (x2 + 1))]) [1, 2, 0] rfl ?_
  exact kb (x2 + 1) m rfl
noncomputable def r_X0_goesAsTold_b2 (i1 : Nat) (x2 : Int32) (m : Mem) : Option ((Int32 × Mem) ⊕ ((Mem) ⊕ (Bool × Mem))) :=
  if (m 3 0 0) ≤ x2 then (some (Sum.inr (Sum.inl m))) else (if inb x2 12 = true then (if (m 36 i1 x2.toNatClampNeg) = (-1) then (r_X0_goesAsTold_j43_c2 i1 x2 m) else (bd2 (r_X6_goesOn 1 x2 m) fun z6 m5 => (if z6 = (m 36 i1 x2.toNatClampNeg) then (r_X0_goesAsTold_j43_c2 i1 x2 m5) else (some (Sum.inr (Sum.inr (false, m5))))))) else none)
set_option maxHeartbeats 4000000 in
set_option maxRecDepth 20000 in
theorem ok_X0_goesAsTold_b2 (i1 : Nat) (x2 : Int32) (m : Mem) {r : (Int32 × Mem) ⊕ ((Mem) ⊕ (Bool × Mem))} (h : r_X0_goesAsTold_b2 i1 x2 m = some r) {o : Ou} {M' : Mem} (kb : ∀ (x2' : Int32) (m'' : Mem), r = Sum.inl (x2', m'') → Xj RX0 cX0_goesAsTold 4 (some .boolean) 4 79 0 0 0 0 2 [(0, vR 0 0), (1, vR 1 i1), (2, vI x2')] [] m'' o M') (ke : ∀ (m'' : Mem), r = Sum.inr (Sum.inl m'') → Xj RX0 cX0_goesAsTold 4 (some .boolean) 4 79 0 0 0 0 49 [] [] m'' o M') (kr : ∀ (z : Bool) (m' : Mem), r = Sum.inr (Sum.inr (z, m')) → o = (oB z) ∧ M' = m') : Xj RX0 cX0_goesAsTold 4 (some .boolean) 4 79 0 0 0 0 2 [(0, vR 0 0), (1, vR 1 i1), (2, vI x2)] [] m o M' := by
  unfold r_X0_goesAsTold_b2 at h
  refine xj_iload_n 2 dX0_goesAsTold_2 rfl ?_
  refine xj_aload_n 0 dX0_goesAsTold_3 rfl ?_
  refine xg_getR (k' := 3) (i' := 0) dX0_goesAsTold_4 fl_X0_28 rfl ?_
  refine xg_getI (x := (m 3 0 0)) dX0_goesAsTold_7 fl_X0_54 rfl rfl ?_
  refine xj_icmp_ge (tgt := 49) dX0_goesAsTold_10 (by decide) (fun c1 => ?_) (fun c1 => ?_)
  · rw [if_pos c1] at h
    cases h
    refine xj_pick (ls' := []) [] rfl ?_
    exact ke m rfl
  · rw [if_neg c1] at h
    refine xj_aload_n 1 dX0_goesAsTold_13 rfl ?_
    refine xg_getR (k' := 36) (i' := i1) dX0_goesAsTold_14 fl_X0_130 rfl ?_
    refine xj_iload_n 2 dX0_goesAsTold_17 rfl ?_
    by_cases c2 : inb x2 12 = true
    case neg => rw [if_neg c2] at h; cases h
    rw [if_pos c2] at h
    refine xg_iald (z := (m 36 i1 x2.toNatClampNeg)) (n := x2.toNatClampNeg) dX0_goesAsTold_18 rfl (by decide) (inb_in c2) rfl rfl ?_
    refine xj_istore_n (ls' := [(3, vI (m 36 i1 x2.toNatClampNeg)), (0, vR 0 0), (1, vR 1 i1), (2, vI x2)]) dX0_goesAsTold_19 rfl (by decide) rfl ?_
    refine xj_iload_n 0 dX0_goesAsTold_20 rfl ?_
    refine xj_iconst (z := (-1)) dX0_goesAsTold_21 (by decide) ?_
    refine xj_icmp_eq (tgt := 43) dX0_goesAsTold_22 (by decide) (fun c3 => ?_) (fun c3 => ?_)
    · rw [if_pos c3] at h
      refine xj_pick (ls' := [(0, vR 0 0), (1, vR 1 i1), (2, vI x2)]) [1, 2, 3] rfl ?_
      exact ok_X0_goesAsTold_j43_c2 i1 x2 m h kb ke kr
    · rw [if_neg c3] at h
      refine xj_aload_n 1 dX0_goesAsTold_25 rfl ?_
      refine xg_getR (k' := 6) (i' := 0) dX0_goesAsTold_26 fl_X0_32 rfl ?_
      refine xj_aload_n 1 dX0_goesAsTold_29 rfl ?_
      refine xg_getR (k' := 7) (i' := 1) dX0_goesAsTold_30 fl_X0_12 rfl ?_
      refine xj_iload_n 3 dX0_goesAsTold_33 rfl ?_
      obtain ⟨z6, m5, e4, h⟩ := bd2_some h
      refine xc_Vi0 (st := []) (ok_X6_goesOn 1 x2 m e4) dX0_goesAsTold_34 cv_X0_60 rfl rfl (Nat.le_of_ble_eq_true rfl) (by decide) (by decide) (by decide) (by decide) ?_
      refine xj_iload_n 0 dX0_goesAsTold_37 rfl ?_
      refine xj_icmp_eq (tgt := 43) dX0_goesAsTold_38 (by decide) (fun c7 => ?_) (fun c7 => ?_)
      · rw [if_pos c7] at h
        refine xj_pick (ls' := [(0, vR 0 0), (1, vR 1 i1), (2, vI x2)]) [1, 2, 3] rfl ?_
        exact ok_X0_goesAsTold_j43_c2 i1 x2 m5 h kb ke kr
      · rw [if_neg c7] at h
        refine xj_iconst (z := 0) dX0_goesAsTold_41 (by decide) ?_
        cases h
        obtain ⟨rfl, rfl⟩ := kr _ _ rfl
        exact xj_ireturn dX0_goesAsTold_42 rfl (by decide) (by decide)
noncomputable def r_X0_goesAsTold_e49_h2 (m : Mem) : Option (Bool × Mem) :=
  some (true, m)
set_option maxHeartbeats 4000000 in
set_option maxRecDepth 20000 in
theorem ok_X0_goesAsTold_e49_h2 (m : Mem) {z : Bool} {m' : Mem} (h : r_X0_goesAsTold_e49_h2 m = some (z, m')) : Xj RX0 cX0_goesAsTold 4 (some .boolean) 4 79 0 0 0 0 49 [] [] m (oB z) m' := by
  unfold r_X0_goesAsTold_e49_h2 at h
  refine xj_iconst (z := 1) dX0_goesAsTold_49 (by decide) ?_
  cases h
  exact xj_ireturn dX0_goesAsTold_50 rfl (by decide) (by decide)
noncomputable def r_X0_goesAsTold_l2 (i1 : Nat) (x2 : Int32) (m : Mem) : Option (Bool × Mem) :=
  bdS (loopO (fun s => r_X0_goesAsTold_b2 i1 s.1 s.2) (x2, m)) (fun e => r_X0_goesAsTold_e49_h2 e) (fun q => some q)
set_option maxHeartbeats 4000000 in
set_option maxRecDepth 20000 in
theorem ok_X0_goesAsTold_l2 (i1 : Nat) (x2 : Int32) (m : Mem) {z : Bool} {m' : Mem} (h : r_X0_goesAsTold_l2 i1 x2 m = some (z, m')) : Xj RX0 cX0_goesAsTold 4 (some .boolean) 4 79 0 0 0 0 2 [(0, vR 0 0), (1, vR 1 i1), (2, vI x2)] [] m (oB z) m' := by
  unfold r_X0_goesAsTold_l2 at h
  rcases bdS_some h with ⟨e, e1, h⟩ | ⟨q, e1, h⟩
  · refine loopO_ok (P := fun s : (Int32 × Mem) => Xj RX0 cX0_goesAsTold 4 (some .boolean) 4 79 0 0 0 0 2 [(0, vR 0 0), (1, vR 1 i1), (2, vI s.1)] [] s.2 (oB z) m') (Q := Sum.elim (fun e : (Mem) => Xj RX0 cX0_goesAsTold 4 (some .boolean) 4 79 0 0 0 0 49 [] [] e (oB z) m') (fun q : (Bool × Mem) => (oB z) = (oB q.1) ∧ m' = q.2)) ?_ _ _ e1 ?_
    · intro s r9 h9 hi hx
      exact ok_X0_goesAsTold_b2 i1 s.1 s.2 h9 (by rintro _ _ rfl; exact hi _ rfl) (by rintro _ rfl; exact hx _ rfl) (by rintro _ _ rfl; exact hx _ rfl)
    · exact ok_X0_goesAsTold_e49_h2 e h 
  · refine loopO_ok (P := fun s : (Int32 × Mem) => Xj RX0 cX0_goesAsTold 4 (some .boolean) 4 79 0 0 0 0 2 [(0, vR 0 0), (1, vR 1 i1), (2, vI s.1)] [] s.2 (oB z) m') (Q := Sum.elim (fun e : (Mem) => Xj RX0 cX0_goesAsTold 4 (some .boolean) 4 79 0 0 0 0 49 [] [] e (oB z) m') (fun q : (Bool × Mem) => (oB z) = (oB q.1) ∧ m' = q.2)) ?_ _ _ e1 ?_
    · intro s r9 h9 hi hx
      exact ok_X0_goesAsTold_b2 i1 s.1 s.2 h9 (by rintro _ _ rfl; exact hi _ rfl) (by rintro _ rfl; exact hx _ rfl) (by rintro _ _ rfl; exact hx _ rfl)
    · cases h; exact ⟨rfl, rfl⟩
noncomputable def r_X0_goesAsTold (i1 : Nat) (m : Mem) : Option (Bool × Mem) :=
  r_X0_goesAsTold_l2 i1 0 m
set_option maxHeartbeats 4000000 in
set_option maxRecDepth 20000 in
theorem ok_X0_goesAsTold (i1 : Nat) (m : Mem) {z : Bool} {m' : Mem} (h : r_X0_goesAsTold i1 m = some (z, m')) : Mt yX0_goesAsTold cX0_goesAsTold 4 (some .boolean) 4 79 0 0 [vR 0 0, vR 1 i1] m (oB z) m' := by
  refine Mt.of (by decide) (Nat.le_of_ble_eq_true rfl) (by decide +kernel) (hhF_ne (by decide)) ?_
  show Xj RX0 cX0_goesAsTold 4 (some .boolean) 4 79 0 0 0 0 0 [(0, vR 0 0), (1, vR 1 i1)] [] m (oB z) m'
  unfold r_X0_goesAsTold at h
  refine xj_iconst (z := 0) dX0_goesAsTold_0 (by decide) ?_
  refine xj_istore_n (ls' := [(2, vI 0), (0, vR 0 0), (1, vR 1 i1)]) dX0_goesAsTold_1 rfl (by decide) rfl ?_
  refine xj_pick (ls' := [(0, vR 0 0), (1, vR 1 i1), (2, vI 0)]) [1, 2, 0] rfl ?_
  exact ok_X0_goesAsTold_l2 i1 0 m h 
noncomputable def r_X0_tallyOpenPlaces_j51_c2 (i1 : Nat) (x2 : Int32) (m : Mem) : Option ((Int32 × Mem) ⊕ (Mem)) :=
  some (Sum.inl (x2 + 1, m))
set_option maxHeartbeats 4000000 in
set_option maxRecDepth 20000 in
theorem ok_X0_tallyOpenPlaces_j51_c2 (i1 : Nat) (x2 : Int32) (m : Mem) {r : (Int32 × Mem) ⊕ (Mem)} (h : r_X0_tallyOpenPlaces_j51_c2 i1 x2 m = some r) {o : Ou} {M' : Mem} (kb : ∀ (x2' : Int32) (m'' : Mem), r = Sum.inl (x2', m'') → Xj RX0 cX0_tallyOpenPlaces 3 none 4 79 0 0 0 0 2 [(0, vR 0 0), (1, vR 1 i1), (2, vI x2')] [] m'' o M') (ke : ∀ (m'' : Mem), r = Sum.inr m'' → Xj RX0 cX0_tallyOpenPlaces 3 none 4 79 0 0 0 0 57 [] [] m'' o M') : Xj RX0 cX0_tallyOpenPlaces 3 none 4 79 0 0 0 0 51 [(0, vR 0 0), (1, vR 1 i1), (2, vI x2)] [] m o M' := by
  unfold r_X0_tallyOpenPlaces_j51_c2 at h
  refine xj_iinc (z := x2 + 1) (ls' := [(2, vI (x2 + 1)), (0, vR 0 0), (1, vR 1 i1)]) 2 dX0_tallyOpenPlaces_51 rfl rfl (by decide) rfl ?_
  refine xj_goto (tgt := 2) dX0_tallyOpenPlaces_54 (by decide) ?_
  cases h
  refine xj_pick (ls' := [(0, vR 0 0), (1, vR 1 i1), (2, vI (x2 + 1))]) [1, 2, 0] rfl ?_
  exact kb (x2 + 1) m rfl
noncomputable def r_X0_tallyOpenPlaces_b2 (i1 : Nat) (x2 : Int32) (m : Mem) : Option ((Int32 × Mem) ⊕ (Mem)) :=
  if (m 3 0 0) ≤ x2 then (some (Sum.inr m)) else (if inb x2 12 = true then (if (m 36 i1 x2.toNatClampNeg) = (-1) then (bd2 (r_X6_goesOn 1 x2 m) fun z6 m5 => (if inb (((x2 * 13) + 1) + z6) 156 = true then (r_X0_tallyOpenPlaces_j51_c2 i1 x2 (wr m5 45 0 ((((x2 * 13) + 1) + z6).toNatClampNeg) ((m5 45 0 ((((x2 * 13) + 1) + z6).toNatClampNeg)) + 1))) else none)) else (r_X0_tallyOpenPlaces_j51_c2 i1 x2 m)) else none)
set_option maxHeartbeats 4000000 in
set_option maxRecDepth 20000 in
theorem ok_X0_tallyOpenPlaces_b2 (i1 : Nat) (x2 : Int32) (m : Mem) {r : (Int32 × Mem) ⊕ (Mem)} (h : r_X0_tallyOpenPlaces_b2 i1 x2 m = some r) {o : Ou} {M' : Mem} (kb : ∀ (x2' : Int32) (m'' : Mem), r = Sum.inl (x2', m'') → Xj RX0 cX0_tallyOpenPlaces 3 none 4 79 0 0 0 0 2 [(0, vR 0 0), (1, vR 1 i1), (2, vI x2')] [] m'' o M') (ke : ∀ (m'' : Mem), r = Sum.inr m'' → Xj RX0 cX0_tallyOpenPlaces 3 none 4 79 0 0 0 0 57 [] [] m'' o M') : Xj RX0 cX0_tallyOpenPlaces 3 none 4 79 0 0 0 0 2 [(0, vR 0 0), (1, vR 1 i1), (2, vI x2)] [] m o M' := by
  unfold r_X0_tallyOpenPlaces_b2 at h
  refine xj_iload_n 2 dX0_tallyOpenPlaces_2 rfl ?_
  refine xj_aload_n 0 dX0_tallyOpenPlaces_3 rfl ?_
  refine xg_getR (k' := 3) (i' := 0) dX0_tallyOpenPlaces_4 fl_X0_28 rfl ?_
  refine xg_getI (x := (m 3 0 0)) dX0_tallyOpenPlaces_7 fl_X0_54 rfl rfl ?_
  refine xj_icmp_ge (tgt := 57) dX0_tallyOpenPlaces_10 (by decide) (fun c1 => ?_) (fun c1 => ?_)
  · rw [if_pos c1] at h
    cases h
    refine xj_pick (ls' := []) [] rfl ?_
    exact ke m rfl
  · rw [if_neg c1] at h
    refine xj_aload_n 1 dX0_tallyOpenPlaces_13 rfl ?_
    refine xg_getR (k' := 36) (i' := i1) dX0_tallyOpenPlaces_14 fl_X0_130 rfl ?_
    refine xj_iload_n 2 dX0_tallyOpenPlaces_17 rfl ?_
    by_cases c2 : inb x2 12 = true
    case neg => rw [if_neg c2] at h; cases h
    rw [if_pos c2] at h
    refine xg_iald (z := (m 36 i1 x2.toNatClampNeg)) (n := x2.toNatClampNeg) dX0_tallyOpenPlaces_18 rfl (by decide) (inb_in c2) rfl rfl ?_
    refine xj_iconst (z := (-1)) dX0_tallyOpenPlaces_19 (by decide) ?_
    refine xj_icmp_ne (tgt := 51) dX0_tallyOpenPlaces_20 (by decide) (fun c3 => ?_) (fun c3 => ?_)
    · rw [if_neg c3] at h
      exact ok_X0_tallyOpenPlaces_j51_c2 i1 x2 m h kb ke
    · rw [if_pos c3] at h
      refine xj_aload_n 0 dX0_tallyOpenPlaces_23 rfl ?_
      refine xg_getR (k' := 45) (i' := 0) dX0_tallyOpenPlaces_24 fl_X0_25 rfl ?_
      refine xj_iload_n 2 dX0_tallyOpenPlaces_27 rfl ?_
      refine xj_bipush (z := 13) dX0_tallyOpenPlaces_28 (by decide) ?_
      refine xj_imul dX0_tallyOpenPlaces_30 ?_
      refine xj_iconst (z := 1) dX0_tallyOpenPlaces_31 (by decide) ?_
      refine xj_iadd dX0_tallyOpenPlaces_32 ?_
      refine xj_aload_n 0 dX0_tallyOpenPlaces_33 rfl ?_
      refine xg_getR (k' := 6) (i' := 0) dX0_tallyOpenPlaces_34 fl_X0_32 rfl ?_
      refine xj_aload_n 0 dX0_tallyOpenPlaces_37 rfl ?_
      refine xg_getR (k' := 7) (i' := 1) dX0_tallyOpenPlaces_38 fl_X0_12 rfl ?_
      refine xj_iload_n 2 dX0_tallyOpenPlaces_41 rfl ?_
      obtain ⟨z6, m5, e4, h⟩ := bd2_some h
      refine xc_Vi0 (st := [vI ((x2 * 13) + 1), vR 45 0]) (ok_X6_goesOn 1 x2 m e4) dX0_tallyOpenPlaces_42 cv_X0_60 rfl rfl (Nat.le_of_ble_eq_true rfl) (by decide) (by decide) (by decide) (by decide) ?_
      refine xj_iadd dX0_tallyOpenPlaces_45 ?_
      refine xj_dup2 dX0_tallyOpenPlaces_46 rfl rfl ?_
      by_cases c7 : inb (((x2 * 13) + 1) + z6) 156 = true
      case neg => rw [if_neg c7] at h; cases h
      rw [if_pos c7] at h
      refine xg_iald (z := (m5 45 0 ((((x2 * 13) + 1) + z6).toNatClampNeg))) (n := (((x2 * 13) + 1) + z6).toNatClampNeg) dX0_tallyOpenPlaces_47 rfl (by decide) (inb_in c7) rfl rfl ?_
      refine xj_iconst (z := 1) dX0_tallyOpenPlaces_48 (by decide) ?_
      refine xj_iadd dX0_tallyOpenPlaces_49 ?_
      refine xg_iast (n := (((x2 * 13) + 1) + z6).toNatClampNeg) dX0_tallyOpenPlaces_50 rfl (by decide) (inb_in c7) rfl ?_
      exact ok_X0_tallyOpenPlaces_j51_c2 i1 x2 (wr m5 45 0 ((((x2 * 13) + 1) + z6).toNatClampNeg) ((m5 45 0 ((((x2 * 13) + 1) + z6).toNatClampNeg)) + 1)) h kb ke
noncomputable def r_X0_tallyOpenPlaces_e57_h2 (m : Mem) : Option Mem :=
  some m
set_option maxHeartbeats 4000000 in
set_option maxRecDepth 20000 in
theorem ok_X0_tallyOpenPlaces_e57_h2 (m : Mem) {m' : Mem} (h : r_X0_tallyOpenPlaces_e57_h2 m = some m') : Xj RX0 cX0_tallyOpenPlaces 3 none 4 79 0 0 0 0 57 [] [] m oV m' := by
  unfold r_X0_tallyOpenPlaces_e57_h2 at h
  cases h
  exact xj_return dX0_tallyOpenPlaces_57 (by decide) (by decide)
noncomputable def r_X0_tallyOpenPlaces_l2 (i1 : Nat) (x2 : Int32) (m : Mem) : Option Mem :=
  bd1 (loopO (fun s => r_X0_tallyOpenPlaces_b2 i1 s.1 s.2) (x2, m)) (fun e => r_X0_tallyOpenPlaces_e57_h2 e)
set_option maxHeartbeats 4000000 in
set_option maxRecDepth 20000 in
theorem ok_X0_tallyOpenPlaces_l2 (i1 : Nat) (x2 : Int32) (m : Mem) {m' : Mem} (h : r_X0_tallyOpenPlaces_l2 i1 x2 m = some m') : Xj RX0 cX0_tallyOpenPlaces 3 none 4 79 0 0 0 0 2 [(0, vR 0 0), (1, vR 1 i1), (2, vI x2)] [] m oV m' := by
  unfold r_X0_tallyOpenPlaces_l2 at h
  obtain ⟨e, e1, h⟩ := bd1_some h
  refine loopO_ok (P := fun s : (Int32 × Mem) => Xj RX0 cX0_tallyOpenPlaces 3 none 4 79 0 0 0 0 2 [(0, vR 0 0), (1, vR 1 i1), (2, vI s.1)] [] s.2 oV m') (Q := fun e : (Mem) => Xj RX0 cX0_tallyOpenPlaces 3 none 4 79 0 0 0 0 57 [] [] e oV m') ?_ _ _ e1 ?_
  · intro s r9 h9 hi hx
    exact ok_X0_tallyOpenPlaces_b2 i1 s.1 s.2 h9 (by rintro _ _ rfl; exact hi _ rfl) (by rintro _ rfl; exact hx _ rfl)
  · exact ok_X0_tallyOpenPlaces_e57_h2 e h 
noncomputable def r_X0_tallyOpenPlaces (i1 : Nat) (m : Mem) : Option Mem :=
  r_X0_tallyOpenPlaces_l2 i1 0 m
set_option maxHeartbeats 4000000 in
set_option maxRecDepth 20000 in
theorem ok_X0_tallyOpenPlaces (i1 : Nat) (m : Mem) {m' : Mem} (h : r_X0_tallyOpenPlaces i1 m = some m') : Mt yX0_tallyOpenPlaces cX0_tallyOpenPlaces 3 none 4 79 0 0 [vR 0 0, vR 1 i1] m oV m' := by
  refine Mt.of (by decide) (Nat.le_of_ble_eq_true rfl) (by decide +kernel) (hhF_ne (by decide)) ?_
  show Xj RX0 cX0_tallyOpenPlaces 3 none 4 79 0 0 0 0 0 [(0, vR 0 0), (1, vR 1 i1)] [] m oV m'
  unfold r_X0_tallyOpenPlaces at h
  refine xj_iconst (z := 0) dX0_tallyOpenPlaces_0 (by decide) ?_
  refine xj_istore_n (ls' := [(2, vI 0), (0, vR 0 0), (1, vR 1 i1)]) dX0_tallyOpenPlaces_1 rfl (by decide) rfl ?_
  refine xj_pick (ls' := [(0, vR 0 0), (1, vR 1 i1), (2, vI 0)]) [1, 2, 0] rfl ?_
  exact ok_X0_tallyOpenPlaces_l2 i1 0 m h 
noncomputable def r_X0_worstOf_b4 (x1 : Int32) (m : Mem) (x2 : Int32) (x3 : Int32) : Option ((Int32 × Int32) ⊕ (Int32)) :=
  if 12 < x3 then (some (Sum.inr x2)) else (if inb ((x1 * 13) + x3) 156 = true then (some (Sum.inl ((imax x2 (m 45 0 (((x1 * 13) + x3).toNatClampNeg))), x3 + 1))) else none)
set_option maxHeartbeats 4000000 in
set_option maxRecDepth 20000 in
theorem ok_X0_worstOf_b4 (x1 : Int32) (m : Mem) (x2 : Int32) (x3 : Int32) {r : (Int32 × Int32) ⊕ (Int32)} (h : r_X0_worstOf_b4 x1 m x2 x3 = some r) {o : Ou} {M' : Mem} (kb : ∀ (x2' : Int32) (x3' : Int32), r = Sum.inl (x2', x3') → Xj RX0 cX0_worstOf 4 (some .int) 1 21 0 0 0 0 4 [(0, vR 0 0), (1, vI x1), (2, vI x2'), (3, vI x3')] [] m o M') (ke : ∀ (x2' : Int32), r = Sum.inr x2' → Xj RX0 cX0_worstOf 4 (some .int) 1 21 0 0 0 0 32 [(2, vI x2')] [] m o M') : Xj RX0 cX0_worstOf 4 (some .int) 1 21 0 0 0 0 4 [(0, vR 0 0), (1, vI x1), (2, vI x2), (3, vI x3)] [] m o M' := by
  unfold r_X0_worstOf_b4 at h
  refine xj_iload_n 3 dX0_worstOf_4 rfl ?_
  refine xj_bipush (z := 12) dX0_worstOf_5 (by decide) ?_
  refine xj_icmp_gt (tgt := 32) dX0_worstOf_7 (by decide) (fun c1 => ?_) (fun c1 => ?_)
  · rw [if_pos c1] at h
    cases h
    refine xj_pick (ls' := [(2, vI x2)]) [2] rfl ?_
    exact ke x2 rfl
  · rw [if_neg c1] at h
    refine xj_iload_n 2 dX0_worstOf_10 rfl ?_
    refine xj_aload_n 0 dX0_worstOf_11 rfl ?_
    refine xg_getR (k' := 45) (i' := 0) dX0_worstOf_12 fl_X0_25 rfl ?_
    refine xj_iload_n 1 dX0_worstOf_15 rfl ?_
    refine xj_bipush (z := 13) dX0_worstOf_16 (by decide) ?_
    refine xj_imul dX0_worstOf_18 ?_
    refine xj_iload_n 3 dX0_worstOf_19 rfl ?_
    refine xj_iadd dX0_worstOf_20 ?_
    by_cases c2 : inb ((x1 * 13) + x3) 156 = true
    case neg => rw [if_neg c2] at h; cases h
    rw [if_pos c2] at h
    refine xg_iald (z := (m 45 0 (((x1 * 13) + x3).toNatClampNeg))) (n := ((x1 * 13) + x3).toNatClampNeg) dX0_worstOf_21 rfl (by decide) (inb_in c2) rfl rfl ?_
    refine xj_max dX0_worstOf_22 cm_X0_148 (by decide) (Nat.le_of_ble_eq_true rfl) (by decide) (by decide) ?_
    refine xj_istore_n (ls' := [(2, vI (imax x2 (m 45 0 (((x1 * 13) + x3).toNatClampNeg)))), (0, vR 0 0), (1, vI x1), (3, vI x3)]) dX0_worstOf_25 rfl (by decide) rfl ?_
    refine xj_iinc (z := x3 + 1) (ls' := [(3, vI (x3 + 1)), (2, vI (imax x2 (m 45 0 (((x1 * 13) + x3).toNatClampNeg)))), (0, vR 0 0), (1, vI x1)]) 3 dX0_worstOf_26 rfl rfl (by decide) rfl ?_
    refine xj_goto (tgt := 4) dX0_worstOf_29 (by decide) ?_
    cases h
    refine xj_pick (ls' := [(0, vR 0 0), (1, vI x1), (2, vI (imax x2 (m 45 0 (((x1 * 13) + x3).toNatClampNeg)))), (3, vI (x3 + 1))]) [2, 3, 1, 0] rfl ?_
    exact kb (imax x2 (m 45 0 (((x1 * 13) + x3).toNatClampNeg))) (x3 + 1) rfl
noncomputable def r_X0_worstOf_e32_h4 (x2 : Int32) (m : Mem) : Option Int32 :=
  some x2
set_option maxHeartbeats 4000000 in
set_option maxRecDepth 20000 in
theorem ok_X0_worstOf_e32_h4 (x2 : Int32) (m : Mem) {z : Int32} (h : r_X0_worstOf_e32_h4 x2 m = some z) : Xj RX0 cX0_worstOf 4 (some .int) 1 21 0 0 0 0 32 [(2, vI x2)] [] m (oI z) m := by
  unfold r_X0_worstOf_e32_h4 at h
  refine xj_iload_n 0 dX0_worstOf_32 rfl ?_
  cases h
  exact xj_ireturn dX0_worstOf_33 rfl (by decide) (by decide)
noncomputable def r_X0_worstOf_l4 (x1 : Int32) (x2 : Int32) (x3 : Int32) (m : Mem) : Option Int32 :=
  bd1 (loopO (fun s => r_X0_worstOf_b4 x1 m s.1 s.2) (x2, x3)) (fun e => r_X0_worstOf_e32_h4 e m)
set_option maxHeartbeats 4000000 in
set_option maxRecDepth 20000 in
theorem ok_X0_worstOf_l4 (x1 : Int32) (x2 : Int32) (x3 : Int32) (m : Mem) {z : Int32} (h : r_X0_worstOf_l4 x1 x2 x3 m = some z) : Xj RX0 cX0_worstOf 4 (some .int) 1 21 0 0 0 0 4 [(0, vR 0 0), (1, vI x1), (2, vI x2), (3, vI x3)] [] m (oI z) m := by
  unfold r_X0_worstOf_l4 at h
  obtain ⟨e, e1, h⟩ := bd1_some h
  refine loopO_ok (P := fun s : (Int32 × Int32) => Xj RX0 cX0_worstOf 4 (some .int) 1 21 0 0 0 0 4 [(0, vR 0 0), (1, vI x1), (2, vI s.1), (3, vI s.2)] [] m (oI z) m) (Q := fun e : (Int32) => Xj RX0 cX0_worstOf 4 (some .int) 1 21 0 0 0 0 32 [(2, vI e)] [] m (oI z) m) ?_ _ _ e1 ?_
  · intro s r9 h9 hi hx
    exact ok_X0_worstOf_b4 x1 m s.1 s.2 h9 (by rintro _ _ rfl; exact hi _ rfl) (by rintro _ rfl; exact hx _ rfl)
  · exact ok_X0_worstOf_e32_h4 e m h 
noncomputable def r_X0_worstOf (x1 : Int32) (m : Mem) : Option Int32 :=
  r_X0_worstOf_l4 x1 0 0 m
set_option maxHeartbeats 4000000 in
set_option maxRecDepth 20000 in
theorem ok_X0_worstOf (x1 : Int32) (m : Mem) {z : Int32} (h : r_X0_worstOf x1 m = some z) : Mt yX0_worstOf cX0_worstOf 4 (some .int) 1 21 0 0 [vR 0 0, vI x1] m (oI z) m := by
  refine Mt.of (by decide) (Nat.le_of_ble_eq_true rfl) (by decide +kernel) (hhF_ne (by decide)) ?_
  show Xj RX0 cX0_worstOf 4 (some .int) 1 21 0 0 0 0 0 [(0, vR 0 0), (1, vI x1)] [] m (oI z) m
  unfold r_X0_worstOf at h
  refine xj_iconst (z := 0) dX0_worstOf_0 (by decide) ?_
  refine xj_istore_n (ls' := [(2, vI 0), (0, vR 0 0), (1, vI x1)]) dX0_worstOf_1 rfl (by decide) rfl ?_
  refine xj_iconst (z := 0) dX0_worstOf_2 (by decide) ?_
  refine xj_istore_n (ls' := [(3, vI 0), (2, vI 0), (0, vR 0 0), (1, vI x1)]) dX0_worstOf_3 rfl (by decide) rfl ?_
  refine xj_pick (ls' := [(0, vR 0 0), (1, vI x1), (2, vI 0), (3, vI 0)]) [2, 3, 1, 0] rfl ?_
  exact ok_X0_worstOf_l4 x1 0 0 m h 
noncomputable def r_X0_findLook_b2 (i1 : Nat) (i2 : Nat) (x3 : Int32) (m : Mem) : Option ((Int32 × Mem) ⊕ (Mem)) :=
  if 156 ≤ x3 then (some (Sum.inr m)) else (if inb x3 156 = true then (some (Sum.inl (x3 + 1, (wr m 45 0 x3.toNatClampNeg 0)))) else none)
set_option maxHeartbeats 4000000 in
set_option maxRecDepth 20000 in
theorem ok_X0_findLook_b2 (i1 : Nat) (i2 : Nat) (x3 : Int32) (m : Mem) {r : (Int32 × Mem) ⊕ (Mem)} (h : r_X0_findLook_b2 i1 i2 x3 m = some r) {o : Ou} {M' : Mem} (kb : ∀ (x3' : Int32) (m'' : Mem), r = Sum.inl (x3', m'') → Xj RX0 cX0_findLook 5 none 5 131 0 0 0 0 2 [(0, vR 0 0), (1, vR 7 i1), (2, vR 1 i2), (3, vI x3')] [] m'' o M') (ke : ∀ (m'' : Mem), r = Sum.inr m'' → Xj RX0 cX0_findLook 5 none 5 131 0 0 0 0 24 [(0, vR 0 0), (1, vR 7 i1), (2, vR 1 i2)] [] m'' o M') : Xj RX0 cX0_findLook 5 none 5 131 0 0 0 0 2 [(0, vR 0 0), (1, vR 7 i1), (2, vR 1 i2), (3, vI x3)] [] m o M' := by
  unfold r_X0_findLook_b2 at h
  refine xj_iload_n 3 dX0_findLook_2 rfl ?_
  refine xj_aload_n 0 dX0_findLook_3 rfl ?_
  refine xg_getR (k' := 45) (i' := 0) dX0_findLook_4 fl_X0_25 rfl ?_
  refine xj_alen (x := 156) dX0_findLook_7 (by decide) (by decide) (by decide) (by decide) ?_
  refine xj_icmp_ge (tgt := 24) dX0_findLook_8 (by decide) (fun c1 => ?_) (fun c1 => ?_)
  · rw [if_pos c1] at h
    cases h
    refine xj_pick (ls' := [(0, vR 0 0), (1, vR 7 i1), (2, vR 1 i2)]) [0, 1, 2] rfl ?_
    exact ke m rfl
  · rw [if_neg c1] at h
    refine xj_aload_n 0 dX0_findLook_11 rfl ?_
    refine xg_getR (k' := 45) (i' := 0) dX0_findLook_12 fl_X0_25 rfl ?_
    refine xj_iload_n 3 dX0_findLook_15 rfl ?_
    refine xj_iconst (z := 0) dX0_findLook_16 (by decide) ?_
    by_cases c2 : inb x3 156 = true
    case neg => rw [if_neg c2] at h; cases h
    rw [if_pos c2] at h
    refine xg_iast (n := x3.toNatClampNeg) dX0_findLook_17 rfl (by decide) (inb_in c2) rfl ?_
    refine xj_iinc (z := x3 + 1) (ls' := [(3, vI (x3 + 1)), (0, vR 0 0), (1, vR 7 i1), (2, vR 1 i2)]) 3 dX0_findLook_18 rfl rfl (by decide) rfl ?_
    refine xj_goto (tgt := 2) dX0_findLook_21 (by decide) ?_
    cases h
    refine xj_pick (ls' := [(0, vR 0 0), (1, vR 7 i1), (2, vR 1 i2), (3, vI (x3 + 1))]) [1, 2, 3, 0] rfl ?_
    exact kb (x3 + 1) (wr m 45 0 x3.toNatClampNeg 0) rfl
noncomputable def r_X0_findLook_j58_c26 (i1 : Nat) (i2 : Nat) (x3 : Int32) (m : Mem) : Option ((Int32 × Mem) ⊕ (Mem)) :=
  some (Sum.inl (x3 + 1, m))
set_option maxHeartbeats 4000000 in
set_option maxRecDepth 20000 in
theorem ok_X0_findLook_j58_c26 (i1 : Nat) (i2 : Nat) (x3 : Int32) (m : Mem) {r : (Int32 × Mem) ⊕ (Mem)} (h : r_X0_findLook_j58_c26 i1 i2 x3 m = some r) {o : Ou} {M' : Mem} (kb : ∀ (x3' : Int32) (m'' : Mem), r = Sum.inl (x3', m'') → Xj RX0 cX0_findLook 5 none 5 131 0 0 0 0 26 [(0, vR 0 0), (1, vR 7 i1), (2, vR 1 i2), (3, vI x3')] [] m'' o M') (ke : ∀ (m'' : Mem), r = Sum.inr m'' → Xj RX0 cX0_findLook 5 none 5 131 0 0 0 0 64 [(0, vR 0 0), (2, vR 1 i2)] [] m'' o M') : Xj RX0 cX0_findLook 5 none 5 131 0 0 0 0 58 [(0, vR 0 0), (1, vR 7 i1), (2, vR 1 i2), (3, vI x3)] [] m o M' := by
  unfold r_X0_findLook_j58_c26 at h
  refine xj_iinc (z := x3 + 1) (ls' := [(3, vI (x3 + 1)), (0, vR 0 0), (1, vR 7 i1), (2, vR 1 i2)]) 3 dX0_findLook_58 rfl rfl (by decide) rfl ?_
  refine xj_goto (tgt := 26) dX0_findLook_61 (by decide) ?_
  cases h
  refine xj_pick (ls' := [(0, vR 0 0), (1, vR 7 i1), (2, vR 1 i2), (3, vI (x3 + 1))]) [1, 2, 3, 0] rfl ?_
  exact kb (x3 + 1) m rfl
noncomputable def r_X0_findLook_b26 (i1 : Nat) (i2 : Nat) (x3 : Int32) (m : Mem) : Option ((Int32 × Mem) ⊕ (Mem)) :=
  if (1 <<< ((m 3 0 2) &&& 31)) ≤ x3 then (some (Sum.inr m)) else (bd1 (r_X0_tryForgotten i1 x3 m) fun m5 => (bd2 (r_X0_goesAsTold i2 m5) fun z8 m7 => (if z8 = true then (bd1 (r_X0_tallyOpenPlaces i2 m7) fun m11 => (r_X0_findLook_j58_c26 i1 i2 x3 m11)) else (r_X0_findLook_j58_c26 i1 i2 x3 m7))))
set_option maxHeartbeats 4000000 in
set_option maxRecDepth 20000 in
theorem ok_X0_findLook_b26 (i1 : Nat) (i2 : Nat) (x3 : Int32) (m : Mem) {r : (Int32 × Mem) ⊕ (Mem)} (h : r_X0_findLook_b26 i1 i2 x3 m = some r) {o : Ou} {M' : Mem} (kb : ∀ (x3' : Int32) (m'' : Mem), r = Sum.inl (x3', m'') → Xj RX0 cX0_findLook 5 none 5 131 0 0 0 0 26 [(0, vR 0 0), (1, vR 7 i1), (2, vR 1 i2), (3, vI x3')] [] m'' o M') (ke : ∀ (m'' : Mem), r = Sum.inr m'' → Xj RX0 cX0_findLook 5 none 5 131 0 0 0 0 64 [(0, vR 0 0), (2, vR 1 i2)] [] m'' o M') : Xj RX0 cX0_findLook 5 none 5 131 0 0 0 0 26 [(0, vR 0 0), (1, vR 7 i1), (2, vR 1 i2), (3, vI x3)] [] m o M' := by
  unfold r_X0_findLook_b26 at h
  refine xj_iload_n 3 dX0_findLook_26 rfl ?_
  refine xj_iconst (z := 1) dX0_findLook_27 (by decide) ?_
  refine xj_aload_n 0 dX0_findLook_28 rfl ?_
  refine xg_getR (k' := 3) (i' := 0) dX0_findLook_29 fl_X0_28 rfl ?_
  refine xg_getI (x := (m 3 0 2)) dX0_findLook_32 fl_X0_97 rfl rfl ?_
  refine xj_ishl dX0_findLook_35 ?_
  refine xj_icmp_ge (tgt := 64) dX0_findLook_36 (by decide) (fun c3 => ?_) (fun c3 => ?_)
  · rw [if_pos c3] at h
    cases h
    refine xj_pick (ls' := [(0, vR 0 0), (2, vR 1 i2)]) [0, 2] rfl ?_
    exact ke m rfl
  · rw [if_neg c3] at h
    refine xj_aload_n 0 dX0_findLook_39 rfl ?_
    refine xj_aload_n 1 dX0_findLook_40 rfl ?_
    refine xj_iload_n 3 dX0_findLook_41 rfl ?_
    obtain ⟨m5, e4, h⟩ := bd1_some h
    refine xc_Vv0 (st := []) (ok_X0_tryForgotten i1 x3 m e4) dX0_findLook_42 cv_X0_106 rfl rfl (Nat.le_of_ble_eq_true rfl) (by decide) (by decide) (by decide) (by decide) ?_
    refine xj_aload_n 0 dX0_findLook_45 rfl ?_
    refine xj_aload_n 2 dX0_findLook_46 rfl ?_
    obtain ⟨z8, m7, e6, h⟩ := bd2_some h
    refine xc_Vb0 (st := []) (ok_X0_goesAsTold i2 m5 e6) dX0_findLook_47 cv_X0_126 rfl rfl (Nat.le_of_ble_eq_true rfl) (by decide) (by decide) (by decide) (by decide) ?_
    refine xj_if_eq (tgt := 58) dX0_findLook_50 (by decide) (fun c9 => ?_) (fun c9 => ?_)
    · rw [if_neg (b2i_f c9)] at h
      exact ok_X0_findLook_j58_c26 i1 i2 x3 m7 h kb ke
    · rw [if_pos (b2i_t c9)] at h
      refine xj_aload_n 0 dX0_findLook_53 rfl ?_
      refine xj_aload_n 2 dX0_findLook_54 rfl ?_
      obtain ⟨m11, e10, h⟩ := bd1_some h
      refine xc_Vv0 (st := []) (ok_X0_tallyOpenPlaces i2 m7 e10) dX0_findLook_55 cv_X0_135 rfl rfl (Nat.le_of_ble_eq_true rfl) (by decide) (by decide) (by decide) (by decide) ?_
      exact ok_X0_findLook_j58_c26 i1 i2 x3 m11 h kb ke
noncomputable def r_X0_findLook_j132_c76 (i2 : Nat) (x3 : Int32) (m : Mem) : Option ((Int32 × Mem) ⊕ (Mem)) :=
  some (Sum.inl (x3 + 1, m))
set_option maxHeartbeats 4000000 in
set_option maxRecDepth 20000 in
theorem ok_X0_findLook_j132_c76 (i2 : Nat) (x3 : Int32) (m : Mem) {r : (Int32 × Mem) ⊕ (Mem)} (h : r_X0_findLook_j132_c76 i2 x3 m = some r) {o : Ou} {M' : Mem} (kb : ∀ (x3' : Int32) (m'' : Mem), r = Sum.inl (x3', m'') → Xj RX0 cX0_findLook 5 none 5 131 0 0 0 0 76 [(0, vR 0 0), (2, vR 1 i2), (3, vI x3')] [] m'' o M') (ke : ∀ (m'' : Mem), r = Sum.inr m'' → Xj RX0 cX0_findLook 5 none 5 131 0 0 0 0 138 [] [] m'' o M') : Xj RX0 cX0_findLook 5 none 5 131 0 0 0 0 132 [(0, vR 0 0), (2, vR 1 i2), (3, vI x3)] [] m o M' := by
  unfold r_X0_findLook_j132_c76 at h
  refine xj_iinc (z := x3 + 1) (ls' := [(3, vI (x3 + 1)), (0, vR 0 0), (2, vR 1 i2)]) 2 dX0_findLook_132 rfl rfl (by decide) rfl ?_
  refine xj_goto (tgt := 76) dX0_findLook_135 (by decide) ?_
  cases h
  refine xj_pick (ls' := [(0, vR 0 0), (2, vR 1 i2), (3, vI (x3 + 1))]) [1, 2, 0] rfl ?_
  exact kb (x3 + 1) m rfl
noncomputable def r_X0_findLook_j121_c76 (i2 : Nat) (x3 : Int32) (x4 : Int32) (m : Mem) : Option ((Int32 × Mem) ⊕ (Mem)) :=
  r_X0_findLook_j132_c76 i2 x3 (wr (wr m 0 0 5 x3) 0 0 6 x4)
set_option maxHeartbeats 4000000 in
set_option maxRecDepth 20000 in
theorem ok_X0_findLook_j121_c76 (i2 : Nat) (x3 : Int32) (x4 : Int32) (m : Mem) {r : (Int32 × Mem) ⊕ (Mem)} (h : r_X0_findLook_j121_c76 i2 x3 x4 m = some r) {o : Ou} {M' : Mem} (kb : ∀ (x3' : Int32) (m'' : Mem), r = Sum.inl (x3', m'') → Xj RX0 cX0_findLook 5 none 5 131 0 0 0 0 76 [(0, vR 0 0), (2, vR 1 i2), (3, vI x3')] [] m'' o M') (ke : ∀ (m'' : Mem), r = Sum.inr m'' → Xj RX0 cX0_findLook 5 none 5 131 0 0 0 0 138 [] [] m'' o M') : Xj RX0 cX0_findLook 5 none 5 131 0 0 0 0 121 [(0, vR 0 0), (2, vR 1 i2), (3, vI x3), (4, vI x4)] [] m o M' := by
  unfold r_X0_findLook_j121_c76 at h
  refine xj_aload_n 0 dX0_findLook_121 rfl ?_
  refine xj_iload_n 2 dX0_findLook_122 rfl ?_
  refine xj_putI dX0_findLook_123 fw_X0_139 rfl ?_
  refine xj_aload_n 0 dX0_findLook_126 rfl ?_
  refine xj_iload 3 dX0_findLook_127 rfl ?_
  refine xj_putI dX0_findLook_129 fw_X0_142 rfl ?_
  refine xj_pick (ls' := [(0, vR 0 0), (2, vR 1 i2), (3, vI x3)]) [0, 1, 2] rfl ?_
  exact ok_X0_findLook_j132_c76 i2 x3 (wr (wr m 0 0 5 x3) 0 0 6 x4) h kb ke
noncomputable def r_X0_findLook_b76 (i2 : Nat) (x3 : Int32) (m : Mem) : Option ((Int32 × Mem) ⊕ (Mem)) :=
  if (m 3 0 0) ≤ x3 then (some (Sum.inr m)) else (if inb x3 12 = true then (if (m 36 i2 x3.toNatClampNeg) = (-1) then (bd1 (r_X0_worstOf x3 m) fun z16 => (if (m 0 0 5) = (-1) then (r_X0_findLook_j121_c76 i2 x3 z16 m) else (if (m 0 0 6) ≤ z16 then (r_X0_findLook_j132_c76 i2 x3 m) else (r_X0_findLook_j121_c76 i2 x3 z16 m)))) else (r_X0_findLook_j132_c76 i2 x3 m)) else none)
set_option maxHeartbeats 4000000 in
set_option maxRecDepth 20000 in
theorem ok_X0_findLook_b76 (i2 : Nat) (x3 : Int32) (m : Mem) {r : (Int32 × Mem) ⊕ (Mem)} (h : r_X0_findLook_b76 i2 x3 m = some r) {o : Ou} {M' : Mem} (kb : ∀ (x3' : Int32) (m'' : Mem), r = Sum.inl (x3', m'') → Xj RX0 cX0_findLook 5 none 5 131 0 0 0 0 76 [(0, vR 0 0), (2, vR 1 i2), (3, vI x3')] [] m'' o M') (ke : ∀ (m'' : Mem), r = Sum.inr m'' → Xj RX0 cX0_findLook 5 none 5 131 0 0 0 0 138 [] [] m'' o M') : Xj RX0 cX0_findLook 5 none 5 131 0 0 0 0 76 [(0, vR 0 0), (2, vR 1 i2), (3, vI x3)] [] m o M' := by
  unfold r_X0_findLook_b76 at h
  refine xj_iload_n 2 dX0_findLook_76 rfl ?_
  refine xj_aload_n 0 dX0_findLook_77 rfl ?_
  refine xg_getR (k' := 3) (i' := 0) dX0_findLook_78 fl_X0_28 rfl ?_
  refine xg_getI (x := (m 3 0 0)) dX0_findLook_81 fl_X0_54 rfl rfl ?_
  refine xj_icmp_ge (tgt := 138) dX0_findLook_84 (by decide) (fun c12 => ?_) (fun c12 => ?_)
  · rw [if_pos c12] at h
    cases h
    refine xj_pick (ls' := []) [] rfl ?_
    exact ke m rfl
  · rw [if_neg c12] at h
    refine xj_aload_n 1 dX0_findLook_87 rfl ?_
    refine xg_getR (k' := 36) (i' := i2) dX0_findLook_88 fl_X0_130 rfl ?_
    refine xj_iload_n 2 dX0_findLook_91 rfl ?_
    by_cases c13 : inb x3 12 = true
    case neg => rw [if_neg c13] at h; cases h
    rw [if_pos c13] at h
    refine xg_iald (z := (m 36 i2 x3.toNatClampNeg)) (n := x3.toNatClampNeg) dX0_findLook_92 rfl (by decide) (inb_in c13) rfl rfl ?_
    refine xj_iconst (z := (-1)) dX0_findLook_93 (by decide) ?_
    refine xj_icmp_ne (tgt := 132) dX0_findLook_94 (by decide) (fun c14 => ?_) (fun c14 => ?_)
    · rw [if_neg c14] at h
      exact ok_X0_findLook_j132_c76 i2 x3 m h kb ke
    · rw [if_pos c14] at h
      refine xj_aload_n 0 dX0_findLook_97 rfl ?_
      refine xj_iload_n 2 dX0_findLook_98 rfl ?_
      obtain ⟨z16, e15, h⟩ := bd1_some h
      refine xc_Vi0 (st := []) (ok_X0_worstOf x3 m e15) dX0_findLook_99 cv_X0_145 rfl rfl (Nat.le_of_ble_eq_true rfl) (by decide) (by decide) (by decide) (by decide) ?_
      refine xj_istore (ls' := [(4, vI z16), (0, vR 0 0), (2, vR 1 i2), (3, vI x3)]) dX0_findLook_102 (by decide) rfl ?_
      refine xj_aload_n 1 dX0_findLook_104 rfl ?_
      refine xg_getI (x := (m 0 0 5)) dX0_findLook_105 fl_X0_139 rfl rfl ?_
      refine xj_iconst (z := (-1)) dX0_findLook_108 (by decide) ?_
      refine xj_icmp_eq (tgt := 121) dX0_findLook_109 (by decide) (fun c17 => ?_) (fun c17 => ?_)
      · rw [if_pos c17] at h
        refine xj_pick (ls' := [(0, vR 0 0), (2, vR 1 i2), (3, vI x3), (4, vI z16)]) [1, 2, 3, 0] rfl ?_
        exact ok_X0_findLook_j121_c76 i2 x3 z16 m h kb ke
      · rw [if_neg c17] at h
        refine xj_iload 0 dX0_findLook_112 rfl ?_
        refine xj_aload_n 1 dX0_findLook_114 rfl ?_
        refine xg_getI (x := (m 0 0 6)) dX0_findLook_115 fl_X0_142 rfl rfl ?_
        refine xj_icmp_ge (tgt := 132) dX0_findLook_118 (by decide) (fun c18 => ?_) (fun c18 => ?_)
        · rw [if_pos c18] at h
          refine xj_pick (ls' := [(0, vR 0 0), (2, vR 1 i2), (3, vI x3)]) [1, 2, 3] rfl ?_
          exact ok_X0_findLook_j132_c76 i2 x3 m h kb ke
        · rw [if_neg c18] at h
          refine xj_pick (ls' := [(0, vR 0 0), (2, vR 1 i2), (3, vI x3), (4, vI z16)]) [1, 2, 3, 0] rfl ?_
          exact ok_X0_findLook_j121_c76 i2 x3 z16 m h kb ke
noncomputable def r_X0_findLook_e138_h76 (m : Mem) : Option Mem :=
  some m
set_option maxHeartbeats 4000000 in
set_option maxRecDepth 20000 in
theorem ok_X0_findLook_e138_h76 (m : Mem) {m' : Mem} (h : r_X0_findLook_e138_h76 m = some m') : Xj RX0 cX0_findLook 5 none 5 131 0 0 0 0 138 [] [] m oV m' := by
  unfold r_X0_findLook_e138_h76 at h
  cases h
  exact xj_return dX0_findLook_138 (by decide) (by decide)
noncomputable def r_X0_findLook_l76 (i2 : Nat) (x3 : Int32) (m : Mem) : Option Mem :=
  bd1 (loopO (fun s => r_X0_findLook_b76 i2 s.1 s.2) (x3, m)) (fun e => r_X0_findLook_e138_h76 e)
set_option maxHeartbeats 4000000 in
set_option maxRecDepth 20000 in
theorem ok_X0_findLook_l76 (i2 : Nat) (x3 : Int32) (m : Mem) {m' : Mem} (h : r_X0_findLook_l76 i2 x3 m = some m') : Xj RX0 cX0_findLook 5 none 5 131 0 0 0 0 76 [(0, vR 0 0), (2, vR 1 i2), (3, vI x3)] [] m oV m' := by
  unfold r_X0_findLook_l76 at h
  obtain ⟨e, e1, h⟩ := bd1_some h
  refine loopO_ok (P := fun s : (Int32 × Mem) => Xj RX0 cX0_findLook 5 none 5 131 0 0 0 0 76 [(0, vR 0 0), (2, vR 1 i2), (3, vI s.1)] [] s.2 oV m') (Q := fun e : (Mem) => Xj RX0 cX0_findLook 5 none 5 131 0 0 0 0 138 [] [] e oV m') ?_ _ _ e1 ?_
  · intro s r9 h9 hi hx
    exact ok_X0_findLook_b76 i2 s.1 s.2 h9 (by rintro _ _ rfl; exact hi _ rfl) (by rintro _ rfl; exact hx _ rfl)
  · exact ok_X0_findLook_e138_h76 e h 
noncomputable def r_X0_findLook_e64_h26 (i2 : Nat) (m : Mem) : Option Mem :=
  r_X0_findLook_l76 i2 0 (wr (wr m 0 0 5 (-1)) 0 0 6 (-1))
set_option maxHeartbeats 4000000 in
set_option maxRecDepth 20000 in
theorem ok_X0_findLook_e64_h26 (i2 : Nat) (m : Mem) {m' : Mem} (h : r_X0_findLook_e64_h26 i2 m = some m') : Xj RX0 cX0_findLook 5 none 5 131 0 0 0 0 64 [(0, vR 0 0), (2, vR 1 i2)] [] m oV m' := by
  unfold r_X0_findLook_e64_h26 at h
  refine xj_aload_n 0 dX0_findLook_64 rfl ?_
  refine xj_iconst (z := (-1)) dX0_findLook_65 (by decide) ?_
  refine xj_putI dX0_findLook_66 fw_X0_139 rfl ?_
  refine xj_aload_n 0 dX0_findLook_69 rfl ?_
  refine xj_iconst (z := (-1)) dX0_findLook_70 (by decide) ?_
  refine xj_putI dX0_findLook_71 fw_X0_142 rfl ?_
  refine xj_iconst (z := 0) dX0_findLook_74 (by decide) ?_
  refine xj_istore_n (ls' := [(3, vI 0), (0, vR 0 0), (2, vR 1 i2)]) dX0_findLook_75 rfl (by decide) rfl ?_
  refine xj_pick (ls' := [(0, vR 0 0), (2, vR 1 i2), (3, vI 0)]) [1, 2, 0] rfl ?_
  exact ok_X0_findLook_l76 i2 0 (wr (wr m 0 0 5 (-1)) 0 0 6 (-1)) h 
noncomputable def r_X0_findLook_l26 (i1 : Nat) (i2 : Nat) (x3 : Int32) (m : Mem) : Option Mem :=
  bd1 (loopO (fun s => r_X0_findLook_b26 i1 i2 s.1 s.2) (x3, m)) (fun e => r_X0_findLook_e64_h26 i2 e)
set_option maxHeartbeats 4000000 in
set_option maxRecDepth 20000 in
theorem ok_X0_findLook_l26 (i1 : Nat) (i2 : Nat) (x3 : Int32) (m : Mem) {m' : Mem} (h : r_X0_findLook_l26 i1 i2 x3 m = some m') : Xj RX0 cX0_findLook 5 none 5 131 0 0 0 0 26 [(0, vR 0 0), (1, vR 7 i1), (2, vR 1 i2), (3, vI x3)] [] m oV m' := by
  unfold r_X0_findLook_l26 at h
  obtain ⟨e, e1, h⟩ := bd1_some h
  refine loopO_ok (P := fun s : (Int32 × Mem) => Xj RX0 cX0_findLook 5 none 5 131 0 0 0 0 26 [(0, vR 0 0), (1, vR 7 i1), (2, vR 1 i2), (3, vI s.1)] [] s.2 oV m') (Q := fun e : (Mem) => Xj RX0 cX0_findLook 5 none 5 131 0 0 0 0 64 [(0, vR 0 0), (2, vR 1 i2)] [] e oV m') ?_ _ _ e1 ?_
  · intro s r9 h9 hi hx
    exact ok_X0_findLook_b26 i1 i2 s.1 s.2 h9 (by rintro _ _ rfl; exact hi _ rfl) (by rintro _ rfl; exact hx _ rfl)
  · exact ok_X0_findLook_e64_h26 i2 e h 
noncomputable def r_X0_findLook_e24_h2 (i1 : Nat) (i2 : Nat) (m : Mem) : Option Mem :=
  r_X0_findLook_l26 i1 i2 0 m
set_option maxHeartbeats 4000000 in
set_option maxRecDepth 20000 in
theorem ok_X0_findLook_e24_h2 (i1 : Nat) (i2 : Nat) (m : Mem) {m' : Mem} (h : r_X0_findLook_e24_h2 i1 i2 m = some m') : Xj RX0 cX0_findLook 5 none 5 131 0 0 0 0 24 [(0, vR 0 0), (1, vR 7 i1), (2, vR 1 i2)] [] m oV m' := by
  unfold r_X0_findLook_e24_h2 at h
  refine xj_iconst (z := 0) dX0_findLook_24 (by decide) ?_
  refine xj_istore_n (ls' := [(3, vI 0), (0, vR 0 0), (1, vR 7 i1), (2, vR 1 i2)]) dX0_findLook_25 rfl (by decide) rfl ?_
  refine xj_pick (ls' := [(0, vR 0 0), (1, vR 7 i1), (2, vR 1 i2), (3, vI 0)]) [1, 2, 3, 0] rfl ?_
  exact ok_X0_findLook_l26 i1 i2 0 m h 
noncomputable def r_X0_findLook_l2 (i1 : Nat) (i2 : Nat) (x3 : Int32) (m : Mem) : Option Mem :=
  bd1 (loopO (fun s => r_X0_findLook_b2 i1 i2 s.1 s.2) (x3, m)) (fun e => r_X0_findLook_e24_h2 i1 i2 e)
set_option maxHeartbeats 4000000 in
set_option maxRecDepth 20000 in
theorem ok_X0_findLook_l2 (i1 : Nat) (i2 : Nat) (x3 : Int32) (m : Mem) {m' : Mem} (h : r_X0_findLook_l2 i1 i2 x3 m = some m') : Xj RX0 cX0_findLook 5 none 5 131 0 0 0 0 2 [(0, vR 0 0), (1, vR 7 i1), (2, vR 1 i2), (3, vI x3)] [] m oV m' := by
  unfold r_X0_findLook_l2 at h
  obtain ⟨e, e1, h⟩ := bd1_some h
  refine loopO_ok (P := fun s : (Int32 × Mem) => Xj RX0 cX0_findLook 5 none 5 131 0 0 0 0 2 [(0, vR 0 0), (1, vR 7 i1), (2, vR 1 i2), (3, vI s.1)] [] s.2 oV m') (Q := fun e : (Mem) => Xj RX0 cX0_findLook 5 none 5 131 0 0 0 0 24 [(0, vR 0 0), (1, vR 7 i1), (2, vR 1 i2)] [] e oV m') ?_ _ _ e1 ?_
  · intro s r9 h9 hi hx
    exact ok_X0_findLook_b2 i1 i2 s.1 s.2 h9 (by rintro _ _ rfl; exact hi _ rfl) (by rintro _ rfl; exact hx _ rfl)
  · exact ok_X0_findLook_e24_h2 i1 i2 e h 
noncomputable def r_X0_findLook (i1 : Nat) (i2 : Nat) (m : Mem) : Option Mem :=
  r_X0_findLook_l2 i1 i2 0 m
set_option maxHeartbeats 4000000 in
set_option maxRecDepth 20000 in
theorem ok_X0_findLook (i1 : Nat) (i2 : Nat) (m : Mem) {m' : Mem} (h : r_X0_findLook i1 i2 m = some m') : Mt yX0_findLook cX0_findLook 5 none 5 131 0 0 [vR 0 0, vR 7 i1, vR 1 i2] m oV m' := by
  refine Mt.of (by decide) (Nat.le_of_ble_eq_true rfl) (by decide +kernel) (hhF_ne (by decide)) ?_
  show Xj RX0 cX0_findLook 5 none 5 131 0 0 0 0 0 [(0, vR 0 0), (1, vR 7 i1), (2, vR 1 i2)] [] m oV m'
  unfold r_X0_findLook at h
  refine xj_iconst (z := 0) dX0_findLook_0 (by decide) ?_
  refine xj_istore_n (ls' := [(3, vI 0), (0, vR 0 0), (1, vR 7 i1), (2, vR 1 i2)]) dX0_findLook_1 rfl (by decide) rfl ?_
  refine xj_pick (ls' := [(0, vR 0 0), (1, vR 7 i1), (2, vR 1 i2), (3, vI 0)]) [1, 2, 3, 0] rfl ?_
  exact ok_X0_findLook_l2 i1 i2 0 m h 
noncomputable def r_X0_isSaid (x1 : Int32) (m : Mem) : Option Bool :=
  if inb (m 3 0 3) 12 = true then (if (((m 26 0 ((m 3 0 3).toNatClampNeg)) >>> (x1 &&& 31)) &&& 1) = 0 then (some false) else (some true)) else none
set_option maxHeartbeats 4000000 in
set_option maxRecDepth 20000 in
theorem ok_X0_isSaid (x1 : Int32) (m : Mem) {z : Bool} (h : r_X0_isSaid x1 m = some z) : Mt yX0_isSaid cX0_isSaid 2 (some .boolean) 1 0 0 0 [vR 0 0, vI x1] m (oB z) m := by
  refine Mt.of (by decide) (Nat.le_of_ble_eq_true rfl) (by decide +kernel) (hhF_ne (by decide)) ?_
  show Xj RX0 cX0_isSaid 2 (some .boolean) 1 0 0 0 0 0 0 [(0, vR 0 0), (1, vI x1)] [] m (oB z) m
  unfold r_X0_isSaid at h
  refine xj_aload_n 0 dX0_isSaid_0 rfl ?_
  refine xg_getR (k' := 3) (i' := 0) dX0_isSaid_1 fl_X0_28 rfl ?_
  refine xg_getR (k' := 26) (i' := 0) dX0_isSaid_4 fl_X0_181 rfl ?_
  refine xj_aload_n 0 dX0_isSaid_7 rfl ?_
  refine xg_getR (k' := 3) (i' := 0) dX0_isSaid_8 fl_X0_28 rfl ?_
  refine xg_getI (x := (m 3 0 3)) dX0_isSaid_11 fl_X0_94 rfl rfl ?_
  by_cases c1 : inb (m 3 0 3) 12 = true
  case neg => rw [if_neg c1] at h; cases h
  rw [if_pos c1] at h
  refine xg_iald (z := (m 26 0 ((m 3 0 3).toNatClampNeg))) (n := (m 3 0 3).toNatClampNeg) dX0_isSaid_14 rfl (by decide) (inb_in c1) rfl rfl ?_
  refine xj_iload_n 1 dX0_isSaid_15 rfl ?_
  refine xj_ishr dX0_isSaid_16 ?_
  refine xj_iconst (z := 1) dX0_isSaid_17 (by decide) ?_
  refine xj_iand dX0_isSaid_18 ?_
  refine xj_if_eq (tgt := 26) dX0_isSaid_19 (by decide) (fun c2 => ?_) (fun c2 => ?_)
  · rw [if_pos c2] at h
    refine xj_iconst (z := 0) dX0_isSaid_26 (by decide) ?_
    cases h
    exact xj_ireturn dX0_isSaid_27 rfl (by decide) (by decide)
  · rw [if_neg c2] at h
    refine xj_iconst (z := 1) dX0_isSaid_22 (by decide) ?_
    refine xj_goto (tgt := 27) dX0_isSaid_23 (by decide) ?_
    cases h
    exact xj_ireturn dX0_isSaid_27 rfl (by decide) (by decide)
noncomputable def r_X0_tryAllSayings_j148_c40 (x3 : Int32) (x4 : Int32) (m : Mem) : Option ((Int32 × Mem) ⊕ (Mem)) :=
  some (Sum.inl (x4 + 1, m))
set_option maxHeartbeats 4000000 in
set_option maxRecDepth 20000 in
theorem ok_X0_tryAllSayings_j148_c40 (x3 : Int32) (x4 : Int32) (m : Mem) {r : (Int32 × Mem) ⊕ (Mem)} (h : r_X0_tryAllSayings_j148_c40 x3 x4 m = some r) {o : Ou} {M' : Mem} (kb : ∀ (x4' : Int32) (m'' : Mem), r = Sum.inl (x4', m'') → Xj RX0 cX0_tryAllSayings 5 none 4 109 0 0 0 0 40 [(0, vR 0 0), (3, vI x3), (4, vI x4')] [] m'' o M') (ke : ∀ (m'' : Mem), r = Sum.inr m'' → Xj RX0 cX0_tryAllSayings 5 none 4 109 0 0 0 0 154 [(0, vR 0 0), (3, vI x3)] [] m'' o M') : Xj RX0 cX0_tryAllSayings 5 none 4 109 0 0 0 0 148 [(0, vR 0 0), (3, vI x3), (4, vI x4)] [] m o M' := by
  unfold r_X0_tryAllSayings_j148_c40 at h
  refine xj_iinc (z := x4 + 1) (ls' := [(4, vI (x4 + 1)), (0, vR 0 0), (3, vI x3)]) 2 dX0_tryAllSayings_148 rfl rfl (by decide) rfl ?_
  refine xj_goto (tgt := 40) dX0_tryAllSayings_151 (by decide) ?_
  cases h
  refine xj_pick (ls' := [(0, vR 0 0), (3, vI x3), (4, vI (x4 + 1))]) [1, 2, 0] rfl ?_
  exact kb (x4 + 1) m rfl
noncomputable def r_X0_tryAllSayings_b40_c26 (x3 : Int32) (x4 : Int32) (m : Mem) : Option ((Int32 × Mem) ⊕ (Mem)) :=
  if (m 3 0 0) ≤ x4 then (some (Sum.inr m)) else (bd1 (r_X0_isSaid x3 m) fun z10 => (if z10 = true then (bd1 (r_X0_isSaid x4 m) fun z13 => (if z13 = true then (bd2 (r_X7_tell 1 (m 3 0 2) (m 3 0 3) x3 m) fun z17 m16 => (bd2 (r_X7_tell 1 ((m16 3 0 2) + 1) (m16 3 0 3) x4 m16) fun z20 m19 => (bd2 (r_X6_goesOn 1 (m19 3 0 3) m19) fun z23 m22 => (if inb ((x3 * 12) + x4) 144 = true then (r_X0_tryAllSayings_j148_c40 x3 x4 (wr m22 44 0 (((x3 * 12) + x4).toNatClampNeg) z23)) else none)))) else (r_X0_tryAllSayings_j148_c40 x3 x4 m))) else (r_X0_tryAllSayings_j148_c40 x3 x4 m)))
set_option maxHeartbeats 4000000 in
set_option maxRecDepth 20000 in
theorem ok_X0_tryAllSayings_b40_c26 (x3 : Int32) (x4 : Int32) (m : Mem) {r : (Int32 × Mem) ⊕ (Mem)} (h : r_X0_tryAllSayings_b40_c26 x3 x4 m = some r) {o : Ou} {M' : Mem} (kb : ∀ (x4' : Int32) (m'' : Mem), r = Sum.inl (x4', m'') → Xj RX0 cX0_tryAllSayings 5 none 4 109 0 0 0 0 40 [(0, vR 0 0), (3, vI x3), (4, vI x4')] [] m'' o M') (ke : ∀ (m'' : Mem), r = Sum.inr m'' → Xj RX0 cX0_tryAllSayings 5 none 4 109 0 0 0 0 154 [(0, vR 0 0), (3, vI x3)] [] m'' o M') : Xj RX0 cX0_tryAllSayings 5 none 4 109 0 0 0 0 40 [(0, vR 0 0), (3, vI x3), (4, vI x4)] [] m o M' := by
  unfold r_X0_tryAllSayings_b40_c26 at h
  refine xj_iload 2 dX0_tryAllSayings_40 rfl ?_
  refine xj_aload_n 0 dX0_tryAllSayings_42 rfl ?_
  refine xg_getR (k' := 3) (i' := 0) dX0_tryAllSayings_43 fl_X0_28 rfl ?_
  refine xg_getI (x := (m 3 0 0)) dX0_tryAllSayings_46 fl_X0_54 rfl rfl ?_
  refine xj_icmp_ge (tgt := 154) dX0_tryAllSayings_49 (by decide) (fun c8 => ?_) (fun c8 => ?_)
  · rw [if_pos c8] at h
    cases h
    refine xj_pick (ls' := [(0, vR 0 0), (3, vI x3)]) [0, 1] rfl ?_
    exact ke m rfl
  · rw [if_neg c8] at h
    refine xj_aload_n 0 dX0_tryAllSayings_52 rfl ?_
    refine xj_iload_n 1 dX0_tryAllSayings_53 rfl ?_
    obtain ⟨z10, e9, h⟩ := bd1_some h
    refine xc_Vb0 (st := []) (ok_X0_isSaid x3 m e9) dX0_tryAllSayings_54 cv_X0_168 rfl rfl (Nat.le_of_ble_eq_true rfl) (by decide) (by decide) (by decide) (by decide) ?_
    refine xj_if_eq (tgt := 148) dX0_tryAllSayings_57 (by decide) (fun c11 => ?_) (fun c11 => ?_)
    · rw [if_neg (b2i_f c11)] at h
      exact ok_X0_tryAllSayings_j148_c40 x3 x4 m h kb ke
    · rw [if_pos (b2i_t c11)] at h
      refine xj_aload_n 0 dX0_tryAllSayings_60 rfl ?_
      refine xj_iload 2 dX0_tryAllSayings_61 rfl ?_
      obtain ⟨z13, e12, h⟩ := bd1_some h
      refine xc_Vb0 (st := []) (ok_X0_isSaid x4 m e12) dX0_tryAllSayings_63 cv_X0_168 rfl rfl (Nat.le_of_ble_eq_true rfl) (by decide) (by decide) (by decide) (by decide) ?_
      refine xj_if_eq (tgt := 148) dX0_tryAllSayings_66 (by decide) (fun c14 => ?_) (fun c14 => ?_)
      · rw [if_neg (b2i_f c14)] at h
        exact ok_X0_tryAllSayings_j148_c40 x3 x4 m h kb ke
      · rw [if_pos (b2i_t c14)] at h
        refine xj_aload_n 0 dX0_tryAllSayings_69 rfl ?_
        refine xg_getR (k' := 7) (i' := 1) dX0_tryAllSayings_70 fl_X0_12 rfl ?_
        refine xj_aload_n 0 dX0_tryAllSayings_73 rfl ?_
        refine xg_getR (k' := 3) (i' := 0) dX0_tryAllSayings_74 fl_X0_28 rfl ?_
        refine xg_getI (x := (m 3 0 2)) dX0_tryAllSayings_77 fl_X0_97 rfl rfl ?_
        refine xj_aload_n 0 dX0_tryAllSayings_80 rfl ?_
        refine xg_getR (k' := 3) (i' := 0) dX0_tryAllSayings_81 fl_X0_28 rfl ?_
        refine xg_getI (x := (m 3 0 3)) dX0_tryAllSayings_84 fl_X0_94 rfl rfl ?_
        refine xj_iload_n 1 dX0_tryAllSayings_87 rfl ?_
        obtain ⟨z17, m16, e15, h⟩ := bd2_some h
        refine xc_Vb0 (st := []) (ok_X7_tell 1 (m 3 0 2) (m 3 0 3) x3 m e15) dX0_tryAllSayings_88 cv_X0_86 rfl rfl (Nat.le_of_ble_eq_true rfl) (by decide) (by decide) (by decide) (by decide) ?_
        refine xj_pop dX0_tryAllSayings_91 rfl ?_
        refine xj_aload_n 0 dX0_tryAllSayings_92 rfl ?_
        refine xg_getR (k' := 7) (i' := 1) dX0_tryAllSayings_93 fl_X0_12 rfl ?_
        refine xj_aload_n 0 dX0_tryAllSayings_96 rfl ?_
        refine xg_getR (k' := 3) (i' := 0) dX0_tryAllSayings_97 fl_X0_28 rfl ?_
        refine xg_getI (x := (m16 3 0 2)) dX0_tryAllSayings_100 fl_X0_97 rfl rfl ?_
        refine xj_iconst (z := 1) dX0_tryAllSayings_103 (by decide) ?_
        refine xj_iadd dX0_tryAllSayings_104 ?_
        refine xj_aload_n 0 dX0_tryAllSayings_105 rfl ?_
        refine xg_getR (k' := 3) (i' := 0) dX0_tryAllSayings_106 fl_X0_28 rfl ?_
        refine xg_getI (x := (m16 3 0 3)) dX0_tryAllSayings_109 fl_X0_94 rfl rfl ?_
        refine xj_iload 2 dX0_tryAllSayings_112 rfl ?_
        obtain ⟨z20, m19, e18, h⟩ := bd2_some h
        refine xc_Vb0 (st := []) (ok_X7_tell 1 ((m16 3 0 2) + 1) (m16 3 0 3) x4 m16 e18) dX0_tryAllSayings_114 cv_X0_86 rfl rfl (Nat.le_of_ble_eq_true rfl) (by decide) (by decide) (by decide) (by decide) ?_
        refine xj_pop dX0_tryAllSayings_117 rfl ?_
        refine xj_aload_n 0 dX0_tryAllSayings_118 rfl ?_
        refine xg_getR (k' := 44) (i' := 0) dX0_tryAllSayings_119 fl_X0_22 rfl ?_
        refine xj_iload_n 1 dX0_tryAllSayings_122 rfl ?_
        refine xj_bipush (z := 12) dX0_tryAllSayings_123 (by decide) ?_
        refine xj_imul dX0_tryAllSayings_125 ?_
        refine xj_iload 2 dX0_tryAllSayings_126 rfl ?_
        refine xj_iadd dX0_tryAllSayings_128 ?_
        refine xj_aload_n 0 dX0_tryAllSayings_129 rfl ?_
        refine xg_getR (k' := 6) (i' := 0) dX0_tryAllSayings_130 fl_X0_32 rfl ?_
        refine xj_aload_n 0 dX0_tryAllSayings_133 rfl ?_
        refine xg_getR (k' := 7) (i' := 1) dX0_tryAllSayings_134 fl_X0_12 rfl ?_
        refine xj_aload_n 0 dX0_tryAllSayings_137 rfl ?_
        refine xg_getR (k' := 3) (i' := 0) dX0_tryAllSayings_138 fl_X0_28 rfl ?_
        refine xg_getI (x := (m19 3 0 3)) dX0_tryAllSayings_141 fl_X0_94 rfl rfl ?_
        obtain ⟨z23, m22, e21, h⟩ := bd2_some h
        refine xc_Vi0 (st := [vI ((x3 * 12) + x4), vR 44 0]) (ok_X6_goesOn 1 (m19 3 0 3) m19 e21) dX0_tryAllSayings_144 cv_X0_60 rfl rfl (Nat.le_of_ble_eq_true rfl) (by decide) (by decide) (by decide) (by decide) ?_
        by_cases c24 : inb ((x3 * 12) + x4) 144 = true
        case neg => rw [if_neg c24] at h; cases h
        rw [if_pos c24] at h
        refine xg_iast (n := ((x3 * 12) + x4).toNatClampNeg) dX0_tryAllSayings_147 rfl (by decide) (inb_in c24) rfl ?_
        exact ok_X0_tryAllSayings_j148_c40 x3 x4 (wr m22 44 0 (((x3 * 12) + x4).toNatClampNeg) z23) h kb ke
noncomputable def r_X0_tryAllSayings_e154_h40_c26 (x3 : Int32) (m : Mem) : Option ((Int32 × Mem) ⊕ (Mem)) :=
  some (Sum.inl (x3 + 1, m))
set_option maxHeartbeats 4000000 in
set_option maxRecDepth 20000 in
theorem ok_X0_tryAllSayings_e154_h40_c26 (x3 : Int32) (m : Mem) {r : (Int32 × Mem) ⊕ (Mem)} (h : r_X0_tryAllSayings_e154_h40_c26 x3 m = some r) {o : Ou} {M' : Mem} (kb : ∀ (x3' : Int32) (m'' : Mem), r = Sum.inl (x3', m'') → Xj RX0 cX0_tryAllSayings 5 none 4 109 0 0 0 0 26 [(0, vR 0 0), (3, vI x3')] [] m'' o M') (ke : ∀ (m'' : Mem), r = Sum.inr m'' → Xj RX0 cX0_tryAllSayings 5 none 4 109 0 0 0 0 160 [] [] m'' o M') : Xj RX0 cX0_tryAllSayings 5 none 4 109 0 0 0 0 154 [(0, vR 0 0), (3, vI x3)] [] m o M' := by
  unfold r_X0_tryAllSayings_e154_h40_c26 at h
  refine xj_iinc (z := x3 + 1) (ls' := [(3, vI (x3 + 1)), (0, vR 0 0)]) 1 dX0_tryAllSayings_154 rfl rfl (by decide) rfl ?_
  refine xj_goto (tgt := 26) dX0_tryAllSayings_157 (by decide) ?_
  cases h
  refine xj_pick (ls' := [(0, vR 0 0), (3, vI (x3 + 1))]) [1, 0] rfl ?_
  exact kb (x3 + 1) m rfl
noncomputable def r_X0_tryAllSayings_l40_c26 (x3 : Int32) (x4 : Int32) (m : Mem) : Option ((Int32 × Mem) ⊕ (Mem)) :=
  bd1 (loopO (fun s => r_X0_tryAllSayings_b40_c26 x3 s.1 s.2) (x4, m)) (fun e => r_X0_tryAllSayings_e154_h40_c26 x3 e)
set_option maxHeartbeats 4000000 in
set_option maxRecDepth 20000 in
theorem ok_X0_tryAllSayings_l40_c26 (x3 : Int32) (x4 : Int32) (m : Mem) {r : (Int32 × Mem) ⊕ (Mem)} (h : r_X0_tryAllSayings_l40_c26 x3 x4 m = some r) {o : Ou} {M' : Mem} (kb : ∀ (x3' : Int32) (m'' : Mem), r = Sum.inl (x3', m'') → Xj RX0 cX0_tryAllSayings 5 none 4 109 0 0 0 0 26 [(0, vR 0 0), (3, vI x3')] [] m'' o M') (ke : ∀ (m'' : Mem), r = Sum.inr m'' → Xj RX0 cX0_tryAllSayings 5 none 4 109 0 0 0 0 160 [] [] m'' o M') : Xj RX0 cX0_tryAllSayings 5 none 4 109 0 0 0 0 40 [(0, vR 0 0), (3, vI x3), (4, vI x4)] [] m o M' := by
  unfold r_X0_tryAllSayings_l40_c26 at h
  obtain ⟨e, e1, h⟩ := bd1_some h
  refine loopO_ok (P := fun s : (Int32 × Mem) => Xj RX0 cX0_tryAllSayings 5 none 4 109 0 0 0 0 40 [(0, vR 0 0), (3, vI x3), (4, vI s.1)] [] s.2 o M') (Q := fun e : (Mem) => Xj RX0 cX0_tryAllSayings 5 none 4 109 0 0 0 0 154 [(0, vR 0 0), (3, vI x3)] [] e o M') ?_ _ _ e1 ?_
  · intro s r9 h9 hi hx
    exact ok_X0_tryAllSayings_b40_c26 x3 s.1 s.2 h9 (by rintro _ _ rfl; exact hi _ rfl) (by rintro _ rfl; exact hx _ rfl)
  · exact ok_X0_tryAllSayings_e154_h40_c26 x3 e h kb ke
noncomputable def r_X0_tryAllSayings_b26 (x3 : Int32) (m : Mem) : Option ((Int32 × Mem) ⊕ (Mem)) :=
  if (m 3 0 0) ≤ x3 then (some (Sum.inr m)) else (r_X0_tryAllSayings_l40_c26 x3 0 m)
set_option maxHeartbeats 4000000 in
set_option maxRecDepth 20000 in
theorem ok_X0_tryAllSayings_b26 (x3 : Int32) (m : Mem) {r : (Int32 × Mem) ⊕ (Mem)} (h : r_X0_tryAllSayings_b26 x3 m = some r) {o : Ou} {M' : Mem} (kb : ∀ (x3' : Int32) (m'' : Mem), r = Sum.inl (x3', m'') → Xj RX0 cX0_tryAllSayings 5 none 4 109 0 0 0 0 26 [(0, vR 0 0), (3, vI x3')] [] m'' o M') (ke : ∀ (m'' : Mem), r = Sum.inr m'' → Xj RX0 cX0_tryAllSayings 5 none 4 109 0 0 0 0 160 [] [] m'' o M') : Xj RX0 cX0_tryAllSayings 5 none 4 109 0 0 0 0 26 [(0, vR 0 0), (3, vI x3)] [] m o M' := by
  unfold r_X0_tryAllSayings_b26 at h
  refine xj_iload_n 1 dX0_tryAllSayings_26 rfl ?_
  refine xj_aload_n 0 dX0_tryAllSayings_27 rfl ?_
  refine xg_getR (k' := 3) (i' := 0) dX0_tryAllSayings_28 fl_X0_28 rfl ?_
  refine xg_getI (x := (m 3 0 0)) dX0_tryAllSayings_31 fl_X0_54 rfl rfl ?_
  refine xj_icmp_ge (tgt := 160) dX0_tryAllSayings_34 (by decide) (fun c7 => ?_) (fun c7 => ?_)
  · rw [if_pos c7] at h
    cases h
    refine xj_pick (ls' := []) [] rfl ?_
    exact ke m rfl
  · rw [if_neg c7] at h
    refine xj_iconst (z := 0) dX0_tryAllSayings_37 (by decide) ?_
    refine xj_istore (ls' := [(4, vI 0), (0, vR 0 0), (3, vI x3)]) dX0_tryAllSayings_38 (by decide) rfl ?_
    refine xj_pick (ls' := [(0, vR 0 0), (3, vI x3), (4, vI 0)]) [1, 2, 0] rfl ?_
    exact ok_X0_tryAllSayings_l40_c26 x3 0 m h kb ke
noncomputable def r_X0_tryAllSayings_e160_h26 (m : Mem) : Option Mem :=
  some m
set_option maxHeartbeats 4000000 in
set_option maxRecDepth 20000 in
theorem ok_X0_tryAllSayings_e160_h26 (m : Mem) {m' : Mem} (h : r_X0_tryAllSayings_e160_h26 m = some m') : Xj RX0 cX0_tryAllSayings 5 none 4 109 0 0 0 0 160 [] [] m oV m' := by
  unfold r_X0_tryAllSayings_e160_h26 at h
  cases h
  exact xj_return dX0_tryAllSayings_160 (by decide) (by decide)
noncomputable def r_X0_tryAllSayings_l26 (x3 : Int32) (m : Mem) : Option Mem :=
  bd1 (loopO (fun s => r_X0_tryAllSayings_b26 s.1 s.2) (x3, m)) (fun e => r_X0_tryAllSayings_e160_h26 e)
set_option maxHeartbeats 4000000 in
set_option maxRecDepth 20000 in
theorem ok_X0_tryAllSayings_l26 (x3 : Int32) (m : Mem) {m' : Mem} (h : r_X0_tryAllSayings_l26 x3 m = some m') : Xj RX0 cX0_tryAllSayings 5 none 4 109 0 0 0 0 26 [(0, vR 0 0), (3, vI x3)] [] m oV m' := by
  unfold r_X0_tryAllSayings_l26 at h
  obtain ⟨e, e1, h⟩ := bd1_some h
  refine loopO_ok (P := fun s : (Int32 × Mem) => Xj RX0 cX0_tryAllSayings 5 none 4 109 0 0 0 0 26 [(0, vR 0 0), (3, vI s.1)] [] s.2 oV m') (Q := fun e : (Mem) => Xj RX0 cX0_tryAllSayings 5 none 4 109 0 0 0 0 160 [] [] e oV m') ?_ _ _ e1 ?_
  · intro s r9 h9 hi hx
    exact ok_X0_tryAllSayings_b26 s.1 s.2 h9 (by rintro _ _ rfl; exact hi _ rfl) (by rintro _ rfl; exact hx _ rfl)
  · exact ok_X0_tryAllSayings_e160_h26 e h 
noncomputable def r_X0_tryAllSayings (i1 : Nat) (x2 : Int32) (m : Mem) : Option Mem :=
  bd1 (r_X7_copyFrom 1 i1 m) fun m2 => (bd1 (r_X7_addLeader 1 x2 m2) fun m4 => (bd1 (r_X7_addLeader 1 x2 m4) fun m6 => (r_X0_tryAllSayings_l26 0 m6)))
set_option maxHeartbeats 4000000 in
set_option maxRecDepth 20000 in
theorem ok_X0_tryAllSayings (i1 : Nat) (x2 : Int32) (m : Mem) {m' : Mem} (h : r_X0_tryAllSayings i1 x2 m = some m') : Mt yX0_tryAllSayings cX0_tryAllSayings 5 none 4 109 0 0 [vR 0 0, vR 7 i1, vI x2] m oV m' := by
  refine Mt.of (by decide) (Nat.le_of_ble_eq_true rfl) (by decide +kernel) (hhF_ne (by decide)) ?_
  show Xj RX0 cX0_tryAllSayings 5 none 4 109 0 0 0 0 0 [(0, vR 0 0), (1, vR 7 i1), (2, vI x2)] [] m oV m'
  unfold r_X0_tryAllSayings at h
  refine xj_aload_n 0 dX0_tryAllSayings_0 rfl ?_
  refine xg_getR (k' := 7) (i' := 1) dX0_tryAllSayings_1 fl_X0_12 rfl ?_
  refine xj_aload_n 1 dX0_tryAllSayings_4 rfl ?_
  obtain ⟨m2, e1, h⟩ := bd1_some h
  refine xc_Vv0 (st := []) (ok_X7_copyFrom 1 i1 m e1) dX0_tryAllSayings_5 cv_X0_36 rfl rfl (Nat.le_of_ble_eq_true rfl) (by decide) (by decide) (by decide) (by decide) ?_
  refine xj_aload_n 0 dX0_tryAllSayings_8 rfl ?_
  refine xg_getR (k' := 7) (i' := 1) dX0_tryAllSayings_9 fl_X0_12 rfl ?_
  refine xj_iload_n 2 dX0_tryAllSayings_12 rfl ?_
  obtain ⟨m4, e3, h⟩ := bd1_some h
  refine xc_Vv0 (st := []) (ok_X7_addLeader 1 x2 m2 e3) dX0_tryAllSayings_13 cv_X0_178 rfl rfl (Nat.le_of_ble_eq_true rfl) (by decide) (by decide) (by decide) (by decide) ?_
  refine xj_aload_n 0 dX0_tryAllSayings_16 rfl ?_
  refine xg_getR (k' := 7) (i' := 1) dX0_tryAllSayings_17 fl_X0_12 rfl ?_
  refine xj_iload_n 2 dX0_tryAllSayings_20 rfl ?_
  obtain ⟨m6, e5, h⟩ := bd1_some h
  refine xc_Vv0 (st := []) (ok_X7_addLeader 1 x2 m4 e5) dX0_tryAllSayings_21 cv_X0_178 rfl rfl (Nat.le_of_ble_eq_true rfl) (by decide) (by decide) (by decide) (by decide) ?_
  refine xj_iconst (z := 0) dX0_tryAllSayings_24 (by decide) ?_
  refine xj_istore_n (ls' := [(3, vI 0), (0, vR 0 0), (1, vR 7 i1), (2, vI x2)]) dX0_tryAllSayings_25 rfl (by decide) rfl ?_
  refine xj_pick (ls' := [(0, vR 0 0), (3, vI 0)]) [1, 0] rfl ?_
  exact ok_X0_tryAllSayings_l26 0 m6 h 
noncomputable def r_X0_gain_j24 (x1 : Int32) (x2 : Int32) (s0 : Int32) (s1 : Int32) (m : Mem) : Option Int32 :=
  if s1 = s0 then (if x1 = x2 then (some 1) else (some 2)) else (some 0)
set_option maxHeartbeats 4000000 in
set_option maxRecDepth 20000 in
theorem ok_X0_gain_j24 (x1 : Int32) (x2 : Int32) (s0 : Int32) (s1 : Int32) (m : Mem) {z : Int32} (h : r_X0_gain_j24 x1 x2 s0 s1 m = some z) : Xj RX0 cX0_gain 5 (some .int) 1 0 0 0 0 0 24 [(1, vI x1), (2, vI x2)] [vI s0, vI s1] m (oI z) m := by
  unfold r_X0_gain_j24 at h
  refine xj_icmp_eq (tgt := 29) dX0_gain_24 (by decide) (fun c3 => ?_) (fun c3 => ?_)
  · rw [if_pos c3] at h
    refine xj_iload_n 0 dX0_gain_29 rfl ?_
    refine xj_iload_n 1 dX0_gain_30 rfl ?_
    refine xj_icmp_ne (tgt := 38) dX0_gain_31 (by decide) (fun c4 => ?_) (fun c4 => ?_)
    · rw [if_neg c4] at h
      refine xj_iconst (z := 2) dX0_gain_38 (by decide) ?_
      cases h
      exact xj_ireturn dX0_gain_39 rfl (by decide) (by decide)
    · rw [if_pos c4] at h
      refine xj_iconst (z := 1) dX0_gain_34 (by decide) ?_
      refine xj_goto (tgt := 39) dX0_gain_35 (by decide) ?_
      cases h
      exact xj_ireturn dX0_gain_39 rfl (by decide) (by decide)
  · rw [if_neg c3] at h
    refine xj_iconst (z := 0) dX0_gain_27 (by decide) ?_
    cases h
    exact xj_ireturn dX0_gain_28 rfl (by decide) (by decide)
noncomputable def r_X0_gain (x1 : Int32) (x2 : Int32) (x3 : Int32) (m : Mem) : Option Int32 :=
  if inb ((x1 * 12) + x2) 144 = true then (if x3 = 0 then (r_X0_gain_j24 x1 x2 x2 (m 44 0 (((x1 * 12) + x2).toNatClampNeg)) m) else (r_X0_gain_j24 x1 x2 x1 (m 44 0 (((x1 * 12) + x2).toNatClampNeg)) m)) else none
set_option maxHeartbeats 4000000 in
set_option maxRecDepth 20000 in
theorem ok_X0_gain (x1 : Int32) (x2 : Int32) (x3 : Int32) (m : Mem) {z : Int32} (h : r_X0_gain x1 x2 x3 m = some z) : Mt yX0_gain cX0_gain 5 (some .int) 1 0 0 0 [vR 0 0, vI x1, vI x2, vI x3] m (oI z) m := by
  refine Mt.of (by decide) (Nat.le_of_ble_eq_true rfl) (by decide +kernel) (hhF_ne (by decide)) ?_
  show Xj RX0 cX0_gain 5 (some .int) 1 0 0 0 0 0 0 [(0, vR 0 0), (1, vI x1), (2, vI x2), (3, vI x3)] [] m (oI z) m
  unfold r_X0_gain at h
  refine xj_aload_n 0 dX0_gain_0 rfl ?_
  refine xg_getR (k' := 44) (i' := 0) dX0_gain_1 fl_X0_22 rfl ?_
  refine xj_iload_n 1 dX0_gain_4 rfl ?_
  refine xj_bipush (z := 12) dX0_gain_5 (by decide) ?_
  refine xj_imul dX0_gain_7 ?_
  refine xj_iload_n 2 dX0_gain_8 rfl ?_
  refine xj_iadd dX0_gain_9 ?_
  by_cases c1 : inb ((x1 * 12) + x2) 144 = true
  case neg => rw [if_neg c1] at h; cases h
  rw [if_pos c1] at h
  refine xg_iald (z := (m 44 0 (((x1 * 12) + x2).toNatClampNeg))) (n := ((x1 * 12) + x2).toNatClampNeg) dX0_gain_10 rfl (by decide) (inb_in c1) rfl rfl ?_
  refine xj_istore (ls' := [(4, vI (m 44 0 (((x1 * 12) + x2).toNatClampNeg))), (0, vR 0 0), (1, vI x1), (2, vI x2), (3, vI x3)]) dX0_gain_11 (by decide) rfl ?_
  refine xj_iload 0 dX0_gain_13 rfl ?_
  refine xj_iload_n 4 dX0_gain_15 rfl ?_
  refine xj_if_eq (tgt := 23) dX0_gain_16 (by decide) (fun c2 => ?_) (fun c2 => ?_)
  · rw [if_pos c2] at h
    refine xj_iload_n 3 dX0_gain_23 rfl ?_
    refine xj_pick (ls' := [(1, vI x1), (2, vI x2)]) [2, 3] rfl ?_
    exact ok_X0_gain_j24 x1 x2 x2 (m 44 0 (((x1 * 12) + x2).toNatClampNeg)) m h 
  · rw [if_neg c2] at h
    refine xj_iload_n 2 dX0_gain_19 rfl ?_
    refine xj_goto (tgt := 24) dX0_gain_20 (by decide) ?_
    refine xj_pick (ls' := [(1, vI x1), (2, vI x2)]) [2, 3] rfl ?_
    exact ok_X0_gain_j24 x1 x2 x1 (m 44 0 (((x1 * 12) + x2).toNatClampNeg)) m h 
noncomputable def r_X0_isRest_j68_c20 (x1 : Int32) (x2 : Int32) (x3 : Int32) (x4 : Int32) (x5 : Int32) (m : Mem) : Option ((Int32) ⊕ (Unit ⊕ Bool)) :=
  some (Sum.inl (x5 + 1))
set_option maxHeartbeats 4000000 in
set_option maxRecDepth 20000 in
theorem ok_X0_isRest_j68_c20 (x1 : Int32) (x2 : Int32) (x3 : Int32) (x4 : Int32) (x5 : Int32) (m : Mem) {r : (Int32) ⊕ (Unit ⊕ Bool)} (h : r_X0_isRest_j68_c20 x1 x2 x3 x4 x5 m = some r) {o : Ou} {M' : Mem} (kb : ∀ (x5' : Int32), r = Sum.inl x5' → Xj RX0 cX0_isRest 6 (some .boolean) 2 24 0 0 0 0 20 [(0, vR 0 0), (1, vI x1), (2, vI x2), (3, vI x3), (4, vI x4), (5, vI x5')] [] m o M') (ke : r = Sum.inr (Sum.inl ()) → Xj RX0 cX0_isRest 6 (some .boolean) 2 24 0 0 0 0 74 [] [] m o M') (kr : ∀ (z : Bool), r = Sum.inr (Sum.inr z) → o = (oB z) ∧ M' = m) : Xj RX0 cX0_isRest 6 (some .boolean) 2 24 0 0 0 0 68 [(0, vR 0 0), (1, vI x1), (2, vI x2), (3, vI x3), (4, vI x4), (5, vI x5)] [] m o M' := by
  unfold r_X0_isRest_j68_c20 at h
  refine xj_iinc (z := x5 + 1) (ls' := [(5, vI (x5 + 1)), (0, vR 0 0), (1, vI x1), (2, vI x2), (3, vI x3), (4, vI x4)]) 5 dX0_isRest_68 rfl rfl (by decide) rfl ?_
  refine xj_goto (tgt := 20) dX0_isRest_71 (by decide) ?_
  cases h
  refine xj_pick (ls' := [(0, vR 0 0), (1, vI x1), (2, vI x2), (3, vI x3), (4, vI x4), (5, vI (x5 + 1))]) [1, 2, 3, 4, 5, 0] rfl ?_
  exact kb (x5 + 1) rfl
noncomputable def r_X0_isRest_b20 (x1 : Int32) (x2 : Int32) (x3 : Int32) (x4 : Int32) (m : Mem) (x5 : Int32) : Option ((Int32) ⊕ (Unit ⊕ Bool)) :=
  if (m 3 0 0) ≤ x5 then (some (Sum.inr (Sum.inl ()))) else (bd1 (r_X0_isSaid x5 m) fun z7 => (if z7 = true then (bd1 (r_X0_gain x5 x2 1 m) fun z10 => (if x3 < z10 then (some (Sum.inr (Sum.inr false))) else (bd1 (r_X0_gain x1 x5 0 m) fun z13 => (if z13 ≤ x4 then (r_X0_isRest_j68_c20 x1 x2 x3 x4 x5 m) else (some (Sum.inr (Sum.inr false))))))) else (r_X0_isRest_j68_c20 x1 x2 x3 x4 x5 m)))
set_option maxHeartbeats 4000000 in
set_option maxRecDepth 20000 in
theorem ok_X0_isRest_b20 (x1 : Int32) (x2 : Int32) (x3 : Int32) (x4 : Int32) (m : Mem) (x5 : Int32) {r : (Int32) ⊕ (Unit ⊕ Bool)} (h : r_X0_isRest_b20 x1 x2 x3 x4 m x5 = some r) {o : Ou} {M' : Mem} (kb : ∀ (x5' : Int32), r = Sum.inl x5' → Xj RX0 cX0_isRest 6 (some .boolean) 2 24 0 0 0 0 20 [(0, vR 0 0), (1, vI x1), (2, vI x2), (3, vI x3), (4, vI x4), (5, vI x5')] [] m o M') (ke : r = Sum.inr (Sum.inl ()) → Xj RX0 cX0_isRest 6 (some .boolean) 2 24 0 0 0 0 74 [] [] m o M') (kr : ∀ (z : Bool), r = Sum.inr (Sum.inr z) → o = (oB z) ∧ M' = m) : Xj RX0 cX0_isRest 6 (some .boolean) 2 24 0 0 0 0 20 [(0, vR 0 0), (1, vI x1), (2, vI x2), (3, vI x3), (4, vI x4), (5, vI x5)] [] m o M' := by
  unfold r_X0_isRest_b20 at h
  refine xj_iload 5 dX0_isRest_20 rfl ?_
  refine xj_aload_n 0 dX0_isRest_22 rfl ?_
  refine xg_getR (k' := 3) (i' := 0) dX0_isRest_23 fl_X0_28 rfl ?_
  refine xg_getI (x := (m 3 0 0)) dX0_isRest_26 fl_X0_54 rfl rfl ?_
  refine xj_icmp_ge (tgt := 74) dX0_isRest_29 (by decide) (fun c5 => ?_) (fun c5 => ?_)
  · rw [if_pos c5] at h
    cases h
    refine xj_pick (ls' := []) [] rfl ?_
    exact ke  rfl
  · rw [if_neg c5] at h
    refine xj_aload_n 0 dX0_isRest_32 rfl ?_
    refine xj_iload 5 dX0_isRest_33 rfl ?_
    obtain ⟨z7, e6, h⟩ := bd1_some h
    refine xc_Vb0 (st := []) (ok_X0_isSaid x5 m e6) dX0_isRest_35 cv_X0_168 rfl rfl (Nat.le_of_ble_eq_true rfl) (by decide) (by decide) (by decide) (by decide) ?_
    refine xj_if_eq (tgt := 68) dX0_isRest_38 (by decide) (fun c8 => ?_) (fun c8 => ?_)
    · rw [if_neg (b2i_f c8)] at h
      exact ok_X0_isRest_j68_c20 x1 x2 x3 x4 x5 m h kb ke kr
    · rw [if_pos (b2i_t c8)] at h
      refine xj_aload_n 0 dX0_isRest_41 rfl ?_
      refine xj_iload 5 dX0_isRest_42 rfl ?_
      refine xj_iload_n 2 dX0_isRest_44 rfl ?_
      refine xj_iconst (z := 1) dX0_isRest_45 (by decide) ?_
      obtain ⟨z10, e9, h⟩ := bd1_some h
      refine xc_Vi0 (st := []) (ok_X0_gain x5 x2 1 m e9) dX0_isRest_46 cv_X0_174 rfl rfl (Nat.le_of_ble_eq_true rfl) (by decide) (by decide) (by decide) (by decide) ?_
      refine xj_iload_n 3 dX0_isRest_49 rfl ?_
      refine xj_icmp_gt (tgt := 66) dX0_isRest_50 (by decide) (fun c11 => ?_) (fun c11 => ?_)
      · rw [if_pos c11] at h
        refine xj_iconst (z := 0) dX0_isRest_66 (by decide) ?_
        cases h
        obtain ⟨rfl, rfl⟩ := kr _ rfl
        exact xj_ireturn dX0_isRest_67 rfl (by decide) (by decide)
      · rw [if_neg c11] at h
        refine xj_aload_n 0 dX0_isRest_53 rfl ?_
        refine xj_iload_n 1 dX0_isRest_54 rfl ?_
        refine xj_iload 5 dX0_isRest_55 rfl ?_
        refine xj_iconst (z := 0) dX0_isRest_57 (by decide) ?_
        obtain ⟨z13, e12, h⟩ := bd1_some h
        refine xc_Vi0 (st := []) (ok_X0_gain x1 x5 0 m e12) dX0_isRest_58 cv_X0_174 rfl rfl (Nat.le_of_ble_eq_true rfl) (by decide) (by decide) (by decide) (by decide) ?_
        refine xj_iload 4 dX0_isRest_61 rfl ?_
        refine xj_icmp_le (tgt := 68) dX0_isRest_63 (by decide) (fun c14 => ?_) (fun c14 => ?_)
        · rw [if_pos c14] at h
          exact ok_X0_isRest_j68_c20 x1 x2 x3 x4 x5 m h kb ke kr
        · rw [if_neg c14] at h
          refine xj_iconst (z := 0) dX0_isRest_66 (by decide) ?_
          cases h
          obtain ⟨rfl, rfl⟩ := kr _ rfl
          exact xj_ireturn dX0_isRest_67 rfl (by decide) (by decide)
noncomputable def r_X0_isRest_e74_h20 (m : Mem) : Option Bool :=
  some true
set_option maxHeartbeats 4000000 in
set_option maxRecDepth 20000 in
theorem ok_X0_isRest_e74_h20 (m : Mem) {z : Bool} (h : r_X0_isRest_e74_h20 m = some z) : Xj RX0 cX0_isRest 6 (some .boolean) 2 24 0 0 0 0 74 [] [] m (oB z) m := by
  unfold r_X0_isRest_e74_h20 at h
  refine xj_iconst (z := 1) dX0_isRest_74 (by decide) ?_
  cases h
  exact xj_ireturn dX0_isRest_75 rfl (by decide) (by decide)
noncomputable def r_X0_isRest_l20 (x1 : Int32) (x2 : Int32) (x3 : Int32) (x4 : Int32) (x5 : Int32) (m : Mem) : Option Bool :=
  bdS (loopO (fun s => r_X0_isRest_b20 x1 x2 x3 x4 m s) x5) (fun e => r_X0_isRest_e74_h20 m) (fun q => some q)
set_option maxHeartbeats 4000000 in
set_option maxRecDepth 20000 in
theorem ok_X0_isRest_l20 (x1 : Int32) (x2 : Int32) (x3 : Int32) (x4 : Int32) (x5 : Int32) (m : Mem) {z : Bool} (h : r_X0_isRest_l20 x1 x2 x3 x4 x5 m = some z) : Xj RX0 cX0_isRest 6 (some .boolean) 2 24 0 0 0 0 20 [(0, vR 0 0), (1, vI x1), (2, vI x2), (3, vI x3), (4, vI x4), (5, vI x5)] [] m (oB z) m := by
  unfold r_X0_isRest_l20 at h
  rcases bdS_some h with ⟨e, e1, h⟩ | ⟨q, e1, h⟩
  · refine loopO_ok (P := fun s : (Int32) => Xj RX0 cX0_isRest 6 (some .boolean) 2 24 0 0 0 0 20 [(0, vR 0 0), (1, vI x1), (2, vI x2), (3, vI x3), (4, vI x4), (5, vI s)] [] m (oB z) m) (Q := Sum.elim (fun e : Unit => Xj RX0 cX0_isRest 6 (some .boolean) 2 24 0 0 0 0 74 [] [] m (oB z) m) (fun q : Bool => (oB z) = (oB q) ∧ m = m)) ?_ _ _ e1 ?_
    · intro s r9 h9 hi hx
      exact ok_X0_isRest_b20 x1 x2 x3 x4 m s h9 (by rintro _ rfl; exact hi _ rfl) (by rintro rfl; exact hx _ rfl) (by rintro _ rfl; exact hx _ rfl)
    · exact ok_X0_isRest_e74_h20 m h 
  · refine loopO_ok (P := fun s : (Int32) => Xj RX0 cX0_isRest 6 (some .boolean) 2 24 0 0 0 0 20 [(0, vR 0 0), (1, vI x1), (2, vI x2), (3, vI x3), (4, vI x4), (5, vI s)] [] m (oB z) m) (Q := Sum.elim (fun e : Unit => Xj RX0 cX0_isRest 6 (some .boolean) 2 24 0 0 0 0 74 [] [] m (oB z) m) (fun q : Bool => (oB z) = (oB q) ∧ m = m)) ?_ _ _ e1 ?_
    · intro s r9 h9 hi hx
      exact ok_X0_isRest_b20 x1 x2 x3 x4 m s h9 (by rintro _ rfl; exact hi _ rfl) (by rintro rfl; exact hx _ rfl) (by rintro _ rfl; exact hx _ rfl)
    · cases h; exact ⟨rfl, rfl⟩
noncomputable def r_X0_isRest (x1 : Int32) (x2 : Int32) (m : Mem) : Option Bool :=
  bd1 (r_X0_gain x1 x2 1 m) fun z2 => (bd1 (r_X0_gain x1 x2 0 m) fun z4 => (r_X0_isRest_l20 x1 x2 z2 z4 0 m))
set_option maxHeartbeats 4000000 in
set_option maxRecDepth 20000 in
theorem ok_X0_isRest (x1 : Int32) (x2 : Int32) (m : Mem) {z : Bool} (h : r_X0_isRest x1 x2 m = some z) : Mt yX0_isRest cX0_isRest 6 (some .boolean) 2 24 0 0 [vR 0 0, vI x1, vI x2] m (oB z) m := by
  refine Mt.of (by decide) (Nat.le_of_ble_eq_true rfl) (by decide +kernel) (hhF_ne (by decide)) ?_
  show Xj RX0 cX0_isRest 6 (some .boolean) 2 24 0 0 0 0 0 [(0, vR 0 0), (1, vI x1), (2, vI x2)] [] m (oB z) m
  unfold r_X0_isRest at h
  refine xj_aload_n 0 dX0_isRest_0 rfl ?_
  refine xj_iload_n 1 dX0_isRest_1 rfl ?_
  refine xj_iload_n 2 dX0_isRest_2 rfl ?_
  refine xj_iconst (z := 1) dX0_isRest_3 (by decide) ?_
  obtain ⟨z2, e1, h⟩ := bd1_some h
  refine xc_Vi0 (st := []) (ok_X0_gain x1 x2 1 m e1) dX0_isRest_4 cv_X0_174 rfl rfl (Nat.le_of_ble_eq_true rfl) (by decide) (by decide) (by decide) (by decide) ?_
  refine xj_istore_n (ls' := [(3, vI z2), (0, vR 0 0), (1, vI x1), (2, vI x2)]) dX0_isRest_7 rfl (by decide) rfl ?_
  refine xj_aload_n 1 dX0_isRest_8 rfl ?_
  refine xj_iload_n 2 dX0_isRest_9 rfl ?_
  refine xj_iload_n 3 dX0_isRest_10 rfl ?_
  refine xj_iconst (z := 0) dX0_isRest_11 (by decide) ?_
  obtain ⟨z4, e3, h⟩ := bd1_some h
  refine xc_Vi0 (st := []) (ok_X0_gain x1 x2 0 m e3) dX0_isRest_12 cv_X0_174 rfl rfl (Nat.le_of_ble_eq_true rfl) (by decide) (by decide) (by decide) (by decide) ?_
  refine xj_istore (ls' := [(4, vI z4), (3, vI z2), (0, vR 0 0), (1, vI x1), (2, vI x2)]) dX0_isRest_15 (by decide) rfl ?_
  refine xj_iconst (z := 0) dX0_isRest_17 (by decide) ?_
  refine xj_istore (ls' := [(5, vI 0), (4, vI z4), (3, vI z2), (0, vR 0 0), (1, vI x1), (2, vI x2)]) dX0_isRest_18 (by decide) rfl ?_
  refine xj_pick (ls' := [(0, vR 0 0), (1, vI x1), (2, vI x2), (3, vI z2), (4, vI z4), (5, vI 0)]) [3, 4, 5, 2, 1, 0] rfl ?_
  exact ok_X0_isRest_l20 x1 x2 z2 z4 0 m h 
noncomputable def r_X0_findRests_j125_c37 (x3 : Int32) (x4 : Int32) (m : Mem) : Option ((Int32 × Mem) ⊕ (Mem)) :=
  some (Sum.inl (x4 + 1, m))
set_option maxHeartbeats 4000000 in
set_option maxRecDepth 20000 in
theorem ok_X0_findRests_j125_c37 (x3 : Int32) (x4 : Int32) (m : Mem) {r : (Int32 × Mem) ⊕ (Mem)} (h : r_X0_findRests_j125_c37 x3 x4 m = some r) {o : Ou} {M' : Mem} (kb : ∀ (x4' : Int32) (m'' : Mem), r = Sum.inl (x4', m'') → Xj RX0 cX0_findRests 5 none 5 133 0 0 0 0 37 [(0, vR 0 0), (3, vI x3), (4, vI x4')] [] m'' o M') (ke : ∀ (m'' : Mem), r = Sum.inr m'' → Xj RX0 cX0_findRests 5 none 5 133 0 0 0 0 131 [(0, vR 0 0), (3, vI x3)] [] m'' o M') : Xj RX0 cX0_findRests 5 none 5 133 0 0 0 0 125 [(0, vR 0 0), (3, vI x3), (4, vI x4)] [] m o M' := by
  unfold r_X0_findRests_j125_c37 at h
  refine xj_iinc (z := x4 + 1) (ls' := [(4, vI (x4 + 1)), (0, vR 0 0), (3, vI x3)]) 2 dX0_findRests_125 rfl rfl (by decide) rfl ?_
  refine xj_goto (tgt := 37) dX0_findRests_128 (by decide) ?_
  cases h
  refine xj_pick (ls' := [(0, vR 0 0), (3, vI x3), (4, vI (x4 + 1))]) [1, 2, 0] rfl ?_
  exact kb (x4 + 1) m rfl
noncomputable def r_X0_findRests_j115_c37 (x3 : Int32) (x4 : Int32) (m : Mem) : Option ((Int32 × Mem) ⊕ (Mem)) :=
  r_X0_findRests_j125_c37 x3 x4 (wr m 0 0 7 ((m 0 0 7) + 1))
set_option maxHeartbeats 4000000 in
set_option maxRecDepth 20000 in
theorem ok_X0_findRests_j115_c37 (x3 : Int32) (x4 : Int32) (m : Mem) {r : (Int32 × Mem) ⊕ (Mem)} (h : r_X0_findRests_j115_c37 x3 x4 m = some r) {o : Ou} {M' : Mem} (kb : ∀ (x4' : Int32) (m'' : Mem), r = Sum.inl (x4', m'') → Xj RX0 cX0_findRests 5 none 5 133 0 0 0 0 37 [(0, vR 0 0), (3, vI x3), (4, vI x4')] [] m'' o M') (ke : ∀ (m'' : Mem), r = Sum.inr m'' → Xj RX0 cX0_findRests 5 none 5 133 0 0 0 0 131 [(0, vR 0 0), (3, vI x3)] [] m'' o M') : Xj RX0 cX0_findRests 5 none 5 133 0 0 0 0 115 [(0, vR 0 0), (3, vI x3), (4, vI x4)] [] m o M' := by
  unfold r_X0_findRests_j115_c37 at h
  refine xj_aload_n 0 dX0_findRests_115 rfl ?_
  refine xj_dup dX0_findRests_116 rfl ?_
  refine xg_getI (x := (m 0 0 7)) dX0_findRests_117 fl_X0_156 rfl rfl ?_
  refine xj_iconst (z := 1) dX0_findRests_120 (by decide) ?_
  refine xj_iadd dX0_findRests_121 ?_
  refine xj_putI dX0_findRests_122 fw_X0_156 rfl ?_
  exact ok_X0_findRests_j125_c37 x3 x4 (wr m 0 0 7 ((m 0 0 7) + 1)) h kb ke
noncomputable def r_X0_findRests_b37_c23 (x3 : Int32) (x4 : Int32) (m : Mem) : Option ((Int32 × Mem) ⊕ (Mem)) :=
  if (m 3 0 0) ≤ x4 then (some (Sum.inr m)) else (bd1 (r_X0_isSaid x3 m) fun z6 => (if z6 = true then (bd1 (r_X0_isSaid x4 m) fun z9 => (if z9 = true then (bd1 (r_X0_isRest x3 x4 m) fun z12 => (if z12 = true then (if (m 0 0 7) = 0 then (bd1 (r_X0_gain x3 x4 1 (wr m 0 0 8 ((100 * x3) + x4))) fun z16 => (bd1 (r_X0_gain x3 x4 0 (wr m 0 0 8 ((100 * x3) + x4))) fun z18 => (r_X0_findRests_j115_c37 x3 x4 (wr (wr m 0 0 8 ((100 * x3) + x4)) 0 0 9 (z16 + z18))))) else (r_X0_findRests_j115_c37 x3 x4 m)) else (r_X0_findRests_j125_c37 x3 x4 m))) else (r_X0_findRests_j125_c37 x3 x4 m))) else (r_X0_findRests_j125_c37 x3 x4 m)))
set_option maxHeartbeats 4000000 in
set_option maxRecDepth 20000 in
theorem ok_X0_findRests_b37_c23 (x3 : Int32) (x4 : Int32) (m : Mem) {r : (Int32 × Mem) ⊕ (Mem)} (h : r_X0_findRests_b37_c23 x3 x4 m = some r) {o : Ou} {M' : Mem} (kb : ∀ (x4' : Int32) (m'' : Mem), r = Sum.inl (x4', m'') → Xj RX0 cX0_findRests 5 none 5 133 0 0 0 0 37 [(0, vR 0 0), (3, vI x3), (4, vI x4')] [] m'' o M') (ke : ∀ (m'' : Mem), r = Sum.inr m'' → Xj RX0 cX0_findRests 5 none 5 133 0 0 0 0 131 [(0, vR 0 0), (3, vI x3)] [] m'' o M') : Xj RX0 cX0_findRests 5 none 5 133 0 0 0 0 37 [(0, vR 0 0), (3, vI x3), (4, vI x4)] [] m o M' := by
  unfold r_X0_findRests_b37_c23 at h
  refine xj_iload 2 dX0_findRests_37 rfl ?_
  refine xj_aload_n 0 dX0_findRests_39 rfl ?_
  refine xg_getR (k' := 3) (i' := 0) dX0_findRests_40 fl_X0_28 rfl ?_
  refine xg_getI (x := (m 3 0 0)) dX0_findRests_43 fl_X0_54 rfl rfl ?_
  refine xj_icmp_ge (tgt := 131) dX0_findRests_46 (by decide) (fun c4 => ?_) (fun c4 => ?_)
  · rw [if_pos c4] at h
    cases h
    refine xj_pick (ls' := [(0, vR 0 0), (3, vI x3)]) [0, 1] rfl ?_
    exact ke m rfl
  · rw [if_neg c4] at h
    refine xj_aload_n 0 dX0_findRests_49 rfl ?_
    refine xj_iload_n 1 dX0_findRests_50 rfl ?_
    obtain ⟨z6, e5, h⟩ := bd1_some h
    refine xc_Vb0 (st := []) (ok_X0_isSaid x3 m e5) dX0_findRests_51 cv_X0_168 rfl rfl (Nat.le_of_ble_eq_true rfl) (by decide) (by decide) (by decide) (by decide) ?_
    refine xj_if_eq (tgt := 125) dX0_findRests_54 (by decide) (fun c7 => ?_) (fun c7 => ?_)
    · rw [if_neg (b2i_f c7)] at h
      exact ok_X0_findRests_j125_c37 x3 x4 m h kb ke
    · rw [if_pos (b2i_t c7)] at h
      refine xj_aload_n 0 dX0_findRests_57 rfl ?_
      refine xj_iload 2 dX0_findRests_58 rfl ?_
      obtain ⟨z9, e8, h⟩ := bd1_some h
      refine xc_Vb0 (st := []) (ok_X0_isSaid x4 m e8) dX0_findRests_60 cv_X0_168 rfl rfl (Nat.le_of_ble_eq_true rfl) (by decide) (by decide) (by decide) (by decide) ?_
      refine xj_if_eq (tgt := 125) dX0_findRests_63 (by decide) (fun c10 => ?_) (fun c10 => ?_)
      · rw [if_neg (b2i_f c10)] at h
        exact ok_X0_findRests_j125_c37 x3 x4 m h kb ke
      · rw [if_pos (b2i_t c10)] at h
        refine xj_aload_n 0 dX0_findRests_66 rfl ?_
        refine xj_iload_n 1 dX0_findRests_67 rfl ?_
        refine xj_iload 2 dX0_findRests_68 rfl ?_
        obtain ⟨z12, e11, h⟩ := bd1_some h
        refine xc_Vb0 (st := []) (ok_X0_isRest x3 x4 m e11) dX0_findRests_70 cv_X0_171 rfl rfl (Nat.le_of_ble_eq_true rfl) (by decide) (by decide) (by decide) (by decide) ?_
        refine xj_if_eq (tgt := 125) dX0_findRests_73 (by decide) (fun c13 => ?_) (fun c13 => ?_)
        · rw [if_neg (b2i_f c13)] at h
          exact ok_X0_findRests_j125_c37 x3 x4 m h kb ke
        · rw [if_pos (b2i_t c13)] at h
          refine xj_aload_n 0 dX0_findRests_76 rfl ?_
          refine xg_getI (x := (m 0 0 7)) dX0_findRests_77 fl_X0_156 rfl rfl ?_
          refine xj_if_ne (tgt := 115) dX0_findRests_80 (by decide) (fun c14 => ?_) (fun c14 => ?_)
          · rw [if_neg c14] at h
            exact ok_X0_findRests_j115_c37 x3 x4 m h kb ke
          · rw [if_pos c14] at h
            refine xj_aload_n 0 dX0_findRests_83 rfl ?_
            refine xj_bipush (z := 100) dX0_findRests_84 (by decide) ?_
            refine xj_iload_n 1 dX0_findRests_86 rfl ?_
            refine xj_imul dX0_findRests_87 ?_
            refine xj_iload 2 dX0_findRests_88 rfl ?_
            refine xj_iadd dX0_findRests_90 ?_
            refine xj_putI dX0_findRests_91 fw_X0_159 rfl ?_
            refine xj_aload_n 0 dX0_findRests_94 rfl ?_
            refine xj_aload_n 0 dX0_findRests_95 rfl ?_
            refine xj_iload_n 1 dX0_findRests_96 rfl ?_
            refine xj_iload 2 dX0_findRests_97 rfl ?_
            refine xj_iconst (z := 1) dX0_findRests_99 (by decide) ?_
            obtain ⟨z16, e15, h⟩ := bd1_some h
            refine xc_Vi0 (st := [vR 0 0]) (ok_X0_gain x3 x4 1 (wr m 0 0 8 ((100 * x3) + x4)) e15) dX0_findRests_100 cv_X0_174 rfl rfl (Nat.le_of_ble_eq_true rfl) (by decide) (by decide) (by decide) (by decide) ?_
            refine xj_aload_n 0 dX0_findRests_103 rfl ?_
            refine xj_iload_n 1 dX0_findRests_104 rfl ?_
            refine xj_iload 2 dX0_findRests_105 rfl ?_
            refine xj_iconst (z := 0) dX0_findRests_107 (by decide) ?_
            obtain ⟨z18, e17, h⟩ := bd1_some h
            refine xc_Vi0 (st := [vI z16, vR 0 0]) (ok_X0_gain x3 x4 0 (wr m 0 0 8 ((100 * x3) + x4)) e17) dX0_findRests_108 cv_X0_174 rfl rfl (Nat.le_of_ble_eq_true rfl) (by decide) (by decide) (by decide) (by decide) ?_
            refine xj_iadd dX0_findRests_111 ?_
            refine xj_putI dX0_findRests_112 fw_X0_162 rfl ?_
            exact ok_X0_findRests_j115_c37 x3 x4 (wr (wr m 0 0 8 ((100 * x3) + x4)) 0 0 9 (z16 + z18)) h kb ke
noncomputable def r_X0_findRests_e131_h37_c23 (x3 : Int32) (m : Mem) : Option ((Int32 × Mem) ⊕ (Mem)) :=
  some (Sum.inl (x3 + 1, m))
set_option maxHeartbeats 4000000 in
set_option maxRecDepth 20000 in
theorem ok_X0_findRests_e131_h37_c23 (x3 : Int32) (m : Mem) {r : (Int32 × Mem) ⊕ (Mem)} (h : r_X0_findRests_e131_h37_c23 x3 m = some r) {o : Ou} {M' : Mem} (kb : ∀ (x3' : Int32) (m'' : Mem), r = Sum.inl (x3', m'') → Xj RX0 cX0_findRests 5 none 5 133 0 0 0 0 23 [(0, vR 0 0), (3, vI x3')] [] m'' o M') (ke : ∀ (m'' : Mem), r = Sum.inr m'' → Xj RX0 cX0_findRests 5 none 5 133 0 0 0 0 137 [] [] m'' o M') : Xj RX0 cX0_findRests 5 none 5 133 0 0 0 0 131 [(0, vR 0 0), (3, vI x3)] [] m o M' := by
  unfold r_X0_findRests_e131_h37_c23 at h
  refine xj_iinc (z := x3 + 1) (ls' := [(3, vI (x3 + 1)), (0, vR 0 0)]) 1 dX0_findRests_131 rfl rfl (by decide) rfl ?_
  refine xj_goto (tgt := 23) dX0_findRests_134 (by decide) ?_
  cases h
  refine xj_pick (ls' := [(0, vR 0 0), (3, vI (x3 + 1))]) [1, 0] rfl ?_
  exact kb (x3 + 1) m rfl
noncomputable def r_X0_findRests_l37_c23 (x3 : Int32) (x4 : Int32) (m : Mem) : Option ((Int32 × Mem) ⊕ (Mem)) :=
  bd1 (loopO (fun s => r_X0_findRests_b37_c23 x3 s.1 s.2) (x4, m)) (fun e => r_X0_findRests_e131_h37_c23 x3 e)
set_option maxHeartbeats 4000000 in
set_option maxRecDepth 20000 in
theorem ok_X0_findRests_l37_c23 (x3 : Int32) (x4 : Int32) (m : Mem) {r : (Int32 × Mem) ⊕ (Mem)} (h : r_X0_findRests_l37_c23 x3 x4 m = some r) {o : Ou} {M' : Mem} (kb : ∀ (x3' : Int32) (m'' : Mem), r = Sum.inl (x3', m'') → Xj RX0 cX0_findRests 5 none 5 133 0 0 0 0 23 [(0, vR 0 0), (3, vI x3')] [] m'' o M') (ke : ∀ (m'' : Mem), r = Sum.inr m'' → Xj RX0 cX0_findRests 5 none 5 133 0 0 0 0 137 [] [] m'' o M') : Xj RX0 cX0_findRests 5 none 5 133 0 0 0 0 37 [(0, vR 0 0), (3, vI x3), (4, vI x4)] [] m o M' := by
  unfold r_X0_findRests_l37_c23 at h
  obtain ⟨e, e1, h⟩ := bd1_some h
  refine loopO_ok (P := fun s : (Int32 × Mem) => Xj RX0 cX0_findRests 5 none 5 133 0 0 0 0 37 [(0, vR 0 0), (3, vI x3), (4, vI s.1)] [] s.2 o M') (Q := fun e : (Mem) => Xj RX0 cX0_findRests 5 none 5 133 0 0 0 0 131 [(0, vR 0 0), (3, vI x3)] [] e o M') ?_ _ _ e1 ?_
  · intro s r9 h9 hi hx
    exact ok_X0_findRests_b37_c23 x3 s.1 s.2 h9 (by rintro _ _ rfl; exact hi _ rfl) (by rintro _ rfl; exact hx _ rfl)
  · exact ok_X0_findRests_e131_h37_c23 x3 e h kb ke
noncomputable def r_X0_findRests_b23 (x3 : Int32) (m : Mem) : Option ((Int32 × Mem) ⊕ (Mem)) :=
  if (m 3 0 0) ≤ x3 then (some (Sum.inr m)) else (r_X0_findRests_l37_c23 x3 0 m)
set_option maxHeartbeats 4000000 in
set_option maxRecDepth 20000 in
theorem ok_X0_findRests_b23 (x3 : Int32) (m : Mem) {r : (Int32 × Mem) ⊕ (Mem)} (h : r_X0_findRests_b23 x3 m = some r) {o : Ou} {M' : Mem} (kb : ∀ (x3' : Int32) (m'' : Mem), r = Sum.inl (x3', m'') → Xj RX0 cX0_findRests 5 none 5 133 0 0 0 0 23 [(0, vR 0 0), (3, vI x3')] [] m'' o M') (ke : ∀ (m'' : Mem), r = Sum.inr m'' → Xj RX0 cX0_findRests 5 none 5 133 0 0 0 0 137 [] [] m'' o M') : Xj RX0 cX0_findRests 5 none 5 133 0 0 0 0 23 [(0, vR 0 0), (3, vI x3)] [] m o M' := by
  unfold r_X0_findRests_b23 at h
  refine xj_iload_n 1 dX0_findRests_23 rfl ?_
  refine xj_aload_n 0 dX0_findRests_24 rfl ?_
  refine xg_getR (k' := 3) (i' := 0) dX0_findRests_25 fl_X0_28 rfl ?_
  refine xg_getI (x := (m 3 0 0)) dX0_findRests_28 fl_X0_54 rfl rfl ?_
  refine xj_icmp_ge (tgt := 137) dX0_findRests_31 (by decide) (fun c3 => ?_) (fun c3 => ?_)
  · rw [if_pos c3] at h
    cases h
    refine xj_pick (ls' := []) [] rfl ?_
    exact ke m rfl
  · rw [if_neg c3] at h
    refine xj_iconst (z := 0) dX0_findRests_34 (by decide) ?_
    refine xj_istore (ls' := [(4, vI 0), (0, vR 0 0), (3, vI x3)]) dX0_findRests_35 (by decide) rfl ?_
    refine xj_pick (ls' := [(0, vR 0 0), (3, vI x3), (4, vI 0)]) [1, 2, 0] rfl ?_
    exact ok_X0_findRests_l37_c23 x3 0 m h kb ke
noncomputable def r_X0_findRests_e137_h23 (m : Mem) : Option Mem :=
  some m
set_option maxHeartbeats 4000000 in
set_option maxRecDepth 20000 in
theorem ok_X0_findRests_e137_h23 (m : Mem) {m' : Mem} (h : r_X0_findRests_e137_h23 m = some m') : Xj RX0 cX0_findRests 5 none 5 133 0 0 0 0 137 [] [] m oV m' := by
  unfold r_X0_findRests_e137_h23 at h
  cases h
  exact xj_return dX0_findRests_137 (by decide) (by decide)
noncomputable def r_X0_findRests_l23 (x3 : Int32) (m : Mem) : Option Mem :=
  bd1 (loopO (fun s => r_X0_findRests_b23 s.1 s.2) (x3, m)) (fun e => r_X0_findRests_e137_h23 e)
set_option maxHeartbeats 4000000 in
set_option maxRecDepth 20000 in
theorem ok_X0_findRests_l23 (x3 : Int32) (m : Mem) {m' : Mem} (h : r_X0_findRests_l23 x3 m = some m') : Xj RX0 cX0_findRests 5 none 5 133 0 0 0 0 23 [(0, vR 0 0), (3, vI x3)] [] m oV m' := by
  unfold r_X0_findRests_l23 at h
  obtain ⟨e, e1, h⟩ := bd1_some h
  refine loopO_ok (P := fun s : (Int32 × Mem) => Xj RX0 cX0_findRests 5 none 5 133 0 0 0 0 23 [(0, vR 0 0), (3, vI s.1)] [] s.2 oV m') (Q := fun e : (Mem) => Xj RX0 cX0_findRests 5 none 5 133 0 0 0 0 137 [] [] e oV m') ?_ _ _ e1 ?_
  · intro s r9 h9 hi hx
    exact ok_X0_findRests_b23 s.1 s.2 h9 (by rintro _ _ rfl; exact hi _ rfl) (by rintro _ rfl; exact hx _ rfl)
  · exact ok_X0_findRests_e137_h23 e h 
noncomputable def r_X0_findRests (i1 : Nat) (x2 : Int32) (m : Mem) : Option Mem :=
  bd1 (r_X0_tryAllSayings i1 x2 (wr (wr (wr m 0 0 7 0) 0 0 8 (-1)) 0 0 9 0)) fun m2 => (r_X0_findRests_l23 0 m2)
set_option maxHeartbeats 4000000 in
set_option maxRecDepth 20000 in
theorem ok_X0_findRests (i1 : Nat) (x2 : Int32) (m : Mem) {m' : Mem} (h : r_X0_findRests i1 x2 m = some m') : Mt yX0_findRests cX0_findRests 5 none 5 133 0 0 [vR 0 0, vR 7 i1, vI x2] m oV m' := by
  refine Mt.of (by decide) (Nat.le_of_ble_eq_true rfl) (by decide +kernel) (hhF_ne (by decide)) ?_
  show Xj RX0 cX0_findRests 5 none 5 133 0 0 0 0 0 [(0, vR 0 0), (1, vR 7 i1), (2, vI x2)] [] m oV m'
  unfold r_X0_findRests at h
  refine xj_aload_n 0 dX0_findRests_0 rfl ?_
  refine xj_iconst (z := 0) dX0_findRests_1 (by decide) ?_
  refine xj_putI dX0_findRests_2 fw_X0_156 rfl ?_
  refine xj_aload_n 0 dX0_findRests_5 rfl ?_
  refine xj_iconst (z := (-1)) dX0_findRests_6 (by decide) ?_
  refine xj_putI dX0_findRests_7 fw_X0_159 rfl ?_
  refine xj_aload_n 0 dX0_findRests_10 rfl ?_
  refine xj_iconst (z := 0) dX0_findRests_11 (by decide) ?_
  refine xj_putI dX0_findRests_12 fw_X0_162 rfl ?_
  refine xj_aload_n 0 dX0_findRests_15 rfl ?_
  refine xj_aload_n 1 dX0_findRests_16 rfl ?_
  refine xj_iload_n 2 dX0_findRests_17 rfl ?_
  obtain ⟨m2, e1, h⟩ := bd1_some h
  refine xc_Vv0 (st := []) (ok_X0_tryAllSayings i1 x2 (wr (wr (wr m 0 0 7 0) 0 0 8 (-1)) 0 0 9 0) e1) dX0_findRests_18 cv_X0_165 rfl rfl (Nat.le_of_ble_eq_true rfl) (by decide) (by decide) (by decide) (by decide) ?_
  refine xj_iconst (z := 0) dX0_findRests_21 (by decide) ?_
  refine xj_istore_n (ls' := [(3, vI 0), (0, vR 0 0), (1, vR 7 i1), (2, vI x2)]) dX0_findRests_22 rfl (by decide) rfl ?_
  refine xj_pick (ls' := [(0, vR 0 0), (3, vI 0)]) [1, 0] rfl ?_
  exact ok_X0_findRests_l23 0 m2 h 
noncomputable def r_X0_findSets_j94_c17 (i1 : Nat) (i2 : Nat) (x3 : Int32) (m : Mem) : Option ((Int32 × Mem) ⊕ (Mem)) :=
  some (Sum.inl (x3 + 1, m))
set_option maxHeartbeats 4000000 in
set_option maxRecDepth 20000 in
theorem ok_X0_findSets_j94_c17 (i1 : Nat) (i2 : Nat) (x3 : Int32) (m : Mem) {r : (Int32 × Mem) ⊕ (Mem)} (h : r_X0_findSets_j94_c17 i1 i2 x3 m = some r) {o : Ou} {M' : Mem} (kb : ∀ (x3' : Int32) (m'' : Mem), r = Sum.inl (x3', m'') → Xj RX0 cX0_findSets 4 none 5 131 0 0 0 0 17 [(0, vR 0 0), (1, vR 7 i1), (2, vR 1 i2), (3, vI x3')] [] m'' o M') (ke : ∀ (m'' : Mem), r = Sum.inr m'' → Xj RX0 cX0_findSets 4 none 5 131 0 0 0 0 100 [] [] m'' o M') : Xj RX0 cX0_findSets 4 none 5 131 0 0 0 0 94 [(0, vR 0 0), (1, vR 7 i1), (2, vR 1 i2), (3, vI x3)] [] m o M' := by
  unfold r_X0_findSets_j94_c17 at h
  refine xj_iinc (z := x3 + 1) (ls' := [(3, vI (x3 + 1)), (0, vR 0 0), (1, vR 7 i1), (2, vR 1 i2)]) 3 dX0_findSets_94 rfl rfl (by decide) rfl ?_
  refine xj_goto (tgt := 17) dX0_findSets_97 (by decide) ?_
  cases h
  refine xj_pick (ls' := [(0, vR 0 0), (1, vR 7 i1), (2, vR 1 i2), (3, vI (x3 + 1))]) [1, 2, 3, 0] rfl ?_
  exact kb (x3 + 1) m rfl
noncomputable def r_X0_findSets_j81_c17 (i1 : Nat) (i2 : Nat) (x3 : Int32) (s0 : Int32) (m : Mem) : Option ((Int32 × Mem) ⊕ (Mem)) :=
  r_X0_findSets_j94_c17 i1 i2 x3 (wr (wr m 0 0 4 s0) 0 0 2 ((m 0 0 2) + 1))
set_option maxHeartbeats 4000000 in
set_option maxRecDepth 20000 in
theorem ok_X0_findSets_j81_c17 (i1 : Nat) (i2 : Nat) (x3 : Int32) (s0 : Int32) (m : Mem) {r : (Int32 × Mem) ⊕ (Mem)} (h : r_X0_findSets_j81_c17 i1 i2 x3 s0 m = some r) {o : Ou} {M' : Mem} (kb : ∀ (x3' : Int32) (m'' : Mem), r = Sum.inl (x3', m'') → Xj RX0 cX0_findSets 4 none 5 131 0 0 0 0 17 [(0, vR 0 0), (1, vR 7 i1), (2, vR 1 i2), (3, vI x3')] [] m'' o M') (ke : ∀ (m'' : Mem), r = Sum.inr m'' → Xj RX0 cX0_findSets 4 none 5 131 0 0 0 0 100 [] [] m'' o M') : Xj RX0 cX0_findSets 4 none 5 131 0 0 0 0 81 [(0, vR 0 0), (1, vR 7 i1), (2, vR 1 i2), (3, vI x3)] [vI s0, vR 0 0] m o M' := by
  unfold r_X0_findSets_j81_c17 at h
  refine xj_putI dX0_findSets_81 fw_X0_123 rfl ?_
  refine xj_aload_n 0 dX0_findSets_84 rfl ?_
  refine xj_dup dX0_findSets_85 rfl ?_
  refine xg_getI (x := (m 0 0 2)) dX0_findSets_86 fl_X0_117 rfl rfl ?_
  refine xj_iconst (z := 1) dX0_findSets_89 (by decide) ?_
  refine xj_iadd dX0_findSets_90 ?_
  refine xj_putI dX0_findSets_91 fw_X0_117 rfl ?_
  exact ok_X0_findSets_j94_c17 i1 i2 x3 (wr (wr m 0 0 4 s0) 0 0 2 ((m 0 0 2) + 1)) h kb ke
noncomputable def r_X0_findSets_j60_c17 (i1 : Nat) (i2 : Nat) (x3 : Int32) (s0 : Int32) (m : Mem) : Option ((Int32 × Mem) ⊕ (Mem)) :=
  if (m 0 0 2) = 0 then (r_X0_findSets_j81_c17 i1 i2 x3 x3 (wr m 0 0 3 s0)) else (r_X0_findSets_j81_c17 i1 i2 x3 ((m 0 0 4) &&& x3) (wr m 0 0 3 s0))
set_option maxHeartbeats 4000000 in
set_option maxRecDepth 20000 in
theorem ok_X0_findSets_j60_c17 (i1 : Nat) (i2 : Nat) (x3 : Int32) (s0 : Int32) (m : Mem) {r : (Int32 × Mem) ⊕ (Mem)} (h : r_X0_findSets_j60_c17 i1 i2 x3 s0 m = some r) {o : Ou} {M' : Mem} (kb : ∀ (x3' : Int32) (m'' : Mem), r = Sum.inl (x3', m'') → Xj RX0 cX0_findSets 4 none 5 131 0 0 0 0 17 [(0, vR 0 0), (1, vR 7 i1), (2, vR 1 i2), (3, vI x3')] [] m'' o M') (ke : ∀ (m'' : Mem), r = Sum.inr m'' → Xj RX0 cX0_findSets 4 none 5 131 0 0 0 0 100 [] [] m'' o M') : Xj RX0 cX0_findSets 4 none 5 131 0 0 0 0 60 [(0, vR 0 0), (1, vR 7 i1), (2, vR 1 i2), (3, vI x3)] [vI s0, vR 0 0] m o M' := by
  unfold r_X0_findSets_j60_c17 at h
  refine xj_putI dX0_findSets_60 fw_X0_120 rfl ?_
  refine xj_aload_n 0 dX0_findSets_63 rfl ?_
  refine xj_aload_n 0 dX0_findSets_64 rfl ?_
  refine xg_getI (x := (m 0 0 2)) dX0_findSets_65 fl_X0_117 rfl rfl ?_
  refine xj_if_ne (tgt := 75) dX0_findSets_68 (by decide) (fun c9 => ?_) (fun c9 => ?_)
  · rw [if_neg c9] at h
    refine xj_aload_n 0 dX0_findSets_75 rfl ?_
    refine xg_getI (x := (m 0 0 4)) dX0_findSets_76 fl_X0_123 rfl rfl ?_
    refine xj_iload_n 3 dX0_findSets_79 rfl ?_
    refine xj_iand dX0_findSets_80 ?_
    exact ok_X0_findSets_j81_c17 i1 i2 x3 ((m 0 0 4) &&& x3) (wr m 0 0 3 s0) h kb ke
  · rw [if_pos c9] at h
    refine xj_iload_n 3 dX0_findSets_71 rfl ?_
    refine xj_goto (tgt := 81) dX0_findSets_72 (by decide) ?_
    exact ok_X0_findSets_j81_c17 i1 i2 x3 x3 (wr m 0 0 3 s0) h kb ke
noncomputable def r_X0_findSets_b17 (i1 : Nat) (i2 : Nat) (x3 : Int32) (m : Mem) : Option ((Int32 × Mem) ⊕ (Mem)) :=
  if (1 <<< ((m 3 0 2) &&& 31)) ≤ x3 then (some (Sum.inr m)) else (bd1 (r_X0_tryForgotten i1 x3 m) fun m3 => (bd2 (r_X0_goesAsTold i2 m3) fun z6 m5 => (if z6 = true then (if (m5 0 0 2) = 0 then (r_X0_findSets_j60_c17 i1 i2 x3 x3 m5) else (r_X0_findSets_j60_c17 i1 i2 x3 (m5 0 0 3) m5)) else (r_X0_findSets_j94_c17 i1 i2 x3 m5))))
set_option maxHeartbeats 4000000 in
set_option maxRecDepth 20000 in
theorem ok_X0_findSets_b17 (i1 : Nat) (i2 : Nat) (x3 : Int32) (m : Mem) {r : (Int32 × Mem) ⊕ (Mem)} (h : r_X0_findSets_b17 i1 i2 x3 m = some r) {o : Ou} {M' : Mem} (kb : ∀ (x3' : Int32) (m'' : Mem), r = Sum.inl (x3', m'') → Xj RX0 cX0_findSets 4 none 5 131 0 0 0 0 17 [(0, vR 0 0), (1, vR 7 i1), (2, vR 1 i2), (3, vI x3')] [] m'' o M') (ke : ∀ (m'' : Mem), r = Sum.inr m'' → Xj RX0 cX0_findSets 4 none 5 131 0 0 0 0 100 [] [] m'' o M') : Xj RX0 cX0_findSets 4 none 5 131 0 0 0 0 17 [(0, vR 0 0), (1, vR 7 i1), (2, vR 1 i2), (3, vI x3)] [] m o M' := by
  unfold r_X0_findSets_b17 at h
  refine xj_iload_n 3 dX0_findSets_17 rfl ?_
  refine xj_iconst (z := 1) dX0_findSets_18 (by decide) ?_
  refine xj_aload_n 0 dX0_findSets_19 rfl ?_
  refine xg_getR (k' := 3) (i' := 0) dX0_findSets_20 fl_X0_28 rfl ?_
  refine xg_getI (x := (m 3 0 2)) dX0_findSets_23 fl_X0_97 rfl rfl ?_
  refine xj_ishl dX0_findSets_26 ?_
  refine xj_icmp_ge (tgt := 100) dX0_findSets_27 (by decide) (fun c1 => ?_) (fun c1 => ?_)
  · rw [if_pos c1] at h
    cases h
    refine xj_pick (ls' := []) [] rfl ?_
    exact ke m rfl
  · rw [if_neg c1] at h
    refine xj_aload_n 0 dX0_findSets_30 rfl ?_
    refine xj_aload_n 1 dX0_findSets_31 rfl ?_
    refine xj_iload_n 3 dX0_findSets_32 rfl ?_
    obtain ⟨m3, e2, h⟩ := bd1_some h
    refine xc_Vv0 (st := []) (ok_X0_tryForgotten i1 x3 m e2) dX0_findSets_33 cv_X0_106 rfl rfl (Nat.le_of_ble_eq_true rfl) (by decide) (by decide) (by decide) (by decide) ?_
    refine xj_aload_n 0 dX0_findSets_36 rfl ?_
    refine xj_aload_n 2 dX0_findSets_37 rfl ?_
    obtain ⟨z6, m5, e4, h⟩ := bd2_some h
    refine xc_Vb0 (st := []) (ok_X0_goesAsTold i2 m3 e4) dX0_findSets_38 cv_X0_126 rfl rfl (Nat.le_of_ble_eq_true rfl) (by decide) (by decide) (by decide) (by decide) ?_
    refine xj_if_eq (tgt := 94) dX0_findSets_41 (by decide) (fun c7 => ?_) (fun c7 => ?_)
    · rw [if_neg (b2i_f c7)] at h
      exact ok_X0_findSets_j94_c17 i1 i2 x3 m5 h kb ke
    · rw [if_pos (b2i_t c7)] at h
      refine xj_aload_n 0 dX0_findSets_44 rfl ?_
      refine xj_aload_n 0 dX0_findSets_45 rfl ?_
      refine xg_getI (x := (m5 0 0 2)) dX0_findSets_46 fl_X0_117 rfl rfl ?_
      refine xj_if_ne (tgt := 56) dX0_findSets_49 (by decide) (fun c8 => ?_) (fun c8 => ?_)
      · rw [if_neg c8] at h
        refine xj_aload_n 0 dX0_findSets_56 rfl ?_
        refine xg_getI (x := (m5 0 0 3)) dX0_findSets_57 fl_X0_120 rfl rfl ?_
        exact ok_X0_findSets_j60_c17 i1 i2 x3 (m5 0 0 3) m5 h kb ke
      · rw [if_pos c8] at h
        refine xj_iload_n 3 dX0_findSets_52 rfl ?_
        refine xj_goto (tgt := 60) dX0_findSets_53 (by decide) ?_
        exact ok_X0_findSets_j60_c17 i1 i2 x3 x3 m5 h kb ke
noncomputable def r_X0_findSets_e100_h17 (m : Mem) : Option Mem :=
  some m
set_option maxHeartbeats 4000000 in
set_option maxRecDepth 20000 in
theorem ok_X0_findSets_e100_h17 (m : Mem) {m' : Mem} (h : r_X0_findSets_e100_h17 m = some m') : Xj RX0 cX0_findSets 4 none 5 131 0 0 0 0 100 [] [] m oV m' := by
  unfold r_X0_findSets_e100_h17 at h
  cases h
  exact xj_return dX0_findSets_100 (by decide) (by decide)
noncomputable def r_X0_findSets_l17 (i1 : Nat) (i2 : Nat) (x3 : Int32) (m : Mem) : Option Mem :=
  bd1 (loopO (fun s => r_X0_findSets_b17 i1 i2 s.1 s.2) (x3, m)) (fun e => r_X0_findSets_e100_h17 e)
set_option maxHeartbeats 4000000 in
set_option maxRecDepth 20000 in
theorem ok_X0_findSets_l17 (i1 : Nat) (i2 : Nat) (x3 : Int32) (m : Mem) {m' : Mem} (h : r_X0_findSets_l17 i1 i2 x3 m = some m') : Xj RX0 cX0_findSets 4 none 5 131 0 0 0 0 17 [(0, vR 0 0), (1, vR 7 i1), (2, vR 1 i2), (3, vI x3)] [] m oV m' := by
  unfold r_X0_findSets_l17 at h
  obtain ⟨e, e1, h⟩ := bd1_some h
  refine loopO_ok (P := fun s : (Int32 × Mem) => Xj RX0 cX0_findSets 4 none 5 131 0 0 0 0 17 [(0, vR 0 0), (1, vR 7 i1), (2, vR 1 i2), (3, vI s.1)] [] s.2 oV m') (Q := fun e : (Mem) => Xj RX0 cX0_findSets 4 none 5 131 0 0 0 0 100 [] [] e oV m') ?_ _ _ e1 ?_
  · intro s r9 h9 hi hx
    exact ok_X0_findSets_b17 i1 i2 s.1 s.2 h9 (by rintro _ _ rfl; exact hi _ rfl) (by rintro _ rfl; exact hx _ rfl)
  · exact ok_X0_findSets_e100_h17 e h 
noncomputable def r_X0_findSets (i1 : Nat) (i2 : Nat) (m : Mem) : Option Mem :=
  r_X0_findSets_l17 i1 i2 0 (wr (wr (wr m 0 0 2 0) 0 0 3 (-1)) 0 0 4 0)
set_option maxHeartbeats 4000000 in
set_option maxRecDepth 20000 in
theorem ok_X0_findSets (i1 : Nat) (i2 : Nat) (m : Mem) {m' : Mem} (h : r_X0_findSets i1 i2 m = some m') : Mt yX0_findSets cX0_findSets 4 none 5 131 0 0 [vR 0 0, vR 7 i1, vR 1 i2] m oV m' := by
  refine Mt.of (by decide) (Nat.le_of_ble_eq_true rfl) (by decide +kernel) (hhF_ne (by decide)) ?_
  show Xj RX0 cX0_findSets 4 none 5 131 0 0 0 0 0 [(0, vR 0 0), (1, vR 7 i1), (2, vR 1 i2)] [] m oV m'
  unfold r_X0_findSets at h
  refine xj_aload_n 0 dX0_findSets_0 rfl ?_
  refine xj_iconst (z := 0) dX0_findSets_1 (by decide) ?_
  refine xj_putI dX0_findSets_2 fw_X0_117 rfl ?_
  refine xj_aload_n 0 dX0_findSets_5 rfl ?_
  refine xj_iconst (z := (-1)) dX0_findSets_6 (by decide) ?_
  refine xj_putI dX0_findSets_7 fw_X0_120 rfl ?_
  refine xj_aload_n 0 dX0_findSets_10 rfl ?_
  refine xj_iconst (z := 0) dX0_findSets_11 (by decide) ?_
  refine xj_putI dX0_findSets_12 fw_X0_123 rfl ?_
  refine xj_iconst (z := 0) dX0_findSets_15 (by decide) ?_
  refine xj_istore_n (ls' := [(3, vI 0), (0, vR 0 0), (1, vR 7 i1), (2, vR 1 i2)]) dX0_findSets_16 rfl (by decide) rfl ?_
  refine xj_pick (ls' := [(0, vR 0 0), (1, vR 7 i1), (2, vR 1 i2), (3, vI 0)]) [1, 2, 3, 0] rfl ?_
  exact ok_X0_findSets_l17 i1 i2 0 (wr (wr (wr m 0 0 2 0) 0 0 3 (-1)) 0 0 4 0) h 
noncomputable def r_J6_bitCount_0f7a4 (x0 : Int32) : Int32 :=
  ((((((((x0 - (((x0.toUInt32 >>> ((1 : Int32).toUInt32 &&& Int32.toUInt32 31)).toInt32) &&& 1431655765)) &&& 858993459) + ((((x0 - (((x0.toUInt32 >>> ((1 : Int32).toUInt32 &&& Int32.toUInt32 31)).toInt32) &&& 1431655765)).toUInt32 >>> ((2 : Int32).toUInt32 &&& Int32.toUInt32 31)).toInt32) &&& 858993459)) + (((((x0 - (((x0.toUInt32 >>> ((1 : Int32).toUInt32 &&& Int32.toUInt32 31)).toInt32) &&& 1431655765)) &&& 858993459) + ((((x0 - (((x0.toUInt32 >>> ((1 : Int32).toUInt32 &&& Int32.toUInt32 31)).toInt32) &&& 1431655765)).toUInt32 >>> ((2 : Int32).toUInt32 &&& Int32.toUInt32 31)).toInt32) &&& 858993459)).toUInt32 >>> ((4 : Int32).toUInt32 &&& Int32.toUInt32 31)).toInt32)) &&& 252645135) + (((((((x0 - (((x0.toUInt32 >>> ((1 : Int32).toUInt32 &&& Int32.toUInt32 31)).toInt32) &&& 1431655765)) &&& 858993459) + ((((x0 - (((x0.toUInt32 >>> ((1 : Int32).toUInt32 &&& Int32.toUInt32 31)).toInt32) &&& 1431655765)).toUInt32 >>> ((2 : Int32).toUInt32 &&& Int32.toUInt32 31)).toInt32) &&& 858993459)) + (((((x0 - (((x0.toUInt32 >>> ((1 : Int32).toUInt32 &&& Int32.toUInt32 31)).toInt32) &&& 1431655765)) &&& 858993459) + ((((x0 - (((x0.toUInt32 >>> ((1 : Int32).toUInt32 &&& Int32.toUInt32 31)).toInt32) &&& 1431655765)).toUInt32 >>> ((2 : Int32).toUInt32 &&& Int32.toUInt32 31)).toInt32) &&& 858993459)).toUInt32 >>> ((4 : Int32).toUInt32 &&& Int32.toUInt32 31)).toInt32)) &&& 252645135).toUInt32 >>> ((8 : Int32).toUInt32 &&& Int32.toUInt32 31)).toInt32)) + ((((((((x0 - (((x0.toUInt32 >>> ((1 : Int32).toUInt32 &&& Int32.toUInt32 31)).toInt32) &&& 1431655765)) &&& 858993459) + ((((x0 - (((x0.toUInt32 >>> ((1 : Int32).toUInt32 &&& Int32.toUInt32 31)).toInt32) &&& 1431655765)).toUInt32 >>> ((2 : Int32).toUInt32 &&& Int32.toUInt32 31)).toInt32) &&& 858993459)) + (((((x0 - (((x0.toUInt32 >>> ((1 : Int32).toUInt32 &&& Int32.toUInt32 31)).toInt32) &&& 1431655765)) &&& 858993459) + ((((x0 - (((x0.toUInt32 >>> ((1 : Int32).toUInt32 &&& Int32.toUInt32 31)).toInt32) &&& 1431655765)).toUInt32 >>> ((2 : Int32).toUInt32 &&& Int32.toUInt32 31)).toInt32) &&& 858993459)).toUInt32 >>> ((4 : Int32).toUInt32 &&& Int32.toUInt32 31)).toInt32)) &&& 252645135) + (((((((x0 - (((x0.toUInt32 >>> ((1 : Int32).toUInt32 &&& Int32.toUInt32 31)).toInt32) &&& 1431655765)) &&& 858993459) + ((((x0 - (((x0.toUInt32 >>> ((1 : Int32).toUInt32 &&& Int32.toUInt32 31)).toInt32) &&& 1431655765)).toUInt32 >>> ((2 : Int32).toUInt32 &&& Int32.toUInt32 31)).toInt32) &&& 858993459)) + (((((x0 - (((x0.toUInt32 >>> ((1 : Int32).toUInt32 &&& Int32.toUInt32 31)).toInt32) &&& 1431655765)) &&& 858993459) + ((((x0 - (((x0.toUInt32 >>> ((1 : Int32).toUInt32 &&& Int32.toUInt32 31)).toInt32) &&& 1431655765)).toUInt32 >>> ((2 : Int32).toUInt32 &&& Int32.toUInt32 31)).toInt32) &&& 858993459)).toUInt32 >>> ((4 : Int32).toUInt32 &&& Int32.toUInt32 31)).toInt32)) &&& 252645135).toUInt32 >>> ((8 : Int32).toUInt32 &&& Int32.toUInt32 31)).toInt32)).toUInt32 >>> ((16 : Int32).toUInt32 &&& Int32.toUInt32 31)).toInt32)) &&& 63)
set_option maxHeartbeats 4000000 in
set_option maxRecDepth 20000 in
theorem ok_J6_bitCount_0f7a4 (x0 : Int32) (m : Mem) {z : Int32} (h : r_J6_bitCount_0f7a4 x0 = z) : Mt yJ6_bitCount_0f7a4 cJ6_bitCount_0f7a4 1 (some .int) 1 0 0 0 [vI x0] m (oI z) m := by
  refine Mt.of (by decide) (Nat.le_of_ble_eq_true rfl) (by decide +kernel) (hhF_ne (by decide)) ?_
  show Xj RJ6 cJ6_bitCount_0f7a4 1 (some .int) 1 0 0 0 0 0 0 [(0, vI x0)] [] m (oI z) m
  unfold r_J6_bitCount_0f7a4 at h
  refine xj_iload_n 0 dJ6_bitCount_0f7a4_0 rfl ?_
  refine xj_iload_n 0 dJ6_bitCount_0f7a4_1 rfl ?_
  refine xj_iconst (z := 1) dJ6_bitCount_0f7a4_2 (by decide) ?_
  refine xj_iushr dJ6_bitCount_0f7a4_3 ?_
  refine xj_ldcw (z := 1431655765) dJ6_bitCount_0f7a4_4 wt_560 ?_
  refine xj_iand dJ6_bitCount_0f7a4_7 ?_
  refine xj_isub dJ6_bitCount_0f7a4_8 ?_
  refine xj_istore_n (ls' := [(0, vI (x0 - (((x0.toUInt32 >>> ((1 : Int32).toUInt32 &&& Int32.toUInt32 31)).toInt32) &&& 1431655765)))]) dJ6_bitCount_0f7a4_9 rfl (by decide) rfl ?_
  refine xj_iload_n 0 dJ6_bitCount_0f7a4_10 rfl ?_
  refine xj_ldcw (z := 858993459) dJ6_bitCount_0f7a4_11 wt_561 ?_
  refine xj_iand dJ6_bitCount_0f7a4_14 ?_
  refine xj_iload_n 0 dJ6_bitCount_0f7a4_15 rfl ?_
  refine xj_iconst (z := 2) dJ6_bitCount_0f7a4_16 (by decide) ?_
  refine xj_iushr dJ6_bitCount_0f7a4_17 ?_
  refine xj_ldcw (z := 858993459) dJ6_bitCount_0f7a4_18 wt_561 ?_
  refine xj_iand dJ6_bitCount_0f7a4_21 ?_
  refine xj_iadd dJ6_bitCount_0f7a4_22 ?_
  refine xj_istore_n (ls' := [(0, vI (((x0 - (((x0.toUInt32 >>> ((1 : Int32).toUInt32 &&& Int32.toUInt32 31)).toInt32) &&& 1431655765)) &&& 858993459) + ((((x0 - (((x0.toUInt32 >>> ((1 : Int32).toUInt32 &&& Int32.toUInt32 31)).toInt32) &&& 1431655765)).toUInt32 >>> ((2 : Int32).toUInt32 &&& Int32.toUInt32 31)).toInt32) &&& 858993459)))]) dJ6_bitCount_0f7a4_23 rfl (by decide) rfl ?_
  refine xj_iload_n 0 dJ6_bitCount_0f7a4_24 rfl ?_
  refine xj_iload_n 0 dJ6_bitCount_0f7a4_25 rfl ?_
  refine xj_iconst (z := 4) dJ6_bitCount_0f7a4_26 (by decide) ?_
  refine xj_iushr dJ6_bitCount_0f7a4_27 ?_
  refine xj_iadd dJ6_bitCount_0f7a4_28 ?_
  refine xj_ldcw (z := 252645135) dJ6_bitCount_0f7a4_29 wt_562 ?_
  refine xj_iand dJ6_bitCount_0f7a4_32 ?_
  refine xj_istore_n (ls' := [(0, vI (((((x0 - (((x0.toUInt32 >>> ((1 : Int32).toUInt32 &&& Int32.toUInt32 31)).toInt32) &&& 1431655765)) &&& 858993459) + ((((x0 - (((x0.toUInt32 >>> ((1 : Int32).toUInt32 &&& Int32.toUInt32 31)).toInt32) &&& 1431655765)).toUInt32 >>> ((2 : Int32).toUInt32 &&& Int32.toUInt32 31)).toInt32) &&& 858993459)) + (((((x0 - (((x0.toUInt32 >>> ((1 : Int32).toUInt32 &&& Int32.toUInt32 31)).toInt32) &&& 1431655765)) &&& 858993459) + ((((x0 - (((x0.toUInt32 >>> ((1 : Int32).toUInt32 &&& Int32.toUInt32 31)).toInt32) &&& 1431655765)).toUInt32 >>> ((2 : Int32).toUInt32 &&& Int32.toUInt32 31)).toInt32) &&& 858993459)).toUInt32 >>> ((4 : Int32).toUInt32 &&& Int32.toUInt32 31)).toInt32)) &&& 252645135))]) dJ6_bitCount_0f7a4_33 rfl (by decide) rfl ?_
  refine xj_iload_n 0 dJ6_bitCount_0f7a4_34 rfl ?_
  refine xj_iload_n 0 dJ6_bitCount_0f7a4_35 rfl ?_
  refine xj_bipush (z := 8) dJ6_bitCount_0f7a4_36 (by decide) ?_
  refine xj_iushr dJ6_bitCount_0f7a4_38 ?_
  refine xj_iadd dJ6_bitCount_0f7a4_39 ?_
  refine xj_istore_n (ls' := [(0, vI ((((((x0 - (((x0.toUInt32 >>> ((1 : Int32).toUInt32 &&& Int32.toUInt32 31)).toInt32) &&& 1431655765)) &&& 858993459) + ((((x0 - (((x0.toUInt32 >>> ((1 : Int32).toUInt32 &&& Int32.toUInt32 31)).toInt32) &&& 1431655765)).toUInt32 >>> ((2 : Int32).toUInt32 &&& Int32.toUInt32 31)).toInt32) &&& 858993459)) + (((((x0 - (((x0.toUInt32 >>> ((1 : Int32).toUInt32 &&& Int32.toUInt32 31)).toInt32) &&& 1431655765)) &&& 858993459) + ((((x0 - (((x0.toUInt32 >>> ((1 : Int32).toUInt32 &&& Int32.toUInt32 31)).toInt32) &&& 1431655765)).toUInt32 >>> ((2 : Int32).toUInt32 &&& Int32.toUInt32 31)).toInt32) &&& 858993459)).toUInt32 >>> ((4 : Int32).toUInt32 &&& Int32.toUInt32 31)).toInt32)) &&& 252645135) + (((((((x0 - (((x0.toUInt32 >>> ((1 : Int32).toUInt32 &&& Int32.toUInt32 31)).toInt32) &&& 1431655765)) &&& 858993459) + ((((x0 - (((x0.toUInt32 >>> ((1 : Int32).toUInt32 &&& Int32.toUInt32 31)).toInt32) &&& 1431655765)).toUInt32 >>> ((2 : Int32).toUInt32 &&& Int32.toUInt32 31)).toInt32) &&& 858993459)) + (((((x0 - (((x0.toUInt32 >>> ((1 : Int32).toUInt32 &&& Int32.toUInt32 31)).toInt32) &&& 1431655765)) &&& 858993459) + ((((x0 - (((x0.toUInt32 >>> ((1 : Int32).toUInt32 &&& Int32.toUInt32 31)).toInt32) &&& 1431655765)).toUInt32 >>> ((2 : Int32).toUInt32 &&& Int32.toUInt32 31)).toInt32) &&& 858993459)).toUInt32 >>> ((4 : Int32).toUInt32 &&& Int32.toUInt32 31)).toInt32)) &&& 252645135).toUInt32 >>> ((8 : Int32).toUInt32 &&& Int32.toUInt32 31)).toInt32)))]) dJ6_bitCount_0f7a4_40 rfl (by decide) rfl ?_
  refine xj_iload_n 0 dJ6_bitCount_0f7a4_41 rfl ?_
  refine xj_iload_n 0 dJ6_bitCount_0f7a4_42 rfl ?_
  refine xj_bipush (z := 16) dJ6_bitCount_0f7a4_43 (by decide) ?_
  refine xj_iushr dJ6_bitCount_0f7a4_45 ?_
  refine xj_iadd dJ6_bitCount_0f7a4_46 ?_
  refine xj_istore_n (ls' := [(0, vI (((((((x0 - (((x0.toUInt32 >>> ((1 : Int32).toUInt32 &&& Int32.toUInt32 31)).toInt32) &&& 1431655765)) &&& 858993459) + ((((x0 - (((x0.toUInt32 >>> ((1 : Int32).toUInt32 &&& Int32.toUInt32 31)).toInt32) &&& 1431655765)).toUInt32 >>> ((2 : Int32).toUInt32 &&& Int32.toUInt32 31)).toInt32) &&& 858993459)) + (((((x0 - (((x0.toUInt32 >>> ((1 : Int32).toUInt32 &&& Int32.toUInt32 31)).toInt32) &&& 1431655765)) &&& 858993459) + ((((x0 - (((x0.toUInt32 >>> ((1 : Int32).toUInt32 &&& Int32.toUInt32 31)).toInt32) &&& 1431655765)).toUInt32 >>> ((2 : Int32).toUInt32 &&& Int32.toUInt32 31)).toInt32) &&& 858993459)).toUInt32 >>> ((4 : Int32).toUInt32 &&& Int32.toUInt32 31)).toInt32)) &&& 252645135) + (((((((x0 - (((x0.toUInt32 >>> ((1 : Int32).toUInt32 &&& Int32.toUInt32 31)).toInt32) &&& 1431655765)) &&& 858993459) + ((((x0 - (((x0.toUInt32 >>> ((1 : Int32).toUInt32 &&& Int32.toUInt32 31)).toInt32) &&& 1431655765)).toUInt32 >>> ((2 : Int32).toUInt32 &&& Int32.toUInt32 31)).toInt32) &&& 858993459)) + (((((x0 - (((x0.toUInt32 >>> ((1 : Int32).toUInt32 &&& Int32.toUInt32 31)).toInt32) &&& 1431655765)) &&& 858993459) + ((((x0 - (((x0.toUInt32 >>> ((1 : Int32).toUInt32 &&& Int32.toUInt32 31)).toInt32) &&& 1431655765)).toUInt32 >>> ((2 : Int32).toUInt32 &&& Int32.toUInt32 31)).toInt32) &&& 858993459)).toUInt32 >>> ((4 : Int32).toUInt32 &&& Int32.toUInt32 31)).toInt32)) &&& 252645135).toUInt32 >>> ((8 : Int32).toUInt32 &&& Int32.toUInt32 31)).toInt32)) + ((((((((x0 - (((x0.toUInt32 >>> ((1 : Int32).toUInt32 &&& Int32.toUInt32 31)).toInt32) &&& 1431655765)) &&& 858993459) + ((((x0 - (((x0.toUInt32 >>> ((1 : Int32).toUInt32 &&& Int32.toUInt32 31)).toInt32) &&& 1431655765)).toUInt32 >>> ((2 : Int32).toUInt32 &&& Int32.toUInt32 31)).toInt32) &&& 858993459)) + (((((x0 - (((x0.toUInt32 >>> ((1 : Int32).toUInt32 &&& Int32.toUInt32 31)).toInt32) &&& 1431655765)) &&& 858993459) + ((((x0 - (((x0.toUInt32 >>> ((1 : Int32).toUInt32 &&& Int32.toUInt32 31)).toInt32) &&& 1431655765)).toUInt32 >>> ((2 : Int32).toUInt32 &&& Int32.toUInt32 31)).toInt32) &&& 858993459)).toUInt32 >>> ((4 : Int32).toUInt32 &&& Int32.toUInt32 31)).toInt32)) &&& 252645135) + (((((((x0 - (((x0.toUInt32 >>> ((1 : Int32).toUInt32 &&& Int32.toUInt32 31)).toInt32) &&& 1431655765)) &&& 858993459) + ((((x0 - (((x0.toUInt32 >>> ((1 : Int32).toUInt32 &&& Int32.toUInt32 31)).toInt32) &&& 1431655765)).toUInt32 >>> ((2 : Int32).toUInt32 &&& Int32.toUInt32 31)).toInt32) &&& 858993459)) + (((((x0 - (((x0.toUInt32 >>> ((1 : Int32).toUInt32 &&& Int32.toUInt32 31)).toInt32) &&& 1431655765)) &&& 858993459) + ((((x0 - (((x0.toUInt32 >>> ((1 : Int32).toUInt32 &&& Int32.toUInt32 31)).toInt32) &&& 1431655765)).toUInt32 >>> ((2 : Int32).toUInt32 &&& Int32.toUInt32 31)).toInt32) &&& 858993459)).toUInt32 >>> ((4 : Int32).toUInt32 &&& Int32.toUInt32 31)).toInt32)) &&& 252645135).toUInt32 >>> ((8 : Int32).toUInt32 &&& Int32.toUInt32 31)).toInt32)).toUInt32 >>> ((16 : Int32).toUInt32 &&& Int32.toUInt32 31)).toInt32)))]) dJ6_bitCount_0f7a4_47 rfl (by decide) rfl ?_
  refine xj_iload_n 0 dJ6_bitCount_0f7a4_48 rfl ?_
  refine xj_bipush (z := 63) dJ6_bitCount_0f7a4_49 (by decide) ?_
  refine xj_iand dJ6_bitCount_0f7a4_51 ?_
  subst h
  exact xj_ireturn dJ6_bitCount_0f7a4_52 rfl (by decide) (by decide)
noncomputable def r_X0_findSilence_j82_c16 (i1 : Nat) (x2 : Int32) (x3 : Int32) (x4 : Int32) (x5 : Int32) (m : Mem) : Option ((Int32 × Int32 × Int32 × Mem) ⊕ (Int32 × Mem)) :=
  some (Sum.inl (x3, x4, x5 + 1, m))
set_option maxHeartbeats 4000000 in
set_option maxRecDepth 20000 in
theorem ok_X0_findSilence_j82_c16 (i1 : Nat) (x2 : Int32) (x3 : Int32) (x4 : Int32) (x5 : Int32) (m : Mem) {r : (Int32 × Int32 × Int32 × Mem) ⊕ (Int32 × Mem)} (h : r_X0_findSilence_j82_c16 i1 x2 x3 x4 x5 m = some r) {o : Ou} {M' : Mem} (kb : ∀ (x3' : Int32) (x4' : Int32) (x5' : Int32) (m'' : Mem), r = Sum.inl (x3', x4', x5', m'') → Xj RX0 cX0_findSilence 6 (some .int) 5 131 0 0 0 0 16 [(0, vR 0 0), (1, vR 7 i1), (2, vI x2), (3, vI x3'), (4, vI x4'), (5, vI x5')] [] m'' o M') (ke : ∀ (x3' : Int32) (m'' : Mem), r = Sum.inr (x3', m'') → Xj RX0 cX0_findSilence 6 (some .int) 5 131 0 0 0 0 88 [(3, vI x3')] [] m'' o M') : Xj RX0 cX0_findSilence 6 (some .int) 5 131 0 0 0 0 82 [(0, vR 0 0), (1, vR 7 i1), (2, vI x2), (3, vI x3), (4, vI x4), (5, vI x5)] [] m o M' := by
  unfold r_X0_findSilence_j82_c16 at h
  refine xj_iinc (z := x5 + 1) (ls' := [(5, vI (x5 + 1)), (0, vR 0 0), (1, vR 7 i1), (2, vI x2), (3, vI x3), (4, vI x4)]) 5 dX0_findSilence_82 rfl rfl (by decide) rfl ?_
  refine xj_goto (tgt := 16) dX0_findSilence_85 (by decide) ?_
  cases h
  refine xj_pick (ls' := [(0, vR 0 0), (1, vR 7 i1), (2, vI x2), (3, vI x3), (4, vI x4), (5, vI (x5 + 1))]) [1, 2, 3, 4, 5, 0] rfl ?_
  exact kb x3 x4 (x5 + 1) m rfl
noncomputable def r_X0_findSilence_b16 (i1 : Nat) (x2 : Int32) (x3 : Int32) (x4 : Int32) (x5 : Int32) (m : Mem) : Option ((Int32 × Int32 × Int32 × Mem) ⊕ (Int32 × Mem)) :=
  if (1 <<< ((m 3 0 2) &&& 31)) ≤ x5 then (some (Sum.inr (x3, m))) else (if x4 ≤ (r_J6_bitCount_0f7a4 x5) then (r_X0_findSilence_j82_c16 i1 x2 x3 x4 x5 m) else (bd1 (r_X0_tryForgotten i1 x5 m) fun m4 => (bd1 (r_X6_trace 1 m4) fun m6 => (if (((m6 6 0 4) >>> (x2 &&& 31)) &&& 1) = 0 then (r_X0_findSilence_j82_c16 i1 x2 x3 x4 x5 m6) else (r_X0_findSilence_j82_c16 i1 x2 x5 (r_J6_bitCount_0f7a4 x5) x5 m6)))))
set_option maxHeartbeats 4000000 in
set_option maxRecDepth 20000 in
theorem ok_X0_findSilence_b16 (i1 : Nat) (x2 : Int32) (x3 : Int32) (x4 : Int32) (x5 : Int32) (m : Mem) {r : (Int32 × Int32 × Int32 × Mem) ⊕ (Int32 × Mem)} (h : r_X0_findSilence_b16 i1 x2 x3 x4 x5 m = some r) {o : Ou} {M' : Mem} (kb : ∀ (x3' : Int32) (x4' : Int32) (x5' : Int32) (m'' : Mem), r = Sum.inl (x3', x4', x5', m'') → Xj RX0 cX0_findSilence 6 (some .int) 5 131 0 0 0 0 16 [(0, vR 0 0), (1, vR 7 i1), (2, vI x2), (3, vI x3'), (4, vI x4'), (5, vI x5')] [] m'' o M') (ke : ∀ (x3' : Int32) (m'' : Mem), r = Sum.inr (x3', m'') → Xj RX0 cX0_findSilence 6 (some .int) 5 131 0 0 0 0 88 [(3, vI x3')] [] m'' o M') : Xj RX0 cX0_findSilence 6 (some .int) 5 131 0 0 0 0 16 [(0, vR 0 0), (1, vR 7 i1), (2, vI x2), (3, vI x3), (4, vI x4), (5, vI x5)] [] m o M' := by
  unfold r_X0_findSilence_b16 at h
  refine xj_iload 5 dX0_findSilence_16 rfl ?_
  refine xj_iconst (z := 1) dX0_findSilence_18 (by decide) ?_
  refine xj_aload_n 0 dX0_findSilence_19 rfl ?_
  refine xg_getR (k' := 3) (i' := 0) dX0_findSilence_20 fl_X0_28 rfl ?_
  refine xg_getI (x := (m 3 0 2)) dX0_findSilence_23 fl_X0_97 rfl rfl ?_
  refine xj_ishl dX0_findSilence_26 ?_
  refine xj_icmp_ge (tgt := 88) dX0_findSilence_27 (by decide) (fun c1 => ?_) (fun c1 => ?_)
  · rw [if_pos c1] at h
    cases h
    refine xj_pick (ls' := [(3, vI x3)]) [3] rfl ?_
    exact ke x3 m rfl
  · rw [if_neg c1] at h
    refine xj_iload 5 dX0_findSilence_30 rfl ?_
    refine xc_Si0 (st := []) (ok_J6_bitCount_0f7a4 x5 m rfl) dX0_findSilence_32 cs_X0_100 rfl rfl (Nat.le_of_ble_eq_true rfl) (by decide) (by decide) (by decide) (by decide) ?_
    refine xj_iload 4 dX0_findSilence_35 rfl ?_
    refine xj_icmp_ge (tgt := 82) dX0_findSilence_37 (by decide) (fun c2 => ?_) (fun c2 => ?_)
    · rw [if_pos c2] at h
      exact ok_X0_findSilence_j82_c16 i1 x2 x3 x4 x5 m h kb ke
    · rw [if_neg c2] at h
      refine xj_aload_n 0 dX0_findSilence_40 rfl ?_
      refine xj_aload_n 1 dX0_findSilence_41 rfl ?_
      refine xj_iload 5 dX0_findSilence_42 rfl ?_
      obtain ⟨m4, e3, h⟩ := bd1_some h
      refine xc_Vv0 (st := []) (ok_X0_tryForgotten i1 x5 m e3) dX0_findSilence_44 cv_X0_106 rfl rfl (Nat.le_of_ble_eq_true rfl) (by decide) (by decide) (by decide) (by decide) ?_
      refine xj_aload_n 0 dX0_findSilence_47 rfl ?_
      refine xg_getR (k' := 6) (i' := 0) dX0_findSilence_48 fl_X0_32 rfl ?_
      refine xj_aload_n 0 dX0_findSilence_51 rfl ?_
      refine xg_getR (k' := 7) (i' := 1) dX0_findSilence_52 fl_X0_12 rfl ?_
      obtain ⟨m6, e5, h⟩ := bd1_some h
      refine xc_Vv0 (st := []) (ok_X6_trace 1 m4 e5) dX0_findSilence_55 cv_X0_40 rfl rfl (Nat.le_of_ble_eq_true rfl) (by decide) (by decide) (by decide) (by decide) ?_
      refine xj_aload_n 0 dX0_findSilence_58 rfl ?_
      refine xg_getR (k' := 6) (i' := 0) dX0_findSilence_59 fl_X0_32 rfl ?_
      refine xg_getI (x := (m6 6 0 4)) dX0_findSilence_62 fl_X0_110 rfl rfl ?_
      refine xj_iload_n 2 dX0_findSilence_65 rfl ?_
      refine xj_ishr dX0_findSilence_66 ?_
      refine xj_iconst (z := 1) dX0_findSilence_67 (by decide) ?_
      refine xj_iand dX0_findSilence_68 ?_
      refine xj_if_eq (tgt := 82) dX0_findSilence_69 (by decide) (fun c7 => ?_) (fun c7 => ?_)
      · rw [if_pos c7] at h
        exact ok_X0_findSilence_j82_c16 i1 x2 x3 x4 x5 m6 h kb ke
      · rw [if_neg c7] at h
        refine xj_iload 5 dX0_findSilence_72 rfl ?_
        refine xj_istore_n (ls' := [(3, vI x5), (0, vR 0 0), (1, vR 7 i1), (2, vI x2), (4, vI x4), (5, vI x5)]) dX0_findSilence_74 rfl (by decide) rfl ?_
        refine xj_iload 5 dX0_findSilence_75 rfl ?_
        refine xc_Si0 (st := []) (ok_J6_bitCount_0f7a4 x5 m6 rfl) dX0_findSilence_77 cs_X0_100 rfl rfl (Nat.le_of_ble_eq_true rfl) (by decide) (by decide) (by decide) (by decide) ?_
        refine xj_istore (ls' := [(4, vI (r_J6_bitCount_0f7a4 x5)), (3, vI x5), (0, vR 0 0), (1, vR 7 i1), (2, vI x2), (5, vI x5)]) dX0_findSilence_80 (by decide) rfl ?_
        refine xj_pick (ls' := [(0, vR 0 0), (1, vR 7 i1), (2, vI x2), (3, vI x5), (4, vI (r_J6_bitCount_0f7a4 x5)), (5, vI x5)]) [2, 3, 4, 1, 0, 5] rfl ?_
        exact ok_X0_findSilence_j82_c16 i1 x2 x5 (r_J6_bitCount_0f7a4 x5) x5 m6 h kb ke
noncomputable def r_X0_findSilence_e88_h16 (x3 : Int32) (m : Mem) : Option (Int32 × Mem) :=
  some (x3, m)
set_option maxHeartbeats 4000000 in
set_option maxRecDepth 20000 in
theorem ok_X0_findSilence_e88_h16 (x3 : Int32) (m : Mem) {z : Int32} {m' : Mem} (h : r_X0_findSilence_e88_h16 x3 m = some (z, m')) : Xj RX0 cX0_findSilence 6 (some .int) 5 131 0 0 0 0 88 [(3, vI x3)] [] m (oI z) m' := by
  unfold r_X0_findSilence_e88_h16 at h
  refine xj_iload_n 0 dX0_findSilence_88 rfl ?_
  cases h
  exact xj_ireturn dX0_findSilence_89 rfl (by decide) (by decide)
noncomputable def r_X0_findSilence_l16 (i1 : Nat) (x2 : Int32) (x3 : Int32) (x4 : Int32) (x5 : Int32) (m : Mem) : Option (Int32 × Mem) :=
  bd1 (loopO (fun s => r_X0_findSilence_b16 i1 x2 s.1 s.2.1 s.2.2.1 s.2.2.2) (x3, x4, x5, m)) (fun e => r_X0_findSilence_e88_h16 e.1 e.2)
set_option maxHeartbeats 4000000 in
set_option maxRecDepth 20000 in
theorem ok_X0_findSilence_l16 (i1 : Nat) (x2 : Int32) (x3 : Int32) (x4 : Int32) (x5 : Int32) (m : Mem) {z : Int32} {m' : Mem} (h : r_X0_findSilence_l16 i1 x2 x3 x4 x5 m = some (z, m')) : Xj RX0 cX0_findSilence 6 (some .int) 5 131 0 0 0 0 16 [(0, vR 0 0), (1, vR 7 i1), (2, vI x2), (3, vI x3), (4, vI x4), (5, vI x5)] [] m (oI z) m' := by
  unfold r_X0_findSilence_l16 at h
  obtain ⟨e, e1, h⟩ := bd1_some h
  refine loopO_ok (P := fun s : (Int32 × Int32 × Int32 × Mem) => Xj RX0 cX0_findSilence 6 (some .int) 5 131 0 0 0 0 16 [(0, vR 0 0), (1, vR 7 i1), (2, vI x2), (3, vI s.1), (4, vI s.2.1), (5, vI s.2.2.1)] [] s.2.2.2 (oI z) m') (Q := fun e : (Int32 × Mem) => Xj RX0 cX0_findSilence 6 (some .int) 5 131 0 0 0 0 88 [(3, vI e.1)] [] e.2 (oI z) m') ?_ _ _ e1 ?_
  · intro s r9 h9 hi hx
    exact ok_X0_findSilence_b16 i1 x2 s.1 s.2.1 s.2.2.1 s.2.2.2 h9 (by rintro _ _ _ _ rfl; exact hi _ rfl) (by rintro _ _ rfl; exact hx _ rfl)
  · exact ok_X0_findSilence_e88_h16 e.1 e.2 h 
noncomputable def r_X0_findSilence (i1 : Nat) (x2 : Int32) (m : Mem) : Option (Int32 × Mem) :=
  r_X0_findSilence_l16 i1 x2 (-1) ((m 3 0 2) + 1) 0 m
set_option maxHeartbeats 4000000 in
set_option maxRecDepth 20000 in
theorem ok_X0_findSilence (i1 : Nat) (x2 : Int32) (m : Mem) {z : Int32} {m' : Mem} (h : r_X0_findSilence i1 x2 m = some (z, m')) : Mt yX0_findSilence cX0_findSilence 6 (some .int) 5 131 0 0 [vR 0 0, vR 7 i1, vI x2] m (oI z) m' := by
  refine Mt.of (by decide) (Nat.le_of_ble_eq_true rfl) (by decide +kernel) (hhF_ne (by decide)) ?_
  show Xj RX0 cX0_findSilence 6 (some .int) 5 131 0 0 0 0 0 [(0, vR 0 0), (1, vR 7 i1), (2, vI x2)] [] m (oI z) m'
  unfold r_X0_findSilence at h
  refine xj_iconst (z := (-1)) dX0_findSilence_0 (by decide) ?_
  refine xj_istore_n (ls' := [(3, vI (-1)), (0, vR 0 0), (1, vR 7 i1), (2, vI x2)]) dX0_findSilence_1 rfl (by decide) rfl ?_
  refine xj_aload_n 1 dX0_findSilence_2 rfl ?_
  refine xg_getR (k' := 3) (i' := 0) dX0_findSilence_3 fl_X0_28 rfl ?_
  refine xg_getI (x := (m 3 0 2)) dX0_findSilence_6 fl_X0_97 rfl rfl ?_
  refine xj_iconst (z := 1) dX0_findSilence_9 (by decide) ?_
  refine xj_iadd dX0_findSilence_10 ?_
  refine xj_istore (ls' := [(4, vI ((m 3 0 2) + 1)), (3, vI (-1)), (0, vR 0 0), (1, vR 7 i1), (2, vI x2)]) dX0_findSilence_11 (by decide) rfl ?_
  refine xj_iconst (z := 0) dX0_findSilence_13 (by decide) ?_
  refine xj_istore (ls' := [(5, vI 0), (4, vI ((m 3 0 2) + 1)), (3, vI (-1)), (0, vR 0 0), (1, vR 7 i1), (2, vI x2)]) dX0_findSilence_14 (by decide) rfl ?_
  refine xj_pick (ls' := [(0, vR 0 0), (1, vR 7 i1), (2, vI x2), (3, vI (-1)), (4, vI ((m 3 0 2) + 1)), (5, vI 0)]) [3, 4, 5, 2, 1, 0] rfl ?_
  exact ok_X0_findSilence_l16 i1 x2 (-1) ((m 3 0 2) + 1) 0 m h 
noncomputable def r_X0_findStay_j60_c18 (y2 : Int64) (x4 : Int32) (x5 : Int32) (m : Mem) : Option ((Int64 × Int32 × Int32 × Mem) ⊕ ((Mem) ⊕ (Int32 × Mem))) :=
  if (x5 - x4) = 20 then (some (Sum.inr (Sum.inr (x4, m)))) else (bd1 (r_X6_flowOneDay 1 m) fun m11 => (some (Sum.inl (y2, x4, x5 + 1, m11))))
set_option maxHeartbeats 4000000 in
set_option maxRecDepth 20000 in
theorem ok_X0_findStay_j60_c18 (y2 : Int64) (x4 : Int32) (x5 : Int32) (m : Mem) {r : (Int64 × Int32 × Int32 × Mem) ⊕ ((Mem) ⊕ (Int32 × Mem))} (h : r_X0_findStay_j60_c18 y2 x4 x5 m = some r) {o : Ou} {M' : Mem} (kb : ∀ (y2' : Int64) (x4' : Int32) (x5' : Int32) (m'' : Mem), r = Sum.inl (y2', x4', x5', m'') → Xj RX0 cX0_findStay 6 (some .int) 5 109 0 0 0 0 18 [(0, vR 0 0), (2, vL y2'), (4, vI x4'), (5, vI x5')] [] m'' o M') (ke : ∀ (m'' : Mem), r = Sum.inr (Sum.inl m'') → Xj RX0 cX0_findStay 6 (some .int) 5 109 0 0 0 0 90 [] [] m'' o M') (kr : ∀ (z : Int32) (m' : Mem), r = Sum.inr (Sum.inr (z, m')) → o = (oI z) ∧ M' = m') : Xj RX0 cX0_findStay 6 (some .int) 5 109 0 0 0 0 60 [(0, vR 0 0), (2, vL y2), (4, vI x4), (5, vI x5)] [] m o M' := by
  unfold r_X0_findStay_j60_c18 at h
  refine xj_iload 3 dX0_findStay_60 rfl ?_
  refine xj_iload 2 dX0_findStay_62 rfl ?_
  refine xj_isub dX0_findStay_64 ?_
  refine xj_bipush (z := 20) dX0_findStay_65 (by decide) ?_
  refine xj_icmp_ne (tgt := 73) dX0_findStay_67 (by decide) (fun c9 => ?_) (fun c9 => ?_)
  · rw [if_neg c9] at h
    refine xj_aload_n 0 dX0_findStay_73 rfl ?_
    refine xg_getR (k' := 6) (i' := 0) dX0_findStay_74 fl_X0_32 rfl ?_
    refine xj_aload_n 0 dX0_findStay_77 rfl ?_
    refine xg_getR (k' := 7) (i' := 1) dX0_findStay_78 fl_X0_12 rfl ?_
    obtain ⟨m11, e10, h⟩ := bd1_some h
    refine xc_Vv0 (st := []) (ok_X6_flowOneDay 1 m e10) dX0_findStay_81 cv_X0_45 rfl rfl (Nat.le_of_ble_eq_true rfl) (by decide) (by decide) (by decide) (by decide) ?_
    refine xj_iinc (z := x5 + 1) (ls' := [(5, vI (x5 + 1)), (0, vR 0 0), (2, vL y2), (4, vI x4)]) 3 dX0_findStay_84 rfl rfl (by decide) rfl ?_
    refine xj_goto (tgt := 18) dX0_findStay_87 (by decide) ?_
    cases h
    refine xj_pick (ls' := [(0, vR 0 0), (2, vL y2), (4, vI x4), (5, vI (x5 + 1))]) [1, 2, 3, 0] rfl ?_
    exact kb y2 x4 (x5 + 1) m11 rfl
  · rw [if_pos c9] at h
    refine xj_iload 2 dX0_findStay_70 rfl ?_
    cases h
    obtain ⟨rfl, rfl⟩ := kr _ _ rfl
    exact xj_ireturn dX0_findStay_72 rfl (by decide) (by decide)
noncomputable def r_X0_findStay_b18 (y2 : Int64) (x4 : Int32) (x5 : Int32) (m : Mem) : Option ((Int64 × Int32 × Int32 × Mem) ⊕ ((Mem) ⊕ (Int32 × Mem))) :=
  if 80 < x5 then (some (Sum.inr (Sum.inl m))) else (bd1 (r_X6_trace 1 m) fun m5 => (bd1 (r_X6_key m5) fun z7 => (if (lg_cmp z7 y2) = 0 then (r_X0_findStay_j60_c18 y2 x4 x5 m5) else (bd1 (r_X6_key m5) fun z13 => (r_X0_findStay_j60_c18 z13 x5 x5 m5)))))
set_option maxHeartbeats 4000000 in
set_option maxRecDepth 20000 in
theorem ok_X0_findStay_b18 (y2 : Int64) (x4 : Int32) (x5 : Int32) (m : Mem) {r : (Int64 × Int32 × Int32 × Mem) ⊕ ((Mem) ⊕ (Int32 × Mem))} (h : r_X0_findStay_b18 y2 x4 x5 m = some r) {o : Ou} {M' : Mem} (kb : ∀ (y2' : Int64) (x4' : Int32) (x5' : Int32) (m'' : Mem), r = Sum.inl (y2', x4', x5', m'') → Xj RX0 cX0_findStay 6 (some .int) 5 109 0 0 0 0 18 [(0, vR 0 0), (2, vL y2'), (4, vI x4'), (5, vI x5')] [] m'' o M') (ke : ∀ (m'' : Mem), r = Sum.inr (Sum.inl m'') → Xj RX0 cX0_findStay 6 (some .int) 5 109 0 0 0 0 90 [] [] m'' o M') (kr : ∀ (z : Int32) (m' : Mem), r = Sum.inr (Sum.inr (z, m')) → o = (oI z) ∧ M' = m') : Xj RX0 cX0_findStay 6 (some .int) 5 109 0 0 0 0 18 [(0, vR 0 0), (2, vL y2), (4, vI x4), (5, vI x5)] [] m o M' := by
  unfold r_X0_findStay_b18 at h
  refine xj_iload 3 dX0_findStay_18 rfl ?_
  refine xj_bipush (z := 80) dX0_findStay_20 (by decide) ?_
  refine xj_icmp_gt (tgt := 90) dX0_findStay_22 (by decide) (fun c3 => ?_) (fun c3 => ?_)
  · rw [if_pos c3] at h
    cases h
    refine xj_pick (ls' := []) [] rfl ?_
    exact ke m rfl
  · rw [if_neg c3] at h
    refine xj_aload_n 0 dX0_findStay_25 rfl ?_
    refine xg_getR (k' := 6) (i' := 0) dX0_findStay_26 fl_X0_32 rfl ?_
    refine xj_aload_n 0 dX0_findStay_29 rfl ?_
    refine xg_getR (k' := 7) (i' := 1) dX0_findStay_30 fl_X0_12 rfl ?_
    obtain ⟨m5, e4, h⟩ := bd1_some h
    refine xc_Vv0 (st := []) (ok_X6_trace 1 m e4) dX0_findStay_33 cv_X0_40 rfl rfl (Nat.le_of_ble_eq_true rfl) (by decide) (by decide) (by decide) (by decide) ?_
    refine xj_aload_n 0 dX0_findStay_36 rfl ?_
    refine xg_getR (k' := 6) (i' := 0) dX0_findStay_37 fl_X0_32 rfl ?_
    obtain ⟨z7, e6, h⟩ := bd1_some h
    refine xc_Vl0 (st := []) (ok_X6_key m5 e6) dX0_findStay_40 cv_X0_50 rfl rfl (Nat.le_of_ble_eq_true rfl) (by decide) (by decide) (by decide) (by decide) ?_
    refine xj_lload_n 1 dX0_findStay_43 rfl ?_
    refine xj_lcmp dX0_findStay_44 ?_
    refine xj_if_eq (tgt := 60) dX0_findStay_45 (by decide) (fun c8 => ?_) (fun c8 => ?_)
    · rw [if_pos c8] at h
      exact ok_X0_findStay_j60_c18 y2 x4 x5 m5 h kb ke kr
    · rw [if_neg c8] at h
      refine xj_aload_n 0 dX0_findStay_48 rfl ?_
      refine xg_getR (k' := 6) (i' := 0) dX0_findStay_49 fl_X0_32 rfl ?_
      obtain ⟨z13, e12, h⟩ := bd1_some h
      refine xc_Vl0 (st := []) (ok_X6_key m5 e12) dX0_findStay_52 cv_X0_50 rfl rfl (Nat.le_of_ble_eq_true rfl) (by decide) (by decide) (by decide) (by decide) ?_
      refine xj_lstore_n (ls' := [(2, vL z13), (0, vR 0 0), (4, vI x4), (5, vI x5)]) dX0_findStay_55 rfl (by decide) rfl ?_
      refine xj_iload 3 dX0_findStay_56 rfl ?_
      refine xj_istore (ls' := [(4, vI x5), (2, vL z13), (0, vR 0 0), (5, vI x5)]) dX0_findStay_58 (by decide) rfl ?_
      refine xj_pick (ls' := [(0, vR 0 0), (2, vL z13), (4, vI x5), (5, vI x5)]) [2, 1, 0, 3] rfl ?_
      exact ok_X0_findStay_j60_c18 z13 x5 x5 m5 h kb ke kr
noncomputable def r_X0_findStay_e90_h18 (m : Mem) : Option (Int32 × Mem) :=
  some ((-1), m)
set_option maxHeartbeats 4000000 in
set_option maxRecDepth 20000 in
theorem ok_X0_findStay_e90_h18 (m : Mem) {z : Int32} {m' : Mem} (h : r_X0_findStay_e90_h18 m = some (z, m')) : Xj RX0 cX0_findStay 6 (some .int) 5 109 0 0 0 0 90 [] [] m (oI z) m' := by
  unfold r_X0_findStay_e90_h18 at h
  refine xj_iconst (z := (-1)) dX0_findStay_90 (by decide) ?_
  cases h
  exact xj_ireturn dX0_findStay_91 rfl (by decide) (by decide)
noncomputable def r_X0_findStay_l18 (y2 : Int64) (x4 : Int32) (x5 : Int32) (m : Mem) : Option (Int32 × Mem) :=
  bdS (loopO (fun s => r_X0_findStay_b18 s.1 s.2.1 s.2.2.1 s.2.2.2) (y2, x4, x5, m)) (fun e => r_X0_findStay_e90_h18 e) (fun q => some q)
set_option maxHeartbeats 4000000 in
set_option maxRecDepth 20000 in
theorem ok_X0_findStay_l18 (y2 : Int64) (x4 : Int32) (x5 : Int32) (m : Mem) {z : Int32} {m' : Mem} (h : r_X0_findStay_l18 y2 x4 x5 m = some (z, m')) : Xj RX0 cX0_findStay 6 (some .int) 5 109 0 0 0 0 18 [(0, vR 0 0), (2, vL y2), (4, vI x4), (5, vI x5)] [] m (oI z) m' := by
  unfold r_X0_findStay_l18 at h
  rcases bdS_some h with ⟨e, e1, h⟩ | ⟨q, e1, h⟩
  · refine loopO_ok (P := fun s : (Int64 × Int32 × Int32 × Mem) => Xj RX0 cX0_findStay 6 (some .int) 5 109 0 0 0 0 18 [(0, vR 0 0), (2, vL s.1), (4, vI s.2.1), (5, vI s.2.2.1)] [] s.2.2.2 (oI z) m') (Q := Sum.elim (fun e : (Mem) => Xj RX0 cX0_findStay 6 (some .int) 5 109 0 0 0 0 90 [] [] e (oI z) m') (fun q : (Int32 × Mem) => (oI z) = (oI q.1) ∧ m' = q.2)) ?_ _ _ e1 ?_
    · intro s r9 h9 hi hx
      exact ok_X0_findStay_b18 s.1 s.2.1 s.2.2.1 s.2.2.2 h9 (by rintro _ _ _ _ rfl; exact hi _ rfl) (by rintro _ rfl; exact hx _ rfl) (by rintro _ _ rfl; exact hx _ rfl)
    · exact ok_X0_findStay_e90_h18 e h 
  · refine loopO_ok (P := fun s : (Int64 × Int32 × Int32 × Mem) => Xj RX0 cX0_findStay 6 (some .int) 5 109 0 0 0 0 18 [(0, vR 0 0), (2, vL s.1), (4, vI s.2.1), (5, vI s.2.2.1)] [] s.2.2.2 (oI z) m') (Q := Sum.elim (fun e : (Mem) => Xj RX0 cX0_findStay 6 (some .int) 5 109 0 0 0 0 90 [] [] e (oI z) m') (fun q : (Int32 × Mem) => (oI z) = (oI q.1) ∧ m' = q.2)) ?_ _ _ e1 ?_
    · intro s r9 h9 hi hx
      exact ok_X0_findStay_b18 s.1 s.2.1 s.2.2.1 s.2.2.2 h9 (by rintro _ _ _ _ rfl; exact hi _ rfl) (by rintro _ rfl; exact hx _ rfl) (by rintro _ _ rfl; exact hx _ rfl)
    · cases h; exact ⟨rfl, rfl⟩
noncomputable def r_X0_findStay (i1 : Nat) (m : Mem) : Option (Int32 × Mem) :=
  bd1 (r_X7_copyFrom 1 i1 m) fun m2 => (r_X0_findStay_l18 (-1) 0 0 m2)
set_option maxHeartbeats 4000000 in
set_option maxRecDepth 20000 in
theorem ok_X0_findStay (i1 : Nat) (m : Mem) {z : Int32} {m' : Mem} (h : r_X0_findStay i1 m = some (z, m')) : Mt yX0_findStay cX0_findStay 6 (some .int) 5 109 0 0 [vR 0 0, vR 7 i1] m (oI z) m' := by
  refine Mt.of (by decide) (Nat.le_of_ble_eq_true rfl) (by decide +kernel) (hhF_ne (by decide)) ?_
  show Xj RX0 cX0_findStay 6 (some .int) 5 109 0 0 0 0 0 [(0, vR 0 0), (1, vR 7 i1)] [] m (oI z) m'
  unfold r_X0_findStay at h
  refine xj_aload_n 0 dX0_findStay_0 rfl ?_
  refine xg_getR (k' := 7) (i' := 1) dX0_findStay_1 fl_X0_12 rfl ?_
  refine xj_aload_n 1 dX0_findStay_4 rfl ?_
  obtain ⟨m2, e1, h⟩ := bd1_some h
  refine xc_Vv0 (st := []) (ok_X7_copyFrom 1 i1 m e1) dX0_findStay_5 cv_X0_36 rfl rfl (Nat.le_of_ble_eq_true rfl) (by decide) (by decide) (by decide) (by decide) ?_
  refine xj_ldc2 (z := (-1)) dX0_findStay_8 wt_515 ?_
  refine xj_lstore_n (ls' := [(2, vL (-1)), (0, vR 0 0), (1, vR 7 i1)]) dX0_findStay_11 rfl (by decide) rfl ?_
  refine xj_iconst (z := 0) dX0_findStay_12 (by decide) ?_
  refine xj_istore (ls' := [(4, vI 0), (2, vL (-1)), (0, vR 0 0), (1, vR 7 i1)]) dX0_findStay_13 (by decide) rfl ?_
  refine xj_iconst (z := 0) dX0_findStay_15 (by decide) ?_
  refine xj_istore (ls' := [(5, vI 0), (4, vI 0), (2, vL (-1)), (0, vR 0 0), (1, vR 7 i1)]) dX0_findStay_16 (by decide) rfl ?_
  refine xj_pick (ls' := [(0, vR 0 0), (2, vL (-1)), (4, vI 0), (5, vI 0)]) [3, 2, 1, 0] rfl ?_
  exact ok_X0_findStay_l18 (-1) 0 0 m2 h 
noncomputable def r_X0_turnByTells_j60_c2 (x1 : Int32) (x2 : Int32) (x3 : Int32) (m : Mem) : Option ((Int32 × Mem) ⊕ (Mem)) :=
  some (Sum.inl (x3 + 1, m))
set_option maxHeartbeats 4000000 in
set_option maxRecDepth 20000 in
theorem ok_X0_turnByTells_j60_c2 (x1 : Int32) (x2 : Int32) (x3 : Int32) (m : Mem) {r : (Int32 × Mem) ⊕ (Mem)} (h : r_X0_turnByTells_j60_c2 x1 x2 x3 m = some r) {o : Ou} {M' : Mem} (kb : ∀ (x3' : Int32) (m'' : Mem), r = Sum.inl (x3', m'') → Xj RX0 cX0_turnByTells 4 none 4 79 0 0 0 0 2 [(0, vR 0 0), (1, vI x1), (2, vI x2), (3, vI x3')] [] m'' o M') (ke : ∀ (m'' : Mem), r = Sum.inr m'' → Xj RX0 cX0_turnByTells 4 none 4 79 0 0 0 0 66 [] [] m'' o M') : Xj RX0 cX0_turnByTells 4 none 4 79 0 0 0 0 60 [(0, vR 0 0), (1, vI x1), (2, vI x2), (3, vI x3)] [] m o M' := by
  unfold r_X0_turnByTells_j60_c2 at h
  refine xj_iinc (z := x3 + 1) (ls' := [(3, vI (x3 + 1)), (0, vR 0 0), (1, vI x1), (2, vI x2)]) 3 dX0_turnByTells_60 rfl rfl (by decide) rfl ?_
  refine xj_goto (tgt := 2) dX0_turnByTells_63 (by decide) ?_
  cases h
  refine xj_pick (ls' := [(0, vR 0 0), (1, vI x1), (2, vI x2), (3, vI (x3 + 1))]) [1, 2, 3, 0] rfl ?_
  exact kb (x3 + 1) m rfl
noncomputable def r_X0_turnByTells_b2 (x1 : Int32) (x2 : Int32) (x3 : Int32) (m : Mem) : Option ((Int32 × Mem) ⊕ (Mem)) :=
  if (m 3 0 0) ≤ x3 then (some (Sum.inr m)) else (bd1 (r_X3_between 0 x2 x3 m) fun z3 => (if z3 = (-1) then (r_X0_turnByTells_j60_c2 x1 x2 x3 m) else (bd2 (r_X7_tell 1 x1 x2 x3 m) fun z7 m6 => (bd2 (r_X6_goesOn 1 x2 m6) fun z10 m9 => (if inb ((x2 * 12) + x3) 144 = true then (r_X0_turnByTells_j60_c2 x1 x2 x3 (wr m9 44 0 (((x2 * 12) + x3).toNatClampNeg) z10)) else none)))))
set_option maxHeartbeats 4000000 in
set_option maxRecDepth 20000 in
theorem ok_X0_turnByTells_b2 (x1 : Int32) (x2 : Int32) (x3 : Int32) (m : Mem) {r : (Int32 × Mem) ⊕ (Mem)} (h : r_X0_turnByTells_b2 x1 x2 x3 m = some r) {o : Ou} {M' : Mem} (kb : ∀ (x3' : Int32) (m'' : Mem), r = Sum.inl (x3', m'') → Xj RX0 cX0_turnByTells 4 none 4 79 0 0 0 0 2 [(0, vR 0 0), (1, vI x1), (2, vI x2), (3, vI x3')] [] m'' o M') (ke : ∀ (m'' : Mem), r = Sum.inr m'' → Xj RX0 cX0_turnByTells 4 none 4 79 0 0 0 0 66 [] [] m'' o M') : Xj RX0 cX0_turnByTells 4 none 4 79 0 0 0 0 2 [(0, vR 0 0), (1, vI x1), (2, vI x2), (3, vI x3)] [] m o M' := by
  unfold r_X0_turnByTells_b2 at h
  refine xj_iload_n 3 dX0_turnByTells_2 rfl ?_
  refine xj_aload_n 0 dX0_turnByTells_3 rfl ?_
  refine xg_getR (k' := 3) (i' := 0) dX0_turnByTells_4 fl_X0_28 rfl ?_
  refine xg_getI (x := (m 3 0 0)) dX0_turnByTells_7 fl_X0_54 rfl rfl ?_
  refine xj_icmp_ge (tgt := 66) dX0_turnByTells_10 (by decide) (fun c1 => ?_) (fun c1 => ?_)
  · rw [if_pos c1] at h
    cases h
    refine xj_pick (ls' := []) [] rfl ?_
    exact ke m rfl
  · rw [if_neg c1] at h
    refine xj_aload_n 0 dX0_turnByTells_13 rfl ?_
    refine xg_getR (k' := 3) (i' := 0) dX0_turnByTells_14 fl_X0_28 rfl ?_
    refine xj_iload_n 2 dX0_turnByTells_17 rfl ?_
    refine xj_iload_n 3 dX0_turnByTells_18 rfl ?_
    obtain ⟨z3, e2, h⟩ := bd1_some h
    refine xc_Vi0 (st := []) (ok_X3_between 0 x2 x3 m e2) dX0_turnByTells_19 cv_X0_82 rfl rfl (Nat.le_of_ble_eq_true rfl) (by decide) (by decide) (by decide) (by decide) ?_
    refine xj_iconst (z := (-1)) dX0_turnByTells_22 (by decide) ?_
    refine xj_icmp_eq (tgt := 60) dX0_turnByTells_23 (by decide) (fun c4 => ?_) (fun c4 => ?_)
    · rw [if_pos c4] at h
      exact ok_X0_turnByTells_j60_c2 x1 x2 x3 m h kb ke
    · rw [if_neg c4] at h
      refine xj_aload_n 0 dX0_turnByTells_26 rfl ?_
      refine xg_getR (k' := 7) (i' := 1) dX0_turnByTells_27 fl_X0_12 rfl ?_
      refine xj_iload_n 1 dX0_turnByTells_30 rfl ?_
      refine xj_iload_n 2 dX0_turnByTells_31 rfl ?_
      refine xj_iload_n 3 dX0_turnByTells_32 rfl ?_
      obtain ⟨z7, m6, e5, h⟩ := bd2_some h
      refine xc_Vb0 (st := []) (ok_X7_tell 1 x1 x2 x3 m e5) dX0_turnByTells_33 cv_X0_86 rfl rfl (Nat.le_of_ble_eq_true rfl) (by decide) (by decide) (by decide) (by decide) ?_
      refine xj_pop dX0_turnByTells_36 rfl ?_
      refine xj_aload_n 0 dX0_turnByTells_37 rfl ?_
      refine xg_getR (k' := 44) (i' := 0) dX0_turnByTells_38 fl_X0_22 rfl ?_
      refine xj_iload_n 2 dX0_turnByTells_41 rfl ?_
      refine xj_bipush (z := 12) dX0_turnByTells_42 (by decide) ?_
      refine xj_imul dX0_turnByTells_44 ?_
      refine xj_iload_n 3 dX0_turnByTells_45 rfl ?_
      refine xj_iadd dX0_turnByTells_46 ?_
      refine xj_aload_n 0 dX0_turnByTells_47 rfl ?_
      refine xg_getR (k' := 6) (i' := 0) dX0_turnByTells_48 fl_X0_32 rfl ?_
      refine xj_aload_n 0 dX0_turnByTells_51 rfl ?_
      refine xg_getR (k' := 7) (i' := 1) dX0_turnByTells_52 fl_X0_12 rfl ?_
      refine xj_iload_n 2 dX0_turnByTells_55 rfl ?_
      obtain ⟨z10, m9, e8, h⟩ := bd2_some h
      refine xc_Vi0 (st := [vI ((x2 * 12) + x3), vR 44 0]) (ok_X6_goesOn 1 x2 m6 e8) dX0_turnByTells_56 cv_X0_60 rfl rfl (Nat.le_of_ble_eq_true rfl) (by decide) (by decide) (by decide) (by decide) ?_
      by_cases c11 : inb ((x2 * 12) + x3) 144 = true
      case neg => rw [if_neg c11] at h; cases h
      rw [if_pos c11] at h
      refine xg_iast (n := ((x2 * 12) + x3).toNatClampNeg) dX0_turnByTells_59 rfl (by decide) (inb_in c11) rfl ?_
      exact ok_X0_turnByTells_j60_c2 x1 x2 x3 (wr m9 44 0 (((x2 * 12) + x3).toNatClampNeg) z10) h kb ke
noncomputable def r_X0_turnByTells_e66_h2 (m : Mem) : Option Mem :=
  some m
set_option maxHeartbeats 4000000 in
set_option maxRecDepth 20000 in
theorem ok_X0_turnByTells_e66_h2 (m : Mem) {m' : Mem} (h : r_X0_turnByTells_e66_h2 m = some m') : Xj RX0 cX0_turnByTells 4 none 4 79 0 0 0 0 66 [] [] m oV m' := by
  unfold r_X0_turnByTells_e66_h2 at h
  cases h
  exact xj_return dX0_turnByTells_66 (by decide) (by decide)
noncomputable def r_X0_turnByTells_l2 (x1 : Int32) (x2 : Int32) (x3 : Int32) (m : Mem) : Option Mem :=
  bd1 (loopO (fun s => r_X0_turnByTells_b2 x1 x2 s.1 s.2) (x3, m)) (fun e => r_X0_turnByTells_e66_h2 e)
set_option maxHeartbeats 4000000 in
set_option maxRecDepth 20000 in
theorem ok_X0_turnByTells_l2 (x1 : Int32) (x2 : Int32) (x3 : Int32) (m : Mem) {m' : Mem} (h : r_X0_turnByTells_l2 x1 x2 x3 m = some m') : Xj RX0 cX0_turnByTells 4 none 4 79 0 0 0 0 2 [(0, vR 0 0), (1, vI x1), (2, vI x2), (3, vI x3)] [] m oV m' := by
  unfold r_X0_turnByTells_l2 at h
  obtain ⟨e, e1, h⟩ := bd1_some h
  refine loopO_ok (P := fun s : (Int32 × Mem) => Xj RX0 cX0_turnByTells 4 none 4 79 0 0 0 0 2 [(0, vR 0 0), (1, vI x1), (2, vI x2), (3, vI s.1)] [] s.2 oV m') (Q := fun e : (Mem) => Xj RX0 cX0_turnByTells 4 none 4 79 0 0 0 0 66 [] [] e oV m') ?_ _ _ e1 ?_
  · intro s r9 h9 hi hx
    exact ok_X0_turnByTells_b2 x1 x2 s.1 s.2 h9 (by rintro _ _ rfl; exact hi _ rfl) (by rintro _ rfl; exact hx _ rfl)
  · exact ok_X0_turnByTells_e66_h2 e h 
noncomputable def r_X0_turnByTells (x1 : Int32) (x2 : Int32) (m : Mem) : Option Mem :=
  r_X0_turnByTells_l2 x1 x2 0 m
set_option maxHeartbeats 4000000 in
set_option maxRecDepth 20000 in
theorem ok_X0_turnByTells (x1 : Int32) (x2 : Int32) (m : Mem) {m' : Mem} (h : r_X0_turnByTells x1 x2 m = some m') : Mt yX0_turnByTells cX0_turnByTells 4 none 4 79 0 0 [vR 0 0, vI x1, vI x2] m oV m' := by
  refine Mt.of (by decide) (Nat.le_of_ble_eq_true rfl) (by decide +kernel) (hhF_ne (by decide)) ?_
  show Xj RX0 cX0_turnByTells 4 none 4 79 0 0 0 0 0 [(0, vR 0 0), (1, vI x1), (2, vI x2)] [] m oV m'
  unfold r_X0_turnByTells at h
  refine xj_iconst (z := 0) dX0_turnByTells_0 (by decide) ?_
  refine xj_istore_n (ls' := [(3, vI 0), (0, vR 0 0), (1, vI x1), (2, vI x2)]) dX0_turnByTells_1 rfl (by decide) rfl ?_
  refine xj_pick (ls' := [(0, vR 0 0), (1, vI x1), (2, vI x2), (3, vI 0)]) [1, 2, 3, 0] rfl ?_
  exact ok_X0_turnByTells_l2 x1 x2 0 m h 
noncomputable def r_X0_secondHelps_j83_c24 (x1 : Int32) (x2 : Int32) (x3 : Int32) (x4 : Int32) (x5 : Int32) (m : Mem) : Option ((Int32 × Mem) ⊕ ((Mem) ⊕ (Bool × Mem))) :=
  some (Sum.inl (x5 + 1, m))
set_option maxHeartbeats 4000000 in
set_option maxRecDepth 20000 in
theorem ok_X0_secondHelps_j83_c24 (x1 : Int32) (x2 : Int32) (x3 : Int32) (x4 : Int32) (x5 : Int32) (m : Mem) {r : (Int32 × Mem) ⊕ ((Mem) ⊕ (Bool × Mem))} (h : r_X0_secondHelps_j83_c24 x1 x2 x3 x4 x5 m = some r) {o : Ou} {M' : Mem} (kb : ∀ (x5' : Int32) (m'' : Mem), r = Sum.inl (x5', m'') → Xj RX0 cX0_secondHelps 6 (some .boolean) 2 23 0 0 0 0 24 [(0, vR 0 0), (1, vI x1), (2, vI x2), (3, vI x3), (4, vI x4), (5, vI x5')] [] m'' o M') (ke : ∀ (m'' : Mem), r = Sum.inr (Sum.inl m'') → Xj RX0 cX0_secondHelps 6 (some .boolean) 2 23 0 0 0 0 89 [(0, vR 0 0), (1, vI x1), (2, vI x2), (3, vI x3), (4, vI x4)] [] m'' o M') (kr : ∀ (z : Bool) (m' : Mem), r = Sum.inr (Sum.inr (z, m')) → o = (oB z) ∧ M' = m') : Xj RX0 cX0_secondHelps 6 (some .boolean) 2 23 0 0 0 0 83 [(0, vR 0 0), (1, vI x1), (2, vI x2), (3, vI x3), (4, vI x4), (5, vI x5)] [] m o M' := by
  unfold r_X0_secondHelps_j83_c24 at h
  refine xj_iinc (z := x5 + 1) (ls' := [(5, vI (x5 + 1)), (0, vR 0 0), (1, vI x1), (2, vI x2), (3, vI x3), (4, vI x4)]) 5 dX0_secondHelps_83 rfl rfl (by decide) rfl ?_
  refine xj_goto (tgt := 24) dX0_secondHelps_86 (by decide) ?_
  cases h
  refine xj_pick (ls' := [(0, vR 0 0), (1, vI x1), (2, vI x2), (3, vI x3), (4, vI x4), (5, vI (x5 + 1))]) [1, 2, 3, 4, 5, 0] rfl ?_
  exact kb (x5 + 1) m rfl
noncomputable def r_X0_secondHelps_b24_c2 (x1 : Int32) (x2 : Int32) (x3 : Int32) (x4 : Int32) (x5 : Int32) (m : Mem) : Option ((Int32 × Mem) ⊕ ((Mem) ⊕ (Bool × Mem))) :=
  if (m 3 0 0) ≤ x5 then (some (Sum.inr (Sum.inl m))) else (if x3 = x2 then (r_X0_secondHelps_j83_c24 x1 x2 x3 x4 x5 m) else (bd1 (r_X3_between 0 x3 x5 m) fun z6 => (if z6 = (-1) then (r_X0_secondHelps_j83_c24 x1 x2 x3 x4 x5 m) else (if inb ((x3 * 12) + x5) 144 = true then (if inb x3 12 = true then (bd1 (r_X0_comesTo x1 (wr m 43 0 x3.toNatClampNeg (m 44 0 (((x3 * 12) + x5).toNatClampNeg)))) fun z11 => (if z11 = true then (some (Sum.inr (Sum.inr (true, (wr m 43 0 x3.toNatClampNeg (m 44 0 (((x3 * 12) + x5).toNatClampNeg))))))) else (r_X0_secondHelps_j83_c24 x1 x2 x3 x4 x5 (wr m 43 0 x3.toNatClampNeg (m 44 0 (((x3 * 12) + x5).toNatClampNeg)))))) else none) else none))))
set_option maxHeartbeats 4000000 in
set_option maxRecDepth 20000 in
theorem ok_X0_secondHelps_b24_c2 (x1 : Int32) (x2 : Int32) (x3 : Int32) (x4 : Int32) (x5 : Int32) (m : Mem) {r : (Int32 × Mem) ⊕ ((Mem) ⊕ (Bool × Mem))} (h : r_X0_secondHelps_b24_c2 x1 x2 x3 x4 x5 m = some r) {o : Ou} {M' : Mem} (kb : ∀ (x5' : Int32) (m'' : Mem), r = Sum.inl (x5', m'') → Xj RX0 cX0_secondHelps 6 (some .boolean) 2 23 0 0 0 0 24 [(0, vR 0 0), (1, vI x1), (2, vI x2), (3, vI x3), (4, vI x4), (5, vI x5')] [] m'' o M') (ke : ∀ (m'' : Mem), r = Sum.inr (Sum.inl m'') → Xj RX0 cX0_secondHelps 6 (some .boolean) 2 23 0 0 0 0 89 [(0, vR 0 0), (1, vI x1), (2, vI x2), (3, vI x3), (4, vI x4)] [] m'' o M') (kr : ∀ (z : Bool) (m' : Mem), r = Sum.inr (Sum.inr (z, m')) → o = (oB z) ∧ M' = m') : Xj RX0 cX0_secondHelps 6 (some .boolean) 2 23 0 0 0 0 24 [(0, vR 0 0), (1, vI x1), (2, vI x2), (3, vI x3), (4, vI x4), (5, vI x5)] [] m o M' := by
  unfold r_X0_secondHelps_b24_c2 at h
  refine xj_iload 5 dX0_secondHelps_24 rfl ?_
  refine xj_aload_n 0 dX0_secondHelps_26 rfl ?_
  refine xg_getR (k' := 3) (i' := 0) dX0_secondHelps_27 fl_X0_28 rfl ?_
  refine xg_getI (x := (m 3 0 0)) dX0_secondHelps_30 fl_X0_54 rfl rfl ?_
  refine xj_icmp_ge (tgt := 89) dX0_secondHelps_33 (by decide) (fun c3 => ?_) (fun c3 => ?_)
  · rw [if_pos c3] at h
    cases h
    refine xj_pick (ls' := [(0, vR 0 0), (1, vI x1), (2, vI x2), (3, vI x3), (4, vI x4)]) [0, 1, 2, 3, 4] rfl ?_
    exact ke m rfl
  · rw [if_neg c3] at h
    refine xj_iload_n 3 dX0_secondHelps_36 rfl ?_
    refine xj_iload_n 2 dX0_secondHelps_37 rfl ?_
    refine xj_icmp_eq (tgt := 83) dX0_secondHelps_38 (by decide) (fun c4 => ?_) (fun c4 => ?_)
    · rw [if_pos c4] at h
      exact ok_X0_secondHelps_j83_c24 x1 x2 x3 x4 x5 m h kb ke kr
    · rw [if_neg c4] at h
      refine xj_aload_n 0 dX0_secondHelps_41 rfl ?_
      refine xg_getR (k' := 3) (i' := 0) dX0_secondHelps_42 fl_X0_28 rfl ?_
      refine xj_iload_n 3 dX0_secondHelps_45 rfl ?_
      refine xj_iload 5 dX0_secondHelps_46 rfl ?_
      obtain ⟨z6, e5, h⟩ := bd1_some h
      refine xc_Vi0 (st := []) (ok_X3_between 0 x3 x5 m e5) dX0_secondHelps_48 cv_X0_82 rfl rfl (Nat.le_of_ble_eq_true rfl) (by decide) (by decide) (by decide) (by decide) ?_
      refine xj_iconst (z := (-1)) dX0_secondHelps_51 (by decide) ?_
      refine xj_icmp_eq (tgt := 83) dX0_secondHelps_52 (by decide) (fun c7 => ?_) (fun c7 => ?_)
      · rw [if_pos c7] at h
        exact ok_X0_secondHelps_j83_c24 x1 x2 x3 x4 x5 m h kb ke kr
      · rw [if_neg c7] at h
        refine xj_aload_n 0 dX0_secondHelps_55 rfl ?_
        refine xg_getR (k' := 43) (i' := 0) dX0_secondHelps_56 fl_X0_18 rfl ?_
        refine xj_iload_n 3 dX0_secondHelps_59 rfl ?_
        refine xj_aload_n 0 dX0_secondHelps_60 rfl ?_
        refine xg_getR (k' := 44) (i' := 0) dX0_secondHelps_61 fl_X0_22 rfl ?_
        refine xj_iload_n 3 dX0_secondHelps_64 rfl ?_
        refine xj_bipush (z := 12) dX0_secondHelps_65 (by decide) ?_
        refine xj_imul dX0_secondHelps_67 ?_
        refine xj_iload 5 dX0_secondHelps_68 rfl ?_
        refine xj_iadd dX0_secondHelps_70 ?_
        by_cases c8 : inb ((x3 * 12) + x5) 144 = true
        case neg => rw [if_neg c8] at h; cases h
        rw [if_pos c8] at h
        refine xg_iald (z := (m 44 0 (((x3 * 12) + x5).toNatClampNeg))) (n := ((x3 * 12) + x5).toNatClampNeg) dX0_secondHelps_71 rfl (by decide) (inb_in c8) rfl rfl ?_
        by_cases c9 : inb x3 12 = true
        case neg => rw [if_neg c9] at h; cases h
        rw [if_pos c9] at h
        refine xg_iast (n := x3.toNatClampNeg) dX0_secondHelps_72 rfl (by decide) (inb_in c9) rfl ?_
        refine xj_aload_n 0 dX0_secondHelps_73 rfl ?_
        refine xj_iload_n 1 dX0_secondHelps_74 rfl ?_
        obtain ⟨z11, e10, h⟩ := bd1_some h
        refine xc_Vb0 (st := []) (ok_X0_comesTo x1 (wr m 43 0 x3.toNatClampNeg (m 44 0 (((x3 * 12) + x5).toNatClampNeg))) e10) dX0_secondHelps_75 cv_X0_74 rfl rfl (Nat.le_of_ble_eq_true rfl) (by decide) (by decide) (by decide) (by decide) ?_
        refine xj_if_eq (tgt := 83) dX0_secondHelps_78 (by decide) (fun c12 => ?_) (fun c12 => ?_)
        · rw [if_neg (b2i_f c12)] at h
          exact ok_X0_secondHelps_j83_c24 x1 x2 x3 x4 x5 (wr m 43 0 x3.toNatClampNeg (m 44 0 (((x3 * 12) + x5).toNatClampNeg))) h kb ke kr
        · rw [if_pos (b2i_t c12)] at h
          refine xj_iconst (z := 1) dX0_secondHelps_81 (by decide) ?_
          cases h
          obtain ⟨rfl, rfl⟩ := kr _ _ rfl
          exact xj_ireturn dX0_secondHelps_82 rfl (by decide) (by decide)
noncomputable def r_X0_secondHelps_e89_h24_c2 (x1 : Int32) (x2 : Int32) (x3 : Int32) (x4 : Int32) (m : Mem) : Option ((Int32 × Mem) ⊕ ((Mem) ⊕ (Bool × Mem))) :=
  if inb x3 12 = true then (some (Sum.inl (x3 + 1, (wr m 43 0 x3.toNatClampNeg x4)))) else none
set_option maxHeartbeats 4000000 in
set_option maxRecDepth 20000 in
theorem ok_X0_secondHelps_e89_h24_c2 (x1 : Int32) (x2 : Int32) (x3 : Int32) (x4 : Int32) (m : Mem) {r : (Int32 × Mem) ⊕ ((Mem) ⊕ (Bool × Mem))} (h : r_X0_secondHelps_e89_h24_c2 x1 x2 x3 x4 m = some r) {o : Ou} {M' : Mem} (kb : ∀ (x3' : Int32) (m'' : Mem), r = Sum.inl (x3', m'') → Xj RX0 cX0_secondHelps 6 (some .boolean) 2 23 0 0 0 0 2 [(0, vR 0 0), (1, vI x1), (2, vI x2), (3, vI x3')] [] m'' o M') (ke : ∀ (m'' : Mem), r = Sum.inr (Sum.inl m'') → Xj RX0 cX0_secondHelps 6 (some .boolean) 2 23 0 0 0 0 103 [] [] m'' o M') (kr : ∀ (z : Bool) (m' : Mem), r = Sum.inr (Sum.inr (z, m')) → o = (oB z) ∧ M' = m') : Xj RX0 cX0_secondHelps 6 (some .boolean) 2 23 0 0 0 0 89 [(0, vR 0 0), (1, vI x1), (2, vI x2), (3, vI x3), (4, vI x4)] [] m o M' := by
  unfold r_X0_secondHelps_e89_h24_c2 at h
  refine xj_aload_n 0 dX0_secondHelps_89 rfl ?_
  refine xg_getR (k' := 43) (i' := 0) dX0_secondHelps_90 fl_X0_18 rfl ?_
  refine xj_iload_n 3 dX0_secondHelps_93 rfl ?_
  refine xj_iload 4 dX0_secondHelps_94 rfl ?_
  by_cases c13 : inb x3 12 = true
  case neg => rw [if_neg c13] at h; cases h
  rw [if_pos c13] at h
  refine xg_iast (n := x3.toNatClampNeg) dX0_secondHelps_96 rfl (by decide) (inb_in c13) rfl ?_
  refine xj_iinc (z := x3 + 1) (ls' := [(3, vI (x3 + 1)), (0, vR 0 0), (1, vI x1), (2, vI x2), (4, vI x4)]) 3 dX0_secondHelps_97 rfl rfl (by decide) rfl ?_
  refine xj_goto (tgt := 2) dX0_secondHelps_100 (by decide) ?_
  cases h
  refine xj_pick (ls' := [(0, vR 0 0), (1, vI x1), (2, vI x2), (3, vI (x3 + 1))]) [1, 2, 3, 0] rfl ?_
  exact kb (x3 + 1) (wr m 43 0 x3.toNatClampNeg x4) rfl
noncomputable def r_X0_secondHelps_l24_c2 (x1 : Int32) (x2 : Int32) (x3 : Int32) (x4 : Int32) (x5 : Int32) (m : Mem) : Option ((Int32 × Mem) ⊕ ((Mem) ⊕ (Bool × Mem))) :=
  bdS (loopO (fun s => r_X0_secondHelps_b24_c2 x1 x2 x3 x4 s.1 s.2) (x5, m)) (fun e => r_X0_secondHelps_e89_h24_c2 x1 x2 x3 x4 e) (fun q => some (Sum.inr (Sum.inr q)))
set_option maxHeartbeats 4000000 in
set_option maxRecDepth 20000 in
theorem ok_X0_secondHelps_l24_c2 (x1 : Int32) (x2 : Int32) (x3 : Int32) (x4 : Int32) (x5 : Int32) (m : Mem) {r : (Int32 × Mem) ⊕ ((Mem) ⊕ (Bool × Mem))} (h : r_X0_secondHelps_l24_c2 x1 x2 x3 x4 x5 m = some r) {o : Ou} {M' : Mem} (kb : ∀ (x3' : Int32) (m'' : Mem), r = Sum.inl (x3', m'') → Xj RX0 cX0_secondHelps 6 (some .boolean) 2 23 0 0 0 0 2 [(0, vR 0 0), (1, vI x1), (2, vI x2), (3, vI x3')] [] m'' o M') (ke : ∀ (m'' : Mem), r = Sum.inr (Sum.inl m'') → Xj RX0 cX0_secondHelps 6 (some .boolean) 2 23 0 0 0 0 103 [] [] m'' o M') (kr : ∀ (z : Bool) (m' : Mem), r = Sum.inr (Sum.inr (z, m')) → o = (oB z) ∧ M' = m') : Xj RX0 cX0_secondHelps 6 (some .boolean) 2 23 0 0 0 0 24 [(0, vR 0 0), (1, vI x1), (2, vI x2), (3, vI x3), (4, vI x4), (5, vI x5)] [] m o M' := by
  unfold r_X0_secondHelps_l24_c2 at h
  rcases bdS_some h with ⟨e, e1, h⟩ | ⟨q, e1, h⟩
  · refine loopO_ok (P := fun s : (Int32 × Mem) => Xj RX0 cX0_secondHelps 6 (some .boolean) 2 23 0 0 0 0 24 [(0, vR 0 0), (1, vI x1), (2, vI x2), (3, vI x3), (4, vI x4), (5, vI s.1)] [] s.2 o M') (Q := Sum.elim (fun e : (Mem) => Xj RX0 cX0_secondHelps 6 (some .boolean) 2 23 0 0 0 0 89 [(0, vR 0 0), (1, vI x1), (2, vI x2), (3, vI x3), (4, vI x4)] [] e o M') (fun q : (Bool × Mem) => o = (oB q.1) ∧ M' = q.2)) ?_ _ _ e1 ?_
    · intro s r9 h9 hi hx
      exact ok_X0_secondHelps_b24_c2 x1 x2 x3 x4 s.1 s.2 h9 (by rintro _ _ rfl; exact hi _ rfl) (by rintro _ rfl; exact hx _ rfl) (by rintro _ _ rfl; exact hx _ rfl)
    · exact ok_X0_secondHelps_e89_h24_c2 x1 x2 x3 x4 e h kb ke kr
  · refine loopO_ok (P := fun s : (Int32 × Mem) => Xj RX0 cX0_secondHelps 6 (some .boolean) 2 23 0 0 0 0 24 [(0, vR 0 0), (1, vI x1), (2, vI x2), (3, vI x3), (4, vI x4), (5, vI s.1)] [] s.2 o M') (Q := Sum.elim (fun e : (Mem) => Xj RX0 cX0_secondHelps 6 (some .boolean) 2 23 0 0 0 0 89 [(0, vR 0 0), (1, vI x1), (2, vI x2), (3, vI x3), (4, vI x4)] [] e o M') (fun q : (Bool × Mem) => o = (oB q.1) ∧ M' = q.2)) ?_ _ _ e1 ?_
    · intro s r9 h9 hi hx
      exact ok_X0_secondHelps_b24_c2 x1 x2 x3 x4 s.1 s.2 h9 (by rintro _ _ rfl; exact hi _ rfl) (by rintro _ rfl; exact hx _ rfl) (by rintro _ _ rfl; exact hx _ rfl)
    · cases h; exact kr _ _ rfl
noncomputable def r_X0_secondHelps_b2 (x1 : Int32) (x2 : Int32) (x3 : Int32) (m : Mem) : Option ((Int32 × Mem) ⊕ ((Mem) ⊕ (Bool × Mem))) :=
  if (m 3 0 0) ≤ x3 then (some (Sum.inr (Sum.inl m))) else (if inb x3 12 = true then (r_X0_secondHelps_l24_c2 x1 x2 x3 (m 43 0 x3.toNatClampNeg) 0 m) else none)
set_option maxHeartbeats 4000000 in
set_option maxRecDepth 20000 in
theorem ok_X0_secondHelps_b2 (x1 : Int32) (x2 : Int32) (x3 : Int32) (m : Mem) {r : (Int32 × Mem) ⊕ ((Mem) ⊕ (Bool × Mem))} (h : r_X0_secondHelps_b2 x1 x2 x3 m = some r) {o : Ou} {M' : Mem} (kb : ∀ (x3' : Int32) (m'' : Mem), r = Sum.inl (x3', m'') → Xj RX0 cX0_secondHelps 6 (some .boolean) 2 23 0 0 0 0 2 [(0, vR 0 0), (1, vI x1), (2, vI x2), (3, vI x3')] [] m'' o M') (ke : ∀ (m'' : Mem), r = Sum.inr (Sum.inl m'') → Xj RX0 cX0_secondHelps 6 (some .boolean) 2 23 0 0 0 0 103 [] [] m'' o M') (kr : ∀ (z : Bool) (m' : Mem), r = Sum.inr (Sum.inr (z, m')) → o = (oB z) ∧ M' = m') : Xj RX0 cX0_secondHelps 6 (some .boolean) 2 23 0 0 0 0 2 [(0, vR 0 0), (1, vI x1), (2, vI x2), (3, vI x3)] [] m o M' := by
  unfold r_X0_secondHelps_b2 at h
  refine xj_iload_n 3 dX0_secondHelps_2 rfl ?_
  refine xj_aload_n 0 dX0_secondHelps_3 rfl ?_
  refine xg_getR (k' := 3) (i' := 0) dX0_secondHelps_4 fl_X0_28 rfl ?_
  refine xg_getI (x := (m 3 0 0)) dX0_secondHelps_7 fl_X0_54 rfl rfl ?_
  refine xj_icmp_ge (tgt := 103) dX0_secondHelps_10 (by decide) (fun c1 => ?_) (fun c1 => ?_)
  · rw [if_pos c1] at h
    cases h
    refine xj_pick (ls' := []) [] rfl ?_
    exact ke m rfl
  · rw [if_neg c1] at h
    refine xj_aload_n 0 dX0_secondHelps_13 rfl ?_
    refine xg_getR (k' := 43) (i' := 0) dX0_secondHelps_14 fl_X0_18 rfl ?_
    refine xj_iload_n 3 dX0_secondHelps_17 rfl ?_
    by_cases c2 : inb x3 12 = true
    case neg => rw [if_neg c2] at h; cases h
    rw [if_pos c2] at h
    refine xg_iald (z := (m 43 0 x3.toNatClampNeg)) (n := x3.toNatClampNeg) dX0_secondHelps_18 rfl (by decide) (inb_in c2) rfl rfl ?_
    refine xj_istore (ls' := [(4, vI (m 43 0 x3.toNatClampNeg)), (0, vR 0 0), (1, vI x1), (2, vI x2), (3, vI x3)]) dX0_secondHelps_19 (by decide) rfl ?_
    refine xj_iconst (z := 0) dX0_secondHelps_21 (by decide) ?_
    refine xj_istore (ls' := [(5, vI 0), (4, vI (m 43 0 x3.toNatClampNeg)), (0, vR 0 0), (1, vI x1), (2, vI x2), (3, vI x3)]) dX0_secondHelps_22 (by decide) rfl ?_
    refine xj_pick (ls' := [(0, vR 0 0), (1, vI x1), (2, vI x2), (3, vI x3), (4, vI (m 43 0 x3.toNatClampNeg)), (5, vI 0)]) [2, 3, 4, 5, 1, 0] rfl ?_
    exact ok_X0_secondHelps_l24_c2 x1 x2 x3 (m 43 0 x3.toNatClampNeg) 0 m h kb ke kr
noncomputable def r_X0_secondHelps_e103_h2 (m : Mem) : Option (Bool × Mem) :=
  some (false, m)
set_option maxHeartbeats 4000000 in
set_option maxRecDepth 20000 in
theorem ok_X0_secondHelps_e103_h2 (m : Mem) {z : Bool} {m' : Mem} (h : r_X0_secondHelps_e103_h2 m = some (z, m')) : Xj RX0 cX0_secondHelps 6 (some .boolean) 2 23 0 0 0 0 103 [] [] m (oB z) m' := by
  unfold r_X0_secondHelps_e103_h2 at h
  refine xj_iconst (z := 0) dX0_secondHelps_103 (by decide) ?_
  cases h
  exact xj_ireturn dX0_secondHelps_104 rfl (by decide) (by decide)
noncomputable def r_X0_secondHelps_l2 (x1 : Int32) (x2 : Int32) (x3 : Int32) (m : Mem) : Option (Bool × Mem) :=
  bdS (loopO (fun s => r_X0_secondHelps_b2 x1 x2 s.1 s.2) (x3, m)) (fun e => r_X0_secondHelps_e103_h2 e) (fun q => some q)
set_option maxHeartbeats 4000000 in
set_option maxRecDepth 20000 in
theorem ok_X0_secondHelps_l2 (x1 : Int32) (x2 : Int32) (x3 : Int32) (m : Mem) {z : Bool} {m' : Mem} (h : r_X0_secondHelps_l2 x1 x2 x3 m = some (z, m')) : Xj RX0 cX0_secondHelps 6 (some .boolean) 2 23 0 0 0 0 2 [(0, vR 0 0), (1, vI x1), (2, vI x2), (3, vI x3)] [] m (oB z) m' := by
  unfold r_X0_secondHelps_l2 at h
  rcases bdS_some h with ⟨e, e1, h⟩ | ⟨q, e1, h⟩
  · refine loopO_ok (P := fun s : (Int32 × Mem) => Xj RX0 cX0_secondHelps 6 (some .boolean) 2 23 0 0 0 0 2 [(0, vR 0 0), (1, vI x1), (2, vI x2), (3, vI s.1)] [] s.2 (oB z) m') (Q := Sum.elim (fun e : (Mem) => Xj RX0 cX0_secondHelps 6 (some .boolean) 2 23 0 0 0 0 103 [] [] e (oB z) m') (fun q : (Bool × Mem) => (oB z) = (oB q.1) ∧ m' = q.2)) ?_ _ _ e1 ?_
    · intro s r9 h9 hi hx
      exact ok_X0_secondHelps_b2 x1 x2 s.1 s.2 h9 (by rintro _ _ rfl; exact hi _ rfl) (by rintro _ rfl; exact hx _ rfl) (by rintro _ _ rfl; exact hx _ rfl)
    · exact ok_X0_secondHelps_e103_h2 e h 
  · refine loopO_ok (P := fun s : (Int32 × Mem) => Xj RX0 cX0_secondHelps 6 (some .boolean) 2 23 0 0 0 0 2 [(0, vR 0 0), (1, vI x1), (2, vI x2), (3, vI s.1)] [] s.2 (oB z) m') (Q := Sum.elim (fun e : (Mem) => Xj RX0 cX0_secondHelps 6 (some .boolean) 2 23 0 0 0 0 103 [] [] e (oB z) m') (fun q : (Bool × Mem) => (oB z) = (oB q.1) ∧ m' = q.2)) ?_ _ _ e1 ?_
    · intro s r9 h9 hi hx
      exact ok_X0_secondHelps_b2 x1 x2 s.1 s.2 h9 (by rintro _ _ rfl; exact hi _ rfl) (by rintro _ rfl; exact hx _ rfl) (by rintro _ _ rfl; exact hx _ rfl)
    · cases h; exact ⟨rfl, rfl⟩
noncomputable def r_X0_secondHelps (x1 : Int32) (x2 : Int32) (m : Mem) : Option (Bool × Mem) :=
  r_X0_secondHelps_l2 x1 x2 0 m
set_option maxHeartbeats 4000000 in
set_option maxRecDepth 20000 in
theorem ok_X0_secondHelps (x1 : Int32) (x2 : Int32) (m : Mem) {z : Bool} {m' : Mem} (h : r_X0_secondHelps x1 x2 m = some (z, m')) : Mt yX0_secondHelps cX0_secondHelps 6 (some .boolean) 2 23 0 0 [vR 0 0, vI x1, vI x2] m (oB z) m' := by
  refine Mt.of (by decide) (Nat.le_of_ble_eq_true rfl) (by decide +kernel) (hhF_ne (by decide)) ?_
  show Xj RX0 cX0_secondHelps 6 (some .boolean) 2 23 0 0 0 0 0 [(0, vR 0 0), (1, vI x1), (2, vI x2)] [] m (oB z) m'
  unfold r_X0_secondHelps at h
  refine xj_iconst (z := 0) dX0_secondHelps_0 (by decide) ?_
  refine xj_istore_n (ls' := [(3, vI 0), (0, vR 0 0), (1, vI x1), (2, vI x2)]) dX0_secondHelps_1 rfl (by decide) rfl ?_
  refine xj_pick (ls' := [(0, vR 0 0), (1, vI x1), (2, vI x2), (3, vI 0)]) [1, 2, 3, 0] rfl ?_
  exact ok_X0_secondHelps_l2 x1 x2 0 m h 
noncomputable def r_X0_firstOfTellings_j100_c24 (x1 : Int32) (x2 : Int32) (x3 : Int32) (x4 : Int32) (x5 : Int32) (m : Mem) : Option ((Int32 × Mem) ⊕ ((Mem) ⊕ (Int32 × Mem))) :=
  some (Sum.inl (x5 + 1, m))
set_option maxHeartbeats 4000000 in
set_option maxRecDepth 20000 in
theorem ok_X0_firstOfTellings_j100_c24 (x1 : Int32) (x2 : Int32) (x3 : Int32) (x4 : Int32) (x5 : Int32) (m : Mem) {r : (Int32 × Mem) ⊕ ((Mem) ⊕ (Int32 × Mem))} (h : r_X0_firstOfTellings_j100_c24 x1 x2 x3 x4 x5 m = some r) {o : Ou} {M' : Mem} (kb : ∀ (x5' : Int32) (m'' : Mem), r = Sum.inl (x5', m'') → Xj RX0 cX0_firstOfTellings 6 (some .int) 3 48 0 0 0 0 24 [(0, vR 0 0), (1, vI x1), (2, vI x2), (3, vI x3), (4, vI x4), (5, vI x5')] [] m'' o M') (ke : ∀ (m'' : Mem), r = Sum.inr (Sum.inl m'') → Xj RX0 cX0_firstOfTellings 6 (some .int) 3 48 0 0 0 0 106 [(0, vR 0 0), (1, vI x1), (2, vI x2), (3, vI x3), (4, vI x4)] [] m'' o M') (kr : ∀ (z : Int32) (m' : Mem), r = Sum.inr (Sum.inr (z, m')) → o = (oI z) ∧ M' = m') : Xj RX0 cX0_firstOfTellings 6 (some .int) 3 48 0 0 0 0 100 [(0, vR 0 0), (1, vI x1), (2, vI x2), (3, vI x3), (4, vI x4), (5, vI x5)] [] m o M' := by
  unfold r_X0_firstOfTellings_j100_c24 at h
  refine xj_iinc (z := x5 + 1) (ls' := [(5, vI (x5 + 1)), (0, vR 0 0), (1, vI x1), (2, vI x2), (3, vI x3), (4, vI x4)]) 5 dX0_firstOfTellings_100 rfl rfl (by decide) rfl ?_
  refine xj_goto (tgt := 24) dX0_firstOfTellings_103 (by decide) ?_
  cases h
  refine xj_pick (ls' := [(0, vR 0 0), (1, vI x1), (2, vI x2), (3, vI x3), (4, vI x4), (5, vI (x5 + 1))]) [1, 2, 3, 4, 5, 0] rfl ?_
  exact kb (x5 + 1) m rfl
noncomputable def r_X0_firstOfTellings_b24_c2 (x1 : Int32) (x2 : Int32) (x3 : Int32) (x4 : Int32) (x5 : Int32) (m : Mem) : Option ((Int32 × Mem) ⊕ ((Mem) ⊕ (Int32 × Mem))) :=
  if (m 3 0 0) ≤ x5 then (some (Sum.inr (Sum.inl m))) else (bd1 (r_X3_between 0 x3 x5 m) fun z5 => (if z5 = (-1) then (r_X0_firstOfTellings_j100_c24 x1 x2 x3 x4 x5 m) else (if inb ((x3 * 12) + x5) 144 = true then (if inb x3 12 = true then (if x2 = 0 then (bd1 (r_X0_comesTo x1 (wr m 43 0 x3.toNatClampNeg (m 44 0 (((x3 * 12) + x5).toNatClampNeg)))) fun z11 => (if z11 = true then (some (Sum.inr (Sum.inr (((100 * x3) + x5), (wr m 43 0 x3.toNatClampNeg (m 44 0 (((x3 * 12) + x5).toNatClampNeg))))))) else (r_X0_firstOfTellings_j100_c24 x1 x2 x3 x4 x5 (wr m 43 0 x3.toNatClampNeg (m 44 0 (((x3 * 12) + x5).toNatClampNeg)))))) else (bd2 (r_X0_secondHelps x1 x3 (wr m 43 0 x3.toNatClampNeg (m 44 0 (((x3 * 12) + x5).toNatClampNeg)))) fun z15 m14 => (if z15 = true then (some (Sum.inr (Sum.inr (((100 * x3) + x5), m14)))) else (r_X0_firstOfTellings_j100_c24 x1 x2 x3 x4 x5 m14)))) else none) else none)))
set_option maxHeartbeats 4000000 in
set_option maxRecDepth 20000 in
theorem ok_X0_firstOfTellings_b24_c2 (x1 : Int32) (x2 : Int32) (x3 : Int32) (x4 : Int32) (x5 : Int32) (m : Mem) {r : (Int32 × Mem) ⊕ ((Mem) ⊕ (Int32 × Mem))} (h : r_X0_firstOfTellings_b24_c2 x1 x2 x3 x4 x5 m = some r) {o : Ou} {M' : Mem} (kb : ∀ (x5' : Int32) (m'' : Mem), r = Sum.inl (x5', m'') → Xj RX0 cX0_firstOfTellings 6 (some .int) 3 48 0 0 0 0 24 [(0, vR 0 0), (1, vI x1), (2, vI x2), (3, vI x3), (4, vI x4), (5, vI x5')] [] m'' o M') (ke : ∀ (m'' : Mem), r = Sum.inr (Sum.inl m'') → Xj RX0 cX0_firstOfTellings 6 (some .int) 3 48 0 0 0 0 106 [(0, vR 0 0), (1, vI x1), (2, vI x2), (3, vI x3), (4, vI x4)] [] m'' o M') (kr : ∀ (z : Int32) (m' : Mem), r = Sum.inr (Sum.inr (z, m')) → o = (oI z) ∧ M' = m') : Xj RX0 cX0_firstOfTellings 6 (some .int) 3 48 0 0 0 0 24 [(0, vR 0 0), (1, vI x1), (2, vI x2), (3, vI x3), (4, vI x4), (5, vI x5)] [] m o M' := by
  unfold r_X0_firstOfTellings_b24_c2 at h
  refine xj_iload 5 dX0_firstOfTellings_24 rfl ?_
  refine xj_aload_n 0 dX0_firstOfTellings_26 rfl ?_
  refine xg_getR (k' := 3) (i' := 0) dX0_firstOfTellings_27 fl_X0_28 rfl ?_
  refine xg_getI (x := (m 3 0 0)) dX0_firstOfTellings_30 fl_X0_54 rfl rfl ?_
  refine xj_icmp_ge (tgt := 106) dX0_firstOfTellings_33 (by decide) (fun c3 => ?_) (fun c3 => ?_)
  · rw [if_pos c3] at h
    cases h
    refine xj_pick (ls' := [(0, vR 0 0), (1, vI x1), (2, vI x2), (3, vI x3), (4, vI x4)]) [0, 1, 2, 3, 4] rfl ?_
    exact ke m rfl
  · rw [if_neg c3] at h
    refine xj_aload_n 0 dX0_firstOfTellings_36 rfl ?_
    refine xg_getR (k' := 3) (i' := 0) dX0_firstOfTellings_37 fl_X0_28 rfl ?_
    refine xj_iload_n 3 dX0_firstOfTellings_40 rfl ?_
    refine xj_iload 5 dX0_firstOfTellings_41 rfl ?_
    obtain ⟨z5, e4, h⟩ := bd1_some h
    refine xc_Vi0 (st := []) (ok_X3_between 0 x3 x5 m e4) dX0_firstOfTellings_43 cv_X0_82 rfl rfl (Nat.le_of_ble_eq_true rfl) (by decide) (by decide) (by decide) (by decide) ?_
    refine xj_iconst (z := (-1)) dX0_firstOfTellings_46 (by decide) ?_
    refine xj_icmp_eq (tgt := 100) dX0_firstOfTellings_47 (by decide) (fun c6 => ?_) (fun c6 => ?_)
    · rw [if_pos c6] at h
      exact ok_X0_firstOfTellings_j100_c24 x1 x2 x3 x4 x5 m h kb ke kr
    · rw [if_neg c6] at h
      refine xj_aload_n 0 dX0_firstOfTellings_50 rfl ?_
      refine xg_getR (k' := 43) (i' := 0) dX0_firstOfTellings_51 fl_X0_18 rfl ?_
      refine xj_iload_n 3 dX0_firstOfTellings_54 rfl ?_
      refine xj_aload_n 0 dX0_firstOfTellings_55 rfl ?_
      refine xg_getR (k' := 44) (i' := 0) dX0_firstOfTellings_56 fl_X0_22 rfl ?_
      refine xj_iload_n 3 dX0_firstOfTellings_59 rfl ?_
      refine xj_bipush (z := 12) dX0_firstOfTellings_60 (by decide) ?_
      refine xj_imul dX0_firstOfTellings_62 ?_
      refine xj_iload 5 dX0_firstOfTellings_63 rfl ?_
      refine xj_iadd dX0_firstOfTellings_65 ?_
      by_cases c7 : inb ((x3 * 12) + x5) 144 = true
      case neg => rw [if_neg c7] at h; cases h
      rw [if_pos c7] at h
      refine xg_iald (z := (m 44 0 (((x3 * 12) + x5).toNatClampNeg))) (n := ((x3 * 12) + x5).toNatClampNeg) dX0_firstOfTellings_66 rfl (by decide) (inb_in c7) rfl rfl ?_
      by_cases c8 : inb x3 12 = true
      case neg => rw [if_neg c8] at h; cases h
      rw [if_pos c8] at h
      refine xg_iast (n := x3.toNatClampNeg) dX0_firstOfTellings_67 rfl (by decide) (inb_in c8) rfl ?_
      refine xj_iload_n 2 dX0_firstOfTellings_68 rfl ?_
      refine xj_if_eq (tgt := 84) dX0_firstOfTellings_69 (by decide) (fun c9 => ?_) (fun c9 => ?_)
      · rw [if_pos c9] at h
        refine xj_aload_n 0 dX0_firstOfTellings_84 rfl ?_
        refine xj_iload_n 1 dX0_firstOfTellings_85 rfl ?_
        obtain ⟨z11, e10, h⟩ := bd1_some h
        refine xc_Vb0 (st := []) (ok_X0_comesTo x1 (wr m 43 0 x3.toNatClampNeg (m 44 0 (((x3 * 12) + x5).toNatClampNeg))) e10) dX0_firstOfTellings_86 cv_X0_74 rfl rfl (Nat.le_of_ble_eq_true rfl) (by decide) (by decide) (by decide) (by decide) ?_
        refine xj_if_eq (tgt := 100) dX0_firstOfTellings_89 (by decide) (fun c12 => ?_) (fun c12 => ?_)
        · rw [if_neg (b2i_f c12)] at h
          exact ok_X0_firstOfTellings_j100_c24 x1 x2 x3 x4 x5 (wr m 43 0 x3.toNatClampNeg (m 44 0 (((x3 * 12) + x5).toNatClampNeg))) h kb ke kr
        · rw [if_pos (b2i_t c12)] at h
          refine xj_bipush (z := 100) dX0_firstOfTellings_92 (by decide) ?_
          refine xj_iload_n 3 dX0_firstOfTellings_94 rfl ?_
          refine xj_imul dX0_firstOfTellings_95 ?_
          refine xj_iload 5 dX0_firstOfTellings_96 rfl ?_
          refine xj_iadd dX0_firstOfTellings_98 ?_
          cases h
          obtain ⟨rfl, rfl⟩ := kr _ _ rfl
          exact xj_ireturn dX0_firstOfTellings_99 rfl (by decide) (by decide)
      · rw [if_neg c9] at h
        refine xj_aload_n 0 dX0_firstOfTellings_72 rfl ?_
        refine xj_iload_n 1 dX0_firstOfTellings_73 rfl ?_
        refine xj_iload_n 3 dX0_firstOfTellings_74 rfl ?_
        obtain ⟨z15, m14, e13, h⟩ := bd2_some h
        refine xc_Vb0 (st := []) (ok_X0_secondHelps x1 x3 (wr m 43 0 x3.toNatClampNeg (m 44 0 (((x3 * 12) + x5).toNatClampNeg))) e13) dX0_firstOfTellings_75 cv_X0_90 rfl rfl (Nat.le_of_ble_eq_true rfl) (by decide) (by decide) (by decide) (by decide) ?_
        refine xj_if_eq (tgt := 100) dX0_firstOfTellings_78 (by decide) (fun c16 => ?_) (fun c16 => ?_)
        · rw [if_neg (b2i_f c16)] at h
          exact ok_X0_firstOfTellings_j100_c24 x1 x2 x3 x4 x5 m14 h kb ke kr
        · rw [if_pos (b2i_t c16)] at h
          refine xj_goto (tgt := 92) dX0_firstOfTellings_81 (by decide) ?_
          refine xj_bipush (z := 100) dX0_firstOfTellings_92 (by decide) ?_
          refine xj_iload_n 3 dX0_firstOfTellings_94 rfl ?_
          refine xj_imul dX0_firstOfTellings_95 ?_
          refine xj_iload 5 dX0_firstOfTellings_96 rfl ?_
          refine xj_iadd dX0_firstOfTellings_98 ?_
          cases h
          obtain ⟨rfl, rfl⟩ := kr _ _ rfl
          exact xj_ireturn dX0_firstOfTellings_99 rfl (by decide) (by decide)
noncomputable def r_X0_firstOfTellings_e106_h24_c2 (x1 : Int32) (x2 : Int32) (x3 : Int32) (x4 : Int32) (m : Mem) : Option ((Int32 × Mem) ⊕ ((Mem) ⊕ (Int32 × Mem))) :=
  if inb x3 12 = true then (some (Sum.inl (x3 + 1, (wr m 43 0 x3.toNatClampNeg x4)))) else none
set_option maxHeartbeats 4000000 in
set_option maxRecDepth 20000 in
theorem ok_X0_firstOfTellings_e106_h24_c2 (x1 : Int32) (x2 : Int32) (x3 : Int32) (x4 : Int32) (m : Mem) {r : (Int32 × Mem) ⊕ ((Mem) ⊕ (Int32 × Mem))} (h : r_X0_firstOfTellings_e106_h24_c2 x1 x2 x3 x4 m = some r) {o : Ou} {M' : Mem} (kb : ∀ (x3' : Int32) (m'' : Mem), r = Sum.inl (x3', m'') → Xj RX0 cX0_firstOfTellings 6 (some .int) 3 48 0 0 0 0 2 [(0, vR 0 0), (1, vI x1), (2, vI x2), (3, vI x3')] [] m'' o M') (ke : ∀ (m'' : Mem), r = Sum.inr (Sum.inl m'') → Xj RX0 cX0_firstOfTellings 6 (some .int) 3 48 0 0 0 0 120 [] [] m'' o M') (kr : ∀ (z : Int32) (m' : Mem), r = Sum.inr (Sum.inr (z, m')) → o = (oI z) ∧ M' = m') : Xj RX0 cX0_firstOfTellings 6 (some .int) 3 48 0 0 0 0 106 [(0, vR 0 0), (1, vI x1), (2, vI x2), (3, vI x3), (4, vI x4)] [] m o M' := by
  unfold r_X0_firstOfTellings_e106_h24_c2 at h
  refine xj_aload_n 0 dX0_firstOfTellings_106 rfl ?_
  refine xg_getR (k' := 43) (i' := 0) dX0_firstOfTellings_107 fl_X0_18 rfl ?_
  refine xj_iload_n 3 dX0_firstOfTellings_110 rfl ?_
  refine xj_iload 4 dX0_firstOfTellings_111 rfl ?_
  by_cases c17 : inb x3 12 = true
  case neg => rw [if_neg c17] at h; cases h
  rw [if_pos c17] at h
  refine xg_iast (n := x3.toNatClampNeg) dX0_firstOfTellings_113 rfl (by decide) (inb_in c17) rfl ?_
  refine xj_iinc (z := x3 + 1) (ls' := [(3, vI (x3 + 1)), (0, vR 0 0), (1, vI x1), (2, vI x2), (4, vI x4)]) 3 dX0_firstOfTellings_114 rfl rfl (by decide) rfl ?_
  refine xj_goto (tgt := 2) dX0_firstOfTellings_117 (by decide) ?_
  cases h
  refine xj_pick (ls' := [(0, vR 0 0), (1, vI x1), (2, vI x2), (3, vI (x3 + 1))]) [1, 2, 3, 0] rfl ?_
  exact kb (x3 + 1) (wr m 43 0 x3.toNatClampNeg x4) rfl
noncomputable def r_X0_firstOfTellings_l24_c2 (x1 : Int32) (x2 : Int32) (x3 : Int32) (x4 : Int32) (x5 : Int32) (m : Mem) : Option ((Int32 × Mem) ⊕ ((Mem) ⊕ (Int32 × Mem))) :=
  bdS (loopO (fun s => r_X0_firstOfTellings_b24_c2 x1 x2 x3 x4 s.1 s.2) (x5, m)) (fun e => r_X0_firstOfTellings_e106_h24_c2 x1 x2 x3 x4 e) (fun q => some (Sum.inr (Sum.inr q)))
set_option maxHeartbeats 4000000 in
set_option maxRecDepth 20000 in
theorem ok_X0_firstOfTellings_l24_c2 (x1 : Int32) (x2 : Int32) (x3 : Int32) (x4 : Int32) (x5 : Int32) (m : Mem) {r : (Int32 × Mem) ⊕ ((Mem) ⊕ (Int32 × Mem))} (h : r_X0_firstOfTellings_l24_c2 x1 x2 x3 x4 x5 m = some r) {o : Ou} {M' : Mem} (kb : ∀ (x3' : Int32) (m'' : Mem), r = Sum.inl (x3', m'') → Xj RX0 cX0_firstOfTellings 6 (some .int) 3 48 0 0 0 0 2 [(0, vR 0 0), (1, vI x1), (2, vI x2), (3, vI x3')] [] m'' o M') (ke : ∀ (m'' : Mem), r = Sum.inr (Sum.inl m'') → Xj RX0 cX0_firstOfTellings 6 (some .int) 3 48 0 0 0 0 120 [] [] m'' o M') (kr : ∀ (z : Int32) (m' : Mem), r = Sum.inr (Sum.inr (z, m')) → o = (oI z) ∧ M' = m') : Xj RX0 cX0_firstOfTellings 6 (some .int) 3 48 0 0 0 0 24 [(0, vR 0 0), (1, vI x1), (2, vI x2), (3, vI x3), (4, vI x4), (5, vI x5)] [] m o M' := by
  unfold r_X0_firstOfTellings_l24_c2 at h
  rcases bdS_some h with ⟨e, e1, h⟩ | ⟨q, e1, h⟩
  · refine loopO_ok (P := fun s : (Int32 × Mem) => Xj RX0 cX0_firstOfTellings 6 (some .int) 3 48 0 0 0 0 24 [(0, vR 0 0), (1, vI x1), (2, vI x2), (3, vI x3), (4, vI x4), (5, vI s.1)] [] s.2 o M') (Q := Sum.elim (fun e : (Mem) => Xj RX0 cX0_firstOfTellings 6 (some .int) 3 48 0 0 0 0 106 [(0, vR 0 0), (1, vI x1), (2, vI x2), (3, vI x3), (4, vI x4)] [] e o M') (fun q : (Int32 × Mem) => o = (oI q.1) ∧ M' = q.2)) ?_ _ _ e1 ?_
    · intro s r9 h9 hi hx
      exact ok_X0_firstOfTellings_b24_c2 x1 x2 x3 x4 s.1 s.2 h9 (by rintro _ _ rfl; exact hi _ rfl) (by rintro _ rfl; exact hx _ rfl) (by rintro _ _ rfl; exact hx _ rfl)
    · exact ok_X0_firstOfTellings_e106_h24_c2 x1 x2 x3 x4 e h kb ke kr
  · refine loopO_ok (P := fun s : (Int32 × Mem) => Xj RX0 cX0_firstOfTellings 6 (some .int) 3 48 0 0 0 0 24 [(0, vR 0 0), (1, vI x1), (2, vI x2), (3, vI x3), (4, vI x4), (5, vI s.1)] [] s.2 o M') (Q := Sum.elim (fun e : (Mem) => Xj RX0 cX0_firstOfTellings 6 (some .int) 3 48 0 0 0 0 106 [(0, vR 0 0), (1, vI x1), (2, vI x2), (3, vI x3), (4, vI x4)] [] e o M') (fun q : (Int32 × Mem) => o = (oI q.1) ∧ M' = q.2)) ?_ _ _ e1 ?_
    · intro s r9 h9 hi hx
      exact ok_X0_firstOfTellings_b24_c2 x1 x2 x3 x4 s.1 s.2 h9 (by rintro _ _ rfl; exact hi _ rfl) (by rintro _ rfl; exact hx _ rfl) (by rintro _ _ rfl; exact hx _ rfl)
    · cases h; exact kr _ _ rfl
noncomputable def r_X0_firstOfTellings_b2 (x1 : Int32) (x2 : Int32) (x3 : Int32) (m : Mem) : Option ((Int32 × Mem) ⊕ ((Mem) ⊕ (Int32 × Mem))) :=
  if (m 3 0 0) ≤ x3 then (some (Sum.inr (Sum.inl m))) else (if inb x3 12 = true then (r_X0_firstOfTellings_l24_c2 x1 x2 x3 (m 43 0 x3.toNatClampNeg) 0 m) else none)
set_option maxHeartbeats 4000000 in
set_option maxRecDepth 20000 in
theorem ok_X0_firstOfTellings_b2 (x1 : Int32) (x2 : Int32) (x3 : Int32) (m : Mem) {r : (Int32 × Mem) ⊕ ((Mem) ⊕ (Int32 × Mem))} (h : r_X0_firstOfTellings_b2 x1 x2 x3 m = some r) {o : Ou} {M' : Mem} (kb : ∀ (x3' : Int32) (m'' : Mem), r = Sum.inl (x3', m'') → Xj RX0 cX0_firstOfTellings 6 (some .int) 3 48 0 0 0 0 2 [(0, vR 0 0), (1, vI x1), (2, vI x2), (3, vI x3')] [] m'' o M') (ke : ∀ (m'' : Mem), r = Sum.inr (Sum.inl m'') → Xj RX0 cX0_firstOfTellings 6 (some .int) 3 48 0 0 0 0 120 [] [] m'' o M') (kr : ∀ (z : Int32) (m' : Mem), r = Sum.inr (Sum.inr (z, m')) → o = (oI z) ∧ M' = m') : Xj RX0 cX0_firstOfTellings 6 (some .int) 3 48 0 0 0 0 2 [(0, vR 0 0), (1, vI x1), (2, vI x2), (3, vI x3)] [] m o M' := by
  unfold r_X0_firstOfTellings_b2 at h
  refine xj_iload_n 3 dX0_firstOfTellings_2 rfl ?_
  refine xj_aload_n 0 dX0_firstOfTellings_3 rfl ?_
  refine xg_getR (k' := 3) (i' := 0) dX0_firstOfTellings_4 fl_X0_28 rfl ?_
  refine xg_getI (x := (m 3 0 0)) dX0_firstOfTellings_7 fl_X0_54 rfl rfl ?_
  refine xj_icmp_ge (tgt := 120) dX0_firstOfTellings_10 (by decide) (fun c1 => ?_) (fun c1 => ?_)
  · rw [if_pos c1] at h
    cases h
    refine xj_pick (ls' := []) [] rfl ?_
    exact ke m rfl
  · rw [if_neg c1] at h
    refine xj_aload_n 0 dX0_firstOfTellings_13 rfl ?_
    refine xg_getR (k' := 43) (i' := 0) dX0_firstOfTellings_14 fl_X0_18 rfl ?_
    refine xj_iload_n 3 dX0_firstOfTellings_17 rfl ?_
    by_cases c2 : inb x3 12 = true
    case neg => rw [if_neg c2] at h; cases h
    rw [if_pos c2] at h
    refine xg_iald (z := (m 43 0 x3.toNatClampNeg)) (n := x3.toNatClampNeg) dX0_firstOfTellings_18 rfl (by decide) (inb_in c2) rfl rfl ?_
    refine xj_istore (ls' := [(4, vI (m 43 0 x3.toNatClampNeg)), (0, vR 0 0), (1, vI x1), (2, vI x2), (3, vI x3)]) dX0_firstOfTellings_19 (by decide) rfl ?_
    refine xj_iconst (z := 0) dX0_firstOfTellings_21 (by decide) ?_
    refine xj_istore (ls' := [(5, vI 0), (4, vI (m 43 0 x3.toNatClampNeg)), (0, vR 0 0), (1, vI x1), (2, vI x2), (3, vI x3)]) dX0_firstOfTellings_22 (by decide) rfl ?_
    refine xj_pick (ls' := [(0, vR 0 0), (1, vI x1), (2, vI x2), (3, vI x3), (4, vI (m 43 0 x3.toNatClampNeg)), (5, vI 0)]) [2, 3, 4, 5, 1, 0] rfl ?_
    exact ok_X0_firstOfTellings_l24_c2 x1 x2 x3 (m 43 0 x3.toNatClampNeg) 0 m h kb ke kr
noncomputable def r_X0_firstOfTellings_e120_h2 (m : Mem) : Option (Int32 × Mem) :=
  some ((-1), m)
set_option maxHeartbeats 4000000 in
set_option maxRecDepth 20000 in
theorem ok_X0_firstOfTellings_e120_h2 (m : Mem) {z : Int32} {m' : Mem} (h : r_X0_firstOfTellings_e120_h2 m = some (z, m')) : Xj RX0 cX0_firstOfTellings 6 (some .int) 3 48 0 0 0 0 120 [] [] m (oI z) m' := by
  unfold r_X0_firstOfTellings_e120_h2 at h
  refine xj_iconst (z := (-1)) dX0_firstOfTellings_120 (by decide) ?_
  cases h
  exact xj_ireturn dX0_firstOfTellings_121 rfl (by decide) (by decide)
noncomputable def r_X0_firstOfTellings_l2 (x1 : Int32) (x2 : Int32) (x3 : Int32) (m : Mem) : Option (Int32 × Mem) :=
  bdS (loopO (fun s => r_X0_firstOfTellings_b2 x1 x2 s.1 s.2) (x3, m)) (fun e => r_X0_firstOfTellings_e120_h2 e) (fun q => some q)
set_option maxHeartbeats 4000000 in
set_option maxRecDepth 20000 in
theorem ok_X0_firstOfTellings_l2 (x1 : Int32) (x2 : Int32) (x3 : Int32) (m : Mem) {z : Int32} {m' : Mem} (h : r_X0_firstOfTellings_l2 x1 x2 x3 m = some (z, m')) : Xj RX0 cX0_firstOfTellings 6 (some .int) 3 48 0 0 0 0 2 [(0, vR 0 0), (1, vI x1), (2, vI x2), (3, vI x3)] [] m (oI z) m' := by
  unfold r_X0_firstOfTellings_l2 at h
  rcases bdS_some h with ⟨e, e1, h⟩ | ⟨q, e1, h⟩
  · refine loopO_ok (P := fun s : (Int32 × Mem) => Xj RX0 cX0_firstOfTellings 6 (some .int) 3 48 0 0 0 0 2 [(0, vR 0 0), (1, vI x1), (2, vI x2), (3, vI s.1)] [] s.2 (oI z) m') (Q := Sum.elim (fun e : (Mem) => Xj RX0 cX0_firstOfTellings 6 (some .int) 3 48 0 0 0 0 120 [] [] e (oI z) m') (fun q : (Int32 × Mem) => (oI z) = (oI q.1) ∧ m' = q.2)) ?_ _ _ e1 ?_
    · intro s r9 h9 hi hx
      exact ok_X0_firstOfTellings_b2 x1 x2 s.1 s.2 h9 (by rintro _ _ rfl; exact hi _ rfl) (by rintro _ rfl; exact hx _ rfl) (by rintro _ _ rfl; exact hx _ rfl)
    · exact ok_X0_firstOfTellings_e120_h2 e h 
  · refine loopO_ok (P := fun s : (Int32 × Mem) => Xj RX0 cX0_firstOfTellings 6 (some .int) 3 48 0 0 0 0 2 [(0, vR 0 0), (1, vI x1), (2, vI x2), (3, vI s.1)] [] s.2 (oI z) m') (Q := Sum.elim (fun e : (Mem) => Xj RX0 cX0_firstOfTellings 6 (some .int) 3 48 0 0 0 0 120 [] [] e (oI z) m') (fun q : (Int32 × Mem) => (oI z) = (oI q.1) ∧ m' = q.2)) ?_ _ _ e1 ?_
    · intro s r9 h9 hi hx
      exact ok_X0_firstOfTellings_b2 x1 x2 s.1 s.2 h9 (by rintro _ _ rfl; exact hi _ rfl) (by rintro _ rfl; exact hx _ rfl) (by rintro _ _ rfl; exact hx _ rfl)
    · cases h; exact ⟨rfl, rfl⟩
noncomputable def r_X0_firstOfTellings (x1 : Int32) (x2 : Int32) (m : Mem) : Option (Int32 × Mem) :=
  r_X0_firstOfTellings_l2 x1 x2 0 m
set_option maxHeartbeats 4000000 in
set_option maxRecDepth 20000 in
theorem ok_X0_firstOfTellings (x1 : Int32) (x2 : Int32) (m : Mem) {z : Int32} {m' : Mem} (h : r_X0_firstOfTellings x1 x2 m = some (z, m')) : Mt yX0_firstOfTellings cX0_firstOfTellings 6 (some .int) 3 48 0 0 [vR 0 0, vI x1, vI x2] m (oI z) m' := by
  refine Mt.of (by decide) (Nat.le_of_ble_eq_true rfl) (by decide +kernel) (hhF_ne (by decide)) ?_
  show Xj RX0 cX0_firstOfTellings 6 (some .int) 3 48 0 0 0 0 0 [(0, vR 0 0), (1, vI x1), (2, vI x2)] [] m (oI z) m'
  unfold r_X0_firstOfTellings at h
  refine xj_iconst (z := 0) dX0_firstOfTellings_0 (by decide) ?_
  refine xj_istore_n (ls' := [(3, vI 0), (0, vR 0 0), (1, vI x1), (2, vI x2)]) dX0_firstOfTellings_1 rfl (by decide) rfl ?_
  refine xj_pick (ls' := [(0, vR 0 0), (1, vI x1), (2, vI x2), (3, vI 0)]) [1, 2, 3, 0] rfl ?_
  exact ok_X0_firstOfTellings_l2 x1 x2 0 m h 
noncomputable def r_X0_findTellings_b11 (x2 : Int32) (x3 : Int32) (x4 : Int32) (m : Mem) : Option ((Int32 × Mem) ⊕ (Mem)) :=
  if (m 3 0 0) ≤ x4 then (some (Sum.inr m)) else (bd2 (r_X6_goesOn 1 x4 m) fun z6 m5 => (if inb x4 12 = true then (bd1 (r_X0_turnByTells x2 x4 (wr m5 43 0 x4.toNatClampNeg z6)) fun m9 => (some (Sum.inl (x4 + 1, m9)))) else none))
set_option maxHeartbeats 4000000 in
set_option maxRecDepth 20000 in
theorem ok_X0_findTellings_b11 (x2 : Int32) (x3 : Int32) (x4 : Int32) (m : Mem) {r : (Int32 × Mem) ⊕ (Mem)} (h : r_X0_findTellings_b11 x2 x3 x4 m = some r) {o : Ou} {M' : Mem} (kb : ∀ (x4' : Int32) (m'' : Mem), r = Sum.inl (x4', m'') → Xj RX0 cX0_findTellings 5 none 5 109 0 0 0 0 11 [(0, vR 0 0), (2, vI x2), (3, vI x3), (4, vI x4')] [] m'' o M') (ke : ∀ (m'' : Mem), r = Sum.inr m'' → Xj RX0 cX0_findTellings 5 none 5 109 0 0 0 0 56 [(0, vR 0 0), (3, vI x3)] [] m'' o M') : Xj RX0 cX0_findTellings 5 none 5 109 0 0 0 0 11 [(0, vR 0 0), (2, vI x2), (3, vI x3), (4, vI x4)] [] m o M' := by
  unfold r_X0_findTellings_b11 at h
  refine xj_iload 3 dX0_findTellings_11 rfl ?_
  refine xj_aload_n 0 dX0_findTellings_13 rfl ?_
  refine xg_getR (k' := 3) (i' := 0) dX0_findTellings_14 fl_X0_28 rfl ?_
  refine xg_getI (x := (m 3 0 0)) dX0_findTellings_17 fl_X0_54 rfl rfl ?_
  refine xj_icmp_ge (tgt := 56) dX0_findTellings_20 (by decide) (fun c3 => ?_) (fun c3 => ?_)
  · rw [if_pos c3] at h
    cases h
    refine xj_pick (ls' := [(0, vR 0 0), (3, vI x3)]) [0, 2] rfl ?_
    exact ke m rfl
  · rw [if_neg c3] at h
    refine xj_aload_n 0 dX0_findTellings_23 rfl ?_
    refine xg_getR (k' := 43) (i' := 0) dX0_findTellings_24 fl_X0_18 rfl ?_
    refine xj_iload 3 dX0_findTellings_27 rfl ?_
    refine xj_aload_n 0 dX0_findTellings_29 rfl ?_
    refine xg_getR (k' := 6) (i' := 0) dX0_findTellings_30 fl_X0_32 rfl ?_
    refine xj_aload_n 0 dX0_findTellings_33 rfl ?_
    refine xg_getR (k' := 7) (i' := 1) dX0_findTellings_34 fl_X0_12 rfl ?_
    refine xj_iload 3 dX0_findTellings_37 rfl ?_
    obtain ⟨z6, m5, e4, h⟩ := bd2_some h
    refine xc_Vi0 (st := [vI x4, vR 43 0]) (ok_X6_goesOn 1 x4 m e4) dX0_findTellings_39 cv_X0_60 rfl rfl (Nat.le_of_ble_eq_true rfl) (by decide) (by decide) (by decide) (by decide) ?_
    by_cases c7 : inb x4 12 = true
    case neg => rw [if_neg c7] at h; cases h
    rw [if_pos c7] at h
    refine xg_iast (n := x4.toNatClampNeg) dX0_findTellings_42 rfl (by decide) (inb_in c7) rfl ?_
    refine xj_aload_n 0 dX0_findTellings_43 rfl ?_
    refine xj_iload_n 1 dX0_findTellings_44 rfl ?_
    refine xj_iload 3 dX0_findTellings_45 rfl ?_
    obtain ⟨m9, e8, h⟩ := bd1_some h
    refine xc_Vv0 (st := []) (ok_X0_turnByTells x2 x4 (wr m5 43 0 x4.toNatClampNeg z6) e8) dX0_findTellings_47 cv_X0_64 rfl rfl (Nat.le_of_ble_eq_true rfl) (by decide) (by decide) (by decide) (by decide) ?_
    refine xj_iinc (z := x4 + 1) (ls' := [(4, vI (x4 + 1)), (0, vR 0 0), (2, vI x2), (3, vI x3)]) 3 dX0_findTellings_50 rfl rfl (by decide) rfl ?_
    refine xj_goto (tgt := 11) dX0_findTellings_53 (by decide) ?_
    cases h
    refine xj_pick (ls' := [(0, vR 0 0), (2, vI x2), (3, vI x3), (4, vI (x4 + 1))]) [1, 2, 3, 0] rfl ?_
    exact kb (x4 + 1) m9 rfl
noncomputable def r_X0_findTellings_j113 (m : Mem) : Option Mem :=
  if (m 0 0 1) = (-1) then (some (wr m 0 0 0 (-1))) else (some m)
set_option maxHeartbeats 4000000 in
set_option maxRecDepth 20000 in
theorem ok_X0_findTellings_j113 (m : Mem) {m' : Mem} (h : r_X0_findTellings_j113 m = some m') : Xj RX0 cX0_findTellings 5 none 5 109 0 0 0 0 113 [(0, vR 0 0)] [] m oV m' := by
  unfold r_X0_findTellings_j113 at h
  refine xj_aload_n 0 dX0_findTellings_113 rfl ?_
  refine xg_getI (x := (m 0 0 1)) dX0_findTellings_114 fl_X0_71 rfl rfl ?_
  refine xj_iconst (z := (-1)) dX0_findTellings_117 (by decide) ?_
  refine xj_icmp_ne (tgt := 126) dX0_findTellings_118 (by decide) (fun c20 => ?_) (fun c20 => ?_)
  · rw [if_neg c20] at h
    cases h
    exact xj_return dX0_findTellings_126 (by decide) (by decide)
  · rw [if_pos c20] at h
    refine xj_aload_n 0 dX0_findTellings_121 rfl ?_
    refine xj_iconst (z := (-1)) dX0_findTellings_122 (by decide) ?_
    refine xj_putI dX0_findTellings_123 fw_X0_68 rfl ?_
    cases h
    exact xj_return dX0_findTellings_126 (by decide) (by decide)
noncomputable def r_X0_findTellings_e56_h11 (x3 : Int32) (m : Mem) : Option Mem :=
  bd1 (r_X0_comesTo x3 (wr (wr m 0 0 0 0) 0 0 1 (-1))) fun z11 => (if z11 = true then (some (wr (wr m 0 0 0 0) 0 0 1 (-1))) else (bd2 (r_X0_firstOfTellings x3 0 (wr (wr (wr m 0 0 0 0) 0 0 1 (-1)) 0 0 0 1)) fun z15 m14 => (if z15 = (-1) then (bd2 (r_X0_firstOfTellings x3 1 (wr (wr m14 0 0 1 z15) 0 0 0 2)) fun z19 m18 => (r_X0_findTellings_j113 (wr m18 0 0 1 z19))) else (r_X0_findTellings_j113 (wr m14 0 0 1 z15)))))
set_option maxHeartbeats 4000000 in
set_option maxRecDepth 20000 in
theorem ok_X0_findTellings_e56_h11 (x3 : Int32) (m : Mem) {m' : Mem} (h : r_X0_findTellings_e56_h11 x3 m = some m') : Xj RX0 cX0_findTellings 5 none 5 109 0 0 0 0 56 [(0, vR 0 0), (3, vI x3)] [] m oV m' := by
  unfold r_X0_findTellings_e56_h11 at h
  refine xj_aload_n 0 dX0_findTellings_56 rfl ?_
  refine xj_iconst (z := 0) dX0_findTellings_57 (by decide) ?_
  refine xj_putI dX0_findTellings_58 fw_X0_68 rfl ?_
  refine xj_aload_n 0 dX0_findTellings_61 rfl ?_
  refine xj_iconst (z := (-1)) dX0_findTellings_62 (by decide) ?_
  refine xj_putI dX0_findTellings_63 fw_X0_71 rfl ?_
  refine xj_aload_n 0 dX0_findTellings_66 rfl ?_
  refine xj_iload_n 1 dX0_findTellings_67 rfl ?_
  obtain ⟨z11, e10, h⟩ := bd1_some h
  refine xc_Vb0 (st := []) (ok_X0_comesTo x3 (wr (wr m 0 0 0 0) 0 0 1 (-1)) e10) dX0_findTellings_68 cv_X0_74 rfl rfl (Nat.le_of_ble_eq_true rfl) (by decide) (by decide) (by decide) (by decide) ?_
  refine xj_if_eq (tgt := 75) dX0_findTellings_71 (by decide) (fun c12 => ?_) (fun c12 => ?_)
  · rw [if_neg (b2i_f c12)] at h
    refine xj_aload_n 0 dX0_findTellings_75 rfl ?_
    refine xj_iconst (z := 1) dX0_findTellings_76 (by decide) ?_
    refine xj_putI dX0_findTellings_77 fw_X0_68 rfl ?_
    refine xj_aload_n 0 dX0_findTellings_80 rfl ?_
    refine xj_aload_n 0 dX0_findTellings_81 rfl ?_
    refine xj_iload_n 1 dX0_findTellings_82 rfl ?_
    refine xj_iconst (z := 0) dX0_findTellings_83 (by decide) ?_
    obtain ⟨z15, m14, e13, h⟩ := bd2_some h
    refine xc_Vi0 (st := [vR 0 0]) (ok_X0_firstOfTellings x3 0 (wr (wr (wr m 0 0 0 0) 0 0 1 (-1)) 0 0 0 1) e13) dX0_findTellings_84 cv_X0_78 rfl rfl (Nat.le_of_ble_eq_true rfl) (by decide) (by decide) (by decide) (by decide) ?_
    refine xj_putI dX0_findTellings_87 fw_X0_71 rfl ?_
    refine xj_aload_n 0 dX0_findTellings_90 rfl ?_
    refine xg_getI (x := z15) dX0_findTellings_91 fl_X0_71 rfl rfl ?_
    refine xj_iconst (z := (-1)) dX0_findTellings_94 (by decide) ?_
    refine xj_icmp_ne (tgt := 113) dX0_findTellings_95 (by decide) (fun c16 => ?_) (fun c16 => ?_)
    · rw [if_neg c16] at h
      refine xj_pick (ls' := [(0, vR 0 0)]) [0] rfl ?_
      exact ok_X0_findTellings_j113 (wr m14 0 0 1 z15) h 
    · rw [if_pos c16] at h
      refine xj_aload_n 0 dX0_findTellings_98 rfl ?_
      refine xj_iconst (z := 2) dX0_findTellings_99 (by decide) ?_
      refine xj_putI dX0_findTellings_100 fw_X0_68 rfl ?_
      refine xj_aload_n 0 dX0_findTellings_103 rfl ?_
      refine xj_aload_n 0 dX0_findTellings_104 rfl ?_
      refine xj_iload_n 1 dX0_findTellings_105 rfl ?_
      refine xj_iconst (z := 1) dX0_findTellings_106 (by decide) ?_
      obtain ⟨z19, m18, e17, h⟩ := bd2_some h
      refine xc_Vi0 (st := [vR 0 0]) (ok_X0_firstOfTellings x3 1 (wr (wr m14 0 0 1 z15) 0 0 0 2) e17) dX0_findTellings_107 cv_X0_78 rfl rfl (Nat.le_of_ble_eq_true rfl) (by decide) (by decide) (by decide) (by decide) ?_
      refine xj_putI dX0_findTellings_110 fw_X0_71 rfl ?_
      refine xj_pick (ls' := [(0, vR 0 0)]) [0] rfl ?_
      exact ok_X0_findTellings_j113 (wr m18 0 0 1 z19) h 
  · rw [if_pos (b2i_t c12)] at h
    cases h
    exact xj_return dX0_findTellings_74 (by decide) (by decide)
noncomputable def r_X0_findTellings_l11 (x2 : Int32) (x3 : Int32) (x4 : Int32) (m : Mem) : Option Mem :=
  bd1 (loopO (fun s => r_X0_findTellings_b11 x2 x3 s.1 s.2) (x4, m)) (fun e => r_X0_findTellings_e56_h11 x3 e)
set_option maxHeartbeats 4000000 in
set_option maxRecDepth 20000 in
theorem ok_X0_findTellings_l11 (x2 : Int32) (x3 : Int32) (x4 : Int32) (m : Mem) {m' : Mem} (h : r_X0_findTellings_l11 x2 x3 x4 m = some m') : Xj RX0 cX0_findTellings 5 none 5 109 0 0 0 0 11 [(0, vR 0 0), (2, vI x2), (3, vI x3), (4, vI x4)] [] m oV m' := by
  unfold r_X0_findTellings_l11 at h
  obtain ⟨e, e1, h⟩ := bd1_some h
  refine loopO_ok (P := fun s : (Int32 × Mem) => Xj RX0 cX0_findTellings 5 none 5 109 0 0 0 0 11 [(0, vR 0 0), (2, vI x2), (3, vI x3), (4, vI s.1)] [] s.2 oV m') (Q := fun e : (Mem) => Xj RX0 cX0_findTellings 5 none 5 109 0 0 0 0 56 [(0, vR 0 0), (3, vI x3)] [] e oV m') ?_ _ _ e1 ?_
  · intro s r9 h9 hi hx
    exact ok_X0_findTellings_b11 x2 x3 s.1 s.2 h9 (by rintro _ _ rfl; exact hi _ rfl) (by rintro _ rfl; exact hx _ rfl)
  · exact ok_X0_findTellings_e56_h11 x3 e h 
noncomputable def r_X0_findTellings (i1 : Nat) (x2 : Int32) (x3 : Int32) (m : Mem) : Option Mem :=
  bd1 (r_X7_copyFrom 1 i1 m) fun m2 => (r_X0_findTellings_l11 x2 x3 0 m2)
set_option maxHeartbeats 4000000 in
set_option maxRecDepth 20000 in
theorem ok_X0_findTellings (i1 : Nat) (x2 : Int32) (x3 : Int32) (m : Mem) {m' : Mem} (h : r_X0_findTellings i1 x2 x3 m = some m') : Mt yX0_findTellings cX0_findTellings 5 none 5 109 0 0 [vR 0 0, vR 7 i1, vI x2, vI x3] m oV m' := by
  refine Mt.of (by decide) (Nat.le_of_ble_eq_true rfl) (by decide +kernel) (hhF_ne (by decide)) ?_
  show Xj RX0 cX0_findTellings 5 none 5 109 0 0 0 0 0 [(0, vR 0 0), (1, vR 7 i1), (2, vI x2), (3, vI x3)] [] m oV m'
  unfold r_X0_findTellings at h
  refine xj_aload_n 0 dX0_findTellings_0 rfl ?_
  refine xg_getR (k' := 7) (i' := 1) dX0_findTellings_1 fl_X0_12 rfl ?_
  refine xj_aload_n 1 dX0_findTellings_4 rfl ?_
  obtain ⟨m2, e1, h⟩ := bd1_some h
  refine xc_Vv0 (st := []) (ok_X7_copyFrom 1 i1 m e1) dX0_findTellings_5 cv_X0_36 rfl rfl (Nat.le_of_ble_eq_true rfl) (by decide) (by decide) (by decide) (by decide) ?_
  refine xj_iconst (z := 0) dX0_findTellings_8 (by decide) ?_
  refine xj_istore (ls' := [(4, vI 0), (0, vR 0 0), (1, vR 7 i1), (2, vI x2), (3, vI x3)]) dX0_findTellings_9 (by decide) rfl ?_
  refine xj_pick (ls' := [(0, vR 0 0), (2, vI x2), (3, vI x3), (4, vI 0)]) [1, 3, 4, 0] rfl ?_
  exact ok_X0_findTellings_l11 x2 x3 0 m2 h 
noncomputable def r_X0_traceAhead_b21 (x2 : Int32) (x3 : Int32) (m : Mem) : Option ((Int32 × Mem) ⊕ (Mem)) :=
  if x2 ≤ x3 then (some (Sum.inr m)) else (bd1 (r_X6_flowOneDay 1 m) fun m7 => (bd1 (r_X6_trace 1 m7) fun m9 => (some (Sum.inl (x3 + 1, m9)))))
set_option maxHeartbeats 4000000 in
set_option maxRecDepth 20000 in
theorem ok_X0_traceAhead_b21 (x2 : Int32) (x3 : Int32) (m : Mem) {r : (Int32 × Mem) ⊕ (Mem)} (h : r_X0_traceAhead_b21 x2 x3 m = some r) {o : Ou} {M' : Mem} (kb : ∀ (x3' : Int32) (m'' : Mem), r = Sum.inl (x3', m'') → Xj RX0 cX0_traceAhead 4 none 5 109 0 0 0 0 21 [(0, vR 0 0), (2, vI x2), (3, vI x3')] [] m'' o M') (ke : ∀ (m'' : Mem), r = Sum.inr m'' → Xj RX0 cX0_traceAhead 4 none 5 109 0 0 0 0 54 [] [] m'' o M') : Xj RX0 cX0_traceAhead 4 none 5 109 0 0 0 0 21 [(0, vR 0 0), (2, vI x2), (3, vI x3)] [] m o M' := by
  unfold r_X0_traceAhead_b21 at h
  refine xj_iload_n 2 dX0_traceAhead_21 rfl ?_
  refine xj_iload_n 1 dX0_traceAhead_22 rfl ?_
  refine xj_icmp_ge (tgt := 54) dX0_traceAhead_23 (by decide) (fun c5 => ?_) (fun c5 => ?_)
  · rw [if_pos c5] at h
    cases h
    refine xj_pick (ls' := []) [] rfl ?_
    exact ke m rfl
  · rw [if_neg c5] at h
    refine xj_aload_n 0 dX0_traceAhead_26 rfl ?_
    refine xg_getR (k' := 6) (i' := 0) dX0_traceAhead_27 fl_X0_32 rfl ?_
    refine xj_aload_n 0 dX0_traceAhead_30 rfl ?_
    refine xg_getR (k' := 7) (i' := 1) dX0_traceAhead_31 fl_X0_12 rfl ?_
    obtain ⟨m7, e6, h⟩ := bd1_some h
    refine xc_Vv0 (st := []) (ok_X6_flowOneDay 1 m e6) dX0_traceAhead_34 cv_X0_45 rfl rfl (Nat.le_of_ble_eq_true rfl) (by decide) (by decide) (by decide) (by decide) ?_
    refine xj_aload_n 0 dX0_traceAhead_37 rfl ?_
    refine xg_getR (k' := 6) (i' := 0) dX0_traceAhead_38 fl_X0_32 rfl ?_
    refine xj_aload_n 0 dX0_traceAhead_41 rfl ?_
    refine xg_getR (k' := 7) (i' := 1) dX0_traceAhead_42 fl_X0_12 rfl ?_
    obtain ⟨m9, e8, h⟩ := bd1_some h
    refine xc_Vv0 (st := []) (ok_X6_trace 1 m7 e8) dX0_traceAhead_45 cv_X0_40 rfl rfl (Nat.le_of_ble_eq_true rfl) (by decide) (by decide) (by decide) (by decide) ?_
    refine xj_iinc (z := x3 + 1) (ls' := [(3, vI (x3 + 1)), (0, vR 0 0), (2, vI x2)]) 2 dX0_traceAhead_48 rfl rfl (by decide) rfl ?_
    refine xj_goto (tgt := 21) dX0_traceAhead_51 (by decide) ?_
    cases h
    refine xj_pick (ls' := [(0, vR 0 0), (2, vI x2), (3, vI (x3 + 1))]) [1, 2, 0] rfl ?_
    exact kb (x3 + 1) m9 rfl
noncomputable def r_X0_traceAhead_e54_h21 (m : Mem) : Option Mem :=
  some m
set_option maxHeartbeats 4000000 in
set_option maxRecDepth 20000 in
theorem ok_X0_traceAhead_e54_h21 (m : Mem) {m' : Mem} (h : r_X0_traceAhead_e54_h21 m = some m') : Xj RX0 cX0_traceAhead 4 none 5 109 0 0 0 0 54 [] [] m oV m' := by
  unfold r_X0_traceAhead_e54_h21 at h
  cases h
  exact xj_return dX0_traceAhead_54 (by decide) (by decide)
noncomputable def r_X0_traceAhead_l21 (x2 : Int32) (x3 : Int32) (m : Mem) : Option Mem :=
  bd1 (loopO (fun s => r_X0_traceAhead_b21 x2 s.1 s.2) (x3, m)) (fun e => r_X0_traceAhead_e54_h21 e)
set_option maxHeartbeats 4000000 in
set_option maxRecDepth 20000 in
theorem ok_X0_traceAhead_l21 (x2 : Int32) (x3 : Int32) (m : Mem) {m' : Mem} (h : r_X0_traceAhead_l21 x2 x3 m = some m') : Xj RX0 cX0_traceAhead 4 none 5 109 0 0 0 0 21 [(0, vR 0 0), (2, vI x2), (3, vI x3)] [] m oV m' := by
  unfold r_X0_traceAhead_l21 at h
  obtain ⟨e, e1, h⟩ := bd1_some h
  refine loopO_ok (P := fun s : (Int32 × Mem) => Xj RX0 cX0_traceAhead 4 none 5 109 0 0 0 0 21 [(0, vR 0 0), (2, vI x2), (3, vI s.1)] [] s.2 oV m') (Q := fun e : (Mem) => Xj RX0 cX0_traceAhead 4 none 5 109 0 0 0 0 54 [] [] e oV m') ?_ _ _ e1 ?_
  · intro s r9 h9 hi hx
    exact ok_X0_traceAhead_b21 x2 s.1 s.2 h9 (by rintro _ _ rfl; exact hi _ rfl) (by rintro _ rfl; exact hx _ rfl)
  · exact ok_X0_traceAhead_e54_h21 e h 
noncomputable def r_X0_traceAhead (i1 : Nat) (x2 : Int32) (m : Mem) : Option Mem :=
  bd1 (r_X7_copyFrom 1 i1 m) fun m2 => (bd1 (r_X6_trace 1 m2) fun m4 => (r_X0_traceAhead_l21 x2 0 m4))
set_option maxHeartbeats 4000000 in
set_option maxRecDepth 20000 in
theorem ok_X0_traceAhead (i1 : Nat) (x2 : Int32) (m : Mem) {m' : Mem} (h : r_X0_traceAhead i1 x2 m = some m') : Mt yX0_traceAhead cX0_traceAhead 4 none 5 109 0 0 [vR 0 0, vR 7 i1, vI x2] m oV m' := by
  refine Mt.of (by decide) (Nat.le_of_ble_eq_true rfl) (by decide +kernel) (hhF_ne (by decide)) ?_
  show Xj RX0 cX0_traceAhead 4 none 5 109 0 0 0 0 0 [(0, vR 0 0), (1, vR 7 i1), (2, vI x2)] [] m oV m'
  unfold r_X0_traceAhead at h
  refine xj_aload_n 0 dX0_traceAhead_0 rfl ?_
  refine xg_getR (k' := 7) (i' := 1) dX0_traceAhead_1 fl_X0_12 rfl ?_
  refine xj_aload_n 1 dX0_traceAhead_4 rfl ?_
  obtain ⟨m2, e1, h⟩ := bd1_some h
  refine xc_Vv0 (st := []) (ok_X7_copyFrom 1 i1 m e1) dX0_traceAhead_5 cv_X0_36 rfl rfl (Nat.le_of_ble_eq_true rfl) (by decide) (by decide) (by decide) (by decide) ?_
  refine xj_aload_n 0 dX0_traceAhead_8 rfl ?_
  refine xg_getR (k' := 6) (i' := 0) dX0_traceAhead_9 fl_X0_32 rfl ?_
  refine xj_aload_n 0 dX0_traceAhead_12 rfl ?_
  refine xg_getR (k' := 7) (i' := 1) dX0_traceAhead_13 fl_X0_12 rfl ?_
  obtain ⟨m4, e3, h⟩ := bd1_some h
  refine xc_Vv0 (st := []) (ok_X6_trace 1 m2 e3) dX0_traceAhead_16 cv_X0_40 rfl rfl (Nat.le_of_ble_eq_true rfl) (by decide) (by decide) (by decide) (by decide) ?_
  refine xj_iconst (z := 0) dX0_traceAhead_19 (by decide) ?_
  refine xj_istore_n (ls' := [(3, vI 0), (0, vR 0 0), (1, vR 7 i1), (2, vI x2)]) dX0_traceAhead_20 rfl (by decide) rfl ?_
  refine xj_pick (ls' := [(0, vR 0 0), (2, vI x2), (3, vI 0)]) [1, 3, 0] rfl ?_
  exact ok_X0_traceAhead_l21 x2 0 m4 h 
noncomputable def r_X10_drawn (x1 : Int32) (m : Mem) : Option (Int32 × Mem) :=
  if 0 < x1 then (if x1 = 0 then none else (some ((remI ((((((m 10 0 4) * 1103515245) + 12345).toUInt32 >>> ((16 : Int32).toUInt32 &&& Int32.toUInt32 31)).toInt32) &&& 32767) x1), (wr m 10 0 4 (((m 10 0 4) * 1103515245) + 12345))))) else (some (0, (wr m 10 0 4 (((m 10 0 4) * 1103515245) + 12345))))
set_option maxHeartbeats 4000000 in
set_option maxRecDepth 20000 in
theorem ok_X10_drawn (x1 : Int32) (m : Mem) {z : Int32} {m' : Mem} (h : r_X10_drawn x1 m = some (z, m')) : Mt yX10_drawn cX10_drawn 2 (some .int) 1 0 0 0 [vR 10 0, vI x1] m (oI z) m' := by
  refine Mt.of (by decide) (Nat.le_of_ble_eq_true rfl) (by decide +kernel) (hhF_ne (by decide)) ?_
  show Xj RX10 cX10_drawn 2 (some .int) 1 0 0 0 0 0 0 [(0, vR 10 0), (1, vI x1)] [] m (oI z) m'
  unfold r_X10_drawn at h
  refine xj_aload_n 0 dX10_drawn_0 rfl ?_
  refine xj_aload_n 0 dX10_drawn_1 rfl ?_
  refine xg_getI (x := (m 10 0 4)) dX10_drawn_2 fl_X10_28 rfl rfl ?_
  refine xj_ldc (z := 1103515245) dX10_drawn_5 wt_1379 ?_
  refine xj_imul dX10_drawn_7 ?_
  refine xj_sipush (z := 12345) dX10_drawn_8 (by decide) ?_
  refine xj_iadd dX10_drawn_11 ?_
  refine xj_putI dX10_drawn_12 fw_X10_28 rfl ?_
  refine xj_iload_n 1 dX10_drawn_15 rfl ?_
  refine xj_if_gt (tgt := 23) dX10_drawn_16 (by decide) (fun c1 => ?_) (fun c1 => ?_)
  · rw [if_pos c1] at h
    refine xj_aload_n 0 dX10_drawn_23 rfl ?_
    refine xg_getI (x := (((m 10 0 4) * 1103515245) + 12345)) dX10_drawn_24 fl_X10_28 rfl rfl ?_
    refine xj_bipush (z := 16) dX10_drawn_27 (by decide) ?_
    refine xj_iushr dX10_drawn_29 ?_
    refine xj_sipush (z := 32767) dX10_drawn_30 (by decide) ?_
    refine xj_iand dX10_drawn_33 ?_
    refine xj_iload_n 1 dX10_drawn_34 rfl ?_
    by_cases c2 : x1 = 0
    · rw [if_pos c2] at h; cases h
    rw [if_neg c2] at h
    refine xg_irem dX10_drawn_35 c2 ?_
    cases h
    exact xj_ireturn dX10_drawn_36 rfl (by decide) (by decide)
  · rw [if_neg c1] at h
    refine xj_iconst (z := 0) dX10_drawn_19 (by decide) ?_
    refine xj_goto (tgt := 36) dX10_drawn_20 (by decide) ?_
    cases h
    exact xj_ireturn dX10_drawn_36 rfl (by decide) (by decide)
noncomputable def r_X10_stir_j50 (x1 : Int32) (x2 : Int32) (m : Mem) : Option Mem :=
  bd2 (r_X10_drawn 16 m) fun z13 m12 => (if x1 ≤ z13 then (some m12) else (if inb x2 8 = true then (bd2 (r_X7_forget 2 x2 (m12 21 2 x2.toNatClampNeg) m12) fun z18 m17 => (some m17)) else none))
set_option maxHeartbeats 4000000 in
set_option maxRecDepth 20000 in
theorem ok_X10_stir_j50 (x1 : Int32) (x2 : Int32) (m : Mem) {m' : Mem} (h : r_X10_stir_j50 x1 x2 m = some m') : Xj RX10 cX10_stir 4 none 3 45 0 0 0 0 50 [(0, vR 10 0), (1, vI x1), (2, vI x2)] [] m oV m' := by
  unfold r_X10_stir_j50 at h
  refine xj_aload_n 0 dX10_stir_50 rfl ?_
  refine xj_bipush (z := 16) dX10_stir_51 (by decide) ?_
  obtain ⟨z13, m12, e11, h⟩ := bd2_some h
  refine xc_Vi0 (st := []) (ok_X10_drawn 16 m e11) dX10_stir_53 cv_X10_52 rfl rfl (Nat.le_of_ble_eq_true rfl) (by decide) (by decide) (by decide) (by decide) ?_
  refine xj_iload_n 1 dX10_stir_56 rfl ?_
  refine xj_icmp_ge (tgt := 78) dX10_stir_57 (by decide) (fun c14 => ?_) (fun c14 => ?_)
  · rw [if_pos c14] at h
    cases h
    exact xj_return dX10_stir_78 (by decide) (by decide)
  · rw [if_neg c14] at h
    refine xj_aload_n 0 dX10_stir_60 rfl ?_
    refine xg_getR (k' := 7) (i' := 2) dX10_stir_61 fl_X10_10 rfl ?_
    refine xj_iload_n 2 dX10_stir_64 rfl ?_
    refine xj_aload_n 0 dX10_stir_65 rfl ?_
    refine xg_getR (k' := 7) (i' := 2) dX10_stir_66 fl_X10_10 rfl ?_
    refine xg_getR (k' := 21) (i' := 2) dX10_stir_69 fl_X10_63 rfl ?_
    refine xj_iload_n 2 dX10_stir_72 rfl ?_
    by_cases c15 : inb x2 8 = true
    case neg => rw [if_neg c15] at h; cases h
    rw [if_pos c15] at h
    refine xg_iald (z := (m12 21 2 x2.toNatClampNeg)) (n := x2.toNatClampNeg) dX10_stir_73 rfl (by decide) (inb_in c15) rfl rfl ?_
    obtain ⟨z18, m17, e16, h⟩ := bd2_some h
    refine xc_Vb0 (st := []) (ok_X7_forget 2 x2 (m12 21 2 x2.toNatClampNeg) m12 e16) dX10_stir_74 cv_X10_67 rfl rfl (Nat.le_of_ble_eq_true rfl) (by decide) (by decide) (by decide) (by decide) ?_
    refine xj_pop dX10_stir_77 rfl ?_
    cases h
    exact xj_return dX10_stir_78 (by decide) (by decide)
noncomputable def r_X10_stir (x1 : Int32) (m : Mem) : Option Mem :=
  bd2 (r_X10_drawn (m 3 0 2) m) fun z3 m2 => (bd2 (r_X10_drawn (m2 3 0 0) m2) fun z6 m5 => (bd2 (r_X6_walk 2 z3 z6 m5) fun z9 m8 => (if z9 = true then (r_X10_stir_j50 x1 z3 (wr m8 10 0 1 ((m8 10 0 1) + 1))) else (r_X10_stir_j50 x1 z3 m8))))
set_option maxHeartbeats 4000000 in
set_option maxRecDepth 20000 in
theorem ok_X10_stir (x1 : Int32) (m : Mem) {m' : Mem} (h : r_X10_stir x1 m = some m') : Mt yX10_stir cX10_stir 4 none 3 45 0 0 [vR 10 0, vI x1] m oV m' := by
  refine Mt.of (by decide) (Nat.le_of_ble_eq_true rfl) (by decide +kernel) (hhF_ne (by decide)) ?_
  show Xj RX10 cX10_stir 4 none 3 45 0 0 0 0 0 [(0, vR 10 0), (1, vI x1)] [] m oV m'
  unfold r_X10_stir at h
  refine xj_aload_n 0 dX10_stir_0 rfl ?_
  refine xj_aload_n 0 dX10_stir_1 rfl ?_
  refine xg_getR (k' := 3) (i' := 0) dX10_stir_2 fl_X10_16 rfl ?_
  refine xg_getI (x := (m 3 0 2)) dX10_stir_5 fl_X10_35 rfl rfl ?_
  obtain ⟨z3, m2, e1, h⟩ := bd2_some h
  refine xc_Vi0 (st := []) (ok_X10_drawn (m 3 0 2) m e1) dX10_stir_8 cv_X10_52 rfl rfl (Nat.le_of_ble_eq_true rfl) (by decide) (by decide) (by decide) (by decide) ?_
  refine xj_istore_n (ls' := [(2, vI z3), (0, vR 10 0), (1, vI x1)]) dX10_stir_11 rfl (by decide) rfl ?_
  refine xj_aload_n 1 dX10_stir_12 rfl ?_
  refine xj_aload_n 1 dX10_stir_13 rfl ?_
  refine xg_getR (k' := 3) (i' := 0) dX10_stir_14 fl_X10_16 rfl ?_
  refine xg_getI (x := (m2 3 0 0)) dX10_stir_17 fl_X10_56 rfl rfl ?_
  obtain ⟨z6, m5, e4, h⟩ := bd2_some h
  refine xc_Vi0 (st := []) (ok_X10_drawn (m2 3 0 0) m2 e4) dX10_stir_20 cv_X10_52 rfl rfl (Nat.le_of_ble_eq_true rfl) (by decide) (by decide) (by decide) (by decide) ?_
  refine xj_istore_n (ls' := [(3, vI z6), (2, vI z3), (0, vR 10 0), (1, vI x1)]) dX10_stir_23 rfl (by decide) rfl ?_
  refine xj_aload_n 2 dX10_stir_24 rfl ?_
  refine xg_getR (k' := 6) (i' := 0) dX10_stir_25 fl_X10_20 rfl ?_
  refine xj_aload_n 2 dX10_stir_28 rfl ?_
  refine xg_getR (k' := 7) (i' := 2) dX10_stir_29 fl_X10_10 rfl ?_
  refine xj_iload_n 1 dX10_stir_32 rfl ?_
  refine xj_iload_n 0 dX10_stir_33 rfl ?_
  obtain ⟨z9, m8, e7, h⟩ := bd2_some h
  refine xc_Vb0 (st := []) (ok_X6_walk 2 z3 z6 m5 e7) dX10_stir_34 cv_X10_59 rfl rfl (Nat.le_of_ble_eq_true rfl) (by decide) (by decide) (by decide) (by decide) ?_
  refine xj_if_eq (tgt := 50) dX10_stir_37 (by decide) (fun c10 => ?_) (fun c10 => ?_)
  · rw [if_neg (b2i_f c10)] at h
    refine xj_pick (ls' := [(0, vR 10 0), (1, vI x1), (2, vI z3)]) [2, 3, 1] rfl ?_
    exact ok_X10_stir_j50 x1 z3 m8 h 
  · rw [if_pos (b2i_t c10)] at h
    refine xj_aload_n 2 dX10_stir_40 rfl ?_
    refine xj_dup dX10_stir_41 rfl ?_
    refine xg_getI (x := (m8 10 0 1)) dX10_stir_42 fl_X10_32 rfl rfl ?_
    refine xj_iconst (z := 1) dX10_stir_45 (by decide) ?_
    refine xj_iadd dX10_stir_46 ?_
    refine xj_putI dX10_stir_47 fw_X10_32 rfl ?_
    refine xj_pick (ls' := [(0, vR 10 0), (1, vI x1), (2, vI z3)]) [2, 3, 1] rfl ?_
    exact ok_X10_stir_j50 x1 z3 (wr m8 10 0 1 ((m8 10 0 1) + 1)) h 
noncomputable def r_X10_live_j43_c21 (x3 : Int32) (x4 : Int32) (x5 : Int32) (m : Mem) : Option ((Int32 × Mem) ⊕ (Mem)) :=
  bd1 (r_X6_trace 2 m) fun m6 => (bd1 (r_X6_flowOneDay 2 m6) fun m8 => (some (Sum.inl (x5 + 1, m8))))
set_option maxHeartbeats 4000000 in
set_option maxRecDepth 20000 in
theorem ok_X10_live_j43_c21 (x3 : Int32) (x4 : Int32) (x5 : Int32) (m : Mem) {r : (Int32 × Mem) ⊕ (Mem)} (h : r_X10_live_j43_c21 x3 x4 x5 m = some r) {o : Ou} {M' : Mem} (kb : ∀ (x5' : Int32) (m'' : Mem), r = Sum.inl (x5', m'') → Xj RX10 cX10_live 6 none 5 109 0 0 0 0 21 [(0, vR 10 0), (3, vI x3), (4, vI x4), (5, vI x5')] [] m'' o M') (ke : ∀ (m'' : Mem), r = Sum.inr m'' → Xj RX10 cX10_live 6 none 5 109 0 0 0 0 71 [(0, vR 10 0)] [] m'' o M') : Xj RX10 cX10_live 6 none 5 109 0 0 0 0 43 [(0, vR 10 0), (3, vI x3), (4, vI x4), (5, vI x5)] [] m o M' := by
  unfold r_X10_live_j43_c21 at h
  refine xj_aload_n 0 dX10_live_43 rfl ?_
  refine xg_getR (k' := 6) (i' := 0) dX10_live_44 fl_X10_20 rfl ?_
  refine xj_aload_n 0 dX10_live_47 rfl ?_
  refine xg_getR (k' := 7) (i' := 2) dX10_live_48 fl_X10_10 rfl ?_
  obtain ⟨m6, e5, h⟩ := bd1_some h
  refine xc_Vv0 (st := []) (ok_X6_trace 2 m e5) dX10_live_51 cv_X10_44 rfl rfl (Nat.le_of_ble_eq_true rfl) (by decide) (by decide) (by decide) (by decide) ?_
  refine xj_aload_n 0 dX10_live_54 rfl ?_
  refine xg_getR (k' := 6) (i' := 0) dX10_live_55 fl_X10_20 rfl ?_
  refine xj_aload_n 0 dX10_live_58 rfl ?_
  refine xg_getR (k' := 7) (i' := 2) dX10_live_59 fl_X10_10 rfl ?_
  obtain ⟨m8, e7, h⟩ := bd1_some h
  refine xc_Vv0 (st := []) (ok_X6_flowOneDay 2 m6 e7) dX10_live_62 cv_X10_49 rfl rfl (Nat.le_of_ble_eq_true rfl) (by decide) (by decide) (by decide) (by decide) ?_
  refine xj_iinc (z := x5 + 1) (ls' := [(5, vI (x5 + 1)), (0, vR 10 0), (3, vI x3), (4, vI x4)]) 3 dX10_live_65 rfl rfl (by decide) rfl ?_
  refine xj_goto (tgt := 21) dX10_live_68 (by decide) ?_
  cases h
  refine xj_pick (ls' := [(0, vR 10 0), (3, vI x3), (4, vI x4), (5, vI (x5 + 1))]) [1, 2, 3, 0] rfl ?_
  exact kb (x5 + 1) m8 rfl
noncomputable def r_X10_live_b21 (x3 : Int32) (x4 : Int32) (x5 : Int32) (m : Mem) : Option ((Int32 × Mem) ⊕ (Mem)) :=
  if x3 ≤ x5 then (some (Sum.inr m)) else (if (m 3 0 2) ≤ 0 then (r_X10_live_j43_c21 x3 x4 x5 m) else (bd1 (r_X10_stir x4 m) fun m10 => (r_X10_live_j43_c21 x3 x4 x5 m10)))
set_option maxHeartbeats 4000000 in
set_option maxRecDepth 20000 in
theorem ok_X10_live_b21 (x3 : Int32) (x4 : Int32) (x5 : Int32) (m : Mem) {r : (Int32 × Mem) ⊕ (Mem)} (h : r_X10_live_b21 x3 x4 x5 m = some r) {o : Ou} {M' : Mem} (kb : ∀ (x5' : Int32) (m'' : Mem), r = Sum.inl (x5', m'') → Xj RX10 cX10_live 6 none 5 109 0 0 0 0 21 [(0, vR 10 0), (3, vI x3), (4, vI x4), (5, vI x5')] [] m'' o M') (ke : ∀ (m'' : Mem), r = Sum.inr m'' → Xj RX10 cX10_live 6 none 5 109 0 0 0 0 71 [(0, vR 10 0)] [] m'' o M') : Xj RX10 cX10_live 6 none 5 109 0 0 0 0 21 [(0, vR 10 0), (3, vI x3), (4, vI x4), (5, vI x5)] [] m o M' := by
  unfold r_X10_live_b21 at h
  refine xj_iload 3 dX10_live_21 rfl ?_
  refine xj_iload_n 1 dX10_live_23 rfl ?_
  refine xj_icmp_ge (tgt := 71) dX10_live_24 (by decide) (fun c3 => ?_) (fun c3 => ?_)
  · rw [if_pos c3] at h
    cases h
    refine xj_pick (ls' := [(0, vR 10 0)]) [0] rfl ?_
    exact ke m rfl
  · rw [if_neg c3] at h
    refine xj_aload_n 0 dX10_live_27 rfl ?_
    refine xg_getR (k' := 3) (i' := 0) dX10_live_28 fl_X10_16 rfl ?_
    refine xg_getI (x := (m 3 0 2)) dX10_live_31 fl_X10_35 rfl rfl ?_
    refine xj_if_le (tgt := 43) dX10_live_34 (by decide) (fun c4 => ?_) (fun c4 => ?_)
    · rw [if_pos c4] at h
      exact ok_X10_live_j43_c21 x3 x4 x5 m h kb ke
    · rw [if_neg c4] at h
      refine xj_aload_n 0 dX10_live_37 rfl ?_
      refine xj_iload 2 dX10_live_38 rfl ?_
      obtain ⟨m10, e9, h⟩ := bd1_some h
      refine xc_Vv0 (st := []) (ok_X10_stir x4 m e9) dX10_live_40 cv_X10_40 rfl rfl (Nat.le_of_ble_eq_true rfl) (by decide) (by decide) (by decide) (by decide) ?_
      exact ok_X10_live_j43_c21 x3 x4 x5 m10 h kb ke
noncomputable def r_X10_live_e71_h21 (m : Mem) : Option Mem :=
  bd1 (r_X6_trace 2 m) fun m12 => (some m12)
set_option maxHeartbeats 4000000 in
set_option maxRecDepth 20000 in
theorem ok_X10_live_e71_h21 (m : Mem) {m' : Mem} (h : r_X10_live_e71_h21 m = some m') : Xj RX10 cX10_live 6 none 5 109 0 0 0 0 71 [(0, vR 10 0)] [] m oV m' := by
  unfold r_X10_live_e71_h21 at h
  refine xj_aload_n 0 dX10_live_71 rfl ?_
  refine xg_getR (k' := 6) (i' := 0) dX10_live_72 fl_X10_20 rfl ?_
  refine xj_aload_n 0 dX10_live_75 rfl ?_
  refine xg_getR (k' := 7) (i' := 2) dX10_live_76 fl_X10_10 rfl ?_
  obtain ⟨m12, e11, h⟩ := bd1_some h
  refine xc_Vv0 (st := []) (ok_X6_trace 2 m e11) dX10_live_79 cv_X10_44 rfl rfl (Nat.le_of_ble_eq_true rfl) (by decide) (by decide) (by decide) (by decide) ?_
  cases h
  exact xj_return dX10_live_82 (by decide) (by decide)
noncomputable def r_X10_live_l21 (x3 : Int32) (x4 : Int32) (x5 : Int32) (m : Mem) : Option Mem :=
  bd1 (loopO (fun s => r_X10_live_b21 x3 x4 s.1 s.2) (x5, m)) (fun e => r_X10_live_e71_h21 e)
set_option maxHeartbeats 4000000 in
set_option maxRecDepth 20000 in
theorem ok_X10_live_l21 (x3 : Int32) (x4 : Int32) (x5 : Int32) (m : Mem) {m' : Mem} (h : r_X10_live_l21 x3 x4 x5 m = some m') : Xj RX10 cX10_live 6 none 5 109 0 0 0 0 21 [(0, vR 10 0), (3, vI x3), (4, vI x4), (5, vI x5)] [] m oV m' := by
  unfold r_X10_live_l21 at h
  obtain ⟨e, e1, h⟩ := bd1_some h
  refine loopO_ok (P := fun s : (Int32 × Mem) => Xj RX10 cX10_live 6 none 5 109 0 0 0 0 21 [(0, vR 10 0), (3, vI x3), (4, vI x4), (5, vI s.1)] [] s.2 oV m') (Q := fun e : (Mem) => Xj RX10 cX10_live 6 none 5 109 0 0 0 0 71 [(0, vR 10 0)] [] e oV m') ?_ _ _ e1 ?_
  · intro s r9 h9 hi hx
    exact ok_X10_live_b21 x3 x4 s.1 s.2 h9 (by rintro _ _ rfl; exact hi _ rfl) (by rintro _ rfl; exact hx _ rfl)
  · exact ok_X10_live_e71_h21 e h 
noncomputable def r_X10_live (i1 : Nat) (x2 : Int32) (x3 : Int32) (x4 : Int32) (m : Mem) : Option Mem :=
  bd1 (r_X7_copyFrom 2 i1 m) fun m2 => (r_X10_live_l21 x3 x4 0 (wr (wr m2 10 0 4 x2) 10 0 1 0))
set_option maxHeartbeats 4000000 in
set_option maxRecDepth 20000 in
theorem ok_X10_live (i1 : Nat) (x2 : Int32) (x3 : Int32) (x4 : Int32) (m : Mem) {m' : Mem} (h : r_X10_live i1 x2 x3 x4 m = some m') : Mt yX10_live cX10_live 6 none 5 109 0 0 [vR 10 0, vR 7 i1, vI x2, vI x3, vI x4] m oV m' := by
  refine Mt.of (by decide) (Nat.le_of_ble_eq_true rfl) (by decide +kernel) (hhF_ne (by decide)) ?_
  show Xj RX10 cX10_live 6 none 5 109 0 0 0 0 0 [(0, vR 10 0), (1, vR 7 i1), (2, vI x2), (3, vI x3), (4, vI x4)] [] m oV m'
  unfold r_X10_live at h
  refine xj_aload_n 0 dX10_live_0 rfl ?_
  refine xg_getR (k' := 7) (i' := 2) dX10_live_1 fl_X10_10 rfl ?_
  refine xj_aload_n 1 dX10_live_4 rfl ?_
  obtain ⟨m2, e1, h⟩ := bd1_some h
  refine xc_Vv0 (st := []) (ok_X7_copyFrom 2 i1 m e1) dX10_live_5 cv_X10_24 rfl rfl (Nat.le_of_ble_eq_true rfl) (by decide) (by decide) (by decide) (by decide) ?_
  refine xj_aload_n 0 dX10_live_8 rfl ?_
  refine xj_iload_n 2 dX10_live_9 rfl ?_
  refine xj_putI dX10_live_10 fw_X10_28 rfl ?_
  refine xj_aload_n 0 dX10_live_13 rfl ?_
  refine xj_iconst (z := 0) dX10_live_14 (by decide) ?_
  refine xj_putI dX10_live_15 fw_X10_32 rfl ?_
  refine xj_iconst (z := 0) dX10_live_18 (by decide) ?_
  refine xj_istore (ls' := [(5, vI 0), (0, vR 10 0), (1, vR 7 i1), (2, vI x2), (3, vI x3), (4, vI x4)]) dX10_live_19 (by decide) rfl ?_
  refine xj_pick (ls' := [(0, vR 10 0), (3, vI x3), (4, vI x4), (5, vI 0)]) [1, 4, 5, 0] rfl ?_
  exact ok_X10_live_l21 x3 x4 0 (wr (wr m2 10 0 4 x2) 10 0 1 0) h 
