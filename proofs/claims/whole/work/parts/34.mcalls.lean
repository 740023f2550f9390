theorem dX12_hasBy_0 : decode cX12_hasBy 0 = .ok (.aload_n 0, 1) := by decide +kernel
theorem dX12_hasBy_1 : decode cX12_hasBy 1 = .ok (.iload_n 1, 1) := by decide +kernel
theorem dX12_hasBy_2 : decode cX12_hasBy 2 = .ok (.iload_n 2, 1) := by decide +kernel
theorem dX12_hasBy_3 : decode cX12_hasBy 3 = .ok (.iload_n 3, 1) := by decide +kernel
theorem dX12_hasBy_4 : decode cX12_hasBy 4 = .ok (.invokevirtual 393, 3) := by decide +kernel
theorem dX12_hasBy_7 : decode cX12_hasBy 7 = .ok (.iload_n 1, 1) := by decide +kernel
theorem dX12_hasBy_8 : decode cX12_hasBy 8 = .ok (.if_icmp .eq 7, 3) := by decide +kernel
theorem dX12_hasBy_11 : decode cX12_hasBy 11 = .ok (.iconst 0, 1) := by decide +kernel
theorem dX12_hasBy_12 : decode cX12_hasBy 12 = .ok (.goto 13, 3) := by decide +kernel
theorem dX12_hasBy_15 : decode cX12_hasBy 15 = .ok (.iload_n 1, 1) := by decide +kernel
theorem dX12_hasBy_16 : decode cX12_hasBy 16 = .ok (.iload_n 2, 1) := by decide +kernel
theorem dX12_hasBy_17 : decode cX12_hasBy 17 = .ok (.if_icmp .ne 7, 3) := by decide +kernel
theorem dX12_hasBy_20 : decode cX12_hasBy 20 = .ok (.iconst 1, 1) := by decide +kernel
theorem dX12_hasBy_21 : decode cX12_hasBy 21 = .ok (.goto 4, 3) := by decide +kernel
theorem dX12_hasBy_24 : decode cX12_hasBy 24 = .ok (.iconst 2, 1) := by decide +kernel
theorem dX12_hasBy_25 : decode cX12_hasBy 25 = .ok (.ireturn, 1) := by decide +kernel
theorem dX12_puts_0 : decode cX12_puts 0 = .ok (.iload_n 3, 1) := by decide +kernel
theorem dX12_puts_1 : decode cX12_puts 1 = .ok (.ifCond .ne 10, 3) := by decide +kernel
theorem dX12_puts_4 : decode cX12_puts 4 = .ok (.aload_n 1, 1) := by decide +kernel
theorem dX12_puts_5 : decode cX12_puts 5 = .ok (.aload_n 0, 1) := by decide +kernel
theorem dX12_puts_6 : decode cX12_puts 6 = .ok (.getfield 422, 3) := by decide +kernel
theorem dX12_puts_9 : decode cX12_puts 9 = .ok (.iload_n 2, 1) := by decide +kernel
theorem dX12_puts_10 : decode cX12_puts 10 = .ok (.iastore, 1) := by decide +kernel
theorem dX12_puts_11 : decode cX12_puts 11 = .ok (.aload_n 0, 1) := by decide +kernel
theorem dX12_puts_12 : decode cX12_puts 12 = .ok (.dup, 1) := by decide +kernel
theorem dX12_puts_13 : decode cX12_puts 13 = .ok (.getfield 422, 3) := by decide +kernel
theorem dX12_puts_16 : decode cX12_puts 16 = .ok (.iconst 1, 1) := by decide +kernel
theorem dX12_puts_17 : decode cX12_puts 17 = .ok (.iadd, 1) := by decide +kernel
theorem dX12_puts_18 : decode cX12_puts 18 = .ok (.putfield 422, 3) := by decide +kernel
theorem dX12_puts_21 : decode cX12_puts 21 = .ok (.aload_n 1, 1) := by decide +kernel
theorem dX12_puts_22 : decode cX12_puts 22 = .ok (.aload_n 0, 1) := by decide +kernel
theorem dX12_puts_23 : decode cX12_puts 23 = .ok (.getfield 422, 3) := by decide +kernel
theorem dX12_puts_26 : decode cX12_puts 26 = .ok (.iconst 1, 1) := by decide +kernel
theorem dX12_puts_27 : decode cX12_puts 27 = .ok (.isub, 1) := by decide +kernel
theorem dX12_puts_28 : decode cX12_puts 28 = .ok (.iaload, 1) := by decide +kernel
theorem dX12_puts_29 : decode cX12_puts 29 = .ok (.ireturn, 1) := by decide +kernel
theorem dX12_putsAll_0 : decode cX12_putsAll 0 = .ok (.aload_n 0, 1) := by decide +kernel
theorem dX12_putsAll_1 : decode cX12_putsAll 1 = .ok (.iconst 0, 1) := by decide +kernel
theorem dX12_putsAll_2 : decode cX12_putsAll 2 = .ok (.putfield 422, 3) := by decide +kernel
theorem dX12_putsAll_5 : decode cX12_putsAll 5 = .ok (.aload_n 0, 1) := by decide +kernel
theorem dX12_putsAll_6 : decode cX12_putsAll 6 = .ok (.aload_n 0, 1) := by decide +kernel
theorem dX12_putsAll_7 : decode cX12_putsAll 7 = .ok (.aload_n 1, 1) := by decide +kernel
theorem dX12_putsAll_8 : decode cX12_putsAll 8 = .ok (.aload_n 0, 1) := by decide +kernel
theorem dX12_putsAll_9 : decode cX12_putsAll 9 = .ok (.getfield 214, 3) := by decide +kernel
theorem dX12_putsAll_12 : decode cX12_putsAll 12 = .ok (.iload_n 2, 1) := by decide +kernel
theorem dX12_putsAll_13 : decode cX12_putsAll 13 = .ok (.invokevirtual 425, 3) := by decide +kernel
theorem dX12_putsAll_16 : decode cX12_putsAll 16 = .ok (.putfield 214, 3) := by decide +kernel
theorem dX12_putsAll_19 : decode cX12_putsAll 19 = .ok (.iconst 0, 1) := by decide +kernel
theorem dX12_putsAll_20 : decode cX12_putsAll 20 = .ok (.istore_n 3, 1) := by decide +kernel
theorem dX12_putsAll_21 : decode cX12_putsAll 21 = .ok (.iload_n 3, 1) := by decide +kernel
theorem dX12_putsAll_22 : decode cX12_putsAll 22 = .ok (.bipush 111, 2) := by decide +kernel
theorem dX12_putsAll_24 : decode cX12_putsAll 24 = .ok (.if_icmp .ge 27, 3) := by decide +kernel
theorem dX12_putsAll_27 : decode cX12_putsAll 27 = .ok (.aload_n 0, 1) := by decide +kernel
theorem dX12_putsAll_28 : decode cX12_putsAll 28 = .ok (.getfield 73, 3) := by decide +kernel
theorem dX12_putsAll_31 : decode cX12_putsAll 31 = .ok (.iload_n 3, 1) := by decide +kernel
theorem dX12_putsAll_32 : decode cX12_putsAll 32 = .ok (.aload_n 0, 1) := by decide +kernel
theorem dX12_putsAll_33 : decode cX12_putsAll 33 = .ok (.aload_n 1, 1) := by decide +kernel
theorem dX12_putsAll_34 : decode cX12_putsAll 34 = .ok (.aload_n 0, 1) := by decide +kernel
theorem dX12_putsAll_35 : decode cX12_putsAll 35 = .ok (.getfield 73, 3) := by decide +kernel
theorem dX12_putsAll_38 : decode cX12_putsAll 38 = .ok (.iload_n 3, 1) := by decide +kernel
theorem dX12_putsAll_39 : decode cX12_putsAll 39 = .ok (.iaload, 1) := by decide +kernel
theorem dX12_putsAll_40 : decode cX12_putsAll 40 = .ok (.iload_n 2, 1) := by decide +kernel
theorem dX12_putsAll_41 : decode cX12_putsAll 41 = .ok (.invokevirtual 425, 3) := by decide +kernel
theorem dX12_putsAll_44 : decode cX12_putsAll 44 = .ok (.iastore, 1) := by decide +kernel
theorem dX12_putsAll_45 : decode cX12_putsAll 45 = .ok (.iinc 3 1, 3) := by decide +kernel
theorem dX12_putsAll_48 : decode cX12_putsAll 48 = .ok (.goto (-27), 3) := by decide +kernel
theorem dX12_putsAll_51 : decode cX12_putsAll 51 = .ok (.iconst 0, 1) := by decide +kernel
theorem dX12_putsAll_52 : decode cX12_putsAll 52 = .ok (.istore_n 3, 1) := by decide +kernel
theorem dX12_putsAll_53 : decode cX12_putsAll 53 = .ok (.iload_n 3, 1) := by decide +kernel
theorem dX12_putsAll_54 : decode cX12_putsAll 54 = .ok (.bipush 16, 2) := by decide +kernel
theorem dX12_putsAll_56 : decode cX12_putsAll 56 = .ok (.if_icmp .ge 49, 3) := by decide +kernel
theorem dX12_putsAll_59 : decode cX12_putsAll 59 = .ok (.iconst 0, 1) := by decide +kernel
theorem dX12_putsAll_60 : decode cX12_putsAll 60 = .ok (.istore 4, 2) := by decide +kernel
theorem dX12_putsAll_62 : decode cX12_putsAll 62 = .ok (.iload 4, 2) := by decide +kernel
theorem dX12_putsAll_64 : decode cX12_putsAll 64 = .ok (.bipush 111, 2) := by decide +kernel
theorem dX12_putsAll_66 : decode cX12_putsAll 66 = .ok (.if_icmp .ge 33, 3) := by decide +kernel
theorem dX12_putsAll_69 : decode cX12_putsAll 69 = .ok (.aload_n 0, 1) := by decide +kernel
theorem dX12_putsAll_70 : decode cX12_putsAll 70 = .ok (.getfield 79, 3) := by decide +kernel
theorem dX12_putsAll_73 : decode cX12_putsAll 73 = .ok (.iload_n 3, 1) := by decide +kernel
theorem dX12_putsAll_74 : decode cX12_putsAll 74 = .ok (.aaload, 1) := by decide +kernel
theorem dX12_putsAll_75 : decode cX12_putsAll 75 = .ok (.iload 4, 2) := by decide +kernel
theorem dX12_putsAll_77 : decode cX12_putsAll 77 = .ok (.aload_n 0, 1) := by decide +kernel
theorem dX12_putsAll_78 : decode cX12_putsAll 78 = .ok (.aload_n 1, 1) := by decide +kernel
theorem dX12_putsAll_79 : decode cX12_putsAll 79 = .ok (.aload_n 0, 1) := by decide +kernel
theorem dX12_putsAll_80 : decode cX12_putsAll 80 = .ok (.getfield 79, 3) := by decide +kernel
theorem dX12_putsAll_83 : decode cX12_putsAll 83 = .ok (.iload_n 3, 1) := by decide +kernel
theorem dX12_putsAll_84 : decode cX12_putsAll 84 = .ok (.aaload, 1) := by decide +kernel
theorem dX12_putsAll_85 : decode cX12_putsAll 85 = .ok (.iload 4, 2) := by decide +kernel
theorem dX12_putsAll_87 : decode cX12_putsAll 87 = .ok (.iaload, 1) := by decide +kernel
theorem dX12_putsAll_88 : decode cX12_putsAll 88 = .ok (.iload_n 2, 1) := by decide +kernel
theorem dX12_putsAll_89 : decode cX12_putsAll 89 = .ok (.invokevirtual 425, 3) := by decide +kernel
theorem dX12_putsAll_92 : decode cX12_putsAll 92 = .ok (.iastore, 1) := by decide +kernel
theorem dX12_putsAll_93 : decode cX12_putsAll 93 = .ok (.iinc 4 1, 3) := by decide +kernel
theorem dX12_putsAll_96 : decode cX12_putsAll 96 = .ok (.goto (-34), 3) := by decide +kernel
theorem dX12_putsAll_99 : decode cX12_putsAll 99 = .ok (.iinc 3 1, 3) := by decide +kernel
theorem dX12_putsAll_102 : decode cX12_putsAll 102 = .ok (.goto (-49), 3) := by decide +kernel
theorem dX12_putsAll_105 : decode cX12_putsAll 105 = .ok (.return_, 1) := by decide +kernel
theorem dX12_image_0 : decode cX12_image 0 = .ok (.aload_n 0, 1) := by decide +kernel
theorem dX12_image_1 : decode cX12_image 1 = .ok (.iconst 0, 1) := by decide +kernel
theorem dX12_image_2 : decode cX12_image 2 = .ok (.putfield 109, 3) := by decide +kernel
theorem dX12_image_5 : decode cX12_image 5 = .ok (.aload_n 0, 1) := by decide +kernel
theorem dX12_image_6 : decode cX12_image 6 = .ok (.getfield 220, 3) := by decide +kernel
theorem dX12_image_9 : decode cX12_image 9 = .ok (.iconst 3, 1) := by decide +kernel
theorem dX12_image_10 : decode cX12_image 10 = .ok (.if_icmp .ne 5, 3) := by decide +kernel
theorem dX12_image_13 : decode cX12_image 13 = .ok (.iconst (-1), 1) := by decide +kernel
theorem dX12_image_14 : decode cX12_image 14 = .ok (.ireturn, 1) := by decide +kernel
theorem dX12_image_15 : decode cX12_image 15 = .ok (.aload_n 0, 1) := by decide +kernel
theorem dX12_image_16 : decode cX12_image 16 = .ok (.aload_n 0, 1) := by decide +kernel
theorem dX12_image_17 : decode cX12_image 17 = .ok (.getfield 82, 3) := by decide +kernel
theorem dX12_image_20 : decode cX12_image 20 = .ok (.aload_n 0, 1) := by decide +kernel
theorem dX12_image_21 : decode cX12_image 21 = .ok (.getfield 220, 3) := by decide +kernel
theorem dX12_image_24 : decode cX12_image 24 = .ok (.aaload, 1) := by decide +kernel
theorem dX12_image_25 : decode cX12_image 25 = .ok (.iconst 0, 1) := by decide +kernel
theorem dX12_image_26 : decode cX12_image 26 = .ok (.invokevirtual 429, 3) := by decide +kernel
theorem dX12_image_29 : decode cX12_image 29 = .ok (.aload_n 0, 1) := by decide +kernel
theorem dX12_image_30 : decode cX12_image 30 = .ok (.dup, 1) := by decide +kernel
theorem dX12_image_31 : decode cX12_image 31 = .ok (.getfield 220, 3) := by decide +kernel
theorem dX12_image_34 : decode cX12_image 34 = .ok (.iconst 1, 1) := by decide +kernel
theorem dX12_image_35 : decode cX12_image 35 = .ok (.iadd, 1) := by decide +kernel
theorem dX12_image_36 : decode cX12_image 36 = .ok (.putfield 220, 3) := by decide +kernel
theorem dX12_image_39 : decode cX12_image 39 = .ok (.aload_n 0, 1) := by decide +kernel
theorem dX12_image_40 : decode cX12_image 40 = .ok (.getfield 220, 3) := by decide +kernel
theorem dX12_image_43 : decode cX12_image 43 = .ok (.ireturn, 1) := by decide +kernel
theorem dX12_isRest_0 : decode cX12_isRest 0 = .ok (.iconst 0, 1) := by decide +kernel
theorem dX12_isRest_1 : decode cX12_isRest 1 = .ok (.istore 4, 2) := by decide +kernel
theorem dX12_isRest_3 : decode cX12_isRest 3 = .ok (.iload 4, 2) := by decide +kernel
theorem dX12_isRest_5 : decode cX12_isRest 5 = .ok (.aload_n 0, 1) := by decide +kernel
theorem dX12_isRest_6 : decode cX12_isRest 6 = .ok (.getfield 23, 3) := by decide +kernel
theorem dX12_isRest_9 : decode cX12_isRest 9 = .ok (.iconst 0, 1) := by decide +kernel
theorem dX12_isRest_10 : decode cX12_isRest 10 = .ok (.iaload, 1) := by decide +kernel
theorem dX12_isRest_11 : decode cX12_isRest 11 = .ok (.if_icmp .ge 63, 3) := by decide +kernel
theorem dX12_isRest_14 : decode cX12_isRest 14 = .ok (.aload_n 0, 1) := by decide +kernel
theorem dX12_isRest_15 : decode cX12_isRest 15 = .ok (.aload_n 0, 1) := by decide +kernel
theorem dX12_isRest_16 : decode cX12_isRest 16 = .ok (.getfield 23, 3) := by decide +kernel
theorem dX12_isRest_19 : decode cX12_isRest 19 = .ok (.iconst 3, 1) := by decide +kernel
theorem dX12_isRest_20 : decode cX12_isRest 20 = .ok (.iaload, 1) := by decide +kernel
theorem dX12_isRest_21 : decode cX12_isRest 21 = .ok (.iload 4, 2) := by decide +kernel
theorem dX12_isRest_23 : decode cX12_isRest 23 = .ok (.invokevirtual 267, 3) := by decide +kernel
theorem dX12_isRest_26 : decode cX12_isRest 26 = .ok (.iconst (-1), 1) := by decide +kernel
theorem dX12_isRest_27 : decode cX12_isRest 27 = .ok (.if_icmp .eq 41, 3) := by decide +kernel
theorem dX12_isRest_30 : decode cX12_isRest 30 = .ok (.aload_n 0, 1) := by decide +kernel
theorem dX12_isRest_31 : decode cX12_isRest 31 = .ok (.iload 4, 2) := by decide +kernel
theorem dX12_isRest_33 : decode cX12_isRest 33 = .ok (.iload_n 2, 1) := by decide +kernel
theorem dX12_isRest_34 : decode cX12_isRest 34 = .ok (.iload_n 3, 1) := by decide +kernel
theorem dX12_isRest_35 : decode cX12_isRest 35 = .ok (.invokevirtual 396, 3) := by decide +kernel
theorem dX12_isRest_38 : decode cX12_isRest 38 = .ok (.aload_n 0, 1) := by decide +kernel
theorem dX12_isRest_39 : decode cX12_isRest 39 = .ok (.iload_n 1, 1) := by decide +kernel
theorem dX12_isRest_40 : decode cX12_isRest 40 = .ok (.iload_n 2, 1) := by decide +kernel
theorem dX12_isRest_41 : decode cX12_isRest 41 = .ok (.iload_n 3, 1) := by decide +kernel
theorem dX12_isRest_42 : decode cX12_isRest 42 = .ok (.invokevirtual 396, 3) := by decide +kernel
theorem dX12_isRest_45 : decode cX12_isRest 45 = .ok (.if_icmp .gt 21, 3) := by decide +kernel
theorem dX12_isRest_48 : decode cX12_isRest 48 = .ok (.aload_n 0, 1) := by decide +kernel
theorem dX12_isRest_49 : decode cX12_isRest 49 = .ok (.iload 4, 2) := by decide +kernel
theorem dX12_isRest_51 : decode cX12_isRest 51 = .ok (.iload_n 1, 1) := by decide +kernel
theorem dX12_isRest_52 : decode cX12_isRest 52 = .ok (.iload_n 3, 1) := by decide +kernel
theorem dX12_isRest_53 : decode cX12_isRest 53 = .ok (.invokevirtual 396, 3) := by decide +kernel
theorem dX12_isRest_56 : decode cX12_isRest 56 = .ok (.aload_n 0, 1) := by decide +kernel
theorem dX12_isRest_57 : decode cX12_isRest 57 = .ok (.iload_n 2, 1) := by decide +kernel
theorem dX12_isRest_58 : decode cX12_isRest 58 = .ok (.iload_n 1, 1) := by decide +kernel
theorem dX12_isRest_59 : decode cX12_isRest 59 = .ok (.iload_n 3, 1) := by decide +kernel
theorem dX12_isRest_60 : decode cX12_isRest 60 = .ok (.invokevirtual 396, 3) := by decide +kernel
theorem dX12_isRest_63 : decode cX12_isRest 63 = .ok (.if_icmp .le 5, 3) := by decide +kernel
theorem dX12_isRest_66 : decode cX12_isRest 66 = .ok (.iconst 0, 1) := by decide +kernel
theorem dX12_isRest_67 : decode cX12_isRest 67 = .ok (.ireturn, 1) := by decide +kernel
theorem dX12_isRest_68 : decode cX12_isRest 68 = .ok (.iinc 4 1, 3) := by decide +kernel
theorem dX12_isRest_71 : decode cX12_isRest 71 = .ok (.goto (-68), 3) := by decide +kernel
theorem dX12_isRest_74 : decode cX12_isRest 74 = .ok (.iconst 1, 1) := by decide +kernel
theorem dX12_isRest_75 : decode cX12_isRest 75 = .ok (.ireturn, 1) := by decide +kernel
theorem dX12_isTold_0 : decode cX12_isTold 0 = .ok (.iconst 0, 1) := by decide +kernel
theorem dX12_isTold_1 : decode cX12_isTold 1 = .ok (.istore_n 2, 1) := by decide +kernel
theorem dX12_isTold_2 : decode cX12_isTold 2 = .ok (.iload_n 2, 1) := by decide +kernel
theorem dX12_isTold_3 : decode cX12_isTold 3 = .ok (.aload_n 0, 1) := by decide +kernel
theorem dX12_isTold_4 : decode cX12_isTold 4 = .ok (.getfield 211, 3) := by decide +kernel
theorem dX12_isTold_7 : decode cX12_isTold 7 = .ok (.if_icmp .ge 23, 3) := by decide +kernel
theorem dX12_isTold_10 : decode cX12_isTold 10 = .ok (.aload_n 0, 1) := by decide +kernel
theorem dX12_isTold_11 : decode cX12_isTold 11 = .ok (.getfield 58, 3) := by decide +kernel
theorem dX12_isTold_14 : decode cX12_isTold 14 = .ok (.iload_n 2, 1) := by decide +kernel
theorem dX12_isTold_15 : decode cX12_isTold 15 = .ok (.aaload, 1) := by decide +kernel
theorem dX12_isTold_16 : decode cX12_isTold 16 = .ok (.iconst 0, 1) := by decide +kernel
theorem dX12_isTold_17 : decode cX12_isTold 17 = .ok (.iaload, 1) := by decide +kernel
theorem dX12_isTold_18 : decode cX12_isTold 18 = .ok (.iload_n 1, 1) := by decide +kernel
theorem dX12_isTold_19 : decode cX12_isTold 19 = .ok (.if_icmp .ne 5, 3) := by decide +kernel
theorem dX12_isTold_22 : decode cX12_isTold 22 = .ok (.iconst 1, 1) := by decide +kernel
theorem dX12_isTold_23 : decode cX12_isTold 23 = .ok (.ireturn, 1) := by decide +kernel
theorem dX12_isTold_24 : decode cX12_isTold 24 = .ok (.iinc 2 1, 3) := by decide +kernel
theorem dX12_isTold_27 : decode cX12_isTold 27 = .ok (.goto (-25), 3) := by decide +kernel
theorem dX12_isTold_30 : decode cX12_isTold 30 = .ok (.iconst 0, 1) := by decide +kernel
theorem dX12_isTold_31 : decode cX12_isTold 31 = .ok (.ireturn, 1) := by decide +kernel
theorem dX12_isYear_0 : decode cX12_isYear 0 = .ok (.iload_n 0, 1) := by decide +kernel
theorem dX12_isYear_1 : decode cX12_isYear 1 = .ok (.iconst 1, 1) := by decide +kernel
theorem dX12_isYear_2 : decode cX12_isYear 2 = .ok (.bipush 96, 2) := by decide +kernel
theorem dX12_isYear_4 : decode cX12_isYear 4 = .ok (.invokestatic 143, 3) := by decide +kernel
theorem dX12_isYear_7 : decode cX12_isYear 7 = .ok (.ifCond .eq 17, 3) := by decide +kernel
theorem dX12_isYear_10 : decode cX12_isYear 10 = .ok (.iload_n 1, 1) := by decide +kernel
theorem dX12_isYear_11 : decode cX12_isYear 11 = .ok (.iconst 0, 1) := by decide +kernel
theorem dX12_isYear_12 : decode cX12_isYear 12 = .ok (.bipush 16, 2) := by decide +kernel
theorem dX12_isYear_14 : decode cX12_isYear 14 = .ok (.invokestatic 143, 3) := by decide +kernel
theorem dX12_isYear_17 : decode cX12_isYear 17 = .ok (.ifCond .eq 7, 3) := by decide +kernel
theorem dX12_isYear_20 : decode cX12_isYear 20 = .ok (.iconst 1, 1) := by decide +kernel
theorem dX12_isYear_21 : decode cX12_isYear 21 = .ok (.goto 4, 3) := by decide +kernel
theorem dX12_isYear_24 : decode cX12_isYear 24 = .ok (.iconst 0, 1) := by decide +kernel
theorem dX12_isYear_25 : decode cX12_isYear 25 = .ok (.ireturn, 1) := by decide +kernel
theorem dX12_tellsNothing_0 : decode cX12_tellsNothing 0 = .ok (.iconst 0, 1) := by decide +kernel
theorem dX12_tellsNothing_1 : decode cX12_tellsNothing 1 = .ok (.istore_n 1, 1) := by decide +kernel
theorem dX12_tellsNothing_2 : decode cX12_tellsNothing 2 = .ok (.iload_n 1, 1) := by decide +kernel
theorem dX12_tellsNothing_3 : decode cX12_tellsNothing 3 = .ok (.iconst 4, 1) := by decide +kernel
theorem dX12_tellsNothing_4 : decode cX12_tellsNothing 4 = .ok (.if_icmp .ge 16, 3) := by decide +kernel
theorem dX12_tellsNothing_7 : decode cX12_tellsNothing 7 = .ok (.aload_n 0, 1) := by decide +kernel
theorem dX12_tellsNothing_8 : decode cX12_tellsNothing 8 = .ok (.getfield 20, 3) := by decide +kernel
theorem dX12_tellsNothing_11 : decode cX12_tellsNothing 11 = .ok (.iload_n 1, 1) := by decide +kernel
theorem dX12_tellsNothing_12 : decode cX12_tellsNothing 12 = .ok (.iconst 0, 1) := by decide +kernel
theorem dX12_tellsNothing_13 : decode cX12_tellsNothing 13 = .ok (.iastore, 1) := by decide +kernel
theorem dX12_tellsNothing_14 : decode cX12_tellsNothing 14 = .ok (.iinc 1 1, 3) := by decide +kernel
theorem dX12_tellsNothing_17 : decode cX12_tellsNothing 17 = .ok (.goto (-15), 3) := by decide +kernel
theorem dX12_tellsNothing_20 : decode cX12_tellsNothing 20 = .ok (.iconst 0, 1) := by decide +kernel
theorem dX12_tellsNothing_21 : decode cX12_tellsNothing 21 = .ok (.istore_n 1, 1) := by decide +kernel
theorem dX12_tellsNothing_22 : decode cX12_tellsNothing 22 = .ok (.iload_n 1, 1) := by decide +kernel
theorem dX12_tellsNothing_23 : decode cX12_tellsNothing 23 = .ok (.bipush 6, 2) := by decide +kernel
theorem dX12_tellsNothing_25 : decode cX12_tellsNothing 25 = .ok (.if_icmp .ge 32, 3) := by decide +kernel
theorem dX12_tellsNothing_28 : decode cX12_tellsNothing 28 = .ok (.iconst 0, 1) := by decide +kernel
theorem dX12_tellsNothing_29 : decode cX12_tellsNothing 29 = .ok (.istore_n 2, 1) := by decide +kernel
theorem dX12_tellsNothing_30 : decode cX12_tellsNothing 30 = .ok (.iload_n 2, 1) := by decide +kernel
theorem dX12_tellsNothing_31 : decode cX12_tellsNothing 31 = .ok (.bipush 12, 2) := by decide +kernel
theorem dX12_tellsNothing_33 : decode cX12_tellsNothing 33 = .ok (.if_icmp .ge 18, 3) := by decide +kernel
theorem dX12_tellsNothing_36 : decode cX12_tellsNothing 36 = .ok (.aload_n 0, 1) := by decide +kernel
theorem dX12_tellsNothing_37 : decode cX12_tellsNothing 37 = .ok (.getfield 46, 3) := by decide +kernel
theorem dX12_tellsNothing_40 : decode cX12_tellsNothing 40 = .ok (.iload_n 1, 1) := by decide +kernel
theorem dX12_tellsNothing_41 : decode cX12_tellsNothing 41 = .ok (.aaload, 1) := by decide +kernel
theorem dX12_tellsNothing_42 : decode cX12_tellsNothing 42 = .ok (.iload_n 2, 1) := by decide +kernel
theorem dX12_tellsNothing_43 : decode cX12_tellsNothing 43 = .ok (.iconst (-1), 1) := by decide +kernel
theorem dX12_tellsNothing_44 : decode cX12_tellsNothing 44 = .ok (.iastore, 1) := by decide +kernel
theorem dX12_tellsNothing_45 : decode cX12_tellsNothing 45 = .ok (.iinc 2 1, 3) := by decide +kernel
theorem dX12_tellsNothing_48 : decode cX12_tellsNothing 48 = .ok (.goto (-18), 3) := by decide +kernel
theorem dX12_tellsNothing_51 : decode cX12_tellsNothing 51 = .ok (.iinc 1 1, 3) := by decide +kernel
theorem dX12_tellsNothing_54 : decode cX12_tellsNothing 54 = .ok (.goto (-32), 3) := by decide +kernel
theorem dX12_tellsNothing_57 : decode cX12_tellsNothing 57 = .ok (.return_, 1) := by decide +kernel
theorem dX12_land_0 : decode cX12_land 0 = .ok (.aload_n 0, 1) := by decide +kernel
theorem dX12_land_1 : decode cX12_land 1 = .ok (.iconst 0, 1) := by decide +kernel
theorem dX12_land_2 : decode cX12_land 2 = .ok (.putfield 109, 3) := by decide +kernel
theorem dX12_land_5 : decode cX12_land 5 = .ok (.aload_n 0, 1) := by decide +kernel
theorem dX12_land_6 : decode cX12_land 6 = .ok (.iload_n 1, 1) := by decide +kernel
theorem dX12_land_7 : decode cX12_land 7 = .ok (.iconst 0, 1) := by decide +kernel
theorem dX12_land_8 : decode cX12_land 8 = .ok (.aload_n 0, 1) := by decide +kernel
theorem dX12_land_9 : decode cX12_land 9 = .ok (.getfield 112, 3) := by decide +kernel
theorem dX12_land_12 : decode cX12_land 12 = .ok (.invokestatic 143, 3) := by decide +kernel
theorem dX12_land_15 : decode cX12_land 15 = .ok (.ifCond .ne 7, 3) := by decide +kernel
theorem dX12_land_18 : decode cX12_land 18 = .ok (.iconst 1, 1) := by decide +kernel
theorem dX12_land_19 : decode cX12_land 19 = .ok (.goto 4, 3) := by decide +kernel
theorem dX12_land_22 : decode cX12_land 22 = .ok (.iconst 0, 1) := by decide +kernel
theorem dX12_land_23 : decode cX12_land 23 = .ok (.iconst 1, 1) := by decide +kernel
theorem dX12_land_24 : decode cX12_land 24 = .ok (.iconst 1, 1) := by decide +kernel
theorem dX12_land_25 : decode cX12_land 25 = .ok (.invokevirtual 191, 3) := by decide +kernel
theorem dX12_land_28 : decode cX12_land 28 = .ok (.ifCond .eq 5, 3) := by decide +kernel
theorem dX12_land_31 : decode cX12_land 31 = .ok (.iconst 0, 1) := by decide +kernel
theorem dX12_land_32 : decode cX12_land 32 = .ok (.ireturn, 1) := by decide +kernel
theorem dX12_land_33 : decode cX12_land 33 = .ok (.aload_n 0, 1) := by decide +kernel
theorem dX12_land_34 : decode cX12_land 34 = .ok (.iload_n 1, 1) := by decide +kernel
theorem dX12_land_35 : decode cX12_land 35 = .ok (.invokevirtual 195, 3) := by decide +kernel
theorem dX12_land_38 : decode cX12_land 38 = .ok (.aload_n 0, 1) := by decide +kernel
theorem dX12_land_39 : decode cX12_land 39 = .ok (.invokevirtual 103, 3) := by decide +kernel
theorem dX12_land_42 : decode cX12_land 42 = .ok (.aload_n 0, 1) := by decide +kernel
theorem dX12_land_43 : decode cX12_land 43 = .ok (.getfield 125, 3) := by decide +kernel
theorem dX12_land_46 : decode cX12_land 46 = .ok (.ifCond .ne 25, 3) := by decide +kernel
theorem dX12_land_49 : decode cX12_land 49 = .ok (.aload_n 0, 1) := by decide +kernel
theorem dX12_land_50 : decode cX12_land 50 = .ok (.getfield 118, 3) := by decide +kernel
theorem dX12_land_53 : decode cX12_land 53 = .ok (.aload_n 0, 1) := by decide +kernel
theorem dX12_land_54 : decode cX12_land 54 = .ok (.getfield 115, 3) := by decide +kernel
theorem dX12_land_57 : decode cX12_land 57 = .ok (.if_icmp .ge 14, 3) := by decide +kernel
theorem dX12_land_60 : decode cX12_land 60 = .ok (.aload_n 0, 1) := by decide +kernel
theorem dX12_land_61 : decode cX12_land 61 = .ok (.invokevirtual 198, 3) := by decide +kernel
theorem dX12_land_64 : decode cX12_land 64 = .ok (.aload_n 0, 1) := by decide +kernel
theorem dX12_land_65 : decode cX12_land 65 = .ok (.invokevirtual 131, 3) := by decide +kernel
theorem dX12_land_68 : decode cX12_land 68 = .ok (.goto (-26), 3) := by decide +kernel
theorem dX12_land_71 : decode cX12_land 71 = .ok (.aload_n 0, 1) := by decide +kernel
theorem dX12_land_72 : decode cX12_land 72 = .ok (.getfield 125, 3) := by decide +kernel
theorem dX12_land_75 : decode cX12_land 75 = .ok (.ifCond .eq 8, 3) := by decide +kernel
theorem dX12_land_78 : decode cX12_land 78 = .ok (.aload_n 0, 1) := by decide +kernel
theorem dX12_land_79 : decode cX12_land 79 = .ok (.invokevirtual 201, 3) := by decide +kernel
theorem dX12_land_82 : decode cX12_land 82 = .ok (.ireturn, 1) := by decide +kernel
theorem dX12_land_83 : decode cX12_land 83 = .ok (.aload_n 0, 1) := by decide +kernel
theorem dX12_land_84 : decode cX12_land 84 = .ok (.iconst (-1), 1) := by decide +kernel
theorem dX12_land_85 : decode cX12_land 85 = .ok (.putfield 9, 3) := by decide +kernel
theorem dX12_land_88 : decode cX12_land 88 = .ok (.aload_n 0, 1) := by decide +kernel
theorem dX12_land_89 : decode cX12_land 89 = .ok (.invokevirtual 106, 3) := by decide +kernel
theorem dX12_land_92 : decode cX12_land 92 = .ok (.aload_n 0, 1) := by decide +kernel
theorem dX12_land_93 : decode cX12_land 93 = .ok (.getfield 23, 3) := by decide +kernel
theorem dX12_land_96 : decode cX12_land 96 = .ok (.iconst 0, 1) := by decide +kernel
theorem dX12_land_97 : decode cX12_land 97 = .ok (.iaload, 1) := by decide +kernel
theorem dX12_land_98 : decode cX12_land 98 = .ok (.ireturn, 1) := by decide +kernel
theorem dX12_law_0 : decode cX12_law 0 = .ok (.aload_n 0, 1) := by decide +kernel
theorem dX12_law_1 : decode cX12_law 1 = .ok (.iconst 0, 1) := by decide +kernel
theorem dX12_law_2 : decode cX12_law 2 = .ok (.putfield 109, 3) := by decide +kernel
theorem dX12_law_5 : decode cX12_law 5 = .ok (.aload_n 0, 1) := by decide +kernel
theorem dX12_law_6 : decode cX12_law 6 = .ok (.iload_n 1, 1) := by decide +kernel
theorem dX12_law_7 : decode cX12_law 7 = .ok (.iconst 0, 1) := by decide +kernel
theorem dX12_law_8 : decode cX12_law 8 = .ok (.aload_n 0, 1) := by decide +kernel
theorem dX12_law_9 : decode cX12_law 9 = .ok (.getfield 112, 3) := by decide +kernel
theorem dX12_law_12 : decode cX12_law 12 = .ok (.invokestatic 143, 3) := by decide +kernel
theorem dX12_law_15 : decode cX12_law 15 = .ok (.ifCond .eq 10, 3) := by decide +kernel
theorem dX12_law_18 : decode cX12_law 18 = .ok (.iload_n 1, 1) := by decide +kernel
theorem dX12_law_19 : decode cX12_law 19 = .ok (.sipush 150, 3) := by decide +kernel
theorem dX12_law_22 : decode cX12_law 22 = .ok (.if_icmp .le 7, 3) := by decide +kernel
theorem dX12_law_25 : decode cX12_law 25 = .ok (.iconst 1, 1) := by decide +kernel
theorem dX12_law_26 : decode cX12_law 26 = .ok (.goto 4, 3) := by decide +kernel
theorem dX12_law_29 : decode cX12_law 29 = .ok (.iconst 0, 1) := by decide +kernel
theorem dX12_law_30 : decode cX12_law 30 = .ok (.iconst 1, 1) := by decide +kernel
theorem dX12_law_31 : decode cX12_law 31 = .ok (.iconst 1, 1) := by decide +kernel
theorem dX12_law_32 : decode cX12_law 32 = .ok (.invokevirtual 191, 3) := by decide +kernel
theorem dX12_law_35 : decode cX12_law 35 = .ok (.ifCond .eq 5, 3) := by decide +kernel
theorem dX12_law_38 : decode cX12_law 38 = .ok (.iconst 0, 1) := by decide +kernel
theorem dX12_law_39 : decode cX12_law 39 = .ok (.ireturn, 1) := by decide +kernel
theorem dX12_law_40 : decode cX12_law 40 = .ok (.aload_n 0, 1) := by decide +kernel
theorem dX12_law_41 : decode cX12_law 41 = .ok (.iload_n 1, 1) := by decide +kernel
theorem dX12_law_42 : decode cX12_law 42 = .ok (.invokevirtual 195, 3) := by decide +kernel
theorem dX12_law_45 : decode cX12_law 45 = .ok (.aload_n 0, 1) := by decide +kernel
theorem dX12_law_46 : decode cX12_law 46 = .ok (.iconst 0, 1) := by decide +kernel
theorem dX12_law_47 : decode cX12_law 47 = .ok (.putfield 223, 3) := by decide +kernel
theorem dX12_law_50 : decode cX12_law 50 = .ok (.aload_n 0, 1) := by decide +kernel
theorem dX12_law_51 : decode cX12_law 51 = .ok (.invokevirtual 248, 3) := by decide +kernel
theorem dX12_law_54 : decode cX12_law 54 = .ok (.aload_n 0, 1) := by decide +kernel
theorem dX12_law_55 : decode cX12_law 55 = .ok (.invokevirtual 131, 3) := by decide +kernel
theorem dX12_law_58 : decode cX12_law 58 = .ok (.aload_n 0, 1) := by decide +kernel
theorem dX12_law_59 : decode cX12_law 59 = .ok (.getfield 125, 3) := by decide +kernel
theorem dX12_law_62 : decode cX12_law 62 = .ok (.ifCond .ne 23, 3) := by decide +kernel
theorem dX12_law_65 : decode cX12_law 65 = .ok (.aload_n 0, 1) := by decide +kernel
theorem dX12_law_66 : decode cX12_law 66 = .ok (.getfield 118, 3) := by decide +kernel
theorem dX12_law_69 : decode cX12_law 69 = .ok (.aload_n 0, 1) := by decide +kernel
theorem dX12_law_70 : decode cX12_law 70 = .ok (.getfield 115, 3) := by decide +kernel
theorem dX12_law_73 : decode cX12_law 73 = .ok (.if_icmp .ge 12, 3) := by decide +kernel
theorem dX12_law_76 : decode cX12_law 76 = .ok (.aload_n 0, 1) := by decide +kernel
theorem dX12_law_77 : decode cX12_law 77 = .ok (.iconst 1, 1) := by decide +kernel
theorem dX12_law_78 : decode cX12_law 78 = .ok (.aload_n 0, 1) := by decide +kernel
theorem dX12_law_79 : decode cX12_law 79 = .ok (.getfield 118, 3) := by decide +kernel
theorem dX12_law_82 : decode cX12_law 82 = .ok (.invokevirtual 138, 3) := by decide +kernel
theorem dX12_law_85 : decode cX12_law 85 = .ok (.aload_n 0, 1) := by decide +kernel
theorem dX12_law_86 : decode cX12_law 86 = .ok (.getfield 125, 3) := by decide +kernel
theorem dX12_law_89 : decode cX12_law 89 = .ok (.ifCond .eq 8, 3) := by decide +kernel
theorem dX12_law_92 : decode cX12_law 92 = .ok (.aload_n 0, 1) := by decide +kernel
theorem dX12_law_93 : decode cX12_law 93 = .ok (.invokevirtual 201, 3) := by decide +kernel
theorem dX12_law_96 : decode cX12_law 96 = .ok (.ireturn, 1) := by decide +kernel
theorem dX12_law_97 : decode cX12_law 97 = .ok (.aload_n 0, 1) := by decide +kernel
theorem dX12_law_98 : decode cX12_law 98 = .ok (.iconst (-1), 1) := by decide +kernel
theorem dX12_law_99 : decode cX12_law 99 = .ok (.putfield 9, 3) := by decide +kernel
theorem dX12_law_102 : decode cX12_law 102 = .ok (.aload_n 0, 1) := by decide +kernel
theorem dX12_law_103 : decode cX12_law 103 = .ok (.aload_n 0, 1) := by decide +kernel
theorem dX12_law_104 : decode cX12_law 104 = .ok (.getfield 223, 3) := by decide +kernel
theorem dX12_law_107 : decode cX12_law 107 = .ok (.putfield 208, 3) := by decide +kernel
theorem dX12_law_110 : decode cX12_law 110 = .ok (.aload_n 0, 1) := by decide +kernel
theorem dX12_law_111 : decode cX12_law 111 = .ok (.getfield 55, 3) := by decide +kernel
theorem dX12_law_114 : decode cX12_law 114 = .ok (.aload_n 0, 1) := by decide +kernel
theorem dX12_law_115 : decode cX12_law 115 = .ok (.getfield 52, 3) := by decide +kernel
theorem dX12_law_118 : decode cX12_law 118 = .ok (.aload_n 0, 1) := by decide +kernel
theorem dX12_law_119 : decode cX12_law 119 = .ok (.getfield 208, 3) := by decide +kernel
theorem dX12_law_122 : decode cX12_law 122 = .ok (.invokestatic 204, 3) := by decide +kernel
theorem dX12_law_125 : decode cX12_law 125 = .ok (.iconst 1, 1) := by decide +kernel
theorem dX12_law_126 : decode cX12_law 126 = .ok (.ireturn, 1) := by decide +kernel
theorem dX12_leaders_0 : decode cX12_leaders 0 = .ok (.aload_n 0, 1) := by decide +kernel
theorem dX12_leaders_1 : decode cX12_leaders 1 = .ok (.iconst 0, 1) := by decide +kernel
theorem dX12_leaders_2 : decode cX12_leaders 2 = .ok (.putfield 109, 3) := by decide +kernel
theorem dX12_leaders_5 : decode cX12_leaders 5 = .ok (.aload_n 0, 1) := by decide +kernel
theorem dX12_leaders_6 : decode cX12_leaders 6 = .ok (.iload_n 1, 1) := by decide +kernel
theorem dX12_leaders_7 : decode cX12_leaders 7 = .ok (.iconst 0, 1) := by decide +kernel
theorem dX12_leaders_8 : decode cX12_leaders 8 = .ok (.bipush 30, 2) := by decide +kernel
theorem dX12_leaders_10 : decode cX12_leaders 10 = .ok (.invokestatic 143, 3) := by decide +kernel
theorem dX12_leaders_13 : decode cX12_leaders 13 = .ok (.ifCond .eq 12, 3) := by decide +kernel
theorem dX12_leaders_16 : decode cX12_leaders 16 = .ok (.iload_n 2, 1) := by decide +kernel
theorem dX12_leaders_17 : decode cX12_leaders 17 = .ok (.iconst 0, 1) := by decide +kernel
theorem dX12_leaders_18 : decode cX12_leaders 18 = .ok (.iconst 2, 1) := by decide +kernel
theorem dX12_leaders_19 : decode cX12_leaders 19 = .ok (.invokestatic 143, 3) := by decide +kernel
theorem dX12_leaders_22 : decode cX12_leaders 22 = .ok (.ifCond .ne 7, 3) := by decide +kernel
theorem dX12_leaders_25 : decode cX12_leaders 25 = .ok (.iconst 1, 1) := by decide +kernel
theorem dX12_leaders_26 : decode cX12_leaders 26 = .ok (.goto 4, 3) := by decide +kernel
theorem dX12_leaders_29 : decode cX12_leaders 29 = .ok (.iconst 0, 1) := by decide +kernel
theorem dX12_leaders_30 : decode cX12_leaders 30 = .ok (.iconst 1, 1) := by decide +kernel
theorem dX12_leaders_31 : decode cX12_leaders 31 = .ok (.iconst 1, 1) := by decide +kernel
theorem dX12_leaders_32 : decode cX12_leaders 32 = .ok (.invokevirtual 191, 3) := by decide +kernel
theorem dX12_leaders_35 : decode cX12_leaders 35 = .ok (.ifCond .eq 5, 3) := by decide +kernel
theorem dX12_leaders_38 : decode cX12_leaders 38 = .ok (.iconst 0, 1) := by decide +kernel
theorem dX12_leaders_39 : decode cX12_leaders 39 = .ok (.ireturn, 1) := by decide +kernel
theorem dX12_leaders_40 : decode cX12_leaders 40 = .ok (.iconst 0, 1) := by decide +kernel
theorem dX12_leaders_41 : decode cX12_leaders 41 = .ok (.istore_n 3, 1) := by decide +kernel
theorem dX12_leaders_42 : decode cX12_leaders 42 = .ok (.iconst (-1), 1) := by decide +kernel
theorem dX12_leaders_43 : decode cX12_leaders 43 = .ok (.istore 4, 2) := by decide +kernel
theorem dX12_leaders_45 : decode cX12_leaders 45 = .ok (.iconst 0, 1) := by decide +kernel
theorem dX12_leaders_46 : decode cX12_leaders 46 = .ok (.istore 5, 2) := by decide +kernel
theorem dX12_leaders_48 : decode cX12_leaders 48 = .ok (.iconst 0, 1) := by decide +kernel
theorem dX12_leaders_49 : decode cX12_leaders 49 = .ok (.istore 6, 2) := by decide +kernel
theorem dX12_leaders_51 : decode cX12_leaders 51 = .ok (.iload 6, 2) := by decide +kernel
theorem dX12_leaders_53 : decode cX12_leaders 53 = .ok (.aload_n 0, 1) := by decide +kernel
theorem dX12_leaders_54 : decode cX12_leaders 54 = .ok (.getfield 23, 3) := by decide +kernel
theorem dX12_leaders_57 : decode cX12_leaders 57 = .ok (.iconst 0, 1) := by decide +kernel
theorem dX12_leaders_58 : decode cX12_leaders 58 = .ok (.iaload, 1) := by decide +kernel
theorem dX12_leaders_59 : decode cX12_leaders 59 = .ok (.if_icmp .ge 128, 3) := by decide +kernel
theorem dX12_leaders_62 : decode cX12_leaders 62 = .ok (.iconst 0, 1) := by decide +kernel
theorem dX12_leaders_63 : decode cX12_leaders 63 = .ok (.istore 7, 2) := by decide +kernel
theorem dX12_leaders_65 : decode cX12_leaders 65 = .ok (.iload 7, 2) := by decide +kernel
theorem dX12_leaders_67 : decode cX12_leaders 67 = .ok (.aload_n 0, 1) := by decide +kernel
theorem dX12_leaders_68 : decode cX12_leaders 68 = .ok (.getfield 23, 3) := by decide +kernel
theorem dX12_leaders_71 : decode cX12_leaders 71 = .ok (.iconst 0, 1) := by decide +kernel
theorem dX12_leaders_72 : decode cX12_leaders 72 = .ok (.iaload, 1) := by decide +kernel
theorem dX12_leaders_73 : decode cX12_leaders 73 = .ok (.if_icmp .ge 108, 3) := by decide +kernel
theorem dX12_leaders_76 : decode cX12_leaders 76 = .ok (.aload_n 0, 1) := by decide +kernel
theorem dX12_leaders_77 : decode cX12_leaders 77 = .ok (.aload_n 0, 1) := by decide +kernel
theorem dX12_leaders_78 : decode cX12_leaders 78 = .ok (.getfield 23, 3) := by decide +kernel
theorem dX12_leaders_81 : decode cX12_leaders 81 = .ok (.iconst 3, 1) := by decide +kernel
theorem dX12_leaders_82 : decode cX12_leaders 82 = .ok (.iaload, 1) := by decide +kernel
theorem dX12_leaders_83 : decode cX12_leaders 83 = .ok (.iload 6, 2) := by decide +kernel
theorem dX12_leaders_85 : decode cX12_leaders 85 = .ok (.invokevirtual 267, 3) := by decide +kernel
theorem dX12_leaders_88 : decode cX12_leaders 88 = .ok (.iconst (-1), 1) := by decide +kernel
theorem dX12_leaders_89 : decode cX12_leaders 89 = .ok (.if_icmp .eq 86, 3) := by decide +kernel
theorem dX12_leaders_92 : decode cX12_leaders 92 = .ok (.aload_n 0, 1) := by decide +kernel
theorem dX12_leaders_93 : decode cX12_leaders 93 = .ok (.aload_n 0, 1) := by decide +kernel
theorem dX12_leaders_94 : decode cX12_leaders 94 = .ok (.getfield 23, 3) := by decide +kernel
theorem dX12_leaders_97 : decode cX12_leaders 97 = .ok (.iconst 3, 1) := by decide +kernel
theorem dX12_leaders_98 : decode cX12_leaders 98 = .ok (.iaload, 1) := by decide +kernel
theorem dX12_leaders_99 : decode cX12_leaders 99 = .ok (.iload 7, 2) := by decide +kernel
theorem dX12_leaders_101 : decode cX12_leaders 101 = .ok (.invokevirtual 267, 3) := by decide +kernel
theorem dX12_leaders_104 : decode cX12_leaders 104 = .ok (.iconst (-1), 1) := by decide +kernel
theorem dX12_leaders_105 : decode cX12_leaders 105 = .ok (.if_icmp .eq 70, 3) := by decide +kernel
theorem dX12_leaders_108 : decode cX12_leaders 108 = .ok (.aload_n 0, 1) := by decide +kernel
theorem dX12_leaders_109 : decode cX12_leaders 109 = .ok (.iload 6, 2) := by decide +kernel
theorem dX12_leaders_111 : decode cX12_leaders 111 = .ok (.iload 7, 2) := by decide +kernel
theorem dX12_leaders_113 : decode cX12_leaders 113 = .ok (.iload_n 1, 1) := by decide +kernel
theorem dX12_leaders_114 : decode cX12_leaders 114 = .ok (.invokevirtual 399, 3) := by decide +kernel
theorem dX12_leaders_117 : decode cX12_leaders 117 = .ok (.ifCond .ne 6, 3) := by decide +kernel
theorem dX12_leaders_120 : decode cX12_leaders 120 = .ok (.goto 55, 3) := by decide +kernel
theorem dX12_leaders_123 : decode cX12_leaders 123 = .ok (.iload_n 3, 1) := by decide +kernel
theorem dX12_leaders_124 : decode cX12_leaders 124 = .ok (.ifCond .ne 25, 3) := by decide +kernel
theorem dX12_leaders_127 : decode cX12_leaders 127 = .ok (.aload_n 0, 1) := by decide +kernel
theorem dX12_leaders_128 : decode cX12_leaders 128 = .ok (.iload 6, 2) := by decide +kernel
theorem dX12_leaders_130 : decode cX12_leaders 130 = .ok (.iload 7, 2) := by decide +kernel
theorem dX12_leaders_132 : decode cX12_leaders 132 = .ok (.iload_n 1, 1) := by decide +kernel
theorem dX12_leaders_133 : decode cX12_leaders 133 = .ok (.invokevirtual 396, 3) := by decide +kernel
theorem dX12_leaders_136 : decode cX12_leaders 136 = .ok (.aload_n 0, 1) := by decide +kernel
theorem dX12_leaders_137 : decode cX12_leaders 137 = .ok (.iload 7, 2) := by decide +kernel
theorem dX12_leaders_139 : decode cX12_leaders 139 = .ok (.iload 6, 2) := by decide +kernel
theorem dX12_leaders_141 : decode cX12_leaders 141 = .ok (.iload_n 1, 1) := by decide +kernel
theorem dX12_leaders_142 : decode cX12_leaders 142 = .ok (.invokevirtual 396, 3) := by decide +kernel
theorem dX12_leaders_145 : decode cX12_leaders 145 = .ok (.iadd, 1) := by decide +kernel
theorem dX12_leaders_146 : decode cX12_leaders 146 = .ok (.goto 5, 3) := by decide +kernel
theorem dX12_leaders_149 : decode cX12_leaders 149 = .ok (.iload 5, 2) := by decide +kernel
theorem dX12_leaders_151 : decode cX12_leaders 151 = .ok (.istore 5, 2) := by decide +kernel
theorem dX12_leaders_153 : decode cX12_leaders 153 = .ok (.iload_n 3, 1) := by decide +kernel
theorem dX12_leaders_154 : decode cX12_leaders 154 = .ok (.ifCond .ne 14, 3) := by decide +kernel
theorem dX12_leaders_157 : decode cX12_leaders 157 = .ok (.bipush 100, 2) := by decide +kernel
theorem dX12_leaders_159 : decode cX12_leaders 159 = .ok (.iload 6, 2) := by decide +kernel
theorem dX12_leaders_161 : decode cX12_leaders 161 = .ok (.imul, 1) := by decide +kernel
theorem dX12_leaders_162 : decode cX12_leaders 162 = .ok (.iload 7, 2) := by decide +kernel
theorem dX12_leaders_164 : decode cX12_leaders 164 = .ok (.iadd, 1) := by decide +kernel
theorem dX12_leaders_165 : decode cX12_leaders 165 = .ok (.goto 5, 3) := by decide +kernel
theorem dX12_leaders_168 : decode cX12_leaders 168 = .ok (.iload 4, 2) := by decide +kernel
theorem dX12_leaders_170 : decode cX12_leaders 170 = .ok (.istore 4, 2) := by decide +kernel
theorem dX12_leaders_172 : decode cX12_leaders 172 = .ok (.iinc 3 1, 3) := by decide +kernel
theorem dX12_leaders_175 : decode cX12_leaders 175 = .ok (.iinc 7 1, 3) := by decide +kernel
theorem dX12_leaders_178 : decode cX12_leaders 178 = .ok (.goto (-113), 3) := by decide +kernel
theorem dX12_leaders_181 : decode cX12_leaders 181 = .ok (.iinc 6 1, 3) := by decide +kernel
theorem dX12_leaders_184 : decode cX12_leaders 184 = .ok (.goto (-133), 3) := by decide +kernel
theorem dX12_leaders_187 : decode cX12_leaders 187 = .ok (.iload_n 2, 1) := by decide +kernel
theorem dX12_leaders_188 : decode cX12_leaders 188 = .ok (.ifCond .ne 7, 3) := by decide +kernel
theorem dX12_leaders_191 : decode cX12_leaders 191 = .ok (.iload_n 3, 1) := by decide +kernel
theorem dX12_leaders_192 : decode cX12_leaders 192 = .ok (.goto 15, 3) := by decide +kernel
theorem dX12_leaders_195 : decode cX12_leaders 195 = .ok (.iload_n 2, 1) := by decide +kernel
theorem dX12_leaders_196 : decode cX12_leaders 196 = .ok (.iconst 1, 1) := by decide +kernel
theorem dX12_leaders_197 : decode cX12_leaders 197 = .ok (.if_icmp .ne 8, 3) := by decide +kernel
theorem dX12_leaders_200 : decode cX12_leaders 200 = .ok (.iload 4, 2) := by decide +kernel
theorem dX12_leaders_202 : decode cX12_leaders 202 = .ok (.goto 5, 3) := by decide +kernel
theorem dX12_leaders_205 : decode cX12_leaders 205 = .ok (.iload 5, 2) := by decide +kernel
theorem dX12_leaders_207 : decode cX12_leaders 207 = .ok (.ireturn, 1) := by decide +kernel
theorem dX12_look_0 : decode cX12_look 0 = .ok (.aload_n 0, 1) := by decide +kernel
theorem dX12_look_1 : decode cX12_look 1 = .ok (.iconst 0, 1) := by decide +kernel
theorem dX12_look_2 : decode cX12_look 2 = .ok (.putfield 109, 3) := by decide +kernel
theorem dX12_look_5 : decode cX12_look 5 = .ok (.aload_n 0, 1) := by decide +kernel
theorem dX12_look_6 : decode cX12_look 6 = .ok (.iload_n 1, 1) := by decide +kernel
theorem dX12_look_7 : decode cX12_look 7 = .ok (.iconst 0, 1) := by decide +kernel
theorem dX12_look_8 : decode cX12_look 8 = .ok (.iconst 1, 1) := by decide +kernel
theorem dX12_look_9 : decode cX12_look 9 = .ok (.invokestatic 143, 3) := by decide +kernel
theorem dX12_look_12 : decode cX12_look 12 = .ok (.ifCond .ne 7, 3) := by decide +kernel
theorem dX12_look_15 : decode cX12_look 15 = .ok (.iconst 1, 1) := by decide +kernel
theorem dX12_look_16 : decode cX12_look 16 = .ok (.goto 4, 3) := by decide +kernel
theorem dX12_look_19 : decode cX12_look 19 = .ok (.iconst 0, 1) := by decide +kernel
theorem dX12_look_20 : decode cX12_look 20 = .ok (.iconst 1, 1) := by decide +kernel
theorem dX12_look_21 : decode cX12_look 21 = .ok (.iconst 1, 1) := by decide +kernel
theorem dX12_look_22 : decode cX12_look 22 = .ok (.invokevirtual 191, 3) := by decide +kernel
theorem dX12_look_25 : decode cX12_look 25 = .ok (.ifCond .eq 5, 3) := by decide +kernel
theorem dX12_look_28 : decode cX12_look 28 = .ok (.iconst 0, 1) := by decide +kernel
theorem dX12_look_29 : decode cX12_look 29 = .ok (.ireturn, 1) := by decide +kernel
theorem dX12_look_30 : decode cX12_look 30 = .ok (.iconst 0, 1) := by decide +kernel
theorem dX12_look_31 : decode cX12_look 31 = .ok (.istore_n 2, 1) := by decide +kernel
theorem dX12_look_32 : decode cX12_look 32 = .ok (.iload_n 2, 1) := by decide +kernel
theorem dX12_look_33 : decode cX12_look 33 = .ok (.bipush 12, 2) := by decide +kernel
theorem dX12_look_35 : decode cX12_look 35 = .ok (.if_icmp .ge 32, 3) := by decide +kernel
theorem dX12_look_38 : decode cX12_look 38 = .ok (.iconst 0, 1) := by decide +kernel
theorem dX12_look_39 : decode cX12_look 39 = .ok (.istore_n 3, 1) := by decide +kernel
theorem dX12_look_40 : decode cX12_look 40 = .ok (.iload_n 3, 1) := by decide +kernel
theorem dX12_look_41 : decode cX12_look 41 = .ok (.bipush 12, 2) := by decide +kernel
theorem dX12_look_43 : decode cX12_look 43 = .ok (.if_icmp .gt 18, 3) := by decide +kernel
theorem dX12_look_46 : decode cX12_look 46 = .ok (.aload_n 0, 1) := by decide +kernel
theorem dX12_look_47 : decode cX12_look 47 = .ok (.getfield 97, 3) := by decide +kernel
theorem dX12_look_50 : decode cX12_look 50 = .ok (.iload_n 2, 1) := by decide +kernel
theorem dX12_look_51 : decode cX12_look 51 = .ok (.aaload, 1) := by decide +kernel
theorem dX12_look_52 : decode cX12_look 52 = .ok (.iload_n 3, 1) := by decide +kernel
theorem dX12_look_53 : decode cX12_look 53 = .ok (.iconst 0, 1) := by decide +kernel
theorem dX12_look_54 : decode cX12_look 54 = .ok (.iastore, 1) := by decide +kernel
theorem dX12_look_55 : decode cX12_look 55 = .ok (.iinc 3 1, 3) := by decide +kernel
theorem dX12_look_58 : decode cX12_look 58 = .ok (.goto (-18), 3) := by decide +kernel
theorem dX12_look_61 : decode cX12_look 61 = .ok (.iinc 2 1, 3) := by decide +kernel
theorem dX12_look_64 : decode cX12_look 64 = .ok (.goto (-32), 3) := by decide +kernel
theorem dX12_look_67 : decode cX12_look 67 = .ok (.iconst 0, 1) := by decide +kernel
theorem dX12_look_68 : decode cX12_look 68 = .ok (.istore_n 2, 1) := by decide +kernel
theorem dX12_look_69 : decode cX12_look 69 = .ok (.iload_n 2, 1) := by decide +kernel
theorem dX12_look_70 : decode cX12_look 70 = .ok (.iconst 1, 1) := by decide +kernel
theorem dX12_look_71 : decode cX12_look 71 = .ok (.aload_n 0, 1) := by decide +kernel
theorem dX12_look_72 : decode cX12_look 72 = .ok (.getfield 23, 3) := by decide +kernel
theorem dX12_look_75 : decode cX12_look 75 = .ok (.iconst 2, 1) := by decide +kernel
theorem dX12_look_76 : decode cX12_look 76 = .ok (.iaload, 1) := by decide +kernel
theorem dX12_look_77 : decode cX12_look 77 = .ok (.ishl, 1) := by decide +kernel
theorem dX12_look_78 : decode cX12_look 78 = .ok (.if_icmp .ge 57, 3) := by decide +kernel
theorem dX12_look_81 : decode cX12_look 81 = .ok (.aload_n 0, 1) := by decide +kernel
theorem dX12_look_82 : decode cX12_look 82 = .ok (.iload_n 2, 1) := by decide +kernel
theorem dX12_look_83 : decode cX12_look 83 = .ok (.invokevirtual 384, 3) := by decide +kernel
theorem dX12_look_86 : decode cX12_look 86 = .ok (.ifCond .eq 43, 3) := by decide +kernel
theorem dX12_look_89 : decode cX12_look 89 = .ok (.iconst 0, 1) := by decide +kernel
theorem dX12_look_90 : decode cX12_look 90 = .ok (.istore_n 3, 1) := by decide +kernel
theorem dX12_look_91 : decode cX12_look 91 = .ok (.iload_n 3, 1) := by decide +kernel
theorem dX12_look_92 : decode cX12_look 92 = .ok (.aload_n 0, 1) := by decide +kernel
theorem dX12_look_93 : decode cX12_look 93 = .ok (.getfield 23, 3) := by decide +kernel
theorem dX12_look_96 : decode cX12_look 96 = .ok (.iconst 0, 1) := by decide +kernel
theorem dX12_look_97 : decode cX12_look 97 = .ok (.iaload, 1) := by decide +kernel
theorem dX12_look_98 : decode cX12_look 98 = .ok (.if_icmp .ge 31, 3) := by decide +kernel
theorem dX12_look_101 : decode cX12_look 101 = .ok (.aload_n 0, 1) := by decide +kernel
theorem dX12_look_102 : decode cX12_look 102 = .ok (.getfield 97, 3) := by decide +kernel
theorem dX12_look_105 : decode cX12_look 105 = .ok (.iload_n 3, 1) := by decide +kernel
theorem dX12_look_106 : decode cX12_look 106 = .ok (.aaload, 1) := by decide +kernel
theorem dX12_look_107 : decode cX12_look 107 = .ok (.aload_n 0, 1) := by decide +kernel
theorem dX12_look_108 : decode cX12_look 108 = .ok (.aload_n 0, 1) := by decide +kernel
theorem dX12_look_109 : decode cX12_look 109 = .ok (.getfield 76, 3) := by decide +kernel
theorem dX12_look_112 : decode cX12_look 112 = .ok (.iload_n 3, 1) := by decide +kernel
theorem dX12_look_113 : decode cX12_look 113 = .ok (.invokevirtual 301, 3) := by decide +kernel
theorem dX12_look_116 : decode cX12_look 116 = .ok (.iconst 1, 1) := by decide +kernel
theorem dX12_look_117 : decode cX12_look 117 = .ok (.iadd, 1) := by decide +kernel
theorem dX12_look_118 : decode cX12_look 118 = .ok (.dup2, 1) := by decide +kernel
theorem dX12_look_119 : decode cX12_look 119 = .ok (.iaload, 1) := by decide +kernel
theorem dX12_look_120 : decode cX12_look 120 = .ok (.iconst 1, 1) := by decide +kernel
theorem dX12_look_121 : decode cX12_look 121 = .ok (.iadd, 1) := by decide +kernel
theorem dX12_look_122 : decode cX12_look 122 = .ok (.iastore, 1) := by decide +kernel
theorem dX12_look_123 : decode cX12_look 123 = .ok (.iinc 3 1, 3) := by decide +kernel
theorem dX12_look_126 : decode cX12_look 126 = .ok (.goto (-35), 3) := by decide +kernel
theorem dX12_look_129 : decode cX12_look 129 = .ok (.iinc 2 1, 3) := by decide +kernel
theorem dX12_look_132 : decode cX12_look 132 = .ok (.goto (-63), 3) := by decide +kernel
theorem dX12_look_135 : decode cX12_look 135 = .ok (.iconst (-1), 1) := by decide +kernel
theorem dX12_look_136 : decode cX12_look 136 = .ok (.istore_n 2, 1) := by decide +kernel
theorem dX12_look_137 : decode cX12_look 137 = .ok (.iconst (-1), 1) := by decide +kernel
theorem dX12_look_138 : decode cX12_look 138 = .ok (.istore_n 3, 1) := by decide +kernel
theorem dX12_look_139 : decode cX12_look 139 = .ok (.iconst 0, 1) := by decide +kernel
theorem dX12_look_140 : decode cX12_look 140 = .ok (.istore 4, 2) := by decide +kernel
theorem dX12_look_142 : decode cX12_look 142 = .ok (.iload 4, 2) := by decide +kernel
theorem dX12_look_144 : decode cX12_look 144 = .ok (.aload_n 0, 1) := by decide +kernel
theorem dX12_look_145 : decode cX12_look 145 = .ok (.getfield 23, 3) := by decide +kernel
theorem dX12_look_148 : decode cX12_look 148 = .ok (.iconst 0, 1) := by decide +kernel
theorem dX12_look_149 : decode cX12_look 149 = .ok (.iaload, 1) := by decide +kernel
theorem dX12_look_150 : decode cX12_look 150 = .ok (.if_icmp .ge 77, 3) := by decide +kernel
theorem dX12_look_153 : decode cX12_look 153 = .ok (.aload_n 0, 1) := by decide +kernel
theorem dX12_look_154 : decode cX12_look 154 = .ok (.iload 4, 2) := by decide +kernel
theorem dX12_look_156 : decode cX12_look 156 = .ok (.invokevirtual 387, 3) := by decide +kernel
theorem dX12_look_159 : decode cX12_look 159 = .ok (.ifCond .eq 6, 3) := by decide +kernel
theorem dX12_look_162 : decode cX12_look 162 = .ok (.goto 59, 3) := by decide +kernel
theorem dX12_look_165 : decode cX12_look 165 = .ok (.iconst 0, 1) := by decide +kernel
theorem dX12_look_166 : decode cX12_look 166 = .ok (.istore 5, 2) := by decide +kernel
theorem dX12_look_168 : decode cX12_look 168 = .ok (.iconst 0, 1) := by decide +kernel
theorem dX12_look_169 : decode cX12_look 169 = .ok (.istore 6, 2) := by decide +kernel
theorem dX12_look_171 : decode cX12_look 171 = .ok (.iload 6, 2) := by decide +kernel
theorem dX12_look_173 : decode cX12_look 173 = .ok (.bipush 12, 2) := by decide +kernel
theorem dX12_look_175 : decode cX12_look 175 = .ok (.if_icmp .gt 26, 3) := by decide +kernel
theorem dX12_look_178 : decode cX12_look 178 = .ok (.iload 5, 2) := by decide +kernel
theorem dX12_look_180 : decode cX12_look 180 = .ok (.aload_n 0, 1) := by decide +kernel
theorem dX12_look_181 : decode cX12_look 181 = .ok (.getfield 97, 3) := by decide +kernel
theorem dX12_look_184 : decode cX12_look 184 = .ok (.iload 4, 2) := by decide +kernel
theorem dX12_look_186 : decode cX12_look 186 = .ok (.aaload, 1) := by decide +kernel
theorem dX12_look_187 : decode cX12_look 187 = .ok (.iload 6, 2) := by decide +kernel
theorem dX12_look_189 : decode cX12_look 189 = .ok (.iaload, 1) := by decide +kernel
theorem dX12_look_190 : decode cX12_look 190 = .ok (.invokestatic 257, 3) := by decide +kernel
theorem dX12_look_193 : decode cX12_look 193 = .ok (.istore 5, 2) := by decide +kernel
theorem dX12_look_195 : decode cX12_look 195 = .ok (.iinc 6 1, 3) := by decide +kernel
theorem dX12_look_198 : decode cX12_look 198 = .ok (.goto (-27), 3) := by decide +kernel
theorem dX12_look_201 : decode cX12_look 201 = .ok (.iload_n 2, 1) := by decide +kernel
theorem dX12_look_202 : decode cX12_look 202 = .ok (.iconst (-1), 1) := by decide +kernel
theorem dX12_look_203 : decode cX12_look 203 = .ok (.if_icmp .eq 12, 3) := by decide +kernel
theorem dX12_look_206 : decode cX12_look 206 = .ok (.iload 5, 2) := by decide +kernel
theorem dX12_look_208 : decode cX12_look 208 = .ok (.iload_n 3, 1) := by decide +kernel
theorem dX12_look_209 : decode cX12_look 209 = .ok (.if_icmp .lt 6, 3) := by decide +kernel
theorem dX12_look_212 : decode cX12_look 212 = .ok (.goto 9, 3) := by decide +kernel
theorem dX12_look_215 : decode cX12_look 215 = .ok (.iload 4, 2) := by decide +kernel
theorem dX12_look_217 : decode cX12_look 217 = .ok (.istore_n 2, 1) := by decide +kernel
theorem dX12_look_218 : decode cX12_look 218 = .ok (.iload 5, 2) := by decide +kernel
theorem dX12_look_220 : decode cX12_look 220 = .ok (.istore_n 3, 1) := by decide +kernel
theorem dX12_look_221 : decode cX12_look 221 = .ok (.iinc 4 1, 3) := by decide +kernel
theorem dX12_look_224 : decode cX12_look 224 = .ok (.goto (-82), 3) := by decide +kernel
theorem dX12_look_227 : decode cX12_look 227 = .ok (.iload_n 1, 1) := by decide +kernel
theorem dX12_look_228 : decode cX12_look 228 = .ok (.ifCond .ne 7, 3) := by decide +kernel
theorem dX12_look_231 : decode cX12_look 231 = .ok (.iload_n 2, 1) := by decide +kernel
theorem dX12_look_232 : decode cX12_look 232 = .ok (.goto 4, 3) := by decide +kernel
theorem dX12_look_235 : decode cX12_look 235 = .ok (.iload_n 3, 1) := by decide +kernel
theorem dX12_look_236 : decode cX12_look 236 = .ok (.ireturn, 1) := by decide +kernel
theorem dX12_meet_0 : decode cX12_meet 0 = .ok (.aload_n 0, 1) := by decide +kernel
theorem dX12_meet_1 : decode cX12_meet 1 = .ok (.iconst 0, 1) := by decide +kernel
theorem dX12_meet_2 : decode cX12_meet 2 = .ok (.putfield 109, 3) := by decide +kernel
theorem dX12_meet_5 : decode cX12_meet 5 = .ok (.aload_n 0, 1) := by decide +kernel
theorem dX12_meet_6 : decode cX12_meet 6 = .ok (.aload_n 0, 1) := by decide +kernel
theorem dX12_meet_7 : decode cX12_meet 7 = .ok (.iload_n 1, 1) := by decide +kernel
theorem dX12_meet_8 : decode cX12_meet 8 = .ok (.invokevirtual 358, 3) := by decide +kernel
theorem dX12_meet_11 : decode cX12_meet 11 = .ok (.ifCond .eq 11, 3) := by decide +kernel
theorem dX12_meet_14 : decode cX12_meet 14 = .ok (.aload_n 0, 1) := by decide +kernel
theorem dX12_meet_15 : decode cX12_meet 15 = .ok (.iload_n 2, 1) := by decide +kernel
theorem dX12_meet_16 : decode cX12_meet 16 = .ok (.invokevirtual 358, 3) := by decide +kernel
theorem dX12_meet_19 : decode cX12_meet 19 = .ok (.ifCond .ne 7, 3) := by decide +kernel
theorem dX12_meet_22 : decode cX12_meet 22 = .ok (.iconst 1, 1) := by decide +kernel
theorem dX12_meet_23 : decode cX12_meet 23 = .ok (.goto 4, 3) := by decide +kernel
theorem dX12_meet_26 : decode cX12_meet 26 = .ok (.iconst 0, 1) := by decide +kernel
theorem dX12_meet_27 : decode cX12_meet 27 = .ok (.iconst 1, 1) := by decide +kernel
theorem dX12_meet_28 : decode cX12_meet 28 = .ok (.iconst 0, 1) := by decide +kernel
theorem dX12_meet_29 : decode cX12_meet 29 = .ok (.invokevirtual 191, 3) := by decide +kernel
theorem dX12_meet_32 : decode cX12_meet 32 = .ok (.ifCond .ne 26, 3) := by decide +kernel
theorem dX12_meet_35 : decode cX12_meet 35 = .ok (.aload_n 0, 1) := by decide +kernel
theorem dX12_meet_36 : decode cX12_meet 36 = .ok (.iload_n 3, 1) := by decide +kernel
theorem dX12_meet_37 : decode cX12_meet 37 = .ok (.iconst 0, 1) := by decide +kernel
theorem dX12_meet_38 : decode cX12_meet 38 = .ok (.iconst 1, 1) := by decide +kernel
theorem dX12_meet_39 : decode cX12_meet 39 = .ok (.invokestatic 143, 3) := by decide +kernel
theorem dX12_meet_42 : decode cX12_meet 42 = .ok (.ifCond .ne 7, 3) := by decide +kernel
theorem dX12_meet_45 : decode cX12_meet 45 = .ok (.iconst 1, 1) := by decide +kernel
theorem dX12_meet_46 : decode cX12_meet 46 = .ok (.goto 4, 3) := by decide +kernel
theorem dX12_meet_49 : decode cX12_meet 49 = .ok (.iconst 0, 1) := by decide +kernel
theorem dX12_meet_50 : decode cX12_meet 50 = .ok (.iconst 2, 1) := by decide +kernel
theorem dX12_meet_51 : decode cX12_meet 51 = .ok (.iconst 1, 1) := by decide +kernel
theorem dX12_meet_52 : decode cX12_meet 52 = .ok (.invokevirtual 191, 3) := by decide +kernel
theorem dX12_meet_55 : decode cX12_meet 55 = .ok (.ifCond .eq 5, 3) := by decide +kernel
theorem dX12_meet_58 : decode cX12_meet 58 = .ok (.iconst 0, 1) := by decide +kernel
theorem dX12_meet_59 : decode cX12_meet 59 = .ok (.ireturn, 1) := by decide +kernel
theorem dX12_meet_60 : decode cX12_meet 60 = .ok (.iconst (-1), 1) := by decide +kernel
theorem dX12_meet_61 : decode cX12_meet 61 = .ok (.istore 4, 2) := by decide +kernel
theorem dX12_meet_63 : decode cX12_meet 63 = .ok (.bipush 99, 2) := by decide +kernel
theorem dX12_meet_65 : decode cX12_meet 65 = .ok (.istore 5, 2) := by decide +kernel
theorem dX12_meet_67 : decode cX12_meet 67 = .ok (.aload_n 0, 1) := by decide +kernel
theorem dX12_meet_68 : decode cX12_meet 68 = .ok (.invokevirtual 390, 3) := by decide +kernel
theorem dX12_meet_71 : decode cX12_meet 71 = .ok (.iconst 0, 1) := by decide +kernel
theorem dX12_meet_72 : decode cX12_meet 72 = .ok (.istore 6, 2) := by decide +kernel
theorem dX12_meet_74 : decode cX12_meet 74 = .ok (.iload 6, 2) := by decide +kernel
theorem dX12_meet_76 : decode cX12_meet 76 = .ok (.aload_n 0, 1) := by decide +kernel
theorem dX12_meet_77 : decode cX12_meet 77 = .ok (.getfield 23, 3) := by decide +kernel
theorem dX12_meet_80 : decode cX12_meet 80 = .ok (.iconst 0, 1) := by decide +kernel
theorem dX12_meet_81 : decode cX12_meet 81 = .ok (.iaload, 1) := by decide +kernel
theorem dX12_meet_82 : decode cX12_meet 82 = .ok (.if_icmp .ge 64, 3) := by decide +kernel
theorem dX12_meet_85 : decode cX12_meet 85 = .ok (.aload_n 0, 1) := by decide +kernel
theorem dX12_meet_86 : decode cX12_meet 86 = .ok (.getfield 100, 3) := by decide +kernel
theorem dX12_meet_89 : decode cX12_meet 89 = .ok (.aload_n 0, 1) := by decide +kernel
theorem dX12_meet_90 : decode cX12_meet 90 = .ok (.getfield 73, 3) := by decide +kernel
theorem dX12_meet_93 : decode cX12_meet 93 = .ok (.bipush 72, 2) := by decide +kernel
theorem dX12_meet_95 : decode cX12_meet 95 = .ok (.iload_n 1, 1) := by decide +kernel
theorem dX12_meet_96 : decode cX12_meet 96 = .ok (.iadd, 1) := by decide +kernel
theorem dX12_meet_97 : decode cX12_meet 97 = .ok (.iaload, 1) := by decide +kernel
theorem dX12_meet_98 : decode cX12_meet 98 = .ok (.aaload, 1) := by decide +kernel
theorem dX12_meet_99 : decode cX12_meet 99 = .ok (.iload 6, 2) := by decide +kernel
theorem dX12_meet_101 : decode cX12_meet 101 = .ok (.iaload, 1) := by decide +kernel
theorem dX12_meet_102 : decode cX12_meet 102 = .ok (.aload_n 0, 1) := by decide +kernel
theorem dX12_meet_103 : decode cX12_meet 103 = .ok (.getfield 100, 3) := by decide +kernel
theorem dX12_meet_106 : decode cX12_meet 106 = .ok (.aload_n 0, 1) := by decide +kernel
theorem dX12_meet_107 : decode cX12_meet 107 = .ok (.getfield 73, 3) := by decide +kernel
theorem dX12_meet_110 : decode cX12_meet 110 = .ok (.bipush 72, 2) := by decide +kernel
theorem dX12_meet_112 : decode cX12_meet 112 = .ok (.iload_n 2, 1) := by decide +kernel
theorem dX12_meet_113 : decode cX12_meet 113 = .ok (.iadd, 1) := by decide +kernel
theorem dX12_meet_114 : decode cX12_meet 114 = .ok (.iaload, 1) := by decide +kernel
theorem dX12_meet_115 : decode cX12_meet 115 = .ok (.aaload, 1) := by decide +kernel
theorem dX12_meet_116 : decode cX12_meet 116 = .ok (.iload 6, 2) := by decide +kernel
theorem dX12_meet_118 : decode cX12_meet 118 = .ok (.iaload, 1) := by decide +kernel
theorem dX12_meet_119 : decode cX12_meet 119 = .ok (.iadd, 1) := by decide +kernel
theorem dX12_meet_120 : decode cX12_meet 120 = .ok (.istore 7, 2) := by decide +kernel
theorem dX12_meet_122 : decode cX12_meet 122 = .ok (.iload 7, 2) := by decide +kernel
theorem dX12_meet_124 : decode cX12_meet 124 = .ok (.iload 5, 2) := by decide +kernel
theorem dX12_meet_126 : decode cX12_meet 126 = .ok (.if_icmp .lt 6, 3) := by decide +kernel
theorem dX12_meet_129 : decode cX12_meet 129 = .ok (.goto 11, 3) := by decide +kernel
theorem dX12_meet_132 : decode cX12_meet 132 = .ok (.iload 6, 2) := by decide +kernel
theorem dX12_meet_134 : decode cX12_meet 134 = .ok (.istore 4, 2) := by decide +kernel
theorem dX12_meet_136 : decode cX12_meet 136 = .ok (.iload 7, 2) := by decide +kernel
theorem dX12_meet_138 : decode cX12_meet 138 = .ok (.istore 5, 2) := by decide +kernel
theorem dX12_meet_140 : decode cX12_meet 140 = .ok (.iinc 6 1, 3) := by decide +kernel
theorem dX12_meet_143 : decode cX12_meet 143 = .ok (.goto (-69), 3) := by decide +kernel
theorem dX12_meet_146 : decode cX12_meet 146 = .ok (.iload_n 3, 1) := by decide +kernel
theorem dX12_meet_147 : decode cX12_meet 147 = .ok (.ifCond .eq 9, 3) := by decide +kernel
theorem dX12_meet_150 : decode cX12_meet 150 = .ok (.iload 4, 2) := by decide +kernel
theorem dX12_meet_152 : decode cX12_meet 152 = .ok (.iconst (-1), 1) := by decide +kernel
theorem dX12_meet_153 : decode cX12_meet 153 = .ok (.if_icmp .ne 8, 3) := by decide +kernel
theorem dX12_meet_156 : decode cX12_meet 156 = .ok (.iload 4, 2) := by decide +kernel
theorem dX12_meet_158 : decode cX12_meet 158 = .ok (.goto 5, 3) := by decide +kernel
theorem dX12_meet_161 : decode cX12_meet 161 = .ok (.iload 5, 2) := by decide +kernel
theorem dX12_meet_163 : decode cX12_meet 163 = .ok (.ireturn, 1) := by decide +kernel
noncomputable def r_X12_hasBy (x1 : Int32) (x2 : Int32) (x3 : Int32) (m : Mem) : Option (Int32 × Mem) :=
  bd2 (r_X12_ledTo x1 x2 x3 m) fun z3 m2 => (if z3 = x1 then (if x1 = x2 then (some (1, m2)) else (some (2, m2))) else (some (0, m2)))
set_option maxHeartbeats 4000000 in
set_option maxRecDepth 20000 in
theorem ok_X12_hasBy (x1 : Int32) (x2 : Int32) (x3 : Int32) (m : Mem) {z : Int32} {m' : Mem} (h : r_X12_hasBy x1 x2 x3 m = some (z, m')) : Mt yX12_hasBy cX12_hasBy 4 (some .int) 7 155 0 0 [vR 12 0, vI x1, vI x2, vI x3] m (oI z) m' := by
  refine Mt.of (by decide) (Nat.le_of_ble_eq_true rfl) (by decide +kernel) (hhF_ne (by decide)) ?_
  show Xj RX12 cX12_hasBy 4 (some .int) 7 155 0 0 0 0 0 [(0, vR 12 0), (1, vI x1), (2, vI x2), (3, vI x3)] [] m (oI z) m'
  unfold r_X12_hasBy at h
  refine xj_aload_n 0 dX12_hasBy_0 rfl ?_
  refine xj_iload_n 1 dX12_hasBy_1 rfl ?_
  refine xj_iload_n 2 dX12_hasBy_2 rfl ?_
  refine xj_iload_n 3 dX12_hasBy_3 rfl ?_
  obtain ⟨z3, m2, e1, h⟩ := bd2_some h
  refine xc_Vi0 (st := []) (ok_X12_ledTo x1 x2 x3 m e1) dX12_hasBy_4 cv_X12_393 rfl rfl (Nat.le_of_ble_eq_true rfl) (by decide) (by decide) (by decide) (by decide) ?_
  refine xj_iload_n 1 dX12_hasBy_7 rfl ?_
  refine xj_icmp_eq (tgt := 15) dX12_hasBy_8 (by decide) (fun c4 => ?_) (fun c4 => ?_)
  · rw [if_pos c4] at h
    refine xj_iload_n 1 dX12_hasBy_15 rfl ?_
    refine xj_iload_n 2 dX12_hasBy_16 rfl ?_
    refine xj_icmp_ne (tgt := 24) dX12_hasBy_17 (by decide) (fun c5 => ?_) (fun c5 => ?_)
    · rw [if_neg c5] at h
      refine xj_iconst (z := 2) dX12_hasBy_24 (by decide) ?_
      cases h
      exact xj_ireturn dX12_hasBy_25 rfl (by decide) (by decide)
    · rw [if_pos c5] at h
      refine xj_iconst (z := 1) dX12_hasBy_20 (by decide) ?_
      refine xj_goto (tgt := 25) dX12_hasBy_21 (by decide) ?_
      cases h
      exact xj_ireturn dX12_hasBy_25 rfl (by decide) (by decide)
  · rw [if_neg c4] at h
    refine xj_iconst (z := 0) dX12_hasBy_11 (by decide) ?_
    refine xj_goto (tgt := 25) dX12_hasBy_12 (by decide) ?_
    cases h
    exact xj_ireturn dX12_hasBy_25 rfl (by decide) (by decide)
noncomputable def r_X12_puts_j11 (i1 : Nat) (m : Mem) : Option (Int32 × Mem) :=
  if inb (((m 12 0 39) + 1) - 1) 1888 = true then (some ((m 83 i1 ((((m 12 0 39) + 1) - 1).toNatClampNeg)), (wr m 12 0 39 ((m 12 0 39) + 1)))) else none
set_option maxHeartbeats 4000000 in
set_option maxRecDepth 20000 in
theorem ok_X12_puts_j11 (i1 : Nat) (m : Mem) {z : Int32} {m' : Mem} (h : r_X12_puts_j11 i1 m = some (z, m')) : Xj RX12 cX12_puts 4 (some .int) 1 0 0 0 0 0 11 [(0, vR 12 0), (1, vR 83 i1)] [] m (oI z) m' := by
  unfold r_X12_puts_j11 at h
  refine xj_aload_n 0 dX12_puts_11 rfl ?_
  refine xj_dup dX12_puts_12 rfl ?_
  refine xg_getI (x := (m 12 0 39)) dX12_puts_13 fl_X12_422 rfl rfl ?_
  refine xj_iconst (z := 1) dX12_puts_16 (by decide) ?_
  refine xj_iadd dX12_puts_17 ?_
  refine xj_putI dX12_puts_18 fw_X12_422 rfl ?_
  refine xj_aload_n 1 dX12_puts_21 rfl ?_
  refine xj_aload_n 0 dX12_puts_22 rfl ?_
  refine xg_getI (x := ((m 12 0 39) + 1)) dX12_puts_23 fl_X12_422 rfl rfl ?_
  refine xj_iconst (z := 1) dX12_puts_26 (by decide) ?_
  refine xj_isub dX12_puts_27 ?_
  by_cases c3 : inb (((m 12 0 39) + 1) - 1) 1888 = true
  case neg => rw [if_neg c3] at h; cases h
  rw [if_pos c3] at h
  refine xg_iald (z := (m 83 i1 ((((m 12 0 39) + 1) - 1).toNatClampNeg))) (n := (((m 12 0 39) + 1) - 1).toNatClampNeg) dX12_puts_28 rfl (by decide) (inb_in c3) rfl rfl ?_
  cases h
  exact xj_ireturn dX12_puts_29 rfl (by decide) (by decide)
noncomputable def r_X12_puts (i1 : Nat) (x2 : Int32) (x3 : Int32) (m : Mem) : Option (Int32 × Mem) :=
  if x3 = 0 then (if inb (m 12 0 39) 1888 = true then (r_X12_puts_j11 i1 (wr m 83 i1 ((m 12 0 39).toNatClampNeg) x2)) else none) else (r_X12_puts_j11 i1 m)
set_option maxHeartbeats 4000000 in
set_option maxRecDepth 20000 in
theorem ok_X12_puts (i1 : Nat) (x2 : Int32) (x3 : Int32) (m : Mem) {z : Int32} {m' : Mem} (h : r_X12_puts i1 x2 x3 m = some (z, m')) : Mt yX12_puts cX12_puts 4 (some .int) 1 0 0 0 [vR 12 0, vR 83 i1, vI x2, vI x3] m (oI z) m' := by
  refine Mt.of (by decide) (Nat.le_of_ble_eq_true rfl) (by decide +kernel) (hhF_ne (by decide)) ?_
  show Xj RX12 cX12_puts 4 (some .int) 1 0 0 0 0 0 0 [(0, vR 12 0), (1, vR 83 i1), (2, vI x2), (3, vI x3)] [] m (oI z) m'
  unfold r_X12_puts at h
  refine xj_iload_n 3 dX12_puts_0 rfl ?_
  refine xj_if_ne (tgt := 11) dX12_puts_1 (by decide) (fun c1 => ?_) (fun c1 => ?_)
  · rw [if_neg c1] at h
    refine xj_pick (ls' := [(0, vR 12 0), (1, vR 83 i1)]) [0, 1] rfl ?_
    exact ok_X12_puts_j11 i1 m h 
  · rw [if_pos c1] at h
    refine xj_aload_n 1 dX12_puts_4 rfl ?_
    refine xj_aload_n 0 dX12_puts_5 rfl ?_
    refine xg_getI (x := (m 12 0 39)) dX12_puts_6 fl_X12_422 rfl rfl ?_
    refine xj_iload_n 2 dX12_puts_9 rfl ?_
    by_cases c2 : inb (m 12 0 39) 1888 = true
    case neg => rw [if_neg c2] at h; cases h
    rw [if_pos c2] at h
    refine xg_iast (n := (m 12 0 39).toNatClampNeg) dX12_puts_10 rfl (by decide) (inb_in c2) rfl ?_
    refine xj_pick (ls' := [(0, vR 12 0), (1, vR 83 i1)]) [0, 1] rfl ?_
    exact ok_X12_puts_j11 i1 (wr m 83 i1 ((m 12 0 39).toNatClampNeg) x2) h 
noncomputable def r_X12_putsAll_b21 (i1 : Nat) (x2 : Int32) (x3 : Int32) (m : Mem) : Option ((Int32 × Mem) ⊕ (Mem)) :=
  if 111 ≤ x3 then (some (Sum.inr m)) else (if inb x3 111 = true then (bd2 (r_X12_puts i1 (m 60 0 x3.toNatClampNeg) x2 m) fun z8 m7 => (some (Sum.inl (x3 + 1, (wr m7 60 0 x3.toNatClampNeg z8))))) else none)
set_option maxHeartbeats 4000000 in
set_option maxRecDepth 20000 in
theorem ok_X12_putsAll_b21 (i1 : Nat) (x2 : Int32) (x3 : Int32) (m : Mem) {r : (Int32 × Mem) ⊕ (Mem)} (h : r_X12_putsAll_b21 i1 x2 x3 m = some r) {o : Ou} {M' : Mem} (kb : ∀ (x3' : Int32) (m'' : Mem), r = Sum.inl (x3', m'') → Xj RX12 cX12_putsAll 5 none 2 23 0 0 0 0 21 [(0, vR 12 0), (1, vR 83 i1), (2, vI x2), (3, vI x3')] [] m'' o M') (ke : ∀ (m'' : Mem), r = Sum.inr m'' → Xj RX12 cX12_putsAll 5 none 2 23 0 0 0 0 51 [(0, vR 12 0), (1, vR 83 i1), (2, vI x2)] [] m'' o M') : Xj RX12 cX12_putsAll 5 none 2 23 0 0 0 0 21 [(0, vR 12 0), (1, vR 83 i1), (2, vI x2), (3, vI x3)] [] m o M' := by
  unfold r_X12_putsAll_b21 at h
  refine xj_iload_n 3 dX12_putsAll_21 rfl ?_
  refine xj_bipush (z := 111) dX12_putsAll_22 (by decide) ?_
  refine xj_icmp_ge (tgt := 51) dX12_putsAll_24 (by decide) (fun c4 => ?_) (fun c4 => ?_)
  · rw [if_pos c4] at h
    cases h
    refine xj_pick (ls' := [(0, vR 12 0), (1, vR 83 i1), (2, vI x2)]) [0, 1, 2] rfl ?_
    exact ke m rfl
  · rw [if_neg c4] at h
    refine xj_aload_n 0 dX12_putsAll_27 rfl ?_
    refine xg_getR (k' := 60) (i' := 0) dX12_putsAll_28 fl_X12_73 rfl ?_
    refine xj_iload_n 3 dX12_putsAll_31 rfl ?_
    refine xj_aload_n 0 dX12_putsAll_32 rfl ?_
    refine xj_aload_n 1 dX12_putsAll_33 rfl ?_
    refine xj_aload_n 0 dX12_putsAll_34 rfl ?_
    refine xg_getR (k' := 60) (i' := 0) dX12_putsAll_35 fl_X12_73 rfl ?_
    refine xj_iload_n 3 dX12_putsAll_38 rfl ?_
    by_cases c5 : inb x3 111 = true
    case neg => rw [if_neg c5] at h; cases h
    rw [if_pos c5] at h
    refine xg_iald (z := (m 60 0 x3.toNatClampNeg)) (n := x3.toNatClampNeg) dX12_putsAll_39 rfl (by decide) (inb_in c5) rfl rfl ?_
    refine xj_iload_n 2 dX12_putsAll_40 rfl ?_
    obtain ⟨z8, m7, e6, h⟩ := bd2_some h
    refine xc_Vi0 (st := [vI x3, vR 60 0]) (ok_X12_puts i1 (m 60 0 x3.toNatClampNeg) x2 m e6) dX12_putsAll_41 cv_X12_425 rfl rfl (Nat.le_of_ble_eq_true rfl) (by decide) (by decide) (by decide) (by decide) ?_
    refine xg_iast (n := x3.toNatClampNeg) dX12_putsAll_44 rfl (by decide) (inb_in c5) rfl ?_
    refine xj_iinc (z := x3 + 1) (ls' := [(3, vI (x3 + 1)), (0, vR 12 0), (1, vR 83 i1), (2, vI x2)]) 3 dX12_putsAll_45 rfl rfl (by decide) rfl ?_
    refine xj_goto (tgt := 21) dX12_putsAll_48 (by decide) ?_
    cases h
    refine xj_pick (ls' := [(0, vR 12 0), (1, vR 83 i1), (2, vI x2), (3, vI (x3 + 1))]) [1, 2, 3, 0] rfl ?_
    exact kb (x3 + 1) (wr m7 60 0 x3.toNatClampNeg z8) rfl
noncomputable def r_X12_putsAll_b62_c53 (i1 : Nat) (x2 : Int32) (x3 : Int32) (x4 : Int32) (m : Mem) : Option ((Int32 × Mem) ⊕ (Mem)) :=
  if 111 ≤ x4 then (some (Sum.inr m)) else (if inb x3 16 = true then (if inb x4 111 = true then (bd2 (r_X12_puts i1 (m 60 (2 + x3.toNatClampNeg) x4.toNatClampNeg) x2 m) fun z15 m14 => (some (Sum.inl (x4 + 1, (wr m14 60 (2 + x3.toNatClampNeg) x4.toNatClampNeg z15))))) else none) else none)
set_option maxHeartbeats 4000000 in
set_option maxRecDepth 20000 in
theorem ok_X12_putsAll_b62_c53 (i1 : Nat) (x2 : Int32) (x3 : Int32) (x4 : Int32) (m : Mem) {r : (Int32 × Mem) ⊕ (Mem)} (h : r_X12_putsAll_b62_c53 i1 x2 x3 x4 m = some r) {o : Ou} {M' : Mem} (kb : ∀ (x4' : Int32) (m'' : Mem), r = Sum.inl (x4', m'') → Xj RX12 cX12_putsAll 5 none 2 23 0 0 0 0 62 [(0, vR 12 0), (1, vR 83 i1), (2, vI x2), (3, vI x3), (4, vI x4')] [] m'' o M') (ke : ∀ (m'' : Mem), r = Sum.inr m'' → Xj RX12 cX12_putsAll 5 none 2 23 0 0 0 0 99 [(0, vR 12 0), (1, vR 83 i1), (2, vI x2), (3, vI x3)] [] m'' o M') : Xj RX12 cX12_putsAll 5 none 2 23 0 0 0 0 62 [(0, vR 12 0), (1, vR 83 i1), (2, vI x2), (3, vI x3), (4, vI x4)] [] m o M' := by
  unfold r_X12_putsAll_b62_c53 at h
  refine xj_iload 4 dX12_putsAll_62 rfl ?_
  refine xj_bipush (z := 111) dX12_putsAll_64 (by decide) ?_
  refine xj_icmp_ge (tgt := 99) dX12_putsAll_66 (by decide) (fun c10 => ?_) (fun c10 => ?_)
  · rw [if_pos c10] at h
    cases h
    refine xj_pick (ls' := [(0, vR 12 0), (1, vR 83 i1), (2, vI x2), (3, vI x3)]) [0, 1, 2, 3] rfl ?_
    exact ke m rfl
  · rw [if_neg c10] at h
    refine xj_aload_n 0 dX12_putsAll_69 rfl ?_
    refine xg_getR (k' := 91) (i' := 0) dX12_putsAll_70 fl_X12_79 rfl ?_
    refine xj_iload_n 3 dX12_putsAll_73 rfl ?_
    by_cases c11 : inb x3 16 = true
    case neg => rw [if_neg c11] at h; cases h
    rw [if_pos c11] at h
    refine xg_aald (k' := 60) (i' := 2 + x3.toNatClampNeg) (n := x3.toNatClampNeg) dX12_putsAll_74 rfl (by decide) (inb_in c11) rfl rfl ?_
    refine xj_iload 4 dX12_putsAll_75 rfl ?_
    refine xj_aload_n 0 dX12_putsAll_77 rfl ?_
    refine xj_aload_n 1 dX12_putsAll_78 rfl ?_
    refine xj_aload_n 0 dX12_putsAll_79 rfl ?_
    refine xg_getR (k' := 91) (i' := 0) dX12_putsAll_80 fl_X12_79 rfl ?_
    refine xj_iload_n 3 dX12_putsAll_83 rfl ?_
    refine xg_aald (k' := 60) (i' := 2 + x3.toNatClampNeg) (n := x3.toNatClampNeg) dX12_putsAll_84 rfl (by decide) (inb_in c11) rfl rfl ?_
    refine xj_iload 4 dX12_putsAll_85 rfl ?_
    by_cases c12 : inb x4 111 = true
    case neg => rw [if_neg c12] at h; cases h
    rw [if_pos c12] at h
    refine xg_iald (z := (m 60 (2 + x3.toNatClampNeg) x4.toNatClampNeg)) (n := x4.toNatClampNeg) dX12_putsAll_87 rfl (by decide) (inb_in c12) rfl rfl ?_
    refine xj_iload_n 2 dX12_putsAll_88 rfl ?_
    obtain ⟨z15, m14, e13, h⟩ := bd2_some h
    refine xc_Vi0 (st := [vI x4, vR 60 (2 + x3.toNatClampNeg)]) (ok_X12_puts i1 (m 60 (2 + x3.toNatClampNeg) x4.toNatClampNeg) x2 m e13) dX12_putsAll_89 cv_X12_425 rfl rfl (Nat.le_of_ble_eq_true rfl) (by decide) (by decide) (by decide) (by decide) ?_
    refine xg_iast (n := x4.toNatClampNeg) dX12_putsAll_92 rfl (by decide) (inb_in c12) rfl ?_
    refine xj_iinc (z := x4 + 1) (ls' := [(4, vI (x4 + 1)), (0, vR 12 0), (1, vR 83 i1), (2, vI x2), (3, vI x3)]) 4 dX12_putsAll_93 rfl rfl (by decide) rfl ?_
    refine xj_goto (tgt := 62) dX12_putsAll_96 (by decide) ?_
    cases h
    refine xj_pick (ls' := [(0, vR 12 0), (1, vR 83 i1), (2, vI x2), (3, vI x3), (4, vI (x4 + 1))]) [1, 2, 3, 4, 0] rfl ?_
    exact kb (x4 + 1) (wr m14 60 (2 + x3.toNatClampNeg) x4.toNatClampNeg z15) rfl
noncomputable def r_X12_putsAll_e99_h62_c53 (i1 : Nat) (x2 : Int32) (x3 : Int32) (m : Mem) : Option ((Int32 × Mem) ⊕ (Mem)) :=
  some (Sum.inl (x3 + 1, m))
set_option maxHeartbeats 4000000 in
set_option maxRecDepth 20000 in
theorem ok_X12_putsAll_e99_h62_c53 (i1 : Nat) (x2 : Int32) (x3 : Int32) (m : Mem) {r : (Int32 × Mem) ⊕ (Mem)} (h : r_X12_putsAll_e99_h62_c53 i1 x2 x3 m = some r) {o : Ou} {M' : Mem} (kb : ∀ (x3' : Int32) (m'' : Mem), r = Sum.inl (x3', m'') → Xj RX12 cX12_putsAll 5 none 2 23 0 0 0 0 53 [(0, vR 12 0), (1, vR 83 i1), (2, vI x2), (3, vI x3')] [] m'' o M') (ke : ∀ (m'' : Mem), r = Sum.inr m'' → Xj RX12 cX12_putsAll 5 none 2 23 0 0 0 0 105 [] [] m'' o M') : Xj RX12 cX12_putsAll 5 none 2 23 0 0 0 0 99 [(0, vR 12 0), (1, vR 83 i1), (2, vI x2), (3, vI x3)] [] m o M' := by
  unfold r_X12_putsAll_e99_h62_c53 at h
  refine xj_iinc (z := x3 + 1) (ls' := [(3, vI (x3 + 1)), (0, vR 12 0), (1, vR 83 i1), (2, vI x2)]) 3 dX12_putsAll_99 rfl rfl (by decide) rfl ?_
  refine xj_goto (tgt := 53) dX12_putsAll_102 (by decide) ?_
  cases h
  refine xj_pick (ls' := [(0, vR 12 0), (1, vR 83 i1), (2, vI x2), (3, vI (x3 + 1))]) [1, 2, 3, 0] rfl ?_
  exact kb (x3 + 1) m rfl
noncomputable def r_X12_putsAll_l62_c53 (i1 : Nat) (x2 : Int32) (x3 : Int32) (x4 : Int32) (m : Mem) : Option ((Int32 × Mem) ⊕ (Mem)) :=
  bd1 (loopO (fun s => r_X12_putsAll_b62_c53 i1 x2 x3 s.1 s.2) (x4, m)) (fun e => r_X12_putsAll_e99_h62_c53 i1 x2 x3 e)
set_option maxHeartbeats 4000000 in
set_option maxRecDepth 20000 in
theorem ok_X12_putsAll_l62_c53 (i1 : Nat) (x2 : Int32) (x3 : Int32) (x4 : Int32) (m : Mem) {r : (Int32 × Mem) ⊕ (Mem)} (h : r_X12_putsAll_l62_c53 i1 x2 x3 x4 m = some r) {o : Ou} {M' : Mem} (kb : ∀ (x3' : Int32) (m'' : Mem), r = Sum.inl (x3', m'') → Xj RX12 cX12_putsAll 5 none 2 23 0 0 0 0 53 [(0, vR 12 0), (1, vR 83 i1), (2, vI x2), (3, vI x3')] [] m'' o M') (ke : ∀ (m'' : Mem), r = Sum.inr m'' → Xj RX12 cX12_putsAll 5 none 2 23 0 0 0 0 105 [] [] m'' o M') : Xj RX12 cX12_putsAll 5 none 2 23 0 0 0 0 62 [(0, vR 12 0), (1, vR 83 i1), (2, vI x2), (3, vI x3), (4, vI x4)] [] m o M' := by
  unfold r_X12_putsAll_l62_c53 at h
  obtain ⟨e, e1, h⟩ := bd1_some h
  refine loopO_ok (P := fun s : (Int32 × Mem) => Xj RX12 cX12_putsAll 5 none 2 23 0 0 0 0 62 [(0, vR 12 0), (1, vR 83 i1), (2, vI x2), (3, vI x3), (4, vI s.1)] [] s.2 o M') (Q := fun e : (Mem) => Xj RX12 cX12_putsAll 5 none 2 23 0 0 0 0 99 [(0, vR 12 0), (1, vR 83 i1), (2, vI x2), (3, vI x3)] [] e o M') ?_ _ _ e1 ?_
  · intro s r9 h9 hi hx
    exact ok_X12_putsAll_b62_c53 i1 x2 x3 s.1 s.2 h9 (by rintro _ _ rfl; exact hi _ rfl) (by rintro _ rfl; exact hx _ rfl)
  · exact ok_X12_putsAll_e99_h62_c53 i1 x2 x3 e h kb ke
noncomputable def r_X12_putsAll_b53 (i1 : Nat) (x2 : Int32) (x3 : Int32) (m : Mem) : Option ((Int32 × Mem) ⊕ (Mem)) :=
  if 16 ≤ x3 then (some (Sum.inr m)) else (r_X12_putsAll_l62_c53 i1 x2 x3 0 m)
set_option maxHeartbeats 4000000 in
set_option maxRecDepth 20000 in
theorem ok_X12_putsAll_b53 (i1 : Nat) (x2 : Int32) (x3 : Int32) (m : Mem) {r : (Int32 × Mem) ⊕ (Mem)} (h : r_X12_putsAll_b53 i1 x2 x3 m = some r) {o : Ou} {M' : Mem} (kb : ∀ (x3' : Int32) (m'' : Mem), r = Sum.inl (x3', m'') → Xj RX12 cX12_putsAll 5 none 2 23 0 0 0 0 53 [(0, vR 12 0), (1, vR 83 i1), (2, vI x2), (3, vI x3')] [] m'' o M') (ke : ∀ (m'' : Mem), r = Sum.inr m'' → Xj RX12 cX12_putsAll 5 none 2 23 0 0 0 0 105 [] [] m'' o M') : Xj RX12 cX12_putsAll 5 none 2 23 0 0 0 0 53 [(0, vR 12 0), (1, vR 83 i1), (2, vI x2), (3, vI x3)] [] m o M' := by
  unfold r_X12_putsAll_b53 at h
  refine xj_iload_n 3 dX12_putsAll_53 rfl ?_
  refine xj_bipush (z := 16) dX12_putsAll_54 (by decide) ?_
  refine xj_icmp_ge (tgt := 105) dX12_putsAll_56 (by decide) (fun c9 => ?_) (fun c9 => ?_)
  · rw [if_pos c9] at h
    cases h
    refine xj_pick (ls' := []) [] rfl ?_
    exact ke m rfl
  · rw [if_neg c9] at h
    refine xj_iconst (z := 0) dX12_putsAll_59 (by decide) ?_
    refine xj_istore (ls' := [(4, vI 0), (0, vR 12 0), (1, vR 83 i1), (2, vI x2), (3, vI x3)]) dX12_putsAll_60 (by decide) rfl ?_
    refine xj_pick (ls' := [(0, vR 12 0), (1, vR 83 i1), (2, vI x2), (3, vI x3), (4, vI 0)]) [1, 2, 3, 4, 0] rfl ?_
    exact ok_X12_putsAll_l62_c53 i1 x2 x3 0 m h kb ke
noncomputable def r_X12_putsAll_e105_h53 (m : Mem) : Option Mem :=
  some m
set_option maxHeartbeats 4000000 in
set_option maxRecDepth 20000 in
theorem ok_X12_putsAll_e105_h53 (m : Mem) {m' : Mem} (h : r_X12_putsAll_e105_h53 m = some m') : Xj RX12 cX12_putsAll 5 none 2 23 0 0 0 0 105 [] [] m oV m' := by
  unfold r_X12_putsAll_e105_h53 at h
  cases h
  exact xj_return dX12_putsAll_105 (by decide) (by decide)
noncomputable def r_X12_putsAll_l53 (i1 : Nat) (x2 : Int32) (x3 : Int32) (m : Mem) : Option Mem :=
  bd1 (loopO (fun s => r_X12_putsAll_b53 i1 x2 s.1 s.2) (x3, m)) (fun e => r_X12_putsAll_e105_h53 e)
set_option maxHeartbeats 4000000 in
set_option maxRecDepth 20000 in
theorem ok_X12_putsAll_l53 (i1 : Nat) (x2 : Int32) (x3 : Int32) (m : Mem) {m' : Mem} (h : r_X12_putsAll_l53 i1 x2 x3 m = some m') : Xj RX12 cX12_putsAll 5 none 2 23 0 0 0 0 53 [(0, vR 12 0), (1, vR 83 i1), (2, vI x2), (3, vI x3)] [] m oV m' := by
  unfold r_X12_putsAll_l53 at h
  obtain ⟨e, e1, h⟩ := bd1_some h
  refine loopO_ok (P := fun s : (Int32 × Mem) => Xj RX12 cX12_putsAll 5 none 2 23 0 0 0 0 53 [(0, vR 12 0), (1, vR 83 i1), (2, vI x2), (3, vI s.1)] [] s.2 oV m') (Q := fun e : (Mem) => Xj RX12 cX12_putsAll 5 none 2 23 0 0 0 0 105 [] [] e oV m') ?_ _ _ e1 ?_
  · intro s r9 h9 hi hx
    exact ok_X12_putsAll_b53 i1 x2 s.1 s.2 h9 (by rintro _ _ rfl; exact hi _ rfl) (by rintro _ rfl; exact hx _ rfl)
  · exact ok_X12_putsAll_e105_h53 e h 
noncomputable def r_X12_putsAll_e51_h21 (i1 : Nat) (x2 : Int32) (m : Mem) : Option Mem :=
  r_X12_putsAll_l53 i1 x2 0 m
set_option maxHeartbeats 4000000 in
set_option maxRecDepth 20000 in
theorem ok_X12_putsAll_e51_h21 (i1 : Nat) (x2 : Int32) (m : Mem) {m' : Mem} (h : r_X12_putsAll_e51_h21 i1 x2 m = some m') : Xj RX12 cX12_putsAll 5 none 2 23 0 0 0 0 51 [(0, vR 12 0), (1, vR 83 i1), (2, vI x2)] [] m oV m' := by
  unfold r_X12_putsAll_e51_h21 at h
  refine xj_iconst (z := 0) dX12_putsAll_51 (by decide) ?_
  refine xj_istore_n (ls' := [(3, vI 0), (0, vR 12 0), (1, vR 83 i1), (2, vI x2)]) dX12_putsAll_52 rfl (by decide) rfl ?_
  refine xj_pick (ls' := [(0, vR 12 0), (1, vR 83 i1), (2, vI x2), (3, vI 0)]) [1, 2, 3, 0] rfl ?_
  exact ok_X12_putsAll_l53 i1 x2 0 m h 
noncomputable def r_X12_putsAll_l21 (i1 : Nat) (x2 : Int32) (x3 : Int32) (m : Mem) : Option Mem :=
  bd1 (loopO (fun s => r_X12_putsAll_b21 i1 x2 s.1 s.2) (x3, m)) (fun e => r_X12_putsAll_e51_h21 i1 x2 e)
set_option maxHeartbeats 4000000 in
set_option maxRecDepth 20000 in
theorem ok_X12_putsAll_l21 (i1 : Nat) (x2 : Int32) (x3 : Int32) (m : Mem) {m' : Mem} (h : r_X12_putsAll_l21 i1 x2 x3 m = some m') : Xj RX12 cX12_putsAll 5 none 2 23 0 0 0 0 21 [(0, vR 12 0), (1, vR 83 i1), (2, vI x2), (3, vI x3)] [] m oV m' := by
  unfold r_X12_putsAll_l21 at h
  obtain ⟨e, e1, h⟩ := bd1_some h
  refine loopO_ok (P := fun s : (Int32 × Mem) => Xj RX12 cX12_putsAll 5 none 2 23 0 0 0 0 21 [(0, vR 12 0), (1, vR 83 i1), (2, vI x2), (3, vI s.1)] [] s.2 oV m') (Q := fun e : (Mem) => Xj RX12 cX12_putsAll 5 none 2 23 0 0 0 0 51 [(0, vR 12 0), (1, vR 83 i1), (2, vI x2)] [] e oV m') ?_ _ _ e1 ?_
  · intro s r9 h9 hi hx
    exact ok_X12_putsAll_b21 i1 x2 s.1 s.2 h9 (by rintro _ _ rfl; exact hi _ rfl) (by rintro _ rfl; exact hx _ rfl)
  · exact ok_X12_putsAll_e51_h21 i1 x2 e h 
noncomputable def r_X12_putsAll (i1 : Nat) (x2 : Int32) (m : Mem) : Option Mem :=
  bd2 (r_X12_puts i1 (m 12 0 36) x2 (wr m 12 0 39 0)) fun z3 m2 => (r_X12_putsAll_l21 i1 x2 0 (wr m2 12 0 36 z3))
set_option maxHeartbeats 4000000 in
set_option maxRecDepth 20000 in
theorem ok_X12_putsAll (i1 : Nat) (x2 : Int32) (m : Mem) {m' : Mem} (h : r_X12_putsAll i1 x2 m = some m') : Mt yX12_putsAll cX12_putsAll 5 none 2 23 0 0 [vR 12 0, vR 83 i1, vI x2] m oV m' := by
  refine Mt.of (by decide) (Nat.le_of_ble_eq_true rfl) (by decide +kernel) (hhF_ne (by decide)) ?_
  show Xj RX12 cX12_putsAll 5 none 2 23 0 0 0 0 0 [(0, vR 12 0), (1, vR 83 i1), (2, vI x2)] [] m oV m'
  unfold r_X12_putsAll at h
  refine xj_aload_n 0 dX12_putsAll_0 rfl ?_
  refine xj_iconst (z := 0) dX12_putsAll_1 (by decide) ?_
  refine xj_putI dX12_putsAll_2 fw_X12_422 rfl ?_
  refine xj_aload_n 0 dX12_putsAll_5 rfl ?_
  refine xj_aload_n 0 dX12_putsAll_6 rfl ?_
  refine xj_aload_n 1 dX12_putsAll_7 rfl ?_
  refine xj_aload_n 0 dX12_putsAll_8 rfl ?_
  refine xg_getI (x := (m 12 0 36)) dX12_putsAll_9 fl_X12_214 rfl rfl ?_
  refine xj_iload_n 2 dX12_putsAll_12 rfl ?_
  obtain ⟨z3, m2, e1, h⟩ := bd2_some h
  refine xc_Vi0 (st := [vR 12 0]) (ok_X12_puts i1 (m 12 0 36) x2 (wr m 12 0 39 0) e1) dX12_putsAll_13 cv_X12_425 rfl rfl (Nat.le_of_ble_eq_true rfl) (by decide) (by decide) (by decide) (by decide) ?_
  refine xj_putI dX12_putsAll_16 fw_X12_214 rfl ?_
  refine xj_iconst (z := 0) dX12_putsAll_19 (by decide) ?_
  refine xj_istore_n (ls' := [(3, vI 0), (0, vR 12 0), (1, vR 83 i1), (2, vI x2)]) dX12_putsAll_20 rfl (by decide) rfl ?_
  refine xj_pick (ls' := [(0, vR 12 0), (1, vR 83 i1), (2, vI x2), (3, vI 0)]) [1, 2, 3, 0] rfl ?_
  exact ok_X12_putsAll_l21 i1 x2 0 (wr m2 12 0 36 z3) h 
noncomputable def r_X12_image (m : Mem) : Option (Int32 × Mem) :=
  if (m 12 0 38) = 3 then (some ((-1), (wr m 12 0 0 0))) else (if inb (m 12 0 38) 3 = true then (bd1 (r_X12_putsAll ((m 12 0 38).toNatClampNeg) 0 (wr m 12 0 0 0)) fun m4 => (some (((m4 12 0 38) + 1), (wr m4 12 0 38 ((m4 12 0 38) + 1))))) else none)
set_option maxHeartbeats 4000000 in
set_option maxRecDepth 20000 in
theorem ok_X12_image (m : Mem) {z : Int32} {m' : Mem} (h : r_X12_image m = some (z, m')) : Mt yX12_image cX12_image 1 (some .int) 3 47 0 0 [vR 12 0] m (oI z) m' := by
  refine Mt.of (by decide) (Nat.le_of_ble_eq_true rfl) (by decide +kernel) (hhF_ne (by decide)) ?_
  show Xj RX12 cX12_image 1 (some .int) 3 47 0 0 0 0 0 [(0, vR 12 0)] [] m (oI z) m'
  unfold r_X12_image at h
  refine xj_aload_n 0 dX12_image_0 rfl ?_
  refine xj_iconst (z := 0) dX12_image_1 (by decide) ?_
  refine xj_putI dX12_image_2 fw_X12_109 rfl ?_
  refine xj_aload_n 0 dX12_image_5 rfl ?_
  refine xg_getI (x := (m 12 0 38)) dX12_image_6 fl_X12_220 rfl rfl ?_
  refine xj_iconst (z := 3) dX12_image_9 (by decide) ?_
  refine xj_icmp_ne (tgt := 15) dX12_image_10 (by decide) (fun c1 => ?_) (fun c1 => ?_)
  · rw [if_neg c1] at h
    refine xj_aload_n 0 dX12_image_15 rfl ?_
    refine xj_aload_n 0 dX12_image_16 rfl ?_
    refine xg_getR (k' := 84) (i' := 0) dX12_image_17 fl_X12_82 rfl ?_
    refine xj_aload_n 0 dX12_image_20 rfl ?_
    refine xg_getI (x := (m 12 0 38)) dX12_image_21 fl_X12_220 rfl rfl ?_
    by_cases c2 : inb (m 12 0 38) 3 = true
    case neg => rw [if_neg c2] at h; cases h
    rw [if_pos c2] at h
    refine xg_aald (k' := 83) (i' := ((m 12 0 38).toNatClampNeg)) (n := (m 12 0 38).toNatClampNeg) dX12_image_24 rfl (by decide) (inb_in c2) rfl rfl ?_
    refine xj_iconst (z := 0) dX12_image_25 (by decide) ?_
    obtain ⟨m4, e3, h⟩ := bd1_some h
    refine xc_Vv0 (st := []) (ok_X12_putsAll ((m 12 0 38).toNatClampNeg) 0 (wr m 12 0 0 0) e3) dX12_image_26 cv_X12_429 rfl rfl (Nat.le_of_ble_eq_true rfl) (by decide) (by decide) (by decide) (by decide) ?_
    refine xj_aload_n 0 dX12_image_29 rfl ?_
    refine xj_dup dX12_image_30 rfl ?_
    refine xg_getI (x := (m4 12 0 38)) dX12_image_31 fl_X12_220 rfl rfl ?_
    refine xj_iconst (z := 1) dX12_image_34 (by decide) ?_
    refine xj_iadd dX12_image_35 ?_
    refine xj_putI dX12_image_36 fw_X12_220 rfl ?_
    refine xj_aload_n 0 dX12_image_39 rfl ?_
    refine xg_getI (x := ((m4 12 0 38) + 1)) dX12_image_40 fl_X12_220 rfl rfl ?_
    cases h
    exact xj_ireturn dX12_image_43 rfl (by decide) (by decide)
  · rw [if_pos c1] at h
    refine xj_iconst (z := (-1)) dX12_image_13 (by decide) ?_
    cases h
    exact xj_ireturn dX12_image_14 rfl (by decide) (by decide)
noncomputable def r_X12_isRest_j68_c3 (x1 : Int32) (x2 : Int32) (x3 : Int32) (x4 : Int32) (m : Mem) : Option ((Int32 × Mem) ⊕ ((Mem) ⊕ (Bool × Mem))) :=
  some (Sum.inl (x4 + 1, m))
set_option maxHeartbeats 4000000 in
set_option maxRecDepth 20000 in
theorem ok_X12_isRest_j68_c3 (x1 : Int32) (x2 : Int32) (x3 : Int32) (x4 : Int32) (m : Mem) {r : (Int32 × Mem) ⊕ ((Mem) ⊕ (Bool × Mem))} (h : r_X12_isRest_j68_c3 x1 x2 x3 x4 m = some r) {o : Ou} {M' : Mem} (kb : ∀ (x4' : Int32) (m'' : Mem), r = Sum.inl (x4', m'') → Xj RX12 cX12_isRest 5 (some .boolean) 8 178 0 0 0 0 3 [(0, vR 12 0), (1, vI x1), (2, vI x2), (3, vI x3), (4, vI x4')] [] m'' o M') (ke : ∀ (m'' : Mem), r = Sum.inr (Sum.inl m'') → Xj RX12 cX12_isRest 5 (some .boolean) 8 178 0 0 0 0 74 [] [] m'' o M') (kr : ∀ (z : Bool) (m' : Mem), r = Sum.inr (Sum.inr (z, m')) → o = (oB z) ∧ M' = m') : Xj RX12 cX12_isRest 5 (some .boolean) 8 178 0 0 0 0 68 [(0, vR 12 0), (1, vI x1), (2, vI x2), (3, vI x3), (4, vI x4)] [] m o M' := by
  unfold r_X12_isRest_j68_c3 at h
  refine xj_iinc (z := x4 + 1) (ls' := [(4, vI (x4 + 1)), (0, vR 12 0), (1, vI x1), (2, vI x2), (3, vI x3)]) 4 dX12_isRest_68 rfl rfl (by decide) rfl ?_
  refine xj_goto (tgt := 3) dX12_isRest_71 (by decide) ?_
  cases h
  refine xj_pick (ls' := [(0, vR 12 0), (1, vI x1), (2, vI x2), (3, vI x3), (4, vI (x4 + 1))]) [1, 2, 3, 4, 0] rfl ?_
  exact kb (x4 + 1) m rfl
noncomputable def r_X12_isRest_b3 (x1 : Int32) (x2 : Int32) (x3 : Int32) (x4 : Int32) (m : Mem) : Option ((Int32 × Mem) ⊕ ((Mem) ⊕ (Bool × Mem))) :=
  if (m 52 0 0) ≤ x4 then (some (Sum.inr (Sum.inl m))) else (bd1 (r_X12_between (m 52 0 3) x4 m) fun z3 => (if z3 = (-1) then (r_X12_isRest_j68_c3 x1 x2 x3 x4 m) else (bd2 (r_X12_hasBy x4 x2 x3 m) fun z7 m6 => (bd2 (r_X12_hasBy x1 x2 x3 m6) fun z10 m9 => (if z10 < z7 then (some (Sum.inr (Sum.inr (false, m9)))) else (bd2 (r_X12_hasBy x4 x1 x3 m9) fun z14 m13 => (bd2 (r_X12_hasBy x2 x1 x3 m13) fun z17 m16 => (if z14 ≤ z17 then (r_X12_isRest_j68_c3 x1 x2 x3 x4 m16) else (some (Sum.inr (Sum.inr (false, m16))))))))))))
set_option maxHeartbeats 4000000 in
set_option maxRecDepth 20000 in
theorem ok_X12_isRest_b3 (x1 : Int32) (x2 : Int32) (x3 : Int32) (x4 : Int32) (m : Mem) {r : (Int32 × Mem) ⊕ ((Mem) ⊕ (Bool × Mem))} (h : r_X12_isRest_b3 x1 x2 x3 x4 m = some r) {o : Ou} {M' : Mem} (kb : ∀ (x4' : Int32) (m'' : Mem), r = Sum.inl (x4', m'') → Xj RX12 cX12_isRest 5 (some .boolean) 8 178 0 0 0 0 3 [(0, vR 12 0), (1, vI x1), (2, vI x2), (3, vI x3), (4, vI x4')] [] m'' o M') (ke : ∀ (m'' : Mem), r = Sum.inr (Sum.inl m'') → Xj RX12 cX12_isRest 5 (some .boolean) 8 178 0 0 0 0 74 [] [] m'' o M') (kr : ∀ (z : Bool) (m' : Mem), r = Sum.inr (Sum.inr (z, m')) → o = (oB z) ∧ M' = m') : Xj RX12 cX12_isRest 5 (some .boolean) 8 178 0 0 0 0 3 [(0, vR 12 0), (1, vI x1), (2, vI x2), (3, vI x3), (4, vI x4)] [] m o M' := by
  unfold r_X12_isRest_b3 at h
  refine xj_iload 4 dX12_isRest_3 rfl ?_
  refine xj_aload_n 0 dX12_isRest_5 rfl ?_
  refine xg_getR (k' := 52) (i' := 0) dX12_isRest_6 fl_X12_23 rfl ?_
  refine xj_iconst (z := 0) dX12_isRest_9 (by decide) ?_
  refine xg_iald (z := (m 52 0 0)) (n := 0) dX12_isRest_10 rfl (by decide) (inb_in (by decide)) (by decide) rfl ?_
  refine xj_icmp_ge (tgt := 74) dX12_isRest_11 (by decide) (fun c1 => ?_) (fun c1 => ?_)
  · rw [if_pos c1] at h
    cases h
    refine xj_pick (ls' := []) [] rfl ?_
    exact ke m rfl
  · rw [if_neg c1] at h
    refine xj_aload_n 0 dX12_isRest_14 rfl ?_
    refine xj_aload_n 0 dX12_isRest_15 rfl ?_
    refine xg_getR (k' := 52) (i' := 0) dX12_isRest_16 fl_X12_23 rfl ?_
    refine xj_iconst (z := 3) dX12_isRest_19 (by decide) ?_
    refine xg_iald (z := (m 52 0 3)) (n := 3) dX12_isRest_20 rfl (by decide) (inb_in (by decide)) (by decide) rfl ?_
    refine xj_iload 4 dX12_isRest_21 rfl ?_
    obtain ⟨z3, e2, h⟩ := bd1_some h
    refine xc_Vi0 (st := []) (ok_X12_between (m 52 0 3) x4 m e2) dX12_isRest_23 cv_X12_267 rfl rfl (Nat.le_of_ble_eq_true rfl) (by decide) (by decide) (by decide) (by decide) ?_
    refine xj_iconst (z := (-1)) dX12_isRest_26 (by decide) ?_
    refine xj_icmp_eq (tgt := 68) dX12_isRest_27 (by decide) (fun c4 => ?_) (fun c4 => ?_)
    · rw [if_pos c4] at h
      exact ok_X12_isRest_j68_c3 x1 x2 x3 x4 m h kb ke kr
    · rw [if_neg c4] at h
      refine xj_aload_n 0 dX12_isRest_30 rfl ?_
      refine xj_iload 4 dX12_isRest_31 rfl ?_
      refine xj_iload_n 2 dX12_isRest_33 rfl ?_
      refine xj_iload_n 3 dX12_isRest_34 rfl ?_
      obtain ⟨z7, m6, e5, h⟩ := bd2_some h
      refine xc_Vi0 (st := []) (ok_X12_hasBy x4 x2 x3 m e5) dX12_isRest_35 cv_X12_396 rfl rfl (Nat.le_of_ble_eq_true rfl) (by decide) (by decide) (by decide) (by decide) ?_
      refine xj_aload_n 0 dX12_isRest_38 rfl ?_
      refine xj_iload_n 1 dX12_isRest_39 rfl ?_
      refine xj_iload_n 2 dX12_isRest_40 rfl ?_
      refine xj_iload_n 3 dX12_isRest_41 rfl ?_
      obtain ⟨z10, m9, e8, h⟩ := bd2_some h
      refine xc_Vi0 (st := [vI z7]) (ok_X12_hasBy x1 x2 x3 m6 e8) dX12_isRest_42 cv_X12_396 rfl rfl (Nat.le_of_ble_eq_true rfl) (by decide) (by decide) (by decide) (by decide) ?_
      refine xj_icmp_gt (tgt := 66) dX12_isRest_45 (by decide) (fun c11 => ?_) (fun c11 => ?_)
      · rw [if_pos c11] at h
        refine xj_iconst (z := 0) dX12_isRest_66 (by decide) ?_
        cases h
        obtain ⟨rfl, rfl⟩ := kr _ _ rfl
        exact xj_ireturn dX12_isRest_67 rfl (by decide) (by decide)
      · rw [if_neg c11] at h
        refine xj_aload_n 0 dX12_isRest_48 rfl ?_
        refine xj_iload 4 dX12_isRest_49 rfl ?_
        refine xj_iload_n 1 dX12_isRest_51 rfl ?_
        refine xj_iload_n 3 dX12_isRest_52 rfl ?_
        obtain ⟨z14, m13, e12, h⟩ := bd2_some h
        refine xc_Vi0 (st := []) (ok_X12_hasBy x4 x1 x3 m9 e12) dX12_isRest_53 cv_X12_396 rfl rfl (Nat.le_of_ble_eq_true rfl) (by decide) (by decide) (by decide) (by decide) ?_
        refine xj_aload_n 0 dX12_isRest_56 rfl ?_
        refine xj_iload_n 2 dX12_isRest_57 rfl ?_
        refine xj_iload_n 1 dX12_isRest_58 rfl ?_
        refine xj_iload_n 3 dX12_isRest_59 rfl ?_
        obtain ⟨z17, m16, e15, h⟩ := bd2_some h
        refine xc_Vi0 (st := [vI z14]) (ok_X12_hasBy x2 x1 x3 m13 e15) dX12_isRest_60 cv_X12_396 rfl rfl (Nat.le_of_ble_eq_true rfl) (by decide) (by decide) (by decide) (by decide) ?_
        refine xj_icmp_le (tgt := 68) dX12_isRest_63 (by decide) (fun c18 => ?_) (fun c18 => ?_)
        · rw [if_pos c18] at h
          exact ok_X12_isRest_j68_c3 x1 x2 x3 x4 m16 h kb ke kr
        · rw [if_neg c18] at h
          refine xj_iconst (z := 0) dX12_isRest_66 (by decide) ?_
          cases h
          obtain ⟨rfl, rfl⟩ := kr _ _ rfl
          exact xj_ireturn dX12_isRest_67 rfl (by decide) (by decide)
noncomputable def r_X12_isRest_e74_h3 (m : Mem) : Option (Bool × Mem) :=
  some (true, m)
set_option maxHeartbeats 4000000 in
set_option maxRecDepth 20000 in
theorem ok_X12_isRest_e74_h3 (m : Mem) {z : Bool} {m' : Mem} (h : r_X12_isRest_e74_h3 m = some (z, m')) : Xj RX12 cX12_isRest 5 (some .boolean) 8 178 0 0 0 0 74 [] [] m (oB z) m' := by
  unfold r_X12_isRest_e74_h3 at h
  refine xj_iconst (z := 1) dX12_isRest_74 (by decide) ?_
  cases h
  exact xj_ireturn dX12_isRest_75 rfl (by decide) (by decide)
noncomputable def r_X12_isRest_l3 (x1 : Int32) (x2 : Int32) (x3 : Int32) (x4 : Int32) (m : Mem) : Option (Bool × Mem) :=
  bdS (loopO (fun s => r_X12_isRest_b3 x1 x2 x3 s.1 s.2) (x4, m)) (fun e => r_X12_isRest_e74_h3 e) (fun q => some q)
set_option maxHeartbeats 4000000 in
set_option maxRecDepth 20000 in
theorem ok_X12_isRest_l3 (x1 : Int32) (x2 : Int32) (x3 : Int32) (x4 : Int32) (m : Mem) {z : Bool} {m' : Mem} (h : r_X12_isRest_l3 x1 x2 x3 x4 m = some (z, m')) : Xj RX12 cX12_isRest 5 (some .boolean) 8 178 0 0 0 0 3 [(0, vR 12 0), (1, vI x1), (2, vI x2), (3, vI x3), (4, vI x4)] [] m (oB z) m' := by
  unfold r_X12_isRest_l3 at h
  rcases bdS_some h with ⟨e, e1, h⟩ | ⟨q, e1, h⟩
  · refine loopO_ok (P := fun s : (Int32 × Mem) => Xj RX12 cX12_isRest 5 (some .boolean) 8 178 0 0 0 0 3 [(0, vR 12 0), (1, vI x1), (2, vI x2), (3, vI x3), (4, vI s.1)] [] s.2 (oB z) m') (Q := Sum.elim (fun e : (Mem) => Xj RX12 cX12_isRest 5 (some .boolean) 8 178 0 0 0 0 74 [] [] e (oB z) m') (fun q : (Bool × Mem) => (oB z) = (oB q.1) ∧ m' = q.2)) ?_ _ _ e1 ?_
    · intro s r9 h9 hi hx
      exact ok_X12_isRest_b3 x1 x2 x3 s.1 s.2 h9 (by rintro _ _ rfl; exact hi _ rfl) (by rintro _ rfl; exact hx _ rfl) (by rintro _ _ rfl; exact hx _ rfl)
    · exact ok_X12_isRest_e74_h3 e h 
  · refine loopO_ok (P := fun s : (Int32 × Mem) => Xj RX12 cX12_isRest 5 (some .boolean) 8 178 0 0 0 0 3 [(0, vR 12 0), (1, vI x1), (2, vI x2), (3, vI x3), (4, vI s.1)] [] s.2 (oB z) m') (Q := Sum.elim (fun e : (Mem) => Xj RX12 cX12_isRest 5 (some .boolean) 8 178 0 0 0 0 74 [] [] e (oB z) m') (fun q : (Bool × Mem) => (oB z) = (oB q.1) ∧ m' = q.2)) ?_ _ _ e1 ?_
    · intro s r9 h9 hi hx
      exact ok_X12_isRest_b3 x1 x2 x3 s.1 s.2 h9 (by rintro _ _ rfl; exact hi _ rfl) (by rintro _ rfl; exact hx _ rfl) (by rintro _ _ rfl; exact hx _ rfl)
    · cases h; exact ⟨rfl, rfl⟩
noncomputable def r_X12_isRest (x1 : Int32) (x2 : Int32) (x3 : Int32) (m : Mem) : Option (Bool × Mem) :=
  r_X12_isRest_l3 x1 x2 x3 0 m
set_option maxHeartbeats 4000000 in
set_option maxRecDepth 20000 in
theorem ok_X12_isRest (x1 : Int32) (x2 : Int32) (x3 : Int32) (m : Mem) {z : Bool} {m' : Mem} (h : r_X12_isRest x1 x2 x3 m = some (z, m')) : Mt yX12_isRest cX12_isRest 5 (some .boolean) 8 178 0 0 [vR 12 0, vI x1, vI x2, vI x3] m (oB z) m' := by
  refine Mt.of (by decide) (Nat.le_of_ble_eq_true rfl) (by decide +kernel) (hhF_ne (by decide)) ?_
  show Xj RX12 cX12_isRest 5 (some .boolean) 8 178 0 0 0 0 0 [(0, vR 12 0), (1, vI x1), (2, vI x2), (3, vI x3)] [] m (oB z) m'
  unfold r_X12_isRest at h
  refine xj_iconst (z := 0) dX12_isRest_0 (by decide) ?_
  refine xj_istore (ls' := [(4, vI 0), (0, vR 12 0), (1, vI x1), (2, vI x2), (3, vI x3)]) dX12_isRest_1 (by decide) rfl ?_
  refine xj_pick (ls' := [(0, vR 12 0), (1, vI x1), (2, vI x2), (3, vI x3), (4, vI 0)]) [1, 2, 3, 4, 0] rfl ?_
  exact ok_X12_isRest_l3 x1 x2 x3 0 m h 
noncomputable def r_X12_isTold_b2 (x1 : Int32) (m : Mem) (x2 : Int32) : Option ((Int32) ⊕ (Unit ⊕ Bool)) :=
  if (m 12 0 35) ≤ x2 then (some (Sum.inr (Sum.inl ()))) else (if inb x2 12 = true then (if (m 77 x2.toNatClampNeg 0) = x1 then (some (Sum.inr (Sum.inr true))) else (some (Sum.inl (x2 + 1)))) else none)
set_option maxHeartbeats 4000000 in
set_option maxRecDepth 20000 in
theorem ok_X12_isTold_b2 (x1 : Int32) (m : Mem) (x2 : Int32) {r : (Int32) ⊕ (Unit ⊕ Bool)} (h : r_X12_isTold_b2 x1 m x2 = some r) {o : Ou} {M' : Mem} (kb : ∀ (x2' : Int32), r = Sum.inl x2' → Xj RX12 cX12_isTold 3 (some .boolean) 1 0 0 0 0 0 2 [(0, vR 12 0), (1, vI x1), (2, vI x2')] [] m o M') (ke : r = Sum.inr (Sum.inl ()) → Xj RX12 cX12_isTold 3 (some .boolean) 1 0 0 0 0 0 30 [] [] m o M') (kr : ∀ (z : Bool), r = Sum.inr (Sum.inr z) → o = (oB z) ∧ M' = m) : Xj RX12 cX12_isTold 3 (some .boolean) 1 0 0 0 0 0 2 [(0, vR 12 0), (1, vI x1), (2, vI x2)] [] m o M' := by
  unfold r_X12_isTold_b2 at h
  refine xj_iload_n 2 dX12_isTold_2 rfl ?_
  refine xj_aload_n 0 dX12_isTold_3 rfl ?_
  refine xg_getI (x := (m 12 0 35)) dX12_isTold_4 fl_X12_211 rfl rfl ?_
  refine xj_icmp_ge (tgt := 30) dX12_isTold_7 (by decide) (fun c1 => ?_) (fun c1 => ?_)
  · rw [if_pos c1] at h
    cases h
    refine xj_pick (ls' := []) [] rfl ?_
    exact ke  rfl
  · rw [if_neg c1] at h
    refine xj_aload_n 0 dX12_isTold_10 rfl ?_
    refine xg_getR (k' := 78) (i' := 0) dX12_isTold_11 fl_X12_58 rfl ?_
    refine xj_iload_n 2 dX12_isTold_14 rfl ?_
    by_cases c2 : inb x2 12 = true
    case neg => rw [if_neg c2] at h; cases h
    rw [if_pos c2] at h
    refine xg_aald (k' := 77) (i' := x2.toNatClampNeg) (n := x2.toNatClampNeg) dX12_isTold_15 rfl (by decide) (inb_in c2) rfl rfl ?_
    refine xj_iconst (z := 0) dX12_isTold_16 (by decide) ?_
    refine xg_iald (z := (m 77 x2.toNatClampNeg 0)) (n := 0) dX12_isTold_17 rfl (by decide) (inb_in (by decide)) (by decide) rfl ?_
    refine xj_iload_n 1 dX12_isTold_18 rfl ?_
    refine xj_icmp_ne (tgt := 24) dX12_isTold_19 (by decide) (fun c3 => ?_) (fun c3 => ?_)
    · rw [if_neg c3] at h
      refine xj_iinc (z := x2 + 1) (ls' := [(2, vI (x2 + 1)), (0, vR 12 0), (1, vI x1)]) 2 dX12_isTold_24 rfl rfl (by decide) rfl ?_
      refine xj_goto (tgt := 2) dX12_isTold_27 (by decide) ?_
      cases h
      refine xj_pick (ls' := [(0, vR 12 0), (1, vI x1), (2, vI (x2 + 1))]) [1, 2, 0] rfl ?_
      exact kb (x2 + 1) rfl
    · rw [if_pos c3] at h
      refine xj_iconst (z := 1) dX12_isTold_22 (by decide) ?_
      cases h
      obtain ⟨rfl, rfl⟩ := kr _ rfl
      exact xj_ireturn dX12_isTold_23 rfl (by decide) (by decide)
noncomputable def r_X12_isTold_e30_h2 (m : Mem) : Option Bool :=
  some false
set_option maxHeartbeats 4000000 in
set_option maxRecDepth 20000 in
theorem ok_X12_isTold_e30_h2 (m : Mem) {z : Bool} (h : r_X12_isTold_e30_h2 m = some z) : Xj RX12 cX12_isTold 3 (some .boolean) 1 0 0 0 0 0 30 [] [] m (oB z) m := by
  unfold r_X12_isTold_e30_h2 at h
  refine xj_iconst (z := 0) dX12_isTold_30 (by decide) ?_
  cases h
  exact xj_ireturn dX12_isTold_31 rfl (by decide) (by decide)
noncomputable def r_X12_isTold_l2 (x1 : Int32) (x2 : Int32) (m : Mem) : Option Bool :=
  bdS (loopO (fun s => r_X12_isTold_b2 x1 m s) x2) (fun e => r_X12_isTold_e30_h2 m) (fun q => some q)
set_option maxHeartbeats 4000000 in
set_option maxRecDepth 20000 in
theorem ok_X12_isTold_l2 (x1 : Int32) (x2 : Int32) (m : Mem) {z : Bool} (h : r_X12_isTold_l2 x1 x2 m = some z) : Xj RX12 cX12_isTold 3 (some .boolean) 1 0 0 0 0 0 2 [(0, vR 12 0), (1, vI x1), (2, vI x2)] [] m (oB z) m := by
  unfold r_X12_isTold_l2 at h
  rcases bdS_some h with ⟨e, e1, h⟩ | ⟨q, e1, h⟩
  · refine loopO_ok (P := fun s : (Int32) => Xj RX12 cX12_isTold 3 (some .boolean) 1 0 0 0 0 0 2 [(0, vR 12 0), (1, vI x1), (2, vI s)] [] m (oB z) m) (Q := Sum.elim (fun e : Unit => Xj RX12 cX12_isTold 3 (some .boolean) 1 0 0 0 0 0 30 [] [] m (oB z) m) (fun q : Bool => (oB z) = (oB q) ∧ m = m)) ?_ _ _ e1 ?_
    · intro s r9 h9 hi hx
      exact ok_X12_isTold_b2 x1 m s h9 (by rintro _ rfl; exact hi _ rfl) (by rintro rfl; exact hx _ rfl) (by rintro _ rfl; exact hx _ rfl)
    · exact ok_X12_isTold_e30_h2 m h 
  · refine loopO_ok (P := fun s : (Int32) => Xj RX12 cX12_isTold 3 (some .boolean) 1 0 0 0 0 0 2 [(0, vR 12 0), (1, vI x1), (2, vI s)] [] m (oB z) m) (Q := Sum.elim (fun e : Unit => Xj RX12 cX12_isTold 3 (some .boolean) 1 0 0 0 0 0 30 [] [] m (oB z) m) (fun q : Bool => (oB z) = (oB q) ∧ m = m)) ?_ _ _ e1 ?_
    · intro s r9 h9 hi hx
      exact ok_X12_isTold_b2 x1 m s h9 (by rintro _ rfl; exact hi _ rfl) (by rintro rfl; exact hx _ rfl) (by rintro _ rfl; exact hx _ rfl)
    · cases h; exact ⟨rfl, rfl⟩
noncomputable def r_X12_isTold (x1 : Int32) (m : Mem) : Option Bool :=
  r_X12_isTold_l2 x1 0 m
set_option maxHeartbeats 4000000 in
set_option maxRecDepth 20000 in
theorem ok_X12_isTold (x1 : Int32) (m : Mem) {z : Bool} (h : r_X12_isTold x1 m = some z) : Mt yX12_isTold cX12_isTold 3 (some .boolean) 1 0 0 0 [vR 12 0, vI x1] m (oB z) m := by
  refine Mt.of (by decide) (Nat.le_of_ble_eq_true rfl) (by decide +kernel) (hhF_ne (by decide)) ?_
  show Xj RX12 cX12_isTold 3 (some .boolean) 1 0 0 0 0 0 0 [(0, vR 12 0), (1, vI x1)] [] m (oB z) m
  unfold r_X12_isTold at h
  refine xj_iconst (z := 0) dX12_isTold_0 (by decide) ?_
  refine xj_istore_n (ls' := [(2, vI 0), (0, vR 12 0), (1, vI x1)]) dX12_isTold_1 rfl (by decide) rfl ?_
  refine xj_pick (ls' := [(0, vR 12 0), (1, vI x1), (2, vI 0)]) [1, 2, 0] rfl ?_
  exact ok_X12_isTold_l2 x1 0 m h 
noncomputable def r_X12_isYear (x0 : Int32) (x1 : Int32) : Bool :=
  if (r_X12_in x0 1 96) = true then (if (r_X12_in x1 0 16) = true then (true) else (false)) else (false)
set_option maxHeartbeats 4000000 in
set_option maxRecDepth 20000 in
theorem ok_X12_isYear (x0 : Int32) (x1 : Int32) (m : Mem) {z : Bool} (h : r_X12_isYear x0 x1 = z) : Mt yX12_isYear cX12_isYear 2 (some .boolean) 2 22 0 0 [vI x0, vI x1] m (oB z) m := by
  refine Mt.of (by decide) (Nat.le_of_ble_eq_true rfl) (by decide +kernel) (hhF_ne (by decide)) ?_
  show Xj RX12 cX12_isYear 2 (some .boolean) 2 22 0 0 0 0 0 [(0, vI x0), (1, vI x1)] [] m (oB z) m
  unfold r_X12_isYear at h
  refine xj_iload_n 0 dX12_isYear_0 rfl ?_
  refine xj_iconst (z := 1) dX12_isYear_1 (by decide) ?_
  refine xj_bipush (z := 96) dX12_isYear_2 (by decide) ?_
  refine xc_Sb0 (st := []) (ok_X12_in x0 1 96 m rfl) dX12_isYear_4 cs_X12_143 rfl rfl (Nat.le_of_ble_eq_true rfl) (by decide) (by decide) (by decide) (by decide) ?_
  refine xj_if_eq (tgt := 24) dX12_isYear_7 (by decide) (fun c1 => ?_) (fun c1 => ?_)
  · rw [if_neg (b2i_f c1)] at h
    refine xj_iconst (z := 0) dX12_isYear_24 (by decide) ?_
    subst h
    exact xj_ireturn dX12_isYear_25 rfl (by decide) (by decide)
  · rw [if_pos (b2i_t c1)] at h
    refine xj_iload_n 1 dX12_isYear_10 rfl ?_
    refine xj_iconst (z := 0) dX12_isYear_11 (by decide) ?_
    refine xj_bipush (z := 16) dX12_isYear_12 (by decide) ?_
    refine xc_Sb0 (st := []) (ok_X12_in x1 0 16 m rfl) dX12_isYear_14 cs_X12_143 rfl rfl (Nat.le_of_ble_eq_true rfl) (by decide) (by decide) (by decide) (by decide) ?_
    refine xj_if_eq (tgt := 24) dX12_isYear_17 (by decide) (fun c2 => ?_) (fun c2 => ?_)
    · rw [if_neg (b2i_f c2)] at h
      refine xj_iconst (z := 0) dX12_isYear_24 (by decide) ?_
      subst h
      exact xj_ireturn dX12_isYear_25 rfl (by decide) (by decide)
    · rw [if_pos (b2i_t c2)] at h
      refine xj_iconst (z := 1) dX12_isYear_20 (by decide) ?_
      refine xj_goto (tgt := 25) dX12_isYear_21 (by decide) ?_
      subst h
      exact xj_ireturn dX12_isYear_25 rfl (by decide) (by decide)
noncomputable def r_X12_tellsNothing_b2 (x1 : Int32) (m : Mem) : Option ((Int32 × Mem) ⊕ (Mem)) :=
  if 4 ≤ x1 then (some (Sum.inr m)) else (if inb x1 4 = true then (some (Sum.inl (x1 + 1, (wr m 51 0 x1.toNatClampNeg 0)))) else none)
set_option maxHeartbeats 4000000 in
set_option maxRecDepth 20000 in
theorem ok_X12_tellsNothing_b2 (x1 : Int32) (m : Mem) {r : (Int32 × Mem) ⊕ (Mem)} (h : r_X12_tellsNothing_b2 x1 m = some r) {o : Ou} {M' : Mem} (kb : ∀ (x1' : Int32) (m'' : Mem), r = Sum.inl (x1', m'') → Xj RX12 cX12_tellsNothing 3 none 1 0 0 0 0 0 2 [(0, vR 12 0), (1, vI x1')] [] m'' o M') (ke : ∀ (m'' : Mem), r = Sum.inr m'' → Xj RX12 cX12_tellsNothing 3 none 1 0 0 0 0 0 20 [(0, vR 12 0)] [] m'' o M') : Xj RX12 cX12_tellsNothing 3 none 1 0 0 0 0 0 2 [(0, vR 12 0), (1, vI x1)] [] m o M' := by
  unfold r_X12_tellsNothing_b2 at h
  refine xj_iload_n 1 dX12_tellsNothing_2 rfl ?_
  refine xj_iconst (z := 4) dX12_tellsNothing_3 (by decide) ?_
  refine xj_icmp_ge (tgt := 20) dX12_tellsNothing_4 (by decide) (fun c1 => ?_) (fun c1 => ?_)
  · rw [if_pos c1] at h
    cases h
    refine xj_pick (ls' := [(0, vR 12 0)]) [0] rfl ?_
    exact ke m rfl
  · rw [if_neg c1] at h
    refine xj_aload_n 0 dX12_tellsNothing_7 rfl ?_
    refine xg_getR (k' := 51) (i' := 0) dX12_tellsNothing_8 fl_X12_20 rfl ?_
    refine xj_iload_n 1 dX12_tellsNothing_11 rfl ?_
    refine xj_iconst (z := 0) dX12_tellsNothing_12 (by decide) ?_
    by_cases c2 : inb x1 4 = true
    case neg => rw [if_neg c2] at h; cases h
    rw [if_pos c2] at h
    refine xg_iast (n := x1.toNatClampNeg) dX12_tellsNothing_13 rfl (by decide) (inb_in c2) rfl ?_
    refine xj_iinc (z := x1 + 1) (ls' := [(1, vI (x1 + 1)), (0, vR 12 0)]) 1 dX12_tellsNothing_14 rfl rfl (by decide) rfl ?_
    refine xj_goto (tgt := 2) dX12_tellsNothing_17 (by decide) ?_
    cases h
    refine xj_pick (ls' := [(0, vR 12 0), (1, vI (x1 + 1))]) [1, 0] rfl ?_
    exact kb (x1 + 1) (wr m 51 0 x1.toNatClampNeg 0) rfl
noncomputable def r_X12_tellsNothing_b30_c22 (x1 : Int32) (x2 : Int32) (m : Mem) : Option ((Int32 × Mem) ⊕ (Mem)) :=
  if 12 ≤ x2 then (some (Sum.inr m)) else (if inb x1 6 = true then (if inb x2 12 = true then (some (Sum.inl (x2 + 1, (wr m 69 x1.toNatClampNeg x2.toNatClampNeg (-1))))) else none) else none)
set_option maxHeartbeats 4000000 in
set_option maxRecDepth 20000 in
theorem ok_X12_tellsNothing_b30_c22 (x1 : Int32) (x2 : Int32) (m : Mem) {r : (Int32 × Mem) ⊕ (Mem)} (h : r_X12_tellsNothing_b30_c22 x1 x2 m = some r) {o : Ou} {M' : Mem} (kb : ∀ (x2' : Int32) (m'' : Mem), r = Sum.inl (x2', m'') → Xj RX12 cX12_tellsNothing 3 none 1 0 0 0 0 0 30 [(0, vR 12 0), (1, vI x1), (2, vI x2')] [] m'' o M') (ke : ∀ (m'' : Mem), r = Sum.inr m'' → Xj RX12 cX12_tellsNothing 3 none 1 0 0 0 0 0 51 [(0, vR 12 0), (1, vI x1)] [] m'' o M') : Xj RX12 cX12_tellsNothing 3 none 1 0 0 0 0 0 30 [(0, vR 12 0), (1, vI x1), (2, vI x2)] [] m o M' := by
  unfold r_X12_tellsNothing_b30_c22 at h
  refine xj_iload_n 2 dX12_tellsNothing_30 rfl ?_
  refine xj_bipush (z := 12) dX12_tellsNothing_31 (by decide) ?_
  refine xj_icmp_ge (tgt := 51) dX12_tellsNothing_33 (by decide) (fun c4 => ?_) (fun c4 => ?_)
  · rw [if_pos c4] at h
    cases h
    refine xj_pick (ls' := [(0, vR 12 0), (1, vI x1)]) [0, 1] rfl ?_
    exact ke m rfl
  · rw [if_neg c4] at h
    refine xj_aload_n 0 dX12_tellsNothing_36 rfl ?_
    refine xg_getR (k' := 70) (i' := 0) dX12_tellsNothing_37 fl_X12_46 rfl ?_
    refine xj_iload_n 1 dX12_tellsNothing_40 rfl ?_
    by_cases c5 : inb x1 6 = true
    case neg => rw [if_neg c5] at h; cases h
    rw [if_pos c5] at h
    refine xg_aald (k' := 69) (i' := x1.toNatClampNeg) (n := x1.toNatClampNeg) dX12_tellsNothing_41 rfl (by decide) (inb_in c5) rfl rfl ?_
    refine xj_iload_n 2 dX12_tellsNothing_42 rfl ?_
    refine xj_iconst (z := (-1)) dX12_tellsNothing_43 (by decide) ?_
    by_cases c6 : inb x2 12 = true
    case neg => rw [if_neg c6] at h; cases h
    rw [if_pos c6] at h
    refine xg_iast (n := x2.toNatClampNeg) dX12_tellsNothing_44 rfl (by decide) (inb_in c6) rfl ?_
    refine xj_iinc (z := x2 + 1) (ls' := [(2, vI (x2 + 1)), (0, vR 12 0), (1, vI x1)]) 2 dX12_tellsNothing_45 rfl rfl (by decide) rfl ?_
    refine xj_goto (tgt := 30) dX12_tellsNothing_48 (by decide) ?_
    cases h
    refine xj_pick (ls' := [(0, vR 12 0), (1, vI x1), (2, vI (x2 + 1))]) [1, 2, 0] rfl ?_
    exact kb (x2 + 1) (wr m 69 x1.toNatClampNeg x2.toNatClampNeg (-1)) rfl
noncomputable def r_X12_tellsNothing_e51_h30_c22 (x1 : Int32) (m : Mem) : Option ((Int32 × Mem) ⊕ (Mem)) :=
  some (Sum.inl (x1 + 1, m))
set_option maxHeartbeats 4000000 in
set_option maxRecDepth 20000 in
theorem ok_X12_tellsNothing_e51_h30_c22 (x1 : Int32) (m : Mem) {r : (Int32 × Mem) ⊕ (Mem)} (h : r_X12_tellsNothing_e51_h30_c22 x1 m = some r) {o : Ou} {M' : Mem} (kb : ∀ (x1' : Int32) (m'' : Mem), r = Sum.inl (x1', m'') → Xj RX12 cX12_tellsNothing 3 none 1 0 0 0 0 0 22 [(0, vR 12 0), (1, vI x1')] [] m'' o M') (ke : ∀ (m'' : Mem), r = Sum.inr m'' → Xj RX12 cX12_tellsNothing 3 none 1 0 0 0 0 0 57 [] [] m'' o M') : Xj RX12 cX12_tellsNothing 3 none 1 0 0 0 0 0 51 [(0, vR 12 0), (1, vI x1)] [] m o M' := by
  unfold r_X12_tellsNothing_e51_h30_c22 at h
  refine xj_iinc (z := x1 + 1) (ls' := [(1, vI (x1 + 1)), (0, vR 12 0)]) 1 dX12_tellsNothing_51 rfl rfl (by decide) rfl ?_
  refine xj_goto (tgt := 22) dX12_tellsNothing_54 (by decide) ?_
  cases h
  refine xj_pick (ls' := [(0, vR 12 0), (1, vI (x1 + 1))]) [1, 0] rfl ?_
  exact kb (x1 + 1) m rfl
noncomputable def r_X12_tellsNothing_l30_c22 (x1 : Int32) (x2 : Int32) (m : Mem) : Option ((Int32 × Mem) ⊕ (Mem)) :=
  bd1 (loopO (fun s => r_X12_tellsNothing_b30_c22 x1 s.1 s.2) (x2, m)) (fun e => r_X12_tellsNothing_e51_h30_c22 x1 e)
set_option maxHeartbeats 4000000 in
set_option maxRecDepth 20000 in
theorem ok_X12_tellsNothing_l30_c22 (x1 : Int32) (x2 : Int32) (m : Mem) {r : (Int32 × Mem) ⊕ (Mem)} (h : r_X12_tellsNothing_l30_c22 x1 x2 m = some r) {o : Ou} {M' : Mem} (kb : ∀ (x1' : Int32) (m'' : Mem), r = Sum.inl (x1', m'') → Xj RX12 cX12_tellsNothing 3 none 1 0 0 0 0 0 22 [(0, vR 12 0), (1, vI x1')] [] m'' o M') (ke : ∀ (m'' : Mem), r = Sum.inr m'' → Xj RX12 cX12_tellsNothing 3 none 1 0 0 0 0 0 57 [] [] m'' o M') : Xj RX12 cX12_tellsNothing 3 none 1 0 0 0 0 0 30 [(0, vR 12 0), (1, vI x1), (2, vI x2)] [] m o M' := by
  unfold r_X12_tellsNothing_l30_c22 at h
  obtain ⟨e, e1, h⟩ := bd1_some h
  refine loopO_ok (P := fun s : (Int32 × Mem) => Xj RX12 cX12_tellsNothing 3 none 1 0 0 0 0 0 30 [(0, vR 12 0), (1, vI x1), (2, vI s.1)] [] s.2 o M') (Q := fun e : (Mem) => Xj RX12 cX12_tellsNothing 3 none 1 0 0 0 0 0 51 [(0, vR 12 0), (1, vI x1)] [] e o M') ?_ _ _ e1 ?_
  · intro s r9 h9 hi hx
    exact ok_X12_tellsNothing_b30_c22 x1 s.1 s.2 h9 (by rintro _ _ rfl; exact hi _ rfl) (by rintro _ rfl; exact hx _ rfl)
  · exact ok_X12_tellsNothing_e51_h30_c22 x1 e h kb ke
noncomputable def r_X12_tellsNothing_b22 (x1 : Int32) (m : Mem) : Option ((Int32 × Mem) ⊕ (Mem)) :=
  if 6 ≤ x1 then (some (Sum.inr m)) else (r_X12_tellsNothing_l30_c22 x1 0 m)
set_option maxHeartbeats 4000000 in
set_option maxRecDepth 20000 in
theorem ok_X12_tellsNothing_b22 (x1 : Int32) (m : Mem) {r : (Int32 × Mem) ⊕ (Mem)} (h : r_X12_tellsNothing_b22 x1 m = some r) {o : Ou} {M' : Mem} (kb : ∀ (x1' : Int32) (m'' : Mem), r = Sum.inl (x1', m'') → Xj RX12 cX12_tellsNothing 3 none 1 0 0 0 0 0 22 [(0, vR 12 0), (1, vI x1')] [] m'' o M') (ke : ∀ (m'' : Mem), r = Sum.inr m'' → Xj RX12 cX12_tellsNothing 3 none 1 0 0 0 0 0 57 [] [] m'' o M') : Xj RX12 cX12_tellsNothing 3 none 1 0 0 0 0 0 22 [(0, vR 12 0), (1, vI x1)] [] m o M' := by
  unfold r_X12_tellsNothing_b22 at h
  refine xj_iload_n 1 dX12_tellsNothing_22 rfl ?_
  refine xj_bipush (z := 6) dX12_tellsNothing_23 (by decide) ?_
  refine xj_icmp_ge (tgt := 57) dX12_tellsNothing_25 (by decide) (fun c3 => ?_) (fun c3 => ?_)
  · rw [if_pos c3] at h
    cases h
    refine xj_pick (ls' := []) [] rfl ?_
    exact ke m rfl
  · rw [if_neg c3] at h
    refine xj_iconst (z := 0) dX12_tellsNothing_28 (by decide) ?_
    refine xj_istore_n (ls' := [(2, vI 0), (0, vR 12 0), (1, vI x1)]) dX12_tellsNothing_29 rfl (by decide) rfl ?_
    refine xj_pick (ls' := [(0, vR 12 0), (1, vI x1), (2, vI 0)]) [1, 2, 0] rfl ?_
    exact ok_X12_tellsNothing_l30_c22 x1 0 m h kb ke
noncomputable def r_X12_tellsNothing_e57_h22 (m : Mem) : Option Mem :=
  some m
set_option maxHeartbeats 4000000 in
set_option maxRecDepth 20000 in
theorem ok_X12_tellsNothing_e57_h22 (m : Mem) {m' : Mem} (h : r_X12_tellsNothing_e57_h22 m = some m') : Xj RX12 cX12_tellsNothing 3 none 1 0 0 0 0 0 57 [] [] m oV m' := by
  unfold r_X12_tellsNothing_e57_h22 at h
  cases h
  exact xj_return dX12_tellsNothing_57 (by decide) (by decide)
noncomputable def r_X12_tellsNothing_l22 (x1 : Int32) (m : Mem) : Option Mem :=
  bd1 (loopO (fun s => r_X12_tellsNothing_b22 s.1 s.2) (x1, m)) (fun e => r_X12_tellsNothing_e57_h22 e)
set_option maxHeartbeats 4000000 in
set_option maxRecDepth 20000 in
theorem ok_X12_tellsNothing_l22 (x1 : Int32) (m : Mem) {m' : Mem} (h : r_X12_tellsNothing_l22 x1 m = some m') : Xj RX12 cX12_tellsNothing 3 none 1 0 0 0 0 0 22 [(0, vR 12 0), (1, vI x1)] [] m oV m' := by
  unfold r_X12_tellsNothing_l22 at h
  obtain ⟨e, e1, h⟩ := bd1_some h
  refine loopO_ok (P := fun s : (Int32 × Mem) => Xj RX12 cX12_tellsNothing 3 none 1 0 0 0 0 0 22 [(0, vR 12 0), (1, vI s.1)] [] s.2 oV m') (Q := fun e : (Mem) => Xj RX12 cX12_tellsNothing 3 none 1 0 0 0 0 0 57 [] [] e oV m') ?_ _ _ e1 ?_
  · intro s r9 h9 hi hx
    exact ok_X12_tellsNothing_b22 s.1 s.2 h9 (by rintro _ _ rfl; exact hi _ rfl) (by rintro _ rfl; exact hx _ rfl)
  · exact ok_X12_tellsNothing_e57_h22 e h 
noncomputable def r_X12_tellsNothing_e20_h2 (m : Mem) : Option Mem :=
  r_X12_tellsNothing_l22 0 m
set_option maxHeartbeats 4000000 in
set_option maxRecDepth 20000 in
theorem ok_X12_tellsNothing_e20_h2 (m : Mem) {m' : Mem} (h : r_X12_tellsNothing_e20_h2 m = some m') : Xj RX12 cX12_tellsNothing 3 none 1 0 0 0 0 0 20 [(0, vR 12 0)] [] m oV m' := by
  unfold r_X12_tellsNothing_e20_h2 at h
  refine xj_iconst (z := 0) dX12_tellsNothing_20 (by decide) ?_
  refine xj_istore_n (ls' := [(1, vI 0), (0, vR 12 0)]) dX12_tellsNothing_21 rfl (by decide) rfl ?_
  refine xj_pick (ls' := [(0, vR 12 0), (1, vI 0)]) [1, 0] rfl ?_
  exact ok_X12_tellsNothing_l22 0 m h 
noncomputable def r_X12_tellsNothing_l2 (x1 : Int32) (m : Mem) : Option Mem :=
  bd1 (loopO (fun s => r_X12_tellsNothing_b2 s.1 s.2) (x1, m)) (fun e => r_X12_tellsNothing_e20_h2 e)
set_option maxHeartbeats 4000000 in
set_option maxRecDepth 20000 in
theorem ok_X12_tellsNothing_l2 (x1 : Int32) (m : Mem) {m' : Mem} (h : r_X12_tellsNothing_l2 x1 m = some m') : Xj RX12 cX12_tellsNothing 3 none 1 0 0 0 0 0 2 [(0, vR 12 0), (1, vI x1)] [] m oV m' := by
  unfold r_X12_tellsNothing_l2 at h
  obtain ⟨e, e1, h⟩ := bd1_some h
  refine loopO_ok (P := fun s : (Int32 × Mem) => Xj RX12 cX12_tellsNothing 3 none 1 0 0 0 0 0 2 [(0, vR 12 0), (1, vI s.1)] [] s.2 oV m') (Q := fun e : (Mem) => Xj RX12 cX12_tellsNothing 3 none 1 0 0 0 0 0 20 [(0, vR 12 0)] [] e oV m') ?_ _ _ e1 ?_
  · intro s r9 h9 hi hx
    exact ok_X12_tellsNothing_b2 s.1 s.2 h9 (by rintro _ _ rfl; exact hi _ rfl) (by rintro _ rfl; exact hx _ rfl)
  · exact ok_X12_tellsNothing_e20_h2 e h 
noncomputable def r_X12_tellsNothing (m : Mem) : Option Mem :=
  r_X12_tellsNothing_l2 0 m
set_option maxHeartbeats 4000000 in
set_option maxRecDepth 20000 in
theorem ok_X12_tellsNothing (m : Mem) {m' : Mem} (h : r_X12_tellsNothing m = some m') : Mt yX12_tellsNothing cX12_tellsNothing 3 none 1 0 0 0 [vR 12 0] m oV m' := by
  refine Mt.of (by decide) (Nat.le_of_ble_eq_true rfl) (by decide +kernel) (hhF_ne (by decide)) ?_
  show Xj RX12 cX12_tellsNothing 3 none 1 0 0 0 0 0 0 [(0, vR 12 0)] [] m oV m'
  unfold r_X12_tellsNothing at h
  refine xj_iconst (z := 0) dX12_tellsNothing_0 (by decide) ?_
  refine xj_istore_n (ls' := [(1, vI 0), (0, vR 12 0)]) dX12_tellsNothing_1 rfl (by decide) rfl ?_
  refine xj_pick (ls' := [(0, vR 12 0), (1, vI 0)]) [1, 0] rfl ?_
  exact ok_X12_tellsNothing_l2 0 m h 
noncomputable def r_X12_land_b42 (m : Mem) : Option ((Mem) ⊕ (Mem)) :=
  if (m 12 0 5) = 0 then (if (m 12 0 2) ≤ (m 12 0 4) then (some (Sum.inr m)) else (bd1 (r_X12_clause m) fun m13 => (bd1 (r_X12_blanks m13) fun m15 => (some (Sum.inl m15))))) else (some (Sum.inr m))
set_option maxHeartbeats 4000000 in
set_option maxRecDepth 20000 in
theorem ok_X12_land_b42 (m : Mem) {r : (Mem) ⊕ (Mem)} (h : r_X12_land_b42 m = some r) {o : Ou} {M' : Mem} (kb : ∀ (m'' : Mem), r = Sum.inl m'' → Xj RX12 cX12_land 2 (some .int) 7 135 0 0 0 0 42 [(0, vR 12 0)] [] m'' o M') (ke : ∀ (m'' : Mem), r = Sum.inr m'' → Xj RX12 cX12_land 2 (some .int) 7 135 0 0 0 0 71 [(0, vR 12 0)] [] m'' o M') : Xj RX12 cX12_land 2 (some .int) 7 135 0 0 0 0 42 [(0, vR 12 0)] [] m o M' := by
  unfold r_X12_land_b42 at h
  refine xj_aload_n 0 dX12_land_42 rfl ?_
  refine xg_getI (x := (m 12 0 5)) dX12_land_43 fl_X12_125 rfl rfl ?_
  refine xj_if_ne (tgt := 71) dX12_land_46 (by decide) (fun c10 => ?_) (fun c10 => ?_)
  · rw [if_neg c10] at h
    cases h
    exact ke m rfl
  · rw [if_pos c10] at h
    refine xj_aload_n 0 dX12_land_49 rfl ?_
    refine xg_getI (x := (m 12 0 4)) dX12_land_50 fl_X12_118 rfl rfl ?_
    refine xj_aload_n 0 dX12_land_53 rfl ?_
    refine xg_getI (x := (m 12 0 2)) dX12_land_54 fl_X12_115 rfl rfl ?_
    refine xj_icmp_ge (tgt := 71) dX12_land_57 (by decide) (fun c11 => ?_) (fun c11 => ?_)
    · rw [if_pos c11] at h
      cases h
      exact ke m rfl
    · rw [if_neg c11] at h
      refine xj_aload_n 0 dX12_land_60 rfl ?_
      obtain ⟨m13, e12, h⟩ := bd1_some h
      refine xc_Vv0 (st := []) (ok_X12_clause m e12) dX12_land_61 cv_X12_198 rfl rfl (Nat.le_of_ble_eq_true rfl) (by decide) (by decide) (by decide) (by decide) ?_
      refine xj_aload_n 0 dX12_land_64 rfl ?_
      obtain ⟨m15, e14, h⟩ := bd1_some h
      refine xc_Vv0 (st := []) (ok_X12_blanks m13 e14) dX12_land_65 cv_X12_131 rfl rfl (Nat.le_of_ble_eq_true rfl) (by decide) (by decide) (by decide) (by decide) ?_
      refine xj_goto (tgt := 42) dX12_land_68 (by decide) ?_
      cases h
      exact kb m15 rfl
noncomputable def r_X12_land_j71 (m : Mem) : Option (Int32 × Mem) :=
  if (m 12 0 5) = 0 then (bd1 (r_X12_beginsAnew (wr m 12 0 3 (-1))) fun m18 => (some ((m18 52 0 0), m18))) else (bd2 (r_X12_ends m) fun z21 m20 => (some (z21, m20)))
set_option maxHeartbeats 4000000 in
set_option maxRecDepth 20000 in
theorem ok_X12_land_j71 (m : Mem) {z : Int32} {m' : Mem} (h : r_X12_land_j71 m = some (z, m')) : Xj RX12 cX12_land 2 (some .int) 7 135 0 0 0 0 71 [(0, vR 12 0)] [] m (oI z) m' := by
  unfold r_X12_land_j71 at h
  refine xj_aload_n 0 dX12_land_71 rfl ?_
  refine xg_getI (x := (m 12 0 5)) dX12_land_72 fl_X12_125 rfl rfl ?_
  refine xj_if_eq (tgt := 83) dX12_land_75 (by decide) (fun c16 => ?_) (fun c16 => ?_)
  · rw [if_pos c16] at h
    refine xj_aload_n 0 dX12_land_83 rfl ?_
    refine xj_iconst (z := (-1)) dX12_land_84 (by decide) ?_
    refine xj_putI dX12_land_85 fw_X12_9 rfl ?_
    refine xj_aload_n 0 dX12_land_88 rfl ?_
    obtain ⟨m18, e17, h⟩ := bd1_some h
    refine xc_Vv0 (st := []) (ok_X12_beginsAnew (wr m 12 0 3 (-1)) e17) dX12_land_89 cv_X12_106 rfl rfl (Nat.le_of_ble_eq_true rfl) (by decide) (by decide) (by decide) (by decide) ?_
    refine xj_aload_n 0 dX12_land_92 rfl ?_
    refine xg_getR (k' := 52) (i' := 0) dX12_land_93 fl_X12_23 rfl ?_
    refine xj_iconst (z := 0) dX12_land_96 (by decide) ?_
    refine xg_iald (z := (m18 52 0 0)) (n := 0) dX12_land_97 rfl (by decide) (inb_in (by decide)) (by decide) rfl ?_
    cases h
    exact xj_ireturn dX12_land_98 rfl (by decide) (by decide)
  · rw [if_neg c16] at h
    refine xj_aload_n 0 dX12_land_78 rfl ?_
    obtain ⟨z21, m20, e19, h⟩ := bd2_some h
    refine xc_Vi0 (st := []) (ok_X12_ends m e19) dX12_land_79 cv_X12_201 rfl rfl (Nat.le_of_ble_eq_true rfl) (by decide) (by decide) (by decide) (by decide) ?_
    cases h
    exact xj_ireturn dX12_land_82 rfl (by decide) (by decide)
noncomputable def r_X12_land_e71_h42 (m : Mem) : Option (Int32 × Mem) :=
  r_X12_land_j71 m
set_option maxHeartbeats 4000000 in
set_option maxRecDepth 20000 in
theorem ok_X12_land_e71_h42 (m : Mem) {z : Int32} {m' : Mem} (h : r_X12_land_e71_h42 m = some (z, m')) : Xj RX12 cX12_land 2 (some .int) 7 135 0 0 0 0 71 [(0, vR 12 0)] [] m (oI z) m' := by
  unfold r_X12_land_e71_h42 at h
  exact ok_X12_land_j71 m h 
noncomputable def r_X12_land_l42 (m : Mem) : Option (Int32 × Mem) :=
  bd1 (loopO (fun s => r_X12_land_b42 s) m) (fun e => r_X12_land_e71_h42 e)
set_option maxHeartbeats 4000000 in
set_option maxRecDepth 20000 in
theorem ok_X12_land_l42 (m : Mem) {z : Int32} {m' : Mem} (h : r_X12_land_l42 m = some (z, m')) : Xj RX12 cX12_land 2 (some .int) 7 135 0 0 0 0 42 [(0, vR 12 0)] [] m (oI z) m' := by
  unfold r_X12_land_l42 at h
  obtain ⟨e, e1, h⟩ := bd1_some h
  refine loopO_ok (P := fun s : (Mem) => Xj RX12 cX12_land 2 (some .int) 7 135 0 0 0 0 42 [(0, vR 12 0)] [] s (oI z) m') (Q := fun e : (Mem) => Xj RX12 cX12_land 2 (some .int) 7 135 0 0 0 0 71 [(0, vR 12 0)] [] e (oI z) m') ?_ _ _ e1 ?_
  · intro s r9 h9 hi hx
    exact ok_X12_land_b42 s h9 (by rintro _ rfl; exact hi _ rfl) (by rintro _ rfl; exact hx _ rfl)
  · exact ok_X12_land_e71_h42 e h 
noncomputable def r_X12_land_j23 (x1 : Int32) (s0 : Int32) (m : Mem) : Option (Int32 × Mem) :=
  bd2 (r_X12_bad s0 1 1 m) fun z4 m3 => (if z4 = true then (some (0, m3)) else (bd1 (r_X12_starts x1 m3) fun m7 => (bd1 (r_X12_tellsNothing m7) fun m9 => (r_X12_land_l42 m9))))
set_option maxHeartbeats 4000000 in
set_option maxRecDepth 20000 in
theorem ok_X12_land_j23 (x1 : Int32) (s0 : Int32) (m : Mem) {z : Int32} {m' : Mem} (h : r_X12_land_j23 x1 s0 m = some (z, m')) : Xj RX12 cX12_land 2 (some .int) 7 135 0 0 0 0 23 [(0, vR 12 0), (1, vI x1)] [vI s0, vR 12 0] m (oI z) m' := by
  unfold r_X12_land_j23 at h
  refine xj_iconst (z := 1) dX12_land_23 (by decide) ?_
  refine xj_iconst (z := 1) dX12_land_24 (by decide) ?_
  obtain ⟨z4, m3, e2, h⟩ := bd2_some h
  refine xc_Vb0 (st := []) (ok_X12_bad s0 1 1 m e2) dX12_land_25 cv_X12_191 rfl rfl (Nat.le_of_ble_eq_true rfl) (by decide) (by decide) (by decide) (by decide) ?_
  refine xj_if_eq (tgt := 33) dX12_land_28 (by decide) (fun c5 => ?_) (fun c5 => ?_)
  · rw [if_neg (b2i_f c5)] at h
    refine xj_aload_n 0 dX12_land_33 rfl ?_
    refine xj_iload_n 1 dX12_land_34 rfl ?_
    obtain ⟨m7, e6, h⟩ := bd1_some h
    refine xc_Vv0 (st := []) (ok_X12_starts x1 m3 e6) dX12_land_35 cv_X12_195 rfl rfl (Nat.le_of_ble_eq_true rfl) (by decide) (by decide) (by decide) (by decide) ?_
    refine xj_aload_n 0 dX12_land_38 rfl ?_
    obtain ⟨m9, e8, h⟩ := bd1_some h
    refine xc_Vv0 (st := []) (ok_X12_tellsNothing m7 e8) dX12_land_39 cv_X12_103 rfl rfl (Nat.le_of_ble_eq_true rfl) (by decide) (by decide) (by decide) (by decide) ?_
    refine xj_pick (ls' := [(0, vR 12 0)]) [0] rfl ?_
    exact ok_X12_land_l42 m9 h 
  · rw [if_pos (b2i_t c5)] at h
    refine xj_iconst (z := 0) dX12_land_31 (by decide) ?_
    cases h
    exact xj_ireturn dX12_land_32 rfl (by decide) (by decide)
noncomputable def r_X12_land (x1 : Int32) (m : Mem) : Option (Int32 × Mem) :=
  if (r_X12_in x1 0 (m 12 0 1)) = true then (r_X12_land_j23 x1 0 (wr m 12 0 0 0)) else (r_X12_land_j23 x1 1 (wr m 12 0 0 0))
set_option maxHeartbeats 4000000 in
set_option maxRecDepth 20000 in
theorem ok_X12_land (x1 : Int32) (m : Mem) {z : Int32} {m' : Mem} (h : r_X12_land x1 m = some (z, m')) : Mt yX12_land cX12_land 2 (some .int) 7 135 0 0 [vR 12 0, vI x1] m (oI z) m' := by
  refine Mt.of (by decide) (Nat.le_of_ble_eq_true rfl) (by decide +kernel) (hhF_ne (by decide)) ?_
  show Xj RX12 cX12_land 2 (some .int) 7 135 0 0 0 0 0 [(0, vR 12 0), (1, vI x1)] [] m (oI z) m'
  unfold r_X12_land at h
  refine xj_aload_n 0 dX12_land_0 rfl ?_
  refine xj_iconst (z := 0) dX12_land_1 (by decide) ?_
  refine xj_putI dX12_land_2 fw_X12_109 rfl ?_
  refine xj_aload_n 0 dX12_land_5 rfl ?_
  refine xj_iload_n 1 dX12_land_6 rfl ?_
  refine xj_iconst (z := 0) dX12_land_7 (by decide) ?_
  refine xj_aload_n 0 dX12_land_8 rfl ?_
  refine xg_getI (x := (m 12 0 1)) dX12_land_9 fl_X12_112 rfl rfl ?_
  refine xc_Sb0 (st := [vR 12 0]) (ok_X12_in x1 0 (m 12 0 1) (wr m 12 0 0 0) rfl) dX12_land_12 cs_X12_143 rfl rfl (Nat.le_of_ble_eq_true rfl) (by decide) (by decide) (by decide) (by decide) ?_
  refine xj_if_ne (tgt := 22) dX12_land_15 (by decide) (fun c1 => ?_) (fun c1 => ?_)
  · rw [if_pos (b2i_t c1)] at h
    refine xj_iconst (z := 0) dX12_land_22 (by decide) ?_
    exact ok_X12_land_j23 x1 0 (wr m 12 0 0 0) h 
  · rw [if_neg (b2i_f c1)] at h
    refine xj_iconst (z := 1) dX12_land_18 (by decide) ?_
    refine xj_goto (tgt := 23) dX12_land_19 (by decide) ?_
    exact ok_X12_land_j23 x1 1 (wr m 12 0 0 0) h 
noncomputable def r_X12_lays_76_74_b10_c2 (x2 : Int32) (x3 : Int32) (x4 : Int32) (m : Mem) : Option ((Int32 × Mem) ⊕ (Mem)) :=
  if inb x3 160 = true then (if 2 ≤ x4 then (some (Sum.inr m)) else (if inb x4 2 = true then (some (Sum.inl (x4 + 1, (wr m 73 x3.toNatClampNeg x4.toNatClampNeg (m 75 x3.toNatClampNeg x4.toNatClampNeg))))) else none)) else none
set_option maxHeartbeats 4000000 in
set_option maxRecDepth 20000 in
theorem ok_X12_lays_76_74_b10_c2 (x2 : Int32) (x3 : Int32) (x4 : Int32) (m : Mem) {r : (Int32 × Mem) ⊕ (Mem)} (h : r_X12_lays_76_74_b10_c2 x2 x3 x4 m = some r) {o : Ou} {M' : Mem} (kb : ∀ (x4' : Int32) (m'' : Mem), r = Sum.inl (x4', m'') → Xj RX12 cX12_lays 5 none 1 0 0 0 0 0 10 [(0, vR 76 0), (1, vR 74 0), (2, vI x2), (3, vI x3), (4, vI x4')] [] m'' o M') (ke : ∀ (m'' : Mem), r = Sum.inr m'' → Xj RX12 cX12_lays 5 none 1 0 0 0 0 0 37 [(0, vR 76 0), (1, vR 74 0), (2, vI x2), (3, vI x3)] [] m'' o M') : Xj RX12 cX12_lays 5 none 1 0 0 0 0 0 10 [(0, vR 76 0), (1, vR 74 0), (2, vI x2), (3, vI x3), (4, vI x4)] [] m o M' := by
  unfold r_X12_lays_76_74_b10_c2 at h
  refine xj_iload 4 dX12_lays_10 rfl ?_
  refine xj_aload_n 1 dX12_lays_12 rfl ?_
  refine xj_iload_n 3 dX12_lays_13 rfl ?_
  by_cases c2 : inb x3 160 = true
  case neg => rw [if_neg c2] at h; cases h
  rw [if_pos c2] at h
  refine xg_aald (k' := 73) (i' := x3.toNatClampNeg) (n := x3.toNatClampNeg) dX12_lays_14 rfl (by decide) (inb_in c2) rfl rfl ?_
  refine xj_alen (x := 2) dX12_lays_15 (by decide) (by decide) (by decide) (by decide) ?_
  refine xj_icmp_ge (tgt := 37) dX12_lays_16 (by decide) (fun c3 => ?_) (fun c3 => ?_)
  · rw [if_pos c3] at h
    cases h
    refine xj_pick (ls' := [(0, vR 76 0), (1, vR 74 0), (2, vI x2), (3, vI x3)]) [0, 1, 2, 3] rfl ?_
    exact ke m rfl
  · rw [if_neg c3] at h
    refine xj_aload_n 1 dX12_lays_19 rfl ?_
    refine xj_iload_n 3 dX12_lays_20 rfl ?_
    refine xg_aald (k' := 73) (i' := x3.toNatClampNeg) (n := x3.toNatClampNeg) dX12_lays_21 rfl (by decide) (inb_in c2) rfl rfl ?_
    refine xj_iload 4 dX12_lays_22 rfl ?_
    refine xj_aload_n 0 dX12_lays_24 rfl ?_
    refine xj_iload_n 3 dX12_lays_25 rfl ?_
    refine xg_aald (k' := 75) (i' := x3.toNatClampNeg) (n := x3.toNatClampNeg) dX12_lays_26 rfl (by decide) (inb_in c2) rfl rfl ?_
    refine xj_iload 4 dX12_lays_27 rfl ?_
    by_cases c4 : inb x4 2 = true
    case neg => rw [if_neg c4] at h; cases h
    rw [if_pos c4] at h
    refine xg_iald (z := (m 75 x3.toNatClampNeg x4.toNatClampNeg)) (n := x4.toNatClampNeg) dX12_lays_29 rfl (by decide) (inb_in c4) rfl rfl ?_
    refine xg_iast (n := x4.toNatClampNeg) dX12_lays_30 rfl (by decide) (inb_in c4) rfl ?_
    refine xj_iinc (z := x4 + 1) (ls' := [(4, vI (x4 + 1)), (0, vR 76 0), (1, vR 74 0), (2, vI x2), (3, vI x3)]) 4 dX12_lays_31 rfl rfl (by decide) rfl ?_
    refine xj_goto (tgt := 10) dX12_lays_34 (by decide) ?_
    cases h
    refine xj_pick (ls' := [(0, vR 76 0), (1, vR 74 0), (2, vI x2), (3, vI x3), (4, vI (x4 + 1))]) [1, 2, 3, 4, 0] rfl ?_
    exact kb (x4 + 1) (wr m 73 x3.toNatClampNeg x4.toNatClampNeg (m 75 x3.toNatClampNeg x4.toNatClampNeg)) rfl
noncomputable def r_X12_lays_76_74_e37_h10_c2 (x2 : Int32) (x3 : Int32) (m : Mem) : Option ((Int32 × Mem) ⊕ (Mem)) :=
  some (Sum.inl (x3 + 1, m))
set_option maxHeartbeats 4000000 in
set_option maxRecDepth 20000 in
theorem ok_X12_lays_76_74_e37_h10_c2 (x2 : Int32) (x3 : Int32) (m : Mem) {r : (Int32 × Mem) ⊕ (Mem)} (h : r_X12_lays_76_74_e37_h10_c2 x2 x3 m = some r) {o : Ou} {M' : Mem} (kb : ∀ (x3' : Int32) (m'' : Mem), r = Sum.inl (x3', m'') → Xj RX12 cX12_lays 5 none 1 0 0 0 0 0 2 [(0, vR 76 0), (1, vR 74 0), (2, vI x2), (3, vI x3')] [] m'' o M') (ke : ∀ (m'' : Mem), r = Sum.inr m'' → Xj RX12 cX12_lays 5 none 1 0 0 0 0 0 43 [] [] m'' o M') : Xj RX12 cX12_lays 5 none 1 0 0 0 0 0 37 [(0, vR 76 0), (1, vR 74 0), (2, vI x2), (3, vI x3)] [] m o M' := by
  unfold r_X12_lays_76_74_e37_h10_c2 at h
  refine xj_iinc (z := x3 + 1) (ls' := [(3, vI (x3 + 1)), (0, vR 76 0), (1, vR 74 0), (2, vI x2)]) 3 dX12_lays_37 rfl rfl (by decide) rfl ?_
  refine xj_goto (tgt := 2) dX12_lays_40 (by decide) ?_
  cases h
  refine xj_pick (ls' := [(0, vR 76 0), (1, vR 74 0), (2, vI x2), (3, vI (x3 + 1))]) [1, 2, 3, 0] rfl ?_
  exact kb (x3 + 1) m rfl
noncomputable def r_X12_lays_76_74_l10_c2 (x2 : Int32) (x3 : Int32) (x4 : Int32) (m : Mem) : Option ((Int32 × Mem) ⊕ (Mem)) :=
  bd1 (loopO (fun s => r_X12_lays_76_74_b10_c2 x2 x3 s.1 s.2) (x4, m)) (fun e => r_X12_lays_76_74_e37_h10_c2 x2 x3 e)
set_option maxHeartbeats 4000000 in
set_option maxRecDepth 20000 in
theorem ok_X12_lays_76_74_l10_c2 (x2 : Int32) (x3 : Int32) (x4 : Int32) (m : Mem) {r : (Int32 × Mem) ⊕ (Mem)} (h : r_X12_lays_76_74_l10_c2 x2 x3 x4 m = some r) {o : Ou} {M' : Mem} (kb : ∀ (x3' : Int32) (m'' : Mem), r = Sum.inl (x3', m'') → Xj RX12 cX12_lays 5 none 1 0 0 0 0 0 2 [(0, vR 76 0), (1, vR 74 0), (2, vI x2), (3, vI x3')] [] m'' o M') (ke : ∀ (m'' : Mem), r = Sum.inr m'' → Xj RX12 cX12_lays 5 none 1 0 0 0 0 0 43 [] [] m'' o M') : Xj RX12 cX12_lays 5 none 1 0 0 0 0 0 10 [(0, vR 76 0), (1, vR 74 0), (2, vI x2), (3, vI x3), (4, vI x4)] [] m o M' := by
  unfold r_X12_lays_76_74_l10_c2 at h
  obtain ⟨e, e1, h⟩ := bd1_some h
  refine loopO_ok (P := fun s : (Int32 × Mem) => Xj RX12 cX12_lays 5 none 1 0 0 0 0 0 10 [(0, vR 76 0), (1, vR 74 0), (2, vI x2), (3, vI x3), (4, vI s.1)] [] s.2 o M') (Q := fun e : (Mem) => Xj RX12 cX12_lays 5 none 1 0 0 0 0 0 37 [(0, vR 76 0), (1, vR 74 0), (2, vI x2), (3, vI x3)] [] e o M') ?_ _ _ e1 ?_
  · intro s r9 h9 hi hx
    exact ok_X12_lays_76_74_b10_c2 x2 x3 s.1 s.2 h9 (by rintro _ _ rfl; exact hi _ rfl) (by rintro _ rfl; exact hx _ rfl)
  · exact ok_X12_lays_76_74_e37_h10_c2 x2 x3 e h kb ke
noncomputable def r_X12_lays_76_74_b2 (x2 : Int32) (x3 : Int32) (m : Mem) : Option ((Int32 × Mem) ⊕ (Mem)) :=
  if x2 ≤ x3 then (some (Sum.inr m)) else (r_X12_lays_76_74_l10_c2 x2 x3 0 m)
set_option maxHeartbeats 4000000 in
set_option maxRecDepth 20000 in
theorem ok_X12_lays_76_74_b2 (x2 : Int32) (x3 : Int32) (m : Mem) {r : (Int32 × Mem) ⊕ (Mem)} (h : r_X12_lays_76_74_b2 x2 x3 m = some r) {o : Ou} {M' : Mem} (kb : ∀ (x3' : Int32) (m'' : Mem), r = Sum.inl (x3', m'') → Xj RX12 cX12_lays 5 none 1 0 0 0 0 0 2 [(0, vR 76 0), (1, vR 74 0), (2, vI x2), (3, vI x3')] [] m'' o M') (ke : ∀ (m'' : Mem), r = Sum.inr m'' → Xj RX12 cX12_lays 5 none 1 0 0 0 0 0 43 [] [] m'' o M') : Xj RX12 cX12_lays 5 none 1 0 0 0 0 0 2 [(0, vR 76 0), (1, vR 74 0), (2, vI x2), (3, vI x3)] [] m o M' := by
  unfold r_X12_lays_76_74_b2 at h
  refine xj_iload_n 3 dX12_lays_2 rfl ?_
  refine xj_iload_n 2 dX12_lays_3 rfl ?_
  refine xj_icmp_ge (tgt := 43) dX12_lays_4 (by decide) (fun c1 => ?_) (fun c1 => ?_)
  · rw [if_pos c1] at h
    cases h
    refine xj_pick (ls' := []) [] rfl ?_
    exact ke m rfl
  · rw [if_neg c1] at h
    refine xj_iconst (z := 0) dX12_lays_7 (by decide) ?_
    refine xj_istore (ls' := [(4, vI 0), (0, vR 76 0), (1, vR 74 0), (2, vI x2), (3, vI x3)]) dX12_lays_8 (by decide) rfl ?_
    refine xj_pick (ls' := [(0, vR 76 0), (1, vR 74 0), (2, vI x2), (3, vI x3), (4, vI 0)]) [1, 2, 3, 4, 0] rfl ?_
    exact ok_X12_lays_76_74_l10_c2 x2 x3 0 m h kb ke
noncomputable def r_X12_lays_76_74_e43_h2 (m : Mem) : Option Mem :=
  some m
set_option maxHeartbeats 4000000 in
set_option maxRecDepth 20000 in
theorem ok_X12_lays_76_74_e43_h2 (m : Mem) {m' : Mem} (h : r_X12_lays_76_74_e43_h2 m = some m') : Xj RX12 cX12_lays 5 none 1 0 0 0 0 0 43 [] [] m oV m' := by
  unfold r_X12_lays_76_74_e43_h2 at h
  cases h
  exact xj_return dX12_lays_43 (by decide) (by decide)
noncomputable def r_X12_lays_76_74_l2 (x2 : Int32) (x3 : Int32) (m : Mem) : Option Mem :=
  bd1 (loopO (fun s => r_X12_lays_76_74_b2 x2 s.1 s.2) (x3, m)) (fun e => r_X12_lays_76_74_e43_h2 e)
set_option maxHeartbeats 4000000 in
set_option maxRecDepth 20000 in
theorem ok_X12_lays_76_74_l2 (x2 : Int32) (x3 : Int32) (m : Mem) {m' : Mem} (h : r_X12_lays_76_74_l2 x2 x3 m = some m') : Xj RX12 cX12_lays 5 none 1 0 0 0 0 0 2 [(0, vR 76 0), (1, vR 74 0), (2, vI x2), (3, vI x3)] [] m oV m' := by
  unfold r_X12_lays_76_74_l2 at h
  obtain ⟨e, e1, h⟩ := bd1_some h
  refine loopO_ok (P := fun s : (Int32 × Mem) => Xj RX12 cX12_lays 5 none 1 0 0 0 0 0 2 [(0, vR 76 0), (1, vR 74 0), (2, vI x2), (3, vI s.1)] [] s.2 oV m') (Q := fun e : (Mem) => Xj RX12 cX12_lays 5 none 1 0 0 0 0 0 43 [] [] e oV m') ?_ _ _ e1 ?_
  · intro s r9 h9 hi hx
    exact ok_X12_lays_76_74_b2 x2 s.1 s.2 h9 (by rintro _ _ rfl; exact hi _ rfl) (by rintro _ rfl; exact hx _ rfl)
  · exact ok_X12_lays_76_74_e43_h2 e h 
noncomputable def r_X12_lays_76_74 (x2 : Int32) (m : Mem) : Option Mem :=
  r_X12_lays_76_74_l2 x2 0 m
set_option maxHeartbeats 4000000 in
set_option maxRecDepth 20000 in
theorem ok_X12_lays_76_74 (x2 : Int32) (m : Mem) {m' : Mem} (h : r_X12_lays_76_74 x2 m = some m') : Mt yX12_lays cX12_lays 5 none 1 0 0 0 [vR 76 0, vR 74 0, vI x2] m oV m' := by
  refine Mt.of (by decide) (Nat.le_of_ble_eq_true rfl) (by decide +kernel) (hhF_ne (by decide)) ?_
  show Xj RX12 cX12_lays 5 none 1 0 0 0 0 0 0 [(0, vR 76 0), (1, vR 74 0), (2, vI x2)] [] m oV m'
  unfold r_X12_lays_76_74 at h
  refine xj_iconst (z := 0) dX12_lays_0 (by decide) ?_
  refine xj_istore_n (ls' := [(3, vI 0), (0, vR 76 0), (1, vR 74 0), (2, vI x2)]) dX12_lays_1 rfl (by decide) rfl ?_
  refine xj_pick (ls' := [(0, vR 76 0), (1, vR 74 0), (2, vI x2), (3, vI 0)]) [1, 2, 3, 0] rfl ?_
  exact ok_X12_lays_76_74_l2 x2 0 m h 
noncomputable def r_X12_law_j85 (m : Mem) : Option (Int32 × Mem) :=
  if (m 12 0 5) = 0 then (bd1 (r_X12_lays_76_74 (m 12 0 22) (wr (wr m 12 0 3 (-1)) 12 0 21 (m 12 0 22))) fun m17 => (some (1, m17))) else (bd2 (r_X12_ends m) fun z20 m19 => (some (z20, m19)))
set_option maxHeartbeats 4000000 in
set_option maxRecDepth 20000 in
theorem ok_X12_law_j85 (m : Mem) {z : Int32} {m' : Mem} (h : r_X12_law_j85 m = some (z, m')) : Xj RX12 cX12_law 2 (some .int) 32 685 0 0 0 0 85 [(0, vR 12 0)] [] m (oI z) m' := by
  unfold r_X12_law_j85 at h
  refine xj_aload_n 0 dX12_law_85 rfl ?_
  refine xg_getI (x := (m 12 0 5)) dX12_law_86 fl_X12_125 rfl rfl ?_
  refine xj_if_eq (tgt := 97) dX12_law_89 (by decide) (fun c15 => ?_) (fun c15 => ?_)
  · rw [if_pos c15] at h
    refine xj_aload_n 0 dX12_law_97 rfl ?_
    refine xj_iconst (z := (-1)) dX12_law_98 (by decide) ?_
    refine xj_putI dX12_law_99 fw_X12_9 rfl ?_
    refine xj_aload_n 0 dX12_law_102 rfl ?_
    refine xj_aload_n 0 dX12_law_103 rfl ?_
    refine xg_getI (x := (m 12 0 22)) dX12_law_104 fl_X12_223 rfl rfl ?_
    refine xj_putI dX12_law_107 fw_X12_208 rfl ?_
    refine xj_aload_n 0 dX12_law_110 rfl ?_
    refine xg_getR (k' := 76) (i' := 0) dX12_law_111 fl_X12_55 rfl ?_
    refine xj_aload_n 0 dX12_law_114 rfl ?_
    refine xg_getR (k' := 74) (i' := 0) dX12_law_115 fl_X12_52 rfl ?_
    refine xj_aload_n 0 dX12_law_118 rfl ?_
    refine xg_getI (x := (m 12 0 22)) dX12_law_119 fl_X12_208 rfl rfl ?_
    obtain ⟨m17, e16, h⟩ := bd1_some h
    refine xc_Sv0 (st := []) (ok_X12_lays_76_74 (m 12 0 22) (wr (wr m 12 0 3 (-1)) 12 0 21 (m 12 0 22)) e16) dX12_law_122 cs_X12_204 rfl rfl (Nat.le_of_ble_eq_true rfl) (by decide) (by decide) (by decide) (by decide) ?_
    refine xj_iconst (z := 1) dX12_law_125 (by decide) ?_
    cases h
    exact xj_ireturn dX12_law_126 rfl (by decide) (by decide)
  · rw [if_neg c15] at h
    refine xj_aload_n 0 dX12_law_92 rfl ?_
    obtain ⟨z20, m19, e18, h⟩ := bd2_some h
    refine xc_Vi0 (st := []) (ok_X12_ends m e18) dX12_law_93 cv_X12_201 rfl rfl (Nat.le_of_ble_eq_true rfl) (by decide) (by decide) (by decide) (by decide) ?_
    cases h
    exact xj_ireturn dX12_law_96 rfl (by decide) (by decide)
noncomputable def r_X12_law_j30 (x1 : Int32) (s0 : Int32) (m : Mem) : Option (Int32 × Mem) :=
  bd2 (r_X12_bad s0 1 1 m) fun z5 m4 => (if z5 = true then (some (0, m4)) else (bd1 (r_X12_starts x1 m4) fun m8 => (bd1 (r_X12_sum_t (wr m8 12 0 22 0)) fun m10 => (bd1 (r_X12_blanks m10) fun m12 => (if (m12 12 0 5) = 0 then (if (m12 12 0 2) ≤ (m12 12 0 4) then (r_X12_law_j85 m12) else (bd1 (r_X12_wrong 1 (m12 12 0 4) m12) fun m22 => (r_X12_law_j85 m22))) else (r_X12_law_j85 m12))))))
set_option maxHeartbeats 4000000 in
set_option maxRecDepth 20000 in
theorem ok_X12_law_j30 (x1 : Int32) (s0 : Int32) (m : Mem) {z : Int32} {m' : Mem} (h : r_X12_law_j30 x1 s0 m = some (z, m')) : Xj RX12 cX12_law 2 (some .int) 32 685 0 0 0 0 30 [(0, vR 12 0), (1, vI x1)] [vI s0, vR 12 0] m (oI z) m' := by
  unfold r_X12_law_j30 at h
  refine xj_iconst (z := 1) dX12_law_30 (by decide) ?_
  refine xj_iconst (z := 1) dX12_law_31 (by decide) ?_
  obtain ⟨z5, m4, e3, h⟩ := bd2_some h
  refine xc_Vb0 (st := []) (ok_X12_bad s0 1 1 m e3) dX12_law_32 cv_X12_191 rfl rfl (Nat.le_of_ble_eq_true rfl) (by decide) (by decide) (by decide) (by decide) ?_
  refine xj_if_eq (tgt := 40) dX12_law_35 (by decide) (fun c6 => ?_) (fun c6 => ?_)
  · rw [if_neg (b2i_f c6)] at h
    refine xj_aload_n 0 dX12_law_40 rfl ?_
    refine xj_iload_n 1 dX12_law_41 rfl ?_
    obtain ⟨m8, e7, h⟩ := bd1_some h
    refine xc_Vv0 (st := []) (ok_X12_starts x1 m4 e7) dX12_law_42 cv_X12_195 rfl rfl (Nat.le_of_ble_eq_true rfl) (by decide) (by decide) (by decide) (by decide) ?_
    refine xj_aload_n 0 dX12_law_45 rfl ?_
    refine xj_iconst (z := 0) dX12_law_46 (by decide) ?_
    refine xj_putI dX12_law_47 fw_X12_223 rfl ?_
    refine xj_aload_n 0 dX12_law_50 rfl ?_
    obtain ⟨m10, e9, h⟩ := bd1_some h
    refine xc_Vv0 (st := []) (ok_X12_sum_t (wr m8 12 0 22 0) e9) dX12_law_51 cv_X12_248 rfl rfl (Nat.le_of_ble_eq_true rfl) (by decide) (by decide) (by decide) (by decide) ?_
    refine xj_aload_n 0 dX12_law_54 rfl ?_
    obtain ⟨m12, e11, h⟩ := bd1_some h
    refine xc_Vv0 (st := []) (ok_X12_blanks m10 e11) dX12_law_55 cv_X12_131 rfl rfl (Nat.le_of_ble_eq_true rfl) (by decide) (by decide) (by decide) (by decide) ?_
    refine xj_aload_n 0 dX12_law_58 rfl ?_
    refine xg_getI (x := (m12 12 0 5)) dX12_law_59 fl_X12_125 rfl rfl ?_
    refine xj_if_ne (tgt := 85) dX12_law_62 (by decide) (fun c13 => ?_) (fun c13 => ?_)
    · rw [if_neg c13] at h
      refine xj_pick (ls' := [(0, vR 12 0)]) [0] rfl ?_
      exact ok_X12_law_j85 m12 h 
    · rw [if_pos c13] at h
      refine xj_aload_n 0 dX12_law_65 rfl ?_
      refine xg_getI (x := (m12 12 0 4)) dX12_law_66 fl_X12_118 rfl rfl ?_
      refine xj_aload_n 0 dX12_law_69 rfl ?_
      refine xg_getI (x := (m12 12 0 2)) dX12_law_70 fl_X12_115 rfl rfl ?_
      refine xj_icmp_ge (tgt := 85) dX12_law_73 (by decide) (fun c14 => ?_) (fun c14 => ?_)
      · rw [if_pos c14] at h
        refine xj_pick (ls' := [(0, vR 12 0)]) [0] rfl ?_
        exact ok_X12_law_j85 m12 h 
      · rw [if_neg c14] at h
        refine xj_aload_n 0 dX12_law_76 rfl ?_
        refine xj_iconst (z := 1) dX12_law_77 (by decide) ?_
        refine xj_aload_n 0 dX12_law_78 rfl ?_
        refine xg_getI (x := (m12 12 0 4)) dX12_law_79 fl_X12_118 rfl rfl ?_
        obtain ⟨m22, e21, h⟩ := bd1_some h
        refine xc_Vv0 (st := []) (ok_X12_wrong 1 (m12 12 0 4) m12 e21) dX12_law_82 cv_X12_138 rfl rfl (Nat.le_of_ble_eq_true rfl) (by decide) (by decide) (by decide) (by decide) ?_
        refine xj_pick (ls' := [(0, vR 12 0)]) [0] rfl ?_
        exact ok_X12_law_j85 m22 h 
  · rw [if_pos (b2i_t c6)] at h
    refine xj_iconst (z := 0) dX12_law_38 (by decide) ?_
    cases h
    exact xj_ireturn dX12_law_39 rfl (by decide) (by decide)
noncomputable def r_X12_law_j25 (x1 : Int32) (m : Mem) : Option (Int32 × Mem) :=
  r_X12_law_j30 x1 1 m
set_option maxHeartbeats 4000000 in
set_option maxRecDepth 20000 in
theorem ok_X12_law_j25 (x1 : Int32) (m : Mem) {z : Int32} {m' : Mem} (h : r_X12_law_j25 x1 m = some (z, m')) : Xj RX12 cX12_law 2 (some .int) 32 685 0 0 0 0 25 [(0, vR 12 0), (1, vI x1)] [vR 12 0] m (oI z) m' := by
  unfold r_X12_law_j25 at h
  refine xj_iconst (z := 1) dX12_law_25 (by decide) ?_
  refine xj_goto (tgt := 30) dX12_law_26 (by decide) ?_
  exact ok_X12_law_j30 x1 1 m h 
noncomputable def r_X12_law (x1 : Int32) (m : Mem) : Option (Int32 × Mem) :=
  if (r_X12_in x1 0 (m 12 0 1)) = true then (if x1 ≤ 150 then (r_X12_law_j30 x1 0 (wr m 12 0 0 0)) else (r_X12_law_j25 x1 (wr m 12 0 0 0))) else (r_X12_law_j25 x1 (wr m 12 0 0 0))
set_option maxHeartbeats 4000000 in
set_option maxRecDepth 20000 in
theorem ok_X12_law (x1 : Int32) (m : Mem) {z : Int32} {m' : Mem} (h : r_X12_law x1 m = some (z, m')) : Mt yX12_law cX12_law 2 (some .int) 32 685 0 0 [vR 12 0, vI x1] m (oI z) m' := by
  refine Mt.of (by decide) (Nat.le_of_ble_eq_true rfl) (by decide +kernel) (hhF_ne (by decide)) ?_
  show Xj RX12 cX12_law 2 (some .int) 32 685 0 0 0 0 0 [(0, vR 12 0), (1, vI x1)] [] m (oI z) m'
  unfold r_X12_law at h
  refine xj_aload_n 0 dX12_law_0 rfl ?_
  refine xj_iconst (z := 0) dX12_law_1 (by decide) ?_
  refine xj_putI dX12_law_2 fw_X12_109 rfl ?_
  refine xj_aload_n 0 dX12_law_5 rfl ?_
  refine xj_iload_n 1 dX12_law_6 rfl ?_
  refine xj_iconst (z := 0) dX12_law_7 (by decide) ?_
  refine xj_aload_n 0 dX12_law_8 rfl ?_
  refine xg_getI (x := (m 12 0 1)) dX12_law_9 fl_X12_112 rfl rfl ?_
  refine xc_Sb0 (st := [vR 12 0]) (ok_X12_in x1 0 (m 12 0 1) (wr m 12 0 0 0) rfl) dX12_law_12 cs_X12_143 rfl rfl (Nat.le_of_ble_eq_true rfl) (by decide) (by decide) (by decide) (by decide) ?_
  refine xj_if_eq (tgt := 25) dX12_law_15 (by decide) (fun c1 => ?_) (fun c1 => ?_)
  · rw [if_neg (b2i_f c1)] at h
    exact ok_X12_law_j25 x1 (wr m 12 0 0 0) h 
  · rw [if_pos (b2i_t c1)] at h
    refine xj_iload_n 1 dX12_law_18 rfl ?_
    refine xj_sipush (z := 150) dX12_law_19 (by decide) ?_
    refine xj_icmp_le (tgt := 29) dX12_law_22 (by decide) (fun c2 => ?_) (fun c2 => ?_)
    · rw [if_pos c2] at h
      refine xj_iconst (z := 0) dX12_law_29 (by decide) ?_
      exact ok_X12_law_j30 x1 0 (wr m 12 0 0 0) h 
    · rw [if_neg c2] at h
      exact ok_X12_law_j25 x1 (wr m 12 0 0 0) h 
noncomputable def r_X12_leaders_j175_c65 (x1 : Int32) (x2 : Int32) (x3 : Int32) (x4 : Int32) (x5 : Int32) (x6 : Int32) (x7 : Int32) (m : Mem) : Option ((Int32 × Int32 × Int32 × Int32 × Mem) ⊕ (Int32 × Int32 × Int32 × Mem)) :=
  some (Sum.inl (x3, x4, x5, x7 + 1, m))
set_option maxHeartbeats 4000000 in
set_option maxRecDepth 20000 in
theorem ok_X12_leaders_j175_c65 (x1 : Int32) (x2 : Int32) (x3 : Int32) (x4 : Int32) (x5 : Int32) (x6 : Int32) (x7 : Int32) (m : Mem) {r : (Int32 × Int32 × Int32 × Int32 × Mem) ⊕ (Int32 × Int32 × Int32 × Mem)} (h : r_X12_leaders_j175_c65 x1 x2 x3 x4 x5 x6 x7 m = some r) {o : Ou} {M' : Mem} (kb : ∀ (x3' : Int32) (x4' : Int32) (x5' : Int32) (x7' : Int32) (m'' : Mem), r = Sum.inl (x3', x4', x5', x7', m'') → Xj RX12 cX12_leaders 8 (some .int) 9 202 0 0 0 0 65 [(0, vR 12 0), (1, vI x1), (2, vI x2), (3, vI x3'), (4, vI x4'), (5, vI x5'), (6, vI x6), (7, vI x7')] [] m'' o M') (ke : ∀ (x3' : Int32) (x4' : Int32) (x5' : Int32) (m'' : Mem), r = Sum.inr (x3', x4', x5', m'') → Xj RX12 cX12_leaders 8 (some .int) 9 202 0 0 0 0 181 [(0, vR 12 0), (1, vI x1), (2, vI x2), (3, vI x3'), (4, vI x4'), (5, vI x5'), (6, vI x6)] [] m'' o M') : Xj RX12 cX12_leaders 8 (some .int) 9 202 0 0 0 0 175 [(0, vR 12 0), (1, vI x1), (2, vI x2), (3, vI x3), (4, vI x4), (5, vI x5), (6, vI x6), (7, vI x7)] [] m o M' := by
  unfold r_X12_leaders_j175_c65 at h
  refine xj_iinc (z := x7 + 1) (ls' := [(7, vI (x7 + 1)), (0, vR 12 0), (1, vI x1), (2, vI x2), (3, vI x3), (4, vI x4), (5, vI x5), (6, vI x6)]) 7 dX12_leaders_175 rfl rfl (by decide) rfl ?_
  refine xj_goto (tgt := 65) dX12_leaders_178 (by decide) ?_
  cases h
  refine xj_pick (ls' := [(0, vR 12 0), (1, vI x1), (2, vI x2), (3, vI x3), (4, vI x4), (5, vI x5), (6, vI x6), (7, vI (x7 + 1))]) [1, 2, 3, 4, 5, 6, 7, 0] rfl ?_
  exact kb x3 x4 x5 (x7 + 1) m rfl
noncomputable def r_X12_leaders_j170_c65 (x1 : Int32) (x2 : Int32) (x3 : Int32) (x5 : Int32) (x6 : Int32) (x7 : Int32) (s0 : Int32) (m : Mem) : Option ((Int32 × Int32 × Int32 × Int32 × Mem) ⊕ (Int32 × Int32 × Int32 × Mem)) :=
  r_X12_leaders_j175_c65 x1 x2 (x3 + 1) s0 x5 x6 x7 m
set_option maxHeartbeats 4000000 in
set_option maxRecDepth 20000 in
theorem ok_X12_leaders_j170_c65 (x1 : Int32) (x2 : Int32) (x3 : Int32) (x5 : Int32) (x6 : Int32) (x7 : Int32) (s0 : Int32) (m : Mem) {r : (Int32 × Int32 × Int32 × Int32 × Mem) ⊕ (Int32 × Int32 × Int32 × Mem)} (h : r_X12_leaders_j170_c65 x1 x2 x3 x5 x6 x7 s0 m = some r) {o : Ou} {M' : Mem} (kb : ∀ (x3' : Int32) (x4' : Int32) (x5' : Int32) (x7' : Int32) (m'' : Mem), r = Sum.inl (x3', x4', x5', x7', m'') → Xj RX12 cX12_leaders 8 (some .int) 9 202 0 0 0 0 65 [(0, vR 12 0), (1, vI x1), (2, vI x2), (3, vI x3'), (4, vI x4'), (5, vI x5'), (6, vI x6), (7, vI x7')] [] m'' o M') (ke : ∀ (x3' : Int32) (x4' : Int32) (x5' : Int32) (m'' : Mem), r = Sum.inr (x3', x4', x5', m'') → Xj RX12 cX12_leaders 8 (some .int) 9 202 0 0 0 0 181 [(0, vR 12 0), (1, vI x1), (2, vI x2), (3, vI x3'), (4, vI x4'), (5, vI x5'), (6, vI x6)] [] m'' o M') : Xj RX12 cX12_leaders 8 (some .int) 9 202 0 0 0 0 170 [(0, vR 12 0), (1, vI x1), (2, vI x2), (3, vI x3), (5, vI x5), (6, vI x6), (7, vI x7)] [vI s0] m o M' := by
  unfold r_X12_leaders_j170_c65 at h
  refine xj_istore (ls' := [(4, vI s0), (0, vR 12 0), (1, vI x1), (2, vI x2), (3, vI x3), (5, vI x5), (6, vI x6), (7, vI x7)]) dX12_leaders_170 (by decide) rfl ?_
  refine xj_iinc (z := x3 + 1) (ls' := [(3, vI (x3 + 1)), (4, vI s0), (0, vR 12 0), (1, vI x1), (2, vI x2), (5, vI x5), (6, vI x6), (7, vI x7)]) 4 dX12_leaders_172 rfl rfl (by decide) rfl ?_
  refine xj_pick (ls' := [(0, vR 12 0), (1, vI x1), (2, vI x2), (3, vI (x3 + 1)), (4, vI s0), (5, vI x5), (6, vI x6), (7, vI x7)]) [2, 3, 4, 0, 1, 5, 6, 7] rfl ?_
  exact ok_X12_leaders_j175_c65 x1 x2 (x3 + 1) s0 x5 x6 x7 m h kb ke
noncomputable def r_X12_leaders_j151_c65 (x1 : Int32) (x2 : Int32) (x3 : Int32) (x4 : Int32) (x6 : Int32) (x7 : Int32) (s0 : Int32) (m : Mem) : Option ((Int32 × Int32 × Int32 × Int32 × Mem) ⊕ (Int32 × Int32 × Int32 × Mem)) :=
  if x3 = 0 then (r_X12_leaders_j170_c65 x1 x2 x3 s0 x6 x7 ((100 * x6) + x7) m) else (r_X12_leaders_j170_c65 x1 x2 x3 s0 x6 x7 x4 m)
set_option maxHeartbeats 4000000 in
set_option maxRecDepth 20000 in
theorem ok_X12_leaders_j151_c65 (x1 : Int32) (x2 : Int32) (x3 : Int32) (x4 : Int32) (x6 : Int32) (x7 : Int32) (s0 : Int32) (m : Mem) {r : (Int32 × Int32 × Int32 × Int32 × Mem) ⊕ (Int32 × Int32 × Int32 × Mem)} (h : r_X12_leaders_j151_c65 x1 x2 x3 x4 x6 x7 s0 m = some r) {o : Ou} {M' : Mem} (kb : ∀ (x3' : Int32) (x4' : Int32) (x5' : Int32) (x7' : Int32) (m'' : Mem), r = Sum.inl (x3', x4', x5', x7', m'') → Xj RX12 cX12_leaders 8 (some .int) 9 202 0 0 0 0 65 [(0, vR 12 0), (1, vI x1), (2, vI x2), (3, vI x3'), (4, vI x4'), (5, vI x5'), (6, vI x6), (7, vI x7')] [] m'' o M') (ke : ∀ (x3' : Int32) (x4' : Int32) (x5' : Int32) (m'' : Mem), r = Sum.inr (x3', x4', x5', m'') → Xj RX12 cX12_leaders 8 (some .int) 9 202 0 0 0 0 181 [(0, vR 12 0), (1, vI x1), (2, vI x2), (3, vI x3'), (4, vI x4'), (5, vI x5'), (6, vI x6)] [] m'' o M') : Xj RX12 cX12_leaders 8 (some .int) 9 202 0 0 0 0 151 [(0, vR 12 0), (1, vI x1), (2, vI x2), (3, vI x3), (4, vI x4), (6, vI x6), (7, vI x7)] [vI s0] m o M' := by
  unfold r_X12_leaders_j151_c65 at h
  refine xj_istore (ls' := [(5, vI s0), (0, vR 12 0), (1, vI x1), (2, vI x2), (3, vI x3), (4, vI x4), (6, vI x6), (7, vI x7)]) dX12_leaders_151 (by decide) rfl ?_
  refine xj_iload_n 4 dX12_leaders_153 rfl ?_
  refine xj_if_ne (tgt := 168) dX12_leaders_154 (by decide) (fun c26 => ?_) (fun c26 => ?_)
  · rw [if_neg c26] at h
    refine xj_iload 5 dX12_leaders_168 rfl ?_
    refine xj_pick (ls' := [(0, vR 12 0), (1, vI x1), (2, vI x2), (3, vI x3), (5, vI s0), (6, vI x6), (7, vI x7)]) [1, 2, 3, 4, 0, 6, 7] rfl ?_
    exact ok_X12_leaders_j170_c65 x1 x2 x3 s0 x6 x7 x4 m h kb ke
  · rw [if_pos c26] at h
    refine xj_bipush (z := 100) dX12_leaders_157 (by decide) ?_
    refine xj_iload 6 dX12_leaders_159 rfl ?_
    refine xj_imul dX12_leaders_161 ?_
    refine xj_iload 7 dX12_leaders_162 rfl ?_
    refine xj_iadd dX12_leaders_164 ?_
    refine xj_goto (tgt := 170) dX12_leaders_165 (by decide) ?_
    refine xj_pick (ls' := [(0, vR 12 0), (1, vI x1), (2, vI x2), (3, vI x3), (5, vI s0), (6, vI x6), (7, vI x7)]) [1, 2, 3, 4, 0, 6, 7] rfl ?_
    exact ok_X12_leaders_j170_c65 x1 x2 x3 s0 x6 x7 ((100 * x6) + x7) m h kb ke
noncomputable def r_X12_leaders_b65_c51 (x1 : Int32) (x2 : Int32) (x6 : Int32) (x3 : Int32) (x4 : Int32) (x5 : Int32) (x7 : Int32) (m : Mem) : Option ((Int32 × Int32 × Int32 × Int32 × Mem) ⊕ (Int32 × Int32 × Int32 × Mem)) :=
  if (m 52 0 0) ≤ x7 then (some (Sum.inr (x3, x4, x5, m))) else (bd1 (r_X12_between (m 52 0 3) x6 m) fun z10 => (if z10 = (-1) then (r_X12_leaders_j175_c65 x1 x2 x3 x4 x5 x6 x7 m) else (bd1 (r_X12_between (m 52 0 3) x7 m) fun z13 => (if z13 = (-1) then (r_X12_leaders_j175_c65 x1 x2 x3 x4 x5 x6 x7 m) else (bd2 (r_X12_isRest x6 x7 x1 m) fun z17 m16 => (if z17 = true then (if x3 = 0 then (bd2 (r_X12_hasBy x6 x7 x1 m16) fun z22 m21 => (bd2 (r_X12_hasBy x7 x6 x1 m21) fun z25 m24 => (r_X12_leaders_j151_c65 x1 x2 x3 x4 x6 x7 (z22 + z25) m24))) else (r_X12_leaders_j151_c65 x1 x2 x3 x4 x6 x7 x5 m16)) else (r_X12_leaders_j175_c65 x1 x2 x3 x4 x5 x6 x7 m16)))))))
set_option maxHeartbeats 4000000 in
set_option maxRecDepth 20000 in
theorem ok_X12_leaders_b65_c51 (x1 : Int32) (x2 : Int32) (x6 : Int32) (x3 : Int32) (x4 : Int32) (x5 : Int32) (x7 : Int32) (m : Mem) {r : (Int32 × Int32 × Int32 × Int32 × Mem) ⊕ (Int32 × Int32 × Int32 × Mem)} (h : r_X12_leaders_b65_c51 x1 x2 x6 x3 x4 x5 x7 m = some r) {o : Ou} {M' : Mem} (kb : ∀ (x3' : Int32) (x4' : Int32) (x5' : Int32) (x7' : Int32) (m'' : Mem), r = Sum.inl (x3', x4', x5', x7', m'') → Xj RX12 cX12_leaders 8 (some .int) 9 202 0 0 0 0 65 [(0, vR 12 0), (1, vI x1), (2, vI x2), (3, vI x3'), (4, vI x4'), (5, vI x5'), (6, vI x6), (7, vI x7')] [] m'' o M') (ke : ∀ (x3' : Int32) (x4' : Int32) (x5' : Int32) (m'' : Mem), r = Sum.inr (x3', x4', x5', m'') → Xj RX12 cX12_leaders 8 (some .int) 9 202 0 0 0 0 181 [(0, vR 12 0), (1, vI x1), (2, vI x2), (3, vI x3'), (4, vI x4'), (5, vI x5'), (6, vI x6)] [] m'' o M') : Xj RX12 cX12_leaders 8 (some .int) 9 202 0 0 0 0 65 [(0, vR 12 0), (1, vI x1), (2, vI x2), (3, vI x3), (4, vI x4), (5, vI x5), (6, vI x6), (7, vI x7)] [] m o M' := by
  unfold r_X12_leaders_b65_c51 at h
  refine xj_iload 7 dX12_leaders_65 rfl ?_
  refine xj_aload_n 0 dX12_leaders_67 rfl ?_
  refine xg_getR (k' := 52) (i' := 0) dX12_leaders_68 fl_X12_23 rfl ?_
  refine xj_iconst (z := 0) dX12_leaders_71 (by decide) ?_
  refine xg_iald (z := (m 52 0 0)) (n := 0) dX12_leaders_72 rfl (by decide) (inb_in (by decide)) (by decide) rfl ?_
  refine xj_icmp_ge (tgt := 181) dX12_leaders_73 (by decide) (fun c8 => ?_) (fun c8 => ?_)
  · rw [if_pos c8] at h
    cases h
    refine xj_pick (ls' := [(0, vR 12 0), (1, vI x1), (2, vI x2), (3, vI x3), (4, vI x4), (5, vI x5), (6, vI x6)]) [0, 1, 2, 3, 4, 5, 6] rfl ?_
    exact ke x3 x4 x5 m rfl
  · rw [if_neg c8] at h
    refine xj_aload_n 0 dX12_leaders_76 rfl ?_
    refine xj_aload_n 0 dX12_leaders_77 rfl ?_
    refine xg_getR (k' := 52) (i' := 0) dX12_leaders_78 fl_X12_23 rfl ?_
    refine xj_iconst (z := 3) dX12_leaders_81 (by decide) ?_
    refine xg_iald (z := (m 52 0 3)) (n := 3) dX12_leaders_82 rfl (by decide) (inb_in (by decide)) (by decide) rfl ?_
    refine xj_iload 6 dX12_leaders_83 rfl ?_
    obtain ⟨z10, e9, h⟩ := bd1_some h
    refine xc_Vi0 (st := []) (ok_X12_between (m 52 0 3) x6 m e9) dX12_leaders_85 cv_X12_267 rfl rfl (Nat.le_of_ble_eq_true rfl) (by decide) (by decide) (by decide) (by decide) ?_
    refine xj_iconst (z := (-1)) dX12_leaders_88 (by decide) ?_
    refine xj_icmp_eq (tgt := 175) dX12_leaders_89 (by decide) (fun c11 => ?_) (fun c11 => ?_)
    · rw [if_pos c11] at h
      exact ok_X12_leaders_j175_c65 x1 x2 x3 x4 x5 x6 x7 m h kb ke
    · rw [if_neg c11] at h
      refine xj_aload_n 0 dX12_leaders_92 rfl ?_
      refine xj_aload_n 0 dX12_leaders_93 rfl ?_
      refine xg_getR (k' := 52) (i' := 0) dX12_leaders_94 fl_X12_23 rfl ?_
      refine xj_iconst (z := 3) dX12_leaders_97 (by decide) ?_
      refine xg_iald (z := (m 52 0 3)) (n := 3) dX12_leaders_98 rfl (by decide) (inb_in (by decide)) (by decide) rfl ?_
      refine xj_iload 7 dX12_leaders_99 rfl ?_
      obtain ⟨z13, e12, h⟩ := bd1_some h
      refine xc_Vi0 (st := []) (ok_X12_between (m 52 0 3) x7 m e12) dX12_leaders_101 cv_X12_267 rfl rfl (Nat.le_of_ble_eq_true rfl) (by decide) (by decide) (by decide) (by decide) ?_
      refine xj_iconst (z := (-1)) dX12_leaders_104 (by decide) ?_
      refine xj_icmp_eq (tgt := 175) dX12_leaders_105 (by decide) (fun c14 => ?_) (fun c14 => ?_)
      · rw [if_pos c14] at h
        exact ok_X12_leaders_j175_c65 x1 x2 x3 x4 x5 x6 x7 m h kb ke
      · rw [if_neg c14] at h
        refine xj_aload_n 0 dX12_leaders_108 rfl ?_
        refine xj_iload 6 dX12_leaders_109 rfl ?_
        refine xj_iload 7 dX12_leaders_111 rfl ?_
        refine xj_iload_n 1 dX12_leaders_113 rfl ?_
        obtain ⟨z17, m16, e15, h⟩ := bd2_some h
        refine xc_Vb0 (st := []) (ok_X12_isRest x6 x7 x1 m e15) dX12_leaders_114 cv_X12_399 rfl rfl (Nat.le_of_ble_eq_true rfl) (by decide) (by decide) (by decide) (by decide) ?_
        refine xj_if_ne (tgt := 123) dX12_leaders_117 (by decide) (fun c18 => ?_) (fun c18 => ?_)
        · rw [if_pos (b2i_t c18)] at h
          refine xj_iload_n 3 dX12_leaders_123 rfl ?_
          refine xj_if_ne (tgt := 149) dX12_leaders_124 (by decide) (fun c19 => ?_) (fun c19 => ?_)
          · rw [if_neg c19] at h
            refine xj_iload 5 dX12_leaders_149 rfl ?_
            refine xj_pick (ls' := [(0, vR 12 0), (1, vI x1), (2, vI x2), (3, vI x3), (4, vI x4), (6, vI x6), (7, vI x7)]) [0, 1, 2, 3, 4, 6, 7] rfl ?_
            exact ok_X12_leaders_j151_c65 x1 x2 x3 x4 x6 x7 x5 m16 h kb ke
          · rw [if_pos c19] at h
            refine xj_aload_n 0 dX12_leaders_127 rfl ?_
            refine xj_iload 6 dX12_leaders_128 rfl ?_
            refine xj_iload 7 dX12_leaders_130 rfl ?_
            refine xj_iload_n 1 dX12_leaders_132 rfl ?_
            obtain ⟨z22, m21, e20, h⟩ := bd2_some h
            refine xc_Vi0 (st := []) (ok_X12_hasBy x6 x7 x1 m16 e20) dX12_leaders_133 cv_X12_396 rfl rfl (Nat.le_of_ble_eq_true rfl) (by decide) (by decide) (by decide) (by decide) ?_
            refine xj_aload_n 0 dX12_leaders_136 rfl ?_
            refine xj_iload 7 dX12_leaders_137 rfl ?_
            refine xj_iload 6 dX12_leaders_139 rfl ?_
            refine xj_iload_n 1 dX12_leaders_141 rfl ?_
            obtain ⟨z25, m24, e23, h⟩ := bd2_some h
            refine xc_Vi0 (st := [vI z22]) (ok_X12_hasBy x7 x6 x1 m21 e23) dX12_leaders_142 cv_X12_396 rfl rfl (Nat.le_of_ble_eq_true rfl) (by decide) (by decide) (by decide) (by decide) ?_
            refine xj_iadd dX12_leaders_145 ?_
            refine xj_goto (tgt := 151) dX12_leaders_146 (by decide) ?_
            refine xj_pick (ls' := [(0, vR 12 0), (1, vI x1), (2, vI x2), (3, vI x3), (4, vI x4), (6, vI x6), (7, vI x7)]) [0, 1, 2, 3, 4, 6, 7] rfl ?_
            exact ok_X12_leaders_j151_c65 x1 x2 x3 x4 x6 x7 (z22 + z25) m24 h kb ke
        · rw [if_neg (b2i_f c18)] at h
          refine xj_goto (tgt := 175) dX12_leaders_120 (by decide) ?_
          exact ok_X12_leaders_j175_c65 x1 x2 x3 x4 x5 x6 x7 m16 h kb ke
noncomputable def r_X12_leaders_e181_h65_c51 (x1 : Int32) (x2 : Int32) (x3 : Int32) (x4 : Int32) (x5 : Int32) (x6 : Int32) (m : Mem) : Option ((Int32 × Int32 × Int32 × Int32 × Mem) ⊕ (Int32 × Int32 × Int32 × Mem)) :=
  some (Sum.inl (x3, x4, x5, x6 + 1, m))
set_option maxHeartbeats 4000000 in
set_option maxRecDepth 20000 in
theorem ok_X12_leaders_e181_h65_c51 (x1 : Int32) (x2 : Int32) (x3 : Int32) (x4 : Int32) (x5 : Int32) (x6 : Int32) (m : Mem) {r : (Int32 × Int32 × Int32 × Int32 × Mem) ⊕ (Int32 × Int32 × Int32 × Mem)} (h : r_X12_leaders_e181_h65_c51 x1 x2 x3 x4 x5 x6 m = some r) {o : Ou} {M' : Mem} (kb : ∀ (x3' : Int32) (x4' : Int32) (x5' : Int32) (x6' : Int32) (m'' : Mem), r = Sum.inl (x3', x4', x5', x6', m'') → Xj RX12 cX12_leaders 8 (some .int) 9 202 0 0 0 0 51 [(0, vR 12 0), (1, vI x1), (2, vI x2), (3, vI x3'), (4, vI x4'), (5, vI x5'), (6, vI x6')] [] m'' o M') (ke : ∀ (x3' : Int32) (x4' : Int32) (x5' : Int32) (m'' : Mem), r = Sum.inr (x3', x4', x5', m'') → Xj RX12 cX12_leaders 8 (some .int) 9 202 0 0 0 0 187 [(2, vI x2), (3, vI x3'), (4, vI x4'), (5, vI x5')] [] m'' o M') : Xj RX12 cX12_leaders 8 (some .int) 9 202 0 0 0 0 181 [(0, vR 12 0), (1, vI x1), (2, vI x2), (3, vI x3), (4, vI x4), (5, vI x5), (6, vI x6)] [] m o M' := by
  unfold r_X12_leaders_e181_h65_c51 at h
  refine xj_iinc (z := x6 + 1) (ls' := [(6, vI (x6 + 1)), (0, vR 12 0), (1, vI x1), (2, vI x2), (3, vI x3), (4, vI x4), (5, vI x5)]) 6 dX12_leaders_181 rfl rfl (by decide) rfl ?_
  refine xj_goto (tgt := 51) dX12_leaders_184 (by decide) ?_
  cases h
  refine xj_pick (ls' := [(0, vR 12 0), (1, vI x1), (2, vI x2), (3, vI x3), (4, vI x4), (5, vI x5), (6, vI (x6 + 1))]) [1, 2, 3, 4, 5, 6, 0] rfl ?_
  exact kb x3 x4 x5 (x6 + 1) m rfl
noncomputable def r_X12_leaders_l65_c51 (x1 : Int32) (x2 : Int32) (x3 : Int32) (x4 : Int32) (x5 : Int32) (x6 : Int32) (x7 : Int32) (m : Mem) : Option ((Int32 × Int32 × Int32 × Int32 × Mem) ⊕ (Int32 × Int32 × Int32 × Mem)) :=
  bd1 (loopO (fun s => r_X12_leaders_b65_c51 x1 x2 x6 s.1 s.2.1 s.2.2.1 s.2.2.2.1 s.2.2.2.2) (x3, x4, x5, x7, m)) (fun e => r_X12_leaders_e181_h65_c51 x1 x2 e.1 e.2.1 e.2.2.1 x6 e.2.2.2)
set_option maxHeartbeats 4000000 in
set_option maxRecDepth 20000 in
theorem ok_X12_leaders_l65_c51 (x1 : Int32) (x2 : Int32) (x3 : Int32) (x4 : Int32) (x5 : Int32) (x6 : Int32) (x7 : Int32) (m : Mem) {r : (Int32 × Int32 × Int32 × Int32 × Mem) ⊕ (Int32 × Int32 × Int32 × Mem)} (h : r_X12_leaders_l65_c51 x1 x2 x3 x4 x5 x6 x7 m = some r) {o : Ou} {M' : Mem} (kb : ∀ (x3' : Int32) (x4' : Int32) (x5' : Int32) (x6' : Int32) (m'' : Mem), r = Sum.inl (x3', x4', x5', x6', m'') → Xj RX12 cX12_leaders 8 (some .int) 9 202 0 0 0 0 51 [(0, vR 12 0), (1, vI x1), (2, vI x2), (3, vI x3'), (4, vI x4'), (5, vI x5'), (6, vI x6')] [] m'' o M') (ke : ∀ (x3' : Int32) (x4' : Int32) (x5' : Int32) (m'' : Mem), r = Sum.inr (x3', x4', x5', m'') → Xj RX12 cX12_leaders 8 (some .int) 9 202 0 0 0 0 187 [(2, vI x2), (3, vI x3'), (4, vI x4'), (5, vI x5')] [] m'' o M') : Xj RX12 cX12_leaders 8 (some .int) 9 202 0 0 0 0 65 [(0, vR 12 0), (1, vI x1), (2, vI x2), (3, vI x3), (4, vI x4), (5, vI x5), (6, vI x6), (7, vI x7)] [] m o M' := by
  unfold r_X12_leaders_l65_c51 at h
  obtain ⟨e, e1, h⟩ := bd1_some h
  refine loopO_ok (P := fun s : (Int32 × Int32 × Int32 × Int32 × Mem) => Xj RX12 cX12_leaders 8 (some .int) 9 202 0 0 0 0 65 [(0, vR 12 0), (1, vI x1), (2, vI x2), (3, vI s.1), (4, vI s.2.1), (5, vI s.2.2.1), (6, vI x6), (7, vI s.2.2.2.1)] [] s.2.2.2.2 o M') (Q := fun e : (Int32 × Int32 × Int32 × Mem) => Xj RX12 cX12_leaders 8 (some .int) 9 202 0 0 0 0 181 [(0, vR 12 0), (1, vI x1), (2, vI x2), (3, vI e.1), (4, vI e.2.1), (5, vI e.2.2.1), (6, vI x6)] [] e.2.2.2 o M') ?_ _ _ e1 ?_
  · intro s r9 h9 hi hx
    exact ok_X12_leaders_b65_c51 x1 x2 x6 s.1 s.2.1 s.2.2.1 s.2.2.2.1 s.2.2.2.2 h9 (by rintro _ _ _ _ _ rfl; exact hi _ rfl) (by rintro _ _ _ _ rfl; exact hx _ rfl)
  · exact ok_X12_leaders_e181_h65_c51 x1 x2 e.1 e.2.1 e.2.2.1 x6 e.2.2.2 h kb ke
noncomputable def r_X12_leaders_b51 (x1 : Int32) (x2 : Int32) (x3 : Int32) (x4 : Int32) (x5 : Int32) (x6 : Int32) (m : Mem) : Option ((Int32 × Int32 × Int32 × Int32 × Mem) ⊕ (Int32 × Int32 × Int32 × Mem)) :=
  if (m 52 0 0) ≤ x6 then (some (Sum.inr (x3, x4, x5, m))) else (r_X12_leaders_l65_c51 x1 x2 x3 x4 x5 x6 0 m)
set_option maxHeartbeats 4000000 in
set_option maxRecDepth 20000 in
theorem ok_X12_leaders_b51 (x1 : Int32) (x2 : Int32) (x3 : Int32) (x4 : Int32) (x5 : Int32) (x6 : Int32) (m : Mem) {r : (Int32 × Int32 × Int32 × Int32 × Mem) ⊕ (Int32 × Int32 × Int32 × Mem)} (h : r_X12_leaders_b51 x1 x2 x3 x4 x5 x6 m = some r) {o : Ou} {M' : Mem} (kb : ∀ (x3' : Int32) (x4' : Int32) (x5' : Int32) (x6' : Int32) (m'' : Mem), r = Sum.inl (x3', x4', x5', x6', m'') → Xj RX12 cX12_leaders 8 (some .int) 9 202 0 0 0 0 51 [(0, vR 12 0), (1, vI x1), (2, vI x2), (3, vI x3'), (4, vI x4'), (5, vI x5'), (6, vI x6')] [] m'' o M') (ke : ∀ (x3' : Int32) (x4' : Int32) (x5' : Int32) (m'' : Mem), r = Sum.inr (x3', x4', x5', m'') → Xj RX12 cX12_leaders 8 (some .int) 9 202 0 0 0 0 187 [(2, vI x2), (3, vI x3'), (4, vI x4'), (5, vI x5')] [] m'' o M') : Xj RX12 cX12_leaders 8 (some .int) 9 202 0 0 0 0 51 [(0, vR 12 0), (1, vI x1), (2, vI x2), (3, vI x3), (4, vI x4), (5, vI x5), (6, vI x6)] [] m o M' := by
  unfold r_X12_leaders_b51 at h
  refine xj_iload 6 dX12_leaders_51 rfl ?_
  refine xj_aload_n 0 dX12_leaders_53 rfl ?_
  refine xg_getR (k' := 52) (i' := 0) dX12_leaders_54 fl_X12_23 rfl ?_
  refine xj_iconst (z := 0) dX12_leaders_57 (by decide) ?_
  refine xg_iald (z := (m 52 0 0)) (n := 0) dX12_leaders_58 rfl (by decide) (inb_in (by decide)) (by decide) rfl ?_
  refine xj_icmp_ge (tgt := 187) dX12_leaders_59 (by decide) (fun c7 => ?_) (fun c7 => ?_)
  · rw [if_pos c7] at h
    cases h
    refine xj_pick (ls' := [(2, vI x2), (3, vI x3), (4, vI x4), (5, vI x5)]) [2, 3, 4, 5] rfl ?_
    exact ke x3 x4 x5 m rfl
  · rw [if_neg c7] at h
    refine xj_iconst (z := 0) dX12_leaders_62 (by decide) ?_
    refine xj_istore (ls' := [(7, vI 0), (0, vR 12 0), (1, vI x1), (2, vI x2), (3, vI x3), (4, vI x4), (5, vI x5), (6, vI x6)]) dX12_leaders_63 (by decide) rfl ?_
    refine xj_pick (ls' := [(0, vR 12 0), (1, vI x1), (2, vI x2), (3, vI x3), (4, vI x4), (5, vI x5), (6, vI x6), (7, vI 0)]) [1, 2, 3, 4, 5, 6, 7, 0] rfl ?_
    exact ok_X12_leaders_l65_c51 x1 x2 x3 x4 x5 x6 0 m h kb ke
noncomputable def r_X12_leaders_e187_h51 (x2 : Int32) (x3 : Int32) (x4 : Int32) (x5 : Int32) (m : Mem) : Option (Int32 × Mem) :=
  if x2 = 0 then (some (x3, m)) else (if x2 = 1 then (some (x4, m)) else (some (x5, m)))
set_option maxHeartbeats 4000000 in
set_option maxRecDepth 20000 in
theorem ok_X12_leaders_e187_h51 (x2 : Int32) (x3 : Int32) (x4 : Int32) (x5 : Int32) (m : Mem) {z : Int32} {m' : Mem} (h : r_X12_leaders_e187_h51 x2 x3 x4 x5 m = some (z, m')) : Xj RX12 cX12_leaders 8 (some .int) 9 202 0 0 0 0 187 [(2, vI x2), (3, vI x3), (4, vI x4), (5, vI x5)] [] m (oI z) m' := by
  unfold r_X12_leaders_e187_h51 at h
  refine xj_iload_n 0 dX12_leaders_187 rfl ?_
  refine xj_if_ne (tgt := 195) dX12_leaders_188 (by decide) (fun c27 => ?_) (fun c27 => ?_)
  · rw [if_neg c27] at h
    refine xj_iload_n 0 dX12_leaders_195 rfl ?_
    refine xj_iconst (z := 1) dX12_leaders_196 (by decide) ?_
    refine xj_icmp_ne (tgt := 205) dX12_leaders_197 (by decide) (fun c28 => ?_) (fun c28 => ?_)
    · rw [if_neg c28] at h
      refine xj_iload 3 dX12_leaders_205 rfl ?_
      cases h
      exact xj_ireturn dX12_leaders_207 rfl (by decide) (by decide)
    · rw [if_pos c28] at h
      refine xj_iload 2 dX12_leaders_200 rfl ?_
      refine xj_goto (tgt := 207) dX12_leaders_202 (by decide) ?_
      cases h
      exact xj_ireturn dX12_leaders_207 rfl (by decide) (by decide)
  · rw [if_pos c27] at h
    refine xj_iload_n 1 dX12_leaders_191 rfl ?_
    refine xj_goto (tgt := 207) dX12_leaders_192 (by decide) ?_
    cases h
    exact xj_ireturn dX12_leaders_207 rfl (by decide) (by decide)
noncomputable def r_X12_leaders_l51 (x1 : Int32) (x2 : Int32) (x3 : Int32) (x4 : Int32) (x5 : Int32) (x6 : Int32) (m : Mem) : Option (Int32 × Mem) :=
  bd1 (loopO (fun s => r_X12_leaders_b51 x1 x2 s.1 s.2.1 s.2.2.1 s.2.2.2.1 s.2.2.2.2) (x3, x4, x5, x6, m)) (fun e => r_X12_leaders_e187_h51 x2 e.1 e.2.1 e.2.2.1 e.2.2.2)
set_option maxHeartbeats 4000000 in
set_option maxRecDepth 20000 in
theorem ok_X12_leaders_l51 (x1 : Int32) (x2 : Int32) (x3 : Int32) (x4 : Int32) (x5 : Int32) (x6 : Int32) (m : Mem) {z : Int32} {m' : Mem} (h : r_X12_leaders_l51 x1 x2 x3 x4 x5 x6 m = some (z, m')) : Xj RX12 cX12_leaders 8 (some .int) 9 202 0 0 0 0 51 [(0, vR 12 0), (1, vI x1), (2, vI x2), (3, vI x3), (4, vI x4), (5, vI x5), (6, vI x6)] [] m (oI z) m' := by
  unfold r_X12_leaders_l51 at h
  obtain ⟨e, e1, h⟩ := bd1_some h
  refine loopO_ok (P := fun s : (Int32 × Int32 × Int32 × Int32 × Mem) => Xj RX12 cX12_leaders 8 (some .int) 9 202 0 0 0 0 51 [(0, vR 12 0), (1, vI x1), (2, vI x2), (3, vI s.1), (4, vI s.2.1), (5, vI s.2.2.1), (6, vI s.2.2.2.1)] [] s.2.2.2.2 (oI z) m') (Q := fun e : (Int32 × Int32 × Int32 × Mem) => Xj RX12 cX12_leaders 8 (some .int) 9 202 0 0 0 0 187 [(2, vI x2), (3, vI e.1), (4, vI e.2.1), (5, vI e.2.2.1)] [] e.2.2.2 (oI z) m') ?_ _ _ e1 ?_
  · intro s r9 h9 hi hx
    exact ok_X12_leaders_b51 x1 x2 s.1 s.2.1 s.2.2.1 s.2.2.2.1 s.2.2.2.2 h9 (by rintro _ _ _ _ _ rfl; exact hi _ rfl) (by rintro _ _ _ _ rfl; exact hx _ rfl)
  · exact ok_X12_leaders_e187_h51 x2 e.1 e.2.1 e.2.2.1 e.2.2.2 h 
noncomputable def r_X12_leaders_j30 (x1 : Int32) (x2 : Int32) (s0 : Int32) (m : Mem) : Option (Int32 × Mem) :=
  bd2 (r_X12_bad s0 1 1 m) fun z5 m4 => (if z5 = true then (some (0, m4)) else (r_X12_leaders_l51 x1 x2 0 (-1) 0 0 m4))
set_option maxHeartbeats 4000000 in
set_option maxRecDepth 20000 in
theorem ok_X12_leaders_j30 (x1 : Int32) (x2 : Int32) (s0 : Int32) (m : Mem) {z : Int32} {m' : Mem} (h : r_X12_leaders_j30 x1 x2 s0 m = some (z, m')) : Xj RX12 cX12_leaders 8 (some .int) 9 202 0 0 0 0 30 [(0, vR 12 0), (1, vI x1), (2, vI x2)] [vI s0, vR 12 0] m (oI z) m' := by
  unfold r_X12_leaders_j30 at h
  refine xj_iconst (z := 1) dX12_leaders_30 (by decide) ?_
  refine xj_iconst (z := 1) dX12_leaders_31 (by decide) ?_
  obtain ⟨z5, m4, e3, h⟩ := bd2_some h
  refine xc_Vb0 (st := []) (ok_X12_bad s0 1 1 m e3) dX12_leaders_32 cv_X12_191 rfl rfl (Nat.le_of_ble_eq_true rfl) (by decide) (by decide) (by decide) (by decide) ?_
  refine xj_if_eq (tgt := 40) dX12_leaders_35 (by decide) (fun c6 => ?_) (fun c6 => ?_)
  · rw [if_neg (b2i_f c6)] at h
    refine xj_iconst (z := 0) dX12_leaders_40 (by decide) ?_
    refine xj_istore_n (ls' := [(3, vI 0), (0, vR 12 0), (1, vI x1), (2, vI x2)]) dX12_leaders_41 rfl (by decide) rfl ?_
    refine xj_iconst (z := (-1)) dX12_leaders_42 (by decide) ?_
    refine xj_istore (ls' := [(4, vI (-1)), (3, vI 0), (0, vR 12 0), (1, vI x1), (2, vI x2)]) dX12_leaders_43 (by decide) rfl ?_
    refine xj_iconst (z := 0) dX12_leaders_45 (by decide) ?_
    refine xj_istore (ls' := [(5, vI 0), (4, vI (-1)), (3, vI 0), (0, vR 12 0), (1, vI x1), (2, vI x2)]) dX12_leaders_46 (by decide) rfl ?_
    refine xj_iconst (z := 0) dX12_leaders_48 (by decide) ?_
    refine xj_istore (ls' := [(6, vI 0), (5, vI 0), (4, vI (-1)), (3, vI 0), (0, vR 12 0), (1, vI x1), (2, vI x2)]) dX12_leaders_49 (by decide) rfl ?_
    refine xj_pick (ls' := [(0, vR 12 0), (1, vI x1), (2, vI x2), (3, vI 0), (4, vI (-1)), (5, vI 0), (6, vI 0)]) [4, 5, 6, 3, 2, 1, 0] rfl ?_
    exact ok_X12_leaders_l51 x1 x2 0 (-1) 0 0 m4 h 
  · rw [if_pos (b2i_t c6)] at h
    refine xj_iconst (z := 0) dX12_leaders_38 (by decide) ?_
    cases h
    exact xj_ireturn dX12_leaders_39 rfl (by decide) (by decide)
noncomputable def r_X12_leaders_j25 (x1 : Int32) (x2 : Int32) (m : Mem) : Option (Int32 × Mem) :=
  r_X12_leaders_j30 x1 x2 1 m
set_option maxHeartbeats 4000000 in
set_option maxRecDepth 20000 in
theorem ok_X12_leaders_j25 (x1 : Int32) (x2 : Int32) (m : Mem) {z : Int32} {m' : Mem} (h : r_X12_leaders_j25 x1 x2 m = some (z, m')) : Xj RX12 cX12_leaders 8 (some .int) 9 202 0 0 0 0 25 [(0, vR 12 0), (1, vI x1), (2, vI x2)] [vR 12 0] m (oI z) m' := by
  unfold r_X12_leaders_j25 at h
  refine xj_iconst (z := 1) dX12_leaders_25 (by decide) ?_
  refine xj_goto (tgt := 30) dX12_leaders_26 (by decide) ?_
  exact ok_X12_leaders_j30 x1 x2 1 m h 
noncomputable def r_X12_leaders (x1 : Int32) (x2 : Int32) (m : Mem) : Option (Int32 × Mem) :=
  if (r_X12_in x1 0 30) = true then (if (r_X12_in x2 0 2) = true then (r_X12_leaders_j30 x1 x2 0 (wr m 12 0 0 0)) else (r_X12_leaders_j25 x1 x2 (wr m 12 0 0 0))) else (r_X12_leaders_j25 x1 x2 (wr m 12 0 0 0))
set_option maxHeartbeats 4000000 in
set_option maxRecDepth 20000 in
theorem ok_X12_leaders (x1 : Int32) (x2 : Int32) (m : Mem) {z : Int32} {m' : Mem} (h : r_X12_leaders x1 x2 m = some (z, m')) : Mt yX12_leaders cX12_leaders 8 (some .int) 9 202 0 0 [vR 12 0, vI x1, vI x2] m (oI z) m' := by
  refine Mt.of (by decide) (Nat.le_of_ble_eq_true rfl) (by decide +kernel) (hhF_ne (by decide)) ?_
  show Xj RX12 cX12_leaders 8 (some .int) 9 202 0 0 0 0 0 [(0, vR 12 0), (1, vI x1), (2, vI x2)] [] m (oI z) m'
  unfold r_X12_leaders at h
  refine xj_aload_n 0 dX12_leaders_0 rfl ?_
  refine xj_iconst (z := 0) dX12_leaders_1 (by decide) ?_
  refine xj_putI dX12_leaders_2 fw_X12_109 rfl ?_
  refine xj_aload_n 0 dX12_leaders_5 rfl ?_
  refine xj_iload_n 1 dX12_leaders_6 rfl ?_
  refine xj_iconst (z := 0) dX12_leaders_7 (by decide) ?_
  refine xj_bipush (z := 30) dX12_leaders_8 (by decide) ?_
  refine xc_Sb0 (st := [vR 12 0]) (ok_X12_in x1 0 30 (wr m 12 0 0 0) rfl) dX12_leaders_10 cs_X12_143 rfl rfl (Nat.le_of_ble_eq_true rfl) (by decide) (by decide) (by decide) (by decide) ?_
  refine xj_if_eq (tgt := 25) dX12_leaders_13 (by decide) (fun c1 => ?_) (fun c1 => ?_)
  · rw [if_neg (b2i_f c1)] at h
    exact ok_X12_leaders_j25 x1 x2 (wr m 12 0 0 0) h 
  · rw [if_pos (b2i_t c1)] at h
    refine xj_iload_n 2 dX12_leaders_16 rfl ?_
    refine xj_iconst (z := 0) dX12_leaders_17 (by decide) ?_
    refine xj_iconst (z := 2) dX12_leaders_18 (by decide) ?_
    refine xc_Sb0 (st := [vR 12 0]) (ok_X12_in x2 0 2 (wr m 12 0 0 0) rfl) dX12_leaders_19 cs_X12_143 rfl rfl (Nat.le_of_ble_eq_true rfl) (by decide) (by decide) (by decide) (by decide) ?_
    refine xj_if_ne (tgt := 29) dX12_leaders_22 (by decide) (fun c2 => ?_) (fun c2 => ?_)
    · rw [if_pos (b2i_t c2)] at h
      refine xj_iconst (z := 0) dX12_leaders_29 (by decide) ?_
      exact ok_X12_leaders_j30 x1 x2 0 (wr m 12 0 0 0) h 
    · rw [if_neg (b2i_f c2)] at h
      exact ok_X12_leaders_j25 x1 x2 (wr m 12 0 0 0) h 
noncomputable def r_X12_look_b40_c32 (x1 : Int32) (x2 : Int32) (x3 : Int32) (m : Mem) : Option ((Int32 × Mem) ⊕ (Mem)) :=
  if 12 < x3 then (some (Sum.inr m)) else (if inb x2 12 = true then (if inb x3 13 = true then (some (Sum.inl (x3 + 1, (wr m 87 x2.toNatClampNeg x3.toNatClampNeg 0)))) else none) else none)
set_option maxHeartbeats 4000000 in
set_option maxRecDepth 20000 in
theorem ok_X12_look_b40_c32 (x1 : Int32) (x2 : Int32) (x3 : Int32) (m : Mem) {r : (Int32 × Mem) ⊕ (Mem)} (h : r_X12_look_b40_c32 x1 x2 x3 m = some r) {o : Ou} {M' : Mem} (kb : ∀ (x3' : Int32) (m'' : Mem), r = Sum.inl (x3', m'') → Xj RX12 cX12_look 7 (some .int) 9 199 0 0 0 0 40 [(0, vR 12 0), (1, vI x1), (2, vI x2), (3, vI x3')] [] m'' o M') (ke : ∀ (m'' : Mem), r = Sum.inr m'' → Xj RX12 cX12_look 7 (some .int) 9 199 0 0 0 0 61 [(0, vR 12 0), (1, vI x1), (2, vI x2)] [] m'' o M') : Xj RX12 cX12_look 7 (some .int) 9 199 0 0 0 0 40 [(0, vR 12 0), (1, vI x1), (2, vI x2), (3, vI x3)] [] m o M' := by
  unfold r_X12_look_b40_c32 at h
  refine xj_iload_n 3 dX12_look_40 rfl ?_
  refine xj_bipush (z := 12) dX12_look_41 (by decide) ?_
  refine xj_icmp_gt (tgt := 61) dX12_look_43 (by decide) (fun c7 => ?_) (fun c7 => ?_)
  · rw [if_pos c7] at h
    cases h
    refine xj_pick (ls' := [(0, vR 12 0), (1, vI x1), (2, vI x2)]) [0, 1, 2] rfl ?_
    exact ke m rfl
  · rw [if_neg c7] at h
    refine xj_aload_n 0 dX12_look_46 rfl ?_
    refine xg_getR (k' := 88) (i' := 0) dX12_look_47 fl_X12_97 rfl ?_
    refine xj_iload_n 2 dX12_look_50 rfl ?_
    by_cases c8 : inb x2 12 = true
    case neg => rw [if_neg c8] at h; cases h
    rw [if_pos c8] at h
    refine xg_aald (k' := 87) (i' := x2.toNatClampNeg) (n := x2.toNatClampNeg) dX12_look_51 rfl (by decide) (inb_in c8) rfl rfl ?_
    refine xj_iload_n 3 dX12_look_52 rfl ?_
    refine xj_iconst (z := 0) dX12_look_53 (by decide) ?_
    by_cases c9 : inb x3 13 = true
    case neg => rw [if_neg c9] at h; cases h
    rw [if_pos c9] at h
    refine xg_iast (n := x3.toNatClampNeg) dX12_look_54 rfl (by decide) (inb_in c9) rfl ?_
    refine xj_iinc (z := x3 + 1) (ls' := [(3, vI (x3 + 1)), (0, vR 12 0), (1, vI x1), (2, vI x2)]) 3 dX12_look_55 rfl rfl (by decide) rfl ?_
    refine xj_goto (tgt := 40) dX12_look_58 (by decide) ?_
    cases h
    refine xj_pick (ls' := [(0, vR 12 0), (1, vI x1), (2, vI x2), (3, vI (x3 + 1))]) [1, 2, 3, 0] rfl ?_
    exact kb (x3 + 1) (wr m 87 x2.toNatClampNeg x3.toNatClampNeg 0) rfl
noncomputable def r_X12_look_e61_h40_c32 (x1 : Int32) (x2 : Int32) (m : Mem) : Option ((Int32 × Mem) ⊕ (Mem)) :=
  some (Sum.inl (x2 + 1, m))
set_option maxHeartbeats 4000000 in
set_option maxRecDepth 20000 in
theorem ok_X12_look_e61_h40_c32 (x1 : Int32) (x2 : Int32) (m : Mem) {r : (Int32 × Mem) ⊕ (Mem)} (h : r_X12_look_e61_h40_c32 x1 x2 m = some r) {o : Ou} {M' : Mem} (kb : ∀ (x2' : Int32) (m'' : Mem), r = Sum.inl (x2', m'') → Xj RX12 cX12_look 7 (some .int) 9 199 0 0 0 0 32 [(0, vR 12 0), (1, vI x1), (2, vI x2')] [] m'' o M') (ke : ∀ (m'' : Mem), r = Sum.inr m'' → Xj RX12 cX12_look 7 (some .int) 9 199 0 0 0 0 67 [(0, vR 12 0), (1, vI x1)] [] m'' o M') : Xj RX12 cX12_look 7 (some .int) 9 199 0 0 0 0 61 [(0, vR 12 0), (1, vI x1), (2, vI x2)] [] m o M' := by
  unfold r_X12_look_e61_h40_c32 at h
  refine xj_iinc (z := x2 + 1) (ls' := [(2, vI (x2 + 1)), (0, vR 12 0), (1, vI x1)]) 2 dX12_look_61 rfl rfl (by decide) rfl ?_
  refine xj_goto (tgt := 32) dX12_look_64 (by decide) ?_
  cases h
  refine xj_pick (ls' := [(0, vR 12 0), (1, vI x1), (2, vI (x2 + 1))]) [1, 2, 0] rfl ?_
  exact kb (x2 + 1) m rfl
noncomputable def r_X12_look_l40_c32 (x1 : Int32) (x2 : Int32) (x3 : Int32) (m : Mem) : Option ((Int32 × Mem) ⊕ (Mem)) :=
  bd1 (loopO (fun s => r_X12_look_b40_c32 x1 x2 s.1 s.2) (x3, m)) (fun e => r_X12_look_e61_h40_c32 x1 x2 e)
set_option maxHeartbeats 4000000 in
set_option maxRecDepth 20000 in
theorem ok_X12_look_l40_c32 (x1 : Int32) (x2 : Int32) (x3 : Int32) (m : Mem) {r : (Int32 × Mem) ⊕ (Mem)} (h : r_X12_look_l40_c32 x1 x2 x3 m = some r) {o : Ou} {M' : Mem} (kb : ∀ (x2' : Int32) (m'' : Mem), r = Sum.inl (x2', m'') → Xj RX12 cX12_look 7 (some .int) 9 199 0 0 0 0 32 [(0, vR 12 0), (1, vI x1), (2, vI x2')] [] m'' o M') (ke : ∀ (m'' : Mem), r = Sum.inr m'' → Xj RX12 cX12_look 7 (some .int) 9 199 0 0 0 0 67 [(0, vR 12 0), (1, vI x1)] [] m'' o M') : Xj RX12 cX12_look 7 (some .int) 9 199 0 0 0 0 40 [(0, vR 12 0), (1, vI x1), (2, vI x2), (3, vI x3)] [] m o M' := by
  unfold r_X12_look_l40_c32 at h
  obtain ⟨e, e1, h⟩ := bd1_some h
  refine loopO_ok (P := fun s : (Int32 × Mem) => Xj RX12 cX12_look 7 (some .int) 9 199 0 0 0 0 40 [(0, vR 12 0), (1, vI x1), (2, vI x2), (3, vI s.1)] [] s.2 o M') (Q := fun e : (Mem) => Xj RX12 cX12_look 7 (some .int) 9 199 0 0 0 0 61 [(0, vR 12 0), (1, vI x1), (2, vI x2)] [] e o M') ?_ _ _ e1 ?_
  · intro s r9 h9 hi hx
    exact ok_X12_look_b40_c32 x1 x2 s.1 s.2 h9 (by rintro _ _ rfl; exact hi _ rfl) (by rintro _ rfl; exact hx _ rfl)
  · exact ok_X12_look_e61_h40_c32 x1 x2 e h kb ke
noncomputable def r_X12_look_b32 (x1 : Int32) (x2 : Int32) (m : Mem) : Option ((Int32 × Mem) ⊕ (Mem)) :=
  if 12 ≤ x2 then (some (Sum.inr m)) else (r_X12_look_l40_c32 x1 x2 0 m)
set_option maxHeartbeats 4000000 in
set_option maxRecDepth 20000 in
theorem ok_X12_look_b32 (x1 : Int32) (x2 : Int32) (m : Mem) {r : (Int32 × Mem) ⊕ (Mem)} (h : r_X12_look_b32 x1 x2 m = some r) {o : Ou} {M' : Mem} (kb : ∀ (x2' : Int32) (m'' : Mem), r = Sum.inl (x2', m'') → Xj RX12 cX12_look 7 (some .int) 9 199 0 0 0 0 32 [(0, vR 12 0), (1, vI x1), (2, vI x2')] [] m'' o M') (ke : ∀ (m'' : Mem), r = Sum.inr m'' → Xj RX12 cX12_look 7 (some .int) 9 199 0 0 0 0 67 [(0, vR 12 0), (1, vI x1)] [] m'' o M') : Xj RX12 cX12_look 7 (some .int) 9 199 0 0 0 0 32 [(0, vR 12 0), (1, vI x1), (2, vI x2)] [] m o M' := by
  unfold r_X12_look_b32 at h
  refine xj_iload_n 2 dX12_look_32 rfl ?_
  refine xj_bipush (z := 12) dX12_look_33 (by decide) ?_
  refine xj_icmp_ge (tgt := 67) dX12_look_35 (by decide) (fun c6 => ?_) (fun c6 => ?_)
  · rw [if_pos c6] at h
    cases h
    refine xj_pick (ls' := [(0, vR 12 0), (1, vI x1)]) [0, 1] rfl ?_
    exact ke m rfl
  · rw [if_neg c6] at h
    refine xj_iconst (z := 0) dX12_look_38 (by decide) ?_
    refine xj_istore_n (ls' := [(3, vI 0), (0, vR 12 0), (1, vI x1), (2, vI x2)]) dX12_look_39 rfl (by decide) rfl ?_
    refine xj_pick (ls' := [(0, vR 12 0), (1, vI x1), (2, vI x2), (3, vI 0)]) [1, 2, 3, 0] rfl ?_
    exact ok_X12_look_l40_c32 x1 x2 0 m h kb ke
noncomputable def r_X12_look_b91_c69 (x1 : Int32) (x2 : Int32) (x3 : Int32) (m : Mem) : Option ((Int32 × Mem) ⊕ (Mem)) :=
  if (m 52 0 0) ≤ x3 then (some (Sum.inr m)) else (if inb x3 12 = true then (bd2 (r_X12_nextOf 1 x3 m) fun z19 m18 => (if inb (z19 + 1) 13 = true then (some (Sum.inl (x3 + 1, (wr m18 87 x3.toNatClampNeg ((z19 + 1).toNatClampNeg) ((m18 87 x3.toNatClampNeg ((z19 + 1).toNatClampNeg)) + 1))))) else none)) else none)
set_option maxHeartbeats 4000000 in
set_option maxRecDepth 20000 in
theorem ok_X12_look_b91_c69 (x1 : Int32) (x2 : Int32) (x3 : Int32) (m : Mem) {r : (Int32 × Mem) ⊕ (Mem)} (h : r_X12_look_b91_c69 x1 x2 x3 m = some r) {o : Ou} {M' : Mem} (kb : ∀ (x3' : Int32) (m'' : Mem), r = Sum.inl (x3', m'') → Xj RX12 cX12_look 7 (some .int) 9 199 0 0 0 0 91 [(0, vR 12 0), (1, vI x1), (2, vI x2), (3, vI x3')] [] m'' o M') (ke : ∀ (m'' : Mem), r = Sum.inr m'' → Xj RX12 cX12_look 7 (some .int) 9 199 0 0 0 0 129 [(0, vR 12 0), (1, vI x1), (2, vI x2)] [] m'' o M') : Xj RX12 cX12_look 7 (some .int) 9 199 0 0 0 0 91 [(0, vR 12 0), (1, vI x1), (2, vI x2), (3, vI x3)] [] m o M' := by
  unfold r_X12_look_b91_c69 at h
  refine xj_iload_n 3 dX12_look_91 rfl ?_
  refine xj_aload_n 0 dX12_look_92 rfl ?_
  refine xg_getR (k' := 52) (i' := 0) dX12_look_93 fl_X12_23 rfl ?_
  refine xj_iconst (z := 0) dX12_look_96 (by decide) ?_
  refine xg_iald (z := (m 52 0 0)) (n := 0) dX12_look_97 rfl (by decide) (inb_in (by decide)) (by decide) rfl ?_
  refine xj_icmp_ge (tgt := 129) dX12_look_98 (by decide) (fun c15 => ?_) (fun c15 => ?_)
  · rw [if_pos c15] at h
    cases h
    refine xj_pick (ls' := [(0, vR 12 0), (1, vI x1), (2, vI x2)]) [0, 1, 2] rfl ?_
    exact ke m rfl
  · rw [if_neg c15] at h
    refine xj_aload_n 0 dX12_look_101 rfl ?_
    refine xg_getR (k' := 88) (i' := 0) dX12_look_102 fl_X12_97 rfl ?_
    refine xj_iload_n 3 dX12_look_105 rfl ?_
    by_cases c16 : inb x3 12 = true
    case neg => rw [if_neg c16] at h; cases h
    rw [if_pos c16] at h
    refine xg_aald (k' := 87) (i' := x3.toNatClampNeg) (n := x3.toNatClampNeg) dX12_look_106 rfl (by decide) (inb_in c16) rfl rfl ?_
    refine xj_aload_n 0 dX12_look_107 rfl ?_
    refine xj_aload_n 0 dX12_look_108 rfl ?_
    refine xg_getR (k' := 60) (i' := 1) dX12_look_109 fl_X12_76 rfl ?_
    refine xj_iload_n 3 dX12_look_112 rfl ?_
    obtain ⟨z19, m18, e17, h⟩ := bd2_some h
    refine xc_Vi0 (st := [vR 87 x3.toNatClampNeg]) (ok_X12_nextOf 1 x3 m e17) dX12_look_113 cv_X12_301 rfl rfl (Nat.le_of_ble_eq_true rfl) (by decide) (by decide) (by decide) (by decide) ?_
    refine xj_iconst (z := 1) dX12_look_116 (by decide) ?_
    refine xj_iadd dX12_look_117 ?_
    refine xj_dup2 dX12_look_118 rfl rfl ?_
    by_cases c20 : inb (z19 + 1) 13 = true
    case neg => rw [if_neg c20] at h; cases h
    rw [if_pos c20] at h
    refine xg_iald (z := (m18 87 x3.toNatClampNeg ((z19 + 1).toNatClampNeg))) (n := (z19 + 1).toNatClampNeg) dX12_look_119 rfl (by decide) (inb_in c20) rfl rfl ?_
    refine xj_iconst (z := 1) dX12_look_120 (by decide) ?_
    refine xj_iadd dX12_look_121 ?_
    refine xg_iast (n := (z19 + 1).toNatClampNeg) dX12_look_122 rfl (by decide) (inb_in c20) rfl ?_
    refine xj_iinc (z := x3 + 1) (ls' := [(3, vI (x3 + 1)), (0, vR 12 0), (1, vI x1), (2, vI x2)]) 3 dX12_look_123 rfl rfl (by decide) rfl ?_
    refine xj_goto (tgt := 91) dX12_look_126 (by decide) ?_
    cases h
    refine xj_pick (ls' := [(0, vR 12 0), (1, vI x1), (2, vI x2), (3, vI (x3 + 1))]) [1, 2, 3, 0] rfl ?_
    exact kb (x3 + 1) (wr m18 87 x3.toNatClampNeg ((z19 + 1).toNatClampNeg) ((m18 87 x3.toNatClampNeg ((z19 + 1).toNatClampNeg)) + 1)) rfl
noncomputable def r_X12_look_j129_c69 (x1 : Int32) (x2 : Int32) (m : Mem) : Option ((Int32 × Mem) ⊕ (Mem)) :=
  some (Sum.inl (x2 + 1, m))
set_option maxHeartbeats 4000000 in
set_option maxRecDepth 20000 in
theorem ok_X12_look_j129_c69 (x1 : Int32) (x2 : Int32) (m : Mem) {r : (Int32 × Mem) ⊕ (Mem)} (h : r_X12_look_j129_c69 x1 x2 m = some r) {o : Ou} {M' : Mem} (kb : ∀ (x2' : Int32) (m'' : Mem), r = Sum.inl (x2', m'') → Xj RX12 cX12_look 7 (some .int) 9 199 0 0 0 0 69 [(0, vR 12 0), (1, vI x1), (2, vI x2')] [] m'' o M') (ke : ∀ (m'' : Mem), r = Sum.inr m'' → Xj RX12 cX12_look 7 (some .int) 9 199 0 0 0 0 135 [(0, vR 12 0), (1, vI x1)] [] m'' o M') : Xj RX12 cX12_look 7 (some .int) 9 199 0 0 0 0 129 [(0, vR 12 0), (1, vI x1), (2, vI x2)] [] m o M' := by
  unfold r_X12_look_j129_c69 at h
  refine xj_iinc (z := x2 + 1) (ls' := [(2, vI (x2 + 1)), (0, vR 12 0), (1, vI x1)]) 2 dX12_look_129 rfl rfl (by decide) rfl ?_
  refine xj_goto (tgt := 69) dX12_look_132 (by decide) ?_
  cases h
  refine xj_pick (ls' := [(0, vR 12 0), (1, vI x1), (2, vI (x2 + 1))]) [1, 2, 0] rfl ?_
  exact kb (x2 + 1) m rfl
noncomputable def r_X12_look_e129_h91_c69 (x1 : Int32) (x2 : Int32) (m : Mem) : Option ((Int32 × Mem) ⊕ (Mem)) :=
  r_X12_look_j129_c69 x1 x2 m
set_option maxHeartbeats 4000000 in
set_option maxRecDepth 20000 in
theorem ok_X12_look_e129_h91_c69 (x1 : Int32) (x2 : Int32) (m : Mem) {r : (Int32 × Mem) ⊕ (Mem)} (h : r_X12_look_e129_h91_c69 x1 x2 m = some r) {o : Ou} {M' : Mem} (kb : ∀ (x2' : Int32) (m'' : Mem), r = Sum.inl (x2', m'') → Xj RX12 cX12_look 7 (some .int) 9 199 0 0 0 0 69 [(0, vR 12 0), (1, vI x1), (2, vI x2')] [] m'' o M') (ke : ∀ (m'' : Mem), r = Sum.inr m'' → Xj RX12 cX12_look 7 (some .int) 9 199 0 0 0 0 135 [(0, vR 12 0), (1, vI x1)] [] m'' o M') : Xj RX12 cX12_look 7 (some .int) 9 199 0 0 0 0 129 [(0, vR 12 0), (1, vI x1), (2, vI x2)] [] m o M' := by
  unfold r_X12_look_e129_h91_c69 at h
  exact ok_X12_look_j129_c69 x1 x2 m h kb ke
noncomputable def r_X12_look_l91_c69 (x1 : Int32) (x2 : Int32) (x3 : Int32) (m : Mem) : Option ((Int32 × Mem) ⊕ (Mem)) :=
  bd1 (loopO (fun s => r_X12_look_b91_c69 x1 x2 s.1 s.2) (x3, m)) (fun e => r_X12_look_e129_h91_c69 x1 x2 e)
set_option maxHeartbeats 4000000 in
set_option maxRecDepth 20000 in
theorem ok_X12_look_l91_c69 (x1 : Int32) (x2 : Int32) (x3 : Int32) (m : Mem) {r : (Int32 × Mem) ⊕ (Mem)} (h : r_X12_look_l91_c69 x1 x2 x3 m = some r) {o : Ou} {M' : Mem} (kb : ∀ (x2' : Int32) (m'' : Mem), r = Sum.inl (x2', m'') → Xj RX12 cX12_look 7 (some .int) 9 199 0 0 0 0 69 [(0, vR 12 0), (1, vI x1), (2, vI x2')] [] m'' o M') (ke : ∀ (m'' : Mem), r = Sum.inr m'' → Xj RX12 cX12_look 7 (some .int) 9 199 0 0 0 0 135 [(0, vR 12 0), (1, vI x1)] [] m'' o M') : Xj RX12 cX12_look 7 (some .int) 9 199 0 0 0 0 91 [(0, vR 12 0), (1, vI x1), (2, vI x2), (3, vI x3)] [] m o M' := by
  unfold r_X12_look_l91_c69 at h
  obtain ⟨e, e1, h⟩ := bd1_some h
  refine loopO_ok (P := fun s : (Int32 × Mem) => Xj RX12 cX12_look 7 (some .int) 9 199 0 0 0 0 91 [(0, vR 12 0), (1, vI x1), (2, vI x2), (3, vI s.1)] [] s.2 o M') (Q := fun e : (Mem) => Xj RX12 cX12_look 7 (some .int) 9 199 0 0 0 0 129 [(0, vR 12 0), (1, vI x1), (2, vI x2)] [] e o M') ?_ _ _ e1 ?_
  · intro s r9 h9 hi hx
    exact ok_X12_look_b91_c69 x1 x2 s.1 s.2 h9 (by rintro _ _ rfl; exact hi _ rfl) (by rintro _ rfl; exact hx _ rfl)
  · exact ok_X12_look_e129_h91_c69 x1 x2 e h kb ke
noncomputable def r_X12_look_b69 (x1 : Int32) (x2 : Int32) (m : Mem) : Option ((Int32 × Mem) ⊕ (Mem)) :=
  if (1 <<< ((m 52 0 2) &&& 31)) ≤ x2 then (some (Sum.inr m)) else (bd2 (r_X12_isForgotten x2 m) fun z13 m12 => (if z13 = true then (r_X12_look_l91_c69 x1 x2 0 m12) else (r_X12_look_j129_c69 x1 x2 m12)))
set_option maxHeartbeats 4000000 in
set_option maxRecDepth 20000 in
theorem ok_X12_look_b69 (x1 : Int32) (x2 : Int32) (m : Mem) {r : (Int32 × Mem) ⊕ (Mem)} (h : r_X12_look_b69 x1 x2 m = some r) {o : Ou} {M' : Mem} (kb : ∀ (x2' : Int32) (m'' : Mem), r = Sum.inl (x2', m'') → Xj RX12 cX12_look 7 (some .int) 9 199 0 0 0 0 69 [(0, vR 12 0), (1, vI x1), (2, vI x2')] [] m'' o M') (ke : ∀ (m'' : Mem), r = Sum.inr m'' → Xj RX12 cX12_look 7 (some .int) 9 199 0 0 0 0 135 [(0, vR 12 0), (1, vI x1)] [] m'' o M') : Xj RX12 cX12_look 7 (some .int) 9 199 0 0 0 0 69 [(0, vR 12 0), (1, vI x1), (2, vI x2)] [] m o M' := by
  unfold r_X12_look_b69 at h
  refine xj_iload_n 2 dX12_look_69 rfl ?_
  refine xj_iconst (z := 1) dX12_look_70 (by decide) ?_
  refine xj_aload_n 0 dX12_look_71 rfl ?_
  refine xg_getR (k' := 52) (i' := 0) dX12_look_72 fl_X12_23 rfl ?_
  refine xj_iconst (z := 2) dX12_look_75 (by decide) ?_
  refine xg_iald (z := (m 52 0 2)) (n := 2) dX12_look_76 rfl (by decide) (inb_in (by decide)) (by decide) rfl ?_
  refine xj_ishl dX12_look_77 ?_
  refine xj_icmp_ge (tgt := 135) dX12_look_78 (by decide) (fun c10 => ?_) (fun c10 => ?_)
  · rw [if_pos c10] at h
    cases h
    refine xj_pick (ls' := [(0, vR 12 0), (1, vI x1)]) [0, 1] rfl ?_
    exact ke m rfl
  · rw [if_neg c10] at h
    refine xj_aload_n 0 dX12_look_81 rfl ?_
    refine xj_iload_n 2 dX12_look_82 rfl ?_
    obtain ⟨z13, m12, e11, h⟩ := bd2_some h
    refine xc_Vb0 (st := []) (ok_X12_isForgotten x2 m e11) dX12_look_83 cv_X12_384 rfl rfl (Nat.le_of_ble_eq_true rfl) (by decide) (by decide) (by decide) (by decide) ?_
    refine xj_if_eq (tgt := 129) dX12_look_86 (by decide) (fun c14 => ?_) (fun c14 => ?_)
    · rw [if_neg (b2i_f c14)] at h
      exact ok_X12_look_j129_c69 x1 x2 m12 h kb ke
    · rw [if_pos (b2i_t c14)] at h
      refine xj_iconst (z := 0) dX12_look_89 (by decide) ?_
      refine xj_istore_n (ls' := [(3, vI 0), (0, vR 12 0), (1, vI x1), (2, vI x2)]) dX12_look_90 rfl (by decide) rfl ?_
      refine xj_pick (ls' := [(0, vR 12 0), (1, vI x1), (2, vI x2), (3, vI 0)]) [1, 2, 3, 0] rfl ?_
      exact ok_X12_look_l91_c69 x1 x2 0 m12 h kb ke
noncomputable def r_X12_look_j221_c142 (x1 : Int32) (x2 : Int32) (x3 : Int32) (x4 : Int32) (m : Mem) : Option ((Int32 × Int32 × Int32) ⊕ (Int32 × Int32)) :=
  some (Sum.inl (x2, x3, x4 + 1))
set_option maxHeartbeats 4000000 in
set_option maxRecDepth 20000 in
theorem ok_X12_look_j221_c142 (x1 : Int32) (x2 : Int32) (x3 : Int32) (x4 : Int32) (m : Mem) {r : (Int32 × Int32 × Int32) ⊕ (Int32 × Int32)} (h : r_X12_look_j221_c142 x1 x2 x3 x4 m = some r) {o : Ou} {M' : Mem} (kb : ∀ (x2' : Int32) (x3' : Int32) (x4' : Int32), r = Sum.inl (x2', x3', x4') → Xj RX12 cX12_look 7 (some .int) 9 199 0 0 0 0 142 [(0, vR 12 0), (1, vI x1), (2, vI x2'), (3, vI x3'), (4, vI x4')] [] m o M') (ke : ∀ (x2' : Int32) (x3' : Int32), r = Sum.inr (x2', x3') → Xj RX12 cX12_look 7 (some .int) 9 199 0 0 0 0 227 [(1, vI x1), (2, vI x2'), (3, vI x3')] [] m o M') : Xj RX12 cX12_look 7 (some .int) 9 199 0 0 0 0 221 [(0, vR 12 0), (1, vI x1), (2, vI x2), (3, vI x3), (4, vI x4)] [] m o M' := by
  unfold r_X12_look_j221_c142 at h
  refine xj_iinc (z := x4 + 1) (ls' := [(4, vI (x4 + 1)), (0, vR 12 0), (1, vI x1), (2, vI x2), (3, vI x3)]) 4 dX12_look_221 rfl rfl (by decide) rfl ?_
  refine xj_goto (tgt := 142) dX12_look_224 (by decide) ?_
  cases h
  refine xj_pick (ls' := [(0, vR 12 0), (1, vI x1), (2, vI x2), (3, vI x3), (4, vI (x4 + 1))]) [1, 2, 3, 4, 0] rfl ?_
  exact kb x2 x3 (x4 + 1) rfl
noncomputable def r_X12_look_b171_c142 (x1 : Int32) (x2 : Int32) (x3 : Int32) (x4 : Int32) (m : Mem) (x5 : Int32) (x6 : Int32) : Option ((Int32 × Int32) ⊕ (Int32)) :=
  if 12 < x6 then (some (Sum.inr x5)) else (if inb x4 12 = true then (if inb x6 13 = true then (some (Sum.inl ((r_X12_more x5 (m 87 x4.toNatClampNeg x6.toNatClampNeg)), x6 + 1))) else none) else none)
set_option maxHeartbeats 4000000 in
set_option maxRecDepth 20000 in
theorem ok_X12_look_b171_c142 (x1 : Int32) (x2 : Int32) (x3 : Int32) (x4 : Int32) (m : Mem) (x5 : Int32) (x6 : Int32) {r : (Int32 × Int32) ⊕ (Int32)} (h : r_X12_look_b171_c142 x1 x2 x3 x4 m x5 x6 = some r) {o : Ou} {M' : Mem} (kb : ∀ (x5' : Int32) (x6' : Int32), r = Sum.inl (x5', x6') → Xj RX12 cX12_look 7 (some .int) 9 199 0 0 0 0 171 [(0, vR 12 0), (1, vI x1), (2, vI x2), (3, vI x3), (4, vI x4), (5, vI x5'), (6, vI x6')] [] m o M') (ke : ∀ (x5' : Int32), r = Sum.inr x5' → Xj RX12 cX12_look 7 (some .int) 9 199 0 0 0 0 201 [(0, vR 12 0), (1, vI x1), (2, vI x2), (3, vI x3), (4, vI x4), (5, vI x5')] [] m o M') : Xj RX12 cX12_look 7 (some .int) 9 199 0 0 0 0 171 [(0, vR 12 0), (1, vI x1), (2, vI x2), (3, vI x3), (4, vI x4), (5, vI x5), (6, vI x6)] [] m o M' := by
  unfold r_X12_look_b171_c142 at h
  refine xj_iload 6 dX12_look_171 rfl ?_
  refine xj_bipush (z := 12) dX12_look_173 (by decide) ?_
  refine xj_icmp_gt (tgt := 201) dX12_look_175 (by decide) (fun c25 => ?_) (fun c25 => ?_)
  · rw [if_pos c25] at h
    cases h
    refine xj_pick (ls' := [(0, vR 12 0), (1, vI x1), (2, vI x2), (3, vI x3), (4, vI x4), (5, vI x5)]) [0, 1, 2, 3, 4, 5] rfl ?_
    exact ke x5 rfl
  · rw [if_neg c25] at h
    refine xj_iload 5 dX12_look_178 rfl ?_
    refine xj_aload_n 0 dX12_look_180 rfl ?_
    refine xg_getR (k' := 88) (i' := 0) dX12_look_181 fl_X12_97 rfl ?_
    refine xj_iload 4 dX12_look_184 rfl ?_
    by_cases c26 : inb x4 12 = true
    case neg => rw [if_neg c26] at h; cases h
    rw [if_pos c26] at h
    refine xg_aald (k' := 87) (i' := x4.toNatClampNeg) (n := x4.toNatClampNeg) dX12_look_186 rfl (by decide) (inb_in c26) rfl rfl ?_
    refine xj_iload 6 dX12_look_187 rfl ?_
    by_cases c27 : inb x6 13 = true
    case neg => rw [if_neg c27] at h; cases h
    rw [if_pos c27] at h
    refine xg_iald (z := (m 87 x4.toNatClampNeg x6.toNatClampNeg)) (n := x6.toNatClampNeg) dX12_look_189 rfl (by decide) (inb_in c27) rfl rfl ?_
    refine xc_Si0 (st := []) (ok_X12_more x5 (m 87 x4.toNatClampNeg x6.toNatClampNeg) m rfl) dX12_look_190 cs_X12_257 rfl rfl (Nat.le_of_ble_eq_true rfl) (by decide) (by decide) (by decide) (by decide) ?_
    refine xj_istore (ls' := [(5, vI (r_X12_more x5 (m 87 x4.toNatClampNeg x6.toNatClampNeg))), (0, vR 12 0), (1, vI x1), (2, vI x2), (3, vI x3), (4, vI x4), (6, vI x6)]) dX12_look_193 (by decide) rfl ?_
    refine xj_iinc (z := x6 + 1) (ls' := [(6, vI (x6 + 1)), (5, vI (r_X12_more x5 (m 87 x4.toNatClampNeg x6.toNatClampNeg))), (0, vR 12 0), (1, vI x1), (2, vI x2), (3, vI x3), (4, vI x4)]) 6 dX12_look_195 rfl rfl (by decide) rfl ?_
    refine xj_goto (tgt := 171) dX12_look_198 (by decide) ?_
    cases h
    refine xj_pick (ls' := [(0, vR 12 0), (1, vI x1), (2, vI x2), (3, vI x3), (4, vI x4), (5, vI (r_X12_more x5 (m 87 x4.toNatClampNeg x6.toNatClampNeg))), (6, vI (x6 + 1))]) [2, 3, 4, 5, 6, 1, 0] rfl ?_
    exact kb (r_X12_more x5 (m 87 x4.toNatClampNeg x6.toNatClampNeg)) (x6 + 1) rfl
noncomputable def r_X12_look_j215_c142 (x1 : Int32) (x4 : Int32) (x5 : Int32) (m : Mem) : Option ((Int32 × Int32 × Int32) ⊕ (Int32 × Int32)) :=
  r_X12_look_j221_c142 x1 x4 x5 x4 m
set_option maxHeartbeats 4000000 in
set_option maxRecDepth 20000 in
theorem ok_X12_look_j215_c142 (x1 : Int32) (x4 : Int32) (x5 : Int32) (m : Mem) {r : (Int32 × Int32 × Int32) ⊕ (Int32 × Int32)} (h : r_X12_look_j215_c142 x1 x4 x5 m = some r) {o : Ou} {M' : Mem} (kb : ∀ (x2' : Int32) (x3' : Int32) (x4' : Int32), r = Sum.inl (x2', x3', x4') → Xj RX12 cX12_look 7 (some .int) 9 199 0 0 0 0 142 [(0, vR 12 0), (1, vI x1), (2, vI x2'), (3, vI x3'), (4, vI x4')] [] m o M') (ke : ∀ (x2' : Int32) (x3' : Int32), r = Sum.inr (x2', x3') → Xj RX12 cX12_look 7 (some .int) 9 199 0 0 0 0 227 [(1, vI x1), (2, vI x2'), (3, vI x3')] [] m o M') : Xj RX12 cX12_look 7 (some .int) 9 199 0 0 0 0 215 [(0, vR 12 0), (1, vI x1), (4, vI x4), (5, vI x5)] [] m o M' := by
  unfold r_X12_look_j215_c142 at h
  refine xj_iload 2 dX12_look_215 rfl ?_
  refine xj_istore_n (ls' := [(2, vI x4), (0, vR 12 0), (1, vI x1), (4, vI x4), (5, vI x5)]) dX12_look_217 rfl (by decide) rfl ?_
  refine xj_iload 4 dX12_look_218 rfl ?_
  refine xj_istore_n (ls' := [(3, vI x5), (2, vI x4), (0, vR 12 0), (1, vI x1), (4, vI x4), (5, vI x5)]) dX12_look_220 rfl (by decide) rfl ?_
  refine xj_pick (ls' := [(0, vR 12 0), (1, vI x1), (2, vI x4), (3, vI x5), (4, vI x4)]) [2, 3, 1, 0, 4] rfl ?_
  exact ok_X12_look_j221_c142 x1 x4 x5 x4 m h kb ke
noncomputable def r_X12_look_e201_h171_c142 (x1 : Int32) (x2 : Int32) (x3 : Int32) (x4 : Int32) (x5 : Int32) (m : Mem) : Option ((Int32 × Int32 × Int32) ⊕ (Int32 × Int32)) :=
  if x2 = (-1) then (r_X12_look_j215_c142 x1 x4 x5 m) else (if x5 < x3 then (r_X12_look_j215_c142 x1 x4 x5 m) else (r_X12_look_j221_c142 x1 x2 x3 x4 m))
set_option maxHeartbeats 4000000 in
set_option maxRecDepth 20000 in
theorem ok_X12_look_e201_h171_c142 (x1 : Int32) (x2 : Int32) (x3 : Int32) (x4 : Int32) (x5 : Int32) (m : Mem) {r : (Int32 × Int32 × Int32) ⊕ (Int32 × Int32)} (h : r_X12_look_e201_h171_c142 x1 x2 x3 x4 x5 m = some r) {o : Ou} {M' : Mem} (kb : ∀ (x2' : Int32) (x3' : Int32) (x4' : Int32), r = Sum.inl (x2', x3', x4') → Xj RX12 cX12_look 7 (some .int) 9 199 0 0 0 0 142 [(0, vR 12 0), (1, vI x1), (2, vI x2'), (3, vI x3'), (4, vI x4')] [] m o M') (ke : ∀ (x2' : Int32) (x3' : Int32), r = Sum.inr (x2', x3') → Xj RX12 cX12_look 7 (some .int) 9 199 0 0 0 0 227 [(1, vI x1), (2, vI x2'), (3, vI x3')] [] m o M') : Xj RX12 cX12_look 7 (some .int) 9 199 0 0 0 0 201 [(0, vR 12 0), (1, vI x1), (2, vI x2), (3, vI x3), (4, vI x4), (5, vI x5)] [] m o M' := by
  unfold r_X12_look_e201_h171_c142 at h
  refine xj_iload_n 2 dX12_look_201 rfl ?_
  refine xj_iconst (z := (-1)) dX12_look_202 (by decide) ?_
  refine xj_icmp_eq (tgt := 215) dX12_look_203 (by decide) (fun c28 => ?_) (fun c28 => ?_)
  · rw [if_pos c28] at h
    refine xj_pick (ls' := [(0, vR 12 0), (1, vI x1), (4, vI x4), (5, vI x5)]) [0, 1, 4, 5] rfl ?_
    exact ok_X12_look_j215_c142 x1 x4 x5 m h kb ke
  · rw [if_neg c28] at h
    refine xj_iload 5 dX12_look_206 rfl ?_
    refine xj_iload_n 3 dX12_look_208 rfl ?_
    refine xj_icmp_lt (tgt := 215) dX12_look_209 (by decide) (fun c29 => ?_) (fun c29 => ?_)
    · rw [if_pos c29] at h
      refine xj_pick (ls' := [(0, vR 12 0), (1, vI x1), (4, vI x4), (5, vI x5)]) [0, 1, 4, 5] rfl ?_
      exact ok_X12_look_j215_c142 x1 x4 x5 m h kb ke
    · rw [if_neg c29] at h
      refine xj_goto (tgt := 221) dX12_look_212 (by decide) ?_
      refine xj_pick (ls' := [(0, vR 12 0), (1, vI x1), (2, vI x2), (3, vI x3), (4, vI x4)]) [0, 1, 2, 3, 4] rfl ?_
      exact ok_X12_look_j221_c142 x1 x2 x3 x4 m h kb ke
noncomputable def r_X12_look_l171_c142 (x1 : Int32) (x2 : Int32) (x3 : Int32) (x4 : Int32) (x5 : Int32) (x6 : Int32) (m : Mem) : Option ((Int32 × Int32 × Int32) ⊕ (Int32 × Int32)) :=
  bd1 (loopO (fun s => r_X12_look_b171_c142 x1 x2 x3 x4 m s.1 s.2) (x5, x6)) (fun e => r_X12_look_e201_h171_c142 x1 x2 x3 x4 e m)
set_option maxHeartbeats 4000000 in
set_option maxRecDepth 20000 in
theorem ok_X12_look_l171_c142 (x1 : Int32) (x2 : Int32) (x3 : Int32) (x4 : Int32) (x5 : Int32) (x6 : Int32) (m : Mem) {r : (Int32 × Int32 × Int32) ⊕ (Int32 × Int32)} (h : r_X12_look_l171_c142 x1 x2 x3 x4 x5 x6 m = some r) {o : Ou} {M' : Mem} (kb : ∀ (x2' : Int32) (x3' : Int32) (x4' : Int32), r = Sum.inl (x2', x3', x4') → Xj RX12 cX12_look 7 (some .int) 9 199 0 0 0 0 142 [(0, vR 12 0), (1, vI x1), (2, vI x2'), (3, vI x3'), (4, vI x4')] [] m o M') (ke : ∀ (x2' : Int32) (x3' : Int32), r = Sum.inr (x2', x3') → Xj RX12 cX12_look 7 (some .int) 9 199 0 0 0 0 227 [(1, vI x1), (2, vI x2'), (3, vI x3')] [] m o M') : Xj RX12 cX12_look 7 (some .int) 9 199 0 0 0 0 171 [(0, vR 12 0), (1, vI x1), (2, vI x2), (3, vI x3), (4, vI x4), (5, vI x5), (6, vI x6)] [] m o M' := by
  unfold r_X12_look_l171_c142 at h
  obtain ⟨e, e1, h⟩ := bd1_some h
  refine loopO_ok (P := fun s : (Int32 × Int32) => Xj RX12 cX12_look 7 (some .int) 9 199 0 0 0 0 171 [(0, vR 12 0), (1, vI x1), (2, vI x2), (3, vI x3), (4, vI x4), (5, vI s.1), (6, vI s.2)] [] m o M') (Q := fun e : (Int32) => Xj RX12 cX12_look 7 (some .int) 9 199 0 0 0 0 201 [(0, vR 12 0), (1, vI x1), (2, vI x2), (3, vI x3), (4, vI x4), (5, vI e)] [] m o M') ?_ _ _ e1 ?_
  · intro s r9 h9 hi hx
    exact ok_X12_look_b171_c142 x1 x2 x3 x4 m s.1 s.2 h9 (by rintro _ _ rfl; exact hi _ rfl) (by rintro _ rfl; exact hx _ rfl)
  · exact ok_X12_look_e201_h171_c142 x1 x2 x3 x4 e m h kb ke
noncomputable def r_X12_look_b142 (x1 : Int32) (m : Mem) (x2 : Int32) (x3 : Int32) (x4 : Int32) : Option ((Int32 × Int32 × Int32) ⊕ (Int32 × Int32)) :=
  if (m 52 0 0) ≤ x4 then (some (Sum.inr (x2, x3))) else (bd1 (r_X12_isTold x4 m) fun z23 => (if z23 = true then (r_X12_look_j221_c142 x1 x2 x3 x4 m) else (r_X12_look_l171_c142 x1 x2 x3 x4 0 0 m)))
set_option maxHeartbeats 4000000 in
set_option maxRecDepth 20000 in
theorem ok_X12_look_b142 (x1 : Int32) (m : Mem) (x2 : Int32) (x3 : Int32) (x4 : Int32) {r : (Int32 × Int32 × Int32) ⊕ (Int32 × Int32)} (h : r_X12_look_b142 x1 m x2 x3 x4 = some r) {o : Ou} {M' : Mem} (kb : ∀ (x2' : Int32) (x3' : Int32) (x4' : Int32), r = Sum.inl (x2', x3', x4') → Xj RX12 cX12_look 7 (some .int) 9 199 0 0 0 0 142 [(0, vR 12 0), (1, vI x1), (2, vI x2'), (3, vI x3'), (4, vI x4')] [] m o M') (ke : ∀ (x2' : Int32) (x3' : Int32), r = Sum.inr (x2', x3') → Xj RX12 cX12_look 7 (some .int) 9 199 0 0 0 0 227 [(1, vI x1), (2, vI x2'), (3, vI x3')] [] m o M') : Xj RX12 cX12_look 7 (some .int) 9 199 0 0 0 0 142 [(0, vR 12 0), (1, vI x1), (2, vI x2), (3, vI x3), (4, vI x4)] [] m o M' := by
  unfold r_X12_look_b142 at h
  refine xj_iload 4 dX12_look_142 rfl ?_
  refine xj_aload_n 0 dX12_look_144 rfl ?_
  refine xg_getR (k' := 52) (i' := 0) dX12_look_145 fl_X12_23 rfl ?_
  refine xj_iconst (z := 0) dX12_look_148 (by decide) ?_
  refine xg_iald (z := (m 52 0 0)) (n := 0) dX12_look_149 rfl (by decide) (inb_in (by decide)) (by decide) rfl ?_
  refine xj_icmp_ge (tgt := 227) dX12_look_150 (by decide) (fun c21 => ?_) (fun c21 => ?_)
  · rw [if_pos c21] at h
    cases h
    refine xj_pick (ls' := [(1, vI x1), (2, vI x2), (3, vI x3)]) [1, 2, 3] rfl ?_
    exact ke x2 x3 rfl
  · rw [if_neg c21] at h
    refine xj_aload_n 0 dX12_look_153 rfl ?_
    refine xj_iload 4 dX12_look_154 rfl ?_
    obtain ⟨z23, e22, h⟩ := bd1_some h
    refine xc_Vb0 (st := []) (ok_X12_isTold x4 m e22) dX12_look_156 cv_X12_387 rfl rfl (Nat.le_of_ble_eq_true rfl) (by decide) (by decide) (by decide) (by decide) ?_
    refine xj_if_eq (tgt := 165) dX12_look_159 (by decide) (fun c24 => ?_) (fun c24 => ?_)
    · rw [if_neg (b2i_f c24)] at h
      refine xj_iconst (z := 0) dX12_look_165 (by decide) ?_
      refine xj_istore (ls' := [(5, vI 0), (0, vR 12 0), (1, vI x1), (2, vI x2), (3, vI x3), (4, vI x4)]) dX12_look_166 (by decide) rfl ?_
      refine xj_iconst (z := 0) dX12_look_168 (by decide) ?_
      refine xj_istore (ls' := [(6, vI 0), (5, vI 0), (0, vR 12 0), (1, vI x1), (2, vI x2), (3, vI x3), (4, vI x4)]) dX12_look_169 (by decide) rfl ?_
      refine xj_pick (ls' := [(0, vR 12 0), (1, vI x1), (2, vI x2), (3, vI x3), (4, vI x4), (5, vI 0), (6, vI 0)]) [2, 3, 4, 5, 6, 1, 0] rfl ?_
      exact ok_X12_look_l171_c142 x1 x2 x3 x4 0 0 m h kb ke
    · rw [if_pos (b2i_t c24)] at h
      refine xj_goto (tgt := 221) dX12_look_162 (by decide) ?_
      exact ok_X12_look_j221_c142 x1 x2 x3 x4 m h kb ke
noncomputable def r_X12_look_e227_h142 (x1 : Int32) (x2 : Int32) (x3 : Int32) (m : Mem) : Option (Int32 × Mem) :=
  if x1 = 0 then (some (x2, m)) else (some (x3, m))
set_option maxHeartbeats 4000000 in
set_option maxRecDepth 20000 in
theorem ok_X12_look_e227_h142 (x1 : Int32) (x2 : Int32) (x3 : Int32) (m : Mem) {z : Int32} {m' : Mem} (h : r_X12_look_e227_h142 x1 x2 x3 m = some (z, m')) : Xj RX12 cX12_look 7 (some .int) 9 199 0 0 0 0 227 [(1, vI x1), (2, vI x2), (3, vI x3)] [] m (oI z) m' := by
  unfold r_X12_look_e227_h142 at h
  refine xj_iload_n 0 dX12_look_227 rfl ?_
  refine xj_if_ne (tgt := 235) dX12_look_228 (by decide) (fun c30 => ?_) (fun c30 => ?_)
  · rw [if_neg c30] at h
    refine xj_iload_n 2 dX12_look_235 rfl ?_
    cases h
    exact xj_ireturn dX12_look_236 rfl (by decide) (by decide)
  · rw [if_pos c30] at h
    refine xj_iload_n 1 dX12_look_231 rfl ?_
    refine xj_goto (tgt := 236) dX12_look_232 (by decide) ?_
    cases h
    exact xj_ireturn dX12_look_236 rfl (by decide) (by decide)
noncomputable def r_X12_look_l142 (x1 : Int32) (x2 : Int32) (x3 : Int32) (x4 : Int32) (m : Mem) : Option (Int32 × Mem) :=
  bd1 (loopO (fun s => r_X12_look_b142 x1 m s.1 s.2.1 s.2.2) (x2, x3, x4)) (fun e => r_X12_look_e227_h142 x1 e.1 e.2 m)
set_option maxHeartbeats 4000000 in
set_option maxRecDepth 20000 in
theorem ok_X12_look_l142 (x1 : Int32) (x2 : Int32) (x3 : Int32) (x4 : Int32) (m : Mem) {z : Int32} {m' : Mem} (h : r_X12_look_l142 x1 x2 x3 x4 m = some (z, m')) : Xj RX12 cX12_look 7 (some .int) 9 199 0 0 0 0 142 [(0, vR 12 0), (1, vI x1), (2, vI x2), (3, vI x3), (4, vI x4)] [] m (oI z) m' := by
  unfold r_X12_look_l142 at h
  obtain ⟨e, e1, h⟩ := bd1_some h
  refine loopO_ok (P := fun s : (Int32 × Int32 × Int32) => Xj RX12 cX12_look 7 (some .int) 9 199 0 0 0 0 142 [(0, vR 12 0), (1, vI x1), (2, vI s.1), (3, vI s.2.1), (4, vI s.2.2)] [] m (oI z) m') (Q := fun e : (Int32 × Int32) => Xj RX12 cX12_look 7 (some .int) 9 199 0 0 0 0 227 [(1, vI x1), (2, vI e.1), (3, vI e.2)] [] m (oI z) m') ?_ _ _ e1 ?_
  · intro s r9 h9 hi hx
    exact ok_X12_look_b142 x1 m s.1 s.2.1 s.2.2 h9 (by rintro _ _ _ rfl; exact hi _ rfl) (by rintro _ _ rfl; exact hx _ rfl)
  · exact ok_X12_look_e227_h142 x1 e.1 e.2 m h 
noncomputable def r_X12_look_e135_h69 (x1 : Int32) (m : Mem) : Option (Int32 × Mem) :=
  r_X12_look_l142 x1 (-1) (-1) 0 m
set_option maxHeartbeats 4000000 in
set_option maxRecDepth 20000 in
theorem ok_X12_look_e135_h69 (x1 : Int32) (m : Mem) {z : Int32} {m' : Mem} (h : r_X12_look_e135_h69 x1 m = some (z, m')) : Xj RX12 cX12_look 7 (some .int) 9 199 0 0 0 0 135 [(0, vR 12 0), (1, vI x1)] [] m (oI z) m' := by
  unfold r_X12_look_e135_h69 at h
  refine xj_iconst (z := (-1)) dX12_look_135 (by decide) ?_
  refine xj_istore_n (ls' := [(2, vI (-1)), (0, vR 12 0), (1, vI x1)]) dX12_look_136 rfl (by decide) rfl ?_
  refine xj_iconst (z := (-1)) dX12_look_137 (by decide) ?_
  refine xj_istore_n (ls' := [(3, vI (-1)), (2, vI (-1)), (0, vR 12 0), (1, vI x1)]) dX12_look_138 rfl (by decide) rfl ?_
  refine xj_iconst (z := 0) dX12_look_139 (by decide) ?_
  refine xj_istore (ls' := [(4, vI 0), (3, vI (-1)), (2, vI (-1)), (0, vR 12 0), (1, vI x1)]) dX12_look_140 (by decide) rfl ?_
  refine xj_pick (ls' := [(0, vR 12 0), (1, vI x1), (2, vI (-1)), (3, vI (-1)), (4, vI 0)]) [3, 4, 2, 1, 0] rfl ?_
  exact ok_X12_look_l142 x1 (-1) (-1) 0 m h 
noncomputable def r_X12_look_l69 (x1 : Int32) (x2 : Int32) (m : Mem) : Option (Int32 × Mem) :=
  bd1 (loopO (fun s => r_X12_look_b69 x1 s.1 s.2) (x2, m)) (fun e => r_X12_look_e135_h69 x1 e)
set_option maxHeartbeats 4000000 in
set_option maxRecDepth 20000 in
theorem ok_X12_look_l69 (x1 : Int32) (x2 : Int32) (m : Mem) {z : Int32} {m' : Mem} (h : r_X12_look_l69 x1 x2 m = some (z, m')) : Xj RX12 cX12_look 7 (some .int) 9 199 0 0 0 0 69 [(0, vR 12 0), (1, vI x1), (2, vI x2)] [] m (oI z) m' := by
  unfold r_X12_look_l69 at h
  obtain ⟨e, e1, h⟩ := bd1_some h
  refine loopO_ok (P := fun s : (Int32 × Mem) => Xj RX12 cX12_look 7 (some .int) 9 199 0 0 0 0 69 [(0, vR 12 0), (1, vI x1), (2, vI s.1)] [] s.2 (oI z) m') (Q := fun e : (Mem) => Xj RX12 cX12_look 7 (some .int) 9 199 0 0 0 0 135 [(0, vR 12 0), (1, vI x1)] [] e (oI z) m') ?_ _ _ e1 ?_
  · intro s r9 h9 hi hx
    exact ok_X12_look_b69 x1 s.1 s.2 h9 (by rintro _ _ rfl; exact hi _ rfl) (by rintro _ rfl; exact hx _ rfl)
  · exact ok_X12_look_e135_h69 x1 e h 
noncomputable def r_X12_look_e67_h32 (x1 : Int32) (m : Mem) : Option (Int32 × Mem) :=
  r_X12_look_l69 x1 0 m
set_option maxHeartbeats 4000000 in
set_option maxRecDepth 20000 in
theorem ok_X12_look_e67_h32 (x1 : Int32) (m : Mem) {z : Int32} {m' : Mem} (h : r_X12_look_e67_h32 x1 m = some (z, m')) : Xj RX12 cX12_look 7 (some .int) 9 199 0 0 0 0 67 [(0, vR 12 0), (1, vI x1)] [] m (oI z) m' := by
  unfold r_X12_look_e67_h32 at h
  refine xj_iconst (z := 0) dX12_look_67 (by decide) ?_
  refine xj_istore_n (ls' := [(2, vI 0), (0, vR 12 0), (1, vI x1)]) dX12_look_68 rfl (by decide) rfl ?_
  refine xj_pick (ls' := [(0, vR 12 0), (1, vI x1), (2, vI 0)]) [1, 2, 0] rfl ?_
  exact ok_X12_look_l69 x1 0 m h 
noncomputable def r_X12_look_l32 (x1 : Int32) (x2 : Int32) (m : Mem) : Option (Int32 × Mem) :=
  bd1 (loopO (fun s => r_X12_look_b32 x1 s.1 s.2) (x2, m)) (fun e => r_X12_look_e67_h32 x1 e)
set_option maxHeartbeats 4000000 in
set_option maxRecDepth 20000 in
theorem ok_X12_look_l32 (x1 : Int32) (x2 : Int32) (m : Mem) {z : Int32} {m' : Mem} (h : r_X12_look_l32 x1 x2 m = some (z, m')) : Xj RX12 cX12_look 7 (some .int) 9 199 0 0 0 0 32 [(0, vR 12 0), (1, vI x1), (2, vI x2)] [] m (oI z) m' := by
  unfold r_X12_look_l32 at h
  obtain ⟨e, e1, h⟩ := bd1_some h
  refine loopO_ok (P := fun s : (Int32 × Mem) => Xj RX12 cX12_look 7 (some .int) 9 199 0 0 0 0 32 [(0, vR 12 0), (1, vI x1), (2, vI s.1)] [] s.2 (oI z) m') (Q := fun e : (Mem) => Xj RX12 cX12_look 7 (some .int) 9 199 0 0 0 0 67 [(0, vR 12 0), (1, vI x1)] [] e (oI z) m') ?_ _ _ e1 ?_
  · intro s r9 h9 hi hx
    exact ok_X12_look_b32 x1 s.1 s.2 h9 (by rintro _ _ rfl; exact hi _ rfl) (by rintro _ rfl; exact hx _ rfl)
  · exact ok_X12_look_e67_h32 x1 e h 
noncomputable def r_X12_look_j20 (x1 : Int32) (s0 : Int32) (m : Mem) : Option (Int32 × Mem) :=
  bd2 (r_X12_bad s0 1 1 m) fun z4 m3 => (if z4 = true then (some (0, m3)) else (r_X12_look_l32 x1 0 m3))
set_option maxHeartbeats 4000000 in
set_option maxRecDepth 20000 in
theorem ok_X12_look_j20 (x1 : Int32) (s0 : Int32) (m : Mem) {z : Int32} {m' : Mem} (h : r_X12_look_j20 x1 s0 m = some (z, m')) : Xj RX12 cX12_look 7 (some .int) 9 199 0 0 0 0 20 [(0, vR 12 0), (1, vI x1)] [vI s0, vR 12 0] m (oI z) m' := by
  unfold r_X12_look_j20 at h
  refine xj_iconst (z := 1) dX12_look_20 (by decide) ?_
  refine xj_iconst (z := 1) dX12_look_21 (by decide) ?_
  obtain ⟨z4, m3, e2, h⟩ := bd2_some h
  refine xc_Vb0 (st := []) (ok_X12_bad s0 1 1 m e2) dX12_look_22 cv_X12_191 rfl rfl (Nat.le_of_ble_eq_true rfl) (by decide) (by decide) (by decide) (by decide) ?_
  refine xj_if_eq (tgt := 30) dX12_look_25 (by decide) (fun c5 => ?_) (fun c5 => ?_)
  · rw [if_neg (b2i_f c5)] at h
    refine xj_iconst (z := 0) dX12_look_30 (by decide) ?_
    refine xj_istore_n (ls' := [(2, vI 0), (0, vR 12 0), (1, vI x1)]) dX12_look_31 rfl (by decide) rfl ?_
    refine xj_pick (ls' := [(0, vR 12 0), (1, vI x1), (2, vI 0)]) [1, 2, 0] rfl ?_
    exact ok_X12_look_l32 x1 0 m3 h 
  · rw [if_pos (b2i_t c5)] at h
    refine xj_iconst (z := 0) dX12_look_28 (by decide) ?_
    cases h
    exact xj_ireturn dX12_look_29 rfl (by decide) (by decide)
noncomputable def r_X12_look (x1 : Int32) (m : Mem) : Option (Int32 × Mem) :=
  if (r_X12_in x1 0 1) = true then (r_X12_look_j20 x1 0 (wr m 12 0 0 0)) else (r_X12_look_j20 x1 1 (wr m 12 0 0 0))
set_option maxHeartbeats 4000000 in
set_option maxRecDepth 20000 in
theorem ok_X12_look (x1 : Int32) (m : Mem) {z : Int32} {m' : Mem} (h : r_X12_look x1 m = some (z, m')) : Mt yX12_look cX12_look 7 (some .int) 9 199 0 0 [vR 12 0, vI x1] m (oI z) m' := by
  refine Mt.of (by decide) (Nat.le_of_ble_eq_true rfl) (by decide +kernel) (hhF_ne (by decide)) ?_
  show Xj RX12 cX12_look 7 (some .int) 9 199 0 0 0 0 0 [(0, vR 12 0), (1, vI x1)] [] m (oI z) m'
  unfold r_X12_look at h
  refine xj_aload_n 0 dX12_look_0 rfl ?_
  refine xj_iconst (z := 0) dX12_look_1 (by decide) ?_
  refine xj_putI dX12_look_2 fw_X12_109 rfl ?_
  refine xj_aload_n 0 dX12_look_5 rfl ?_
  refine xj_iload_n 1 dX12_look_6 rfl ?_
  refine xj_iconst (z := 0) dX12_look_7 (by decide) ?_
  refine xj_iconst (z := 1) dX12_look_8 (by decide) ?_
  refine xc_Sb0 (st := [vR 12 0]) (ok_X12_in x1 0 1 (wr m 12 0 0 0) rfl) dX12_look_9 cs_X12_143 rfl rfl (Nat.le_of_ble_eq_true rfl) (by decide) (by decide) (by decide) (by decide) ?_
  refine xj_if_ne (tgt := 19) dX12_look_12 (by decide) (fun c1 => ?_) (fun c1 => ?_)
  · rw [if_pos (b2i_t c1)] at h
    refine xj_iconst (z := 0) dX12_look_19 (by decide) ?_
    exact ok_X12_look_j20 x1 0 (wr m 12 0 0 0) h 
  · rw [if_neg (b2i_f c1)] at h
    refine xj_iconst (z := 1) dX12_look_15 (by decide) ?_
    refine xj_goto (tgt := 20) dX12_look_16 (by decide) ?_
    exact ok_X12_look_j20 x1 1 (wr m 12 0 0 0) h 
noncomputable def r_X12_meet_j140_c74 (x1 : Int32) (x2 : Int32) (x3 : Int32) (x4 : Int32) (x5 : Int32) (x6 : Int32) (m : Mem) : Option ((Int32 × Int32 × Int32) ⊕ (Int32 × Int32)) :=
  some (Sum.inl (x4, x5, x6 + 1))
set_option maxHeartbeats 4000000 in
set_option maxRecDepth 20000 in
theorem ok_X12_meet_j140_c74 (x1 : Int32) (x2 : Int32) (x3 : Int32) (x4 : Int32) (x5 : Int32) (x6 : Int32) (m : Mem) {r : (Int32 × Int32 × Int32) ⊕ (Int32 × Int32)} (h : r_X12_meet_j140_c74 x1 x2 x3 x4 x5 x6 m = some r) {o : Ou} {M' : Mem} (kb : ∀ (x4' : Int32) (x5' : Int32) (x6' : Int32), r = Sum.inl (x4', x5', x6') → Xj RX12 cX12_meet 8 (some .int) 3 46 0 0 0 0 74 [(0, vR 12 0), (1, vI x1), (2, vI x2), (3, vI x3), (4, vI x4'), (5, vI x5'), (6, vI x6')] [] m o M') (ke : ∀ (x4' : Int32) (x5' : Int32), r = Sum.inr (x4', x5') → Xj RX12 cX12_meet 8 (some .int) 3 46 0 0 0 0 146 [(3, vI x3), (4, vI x4'), (5, vI x5')] [] m o M') : Xj RX12 cX12_meet 8 (some .int) 3 46 0 0 0 0 140 [(0, vR 12 0), (1, vI x1), (2, vI x2), (3, vI x3), (4, vI x4), (5, vI x5), (6, vI x6)] [] m o M' := by
  unfold r_X12_meet_j140_c74 at h
  refine xj_iinc (z := x6 + 1) (ls' := [(6, vI (x6 + 1)), (0, vR 12 0), (1, vI x1), (2, vI x2), (3, vI x3), (4, vI x4), (5, vI x5)]) 6 dX12_meet_140 rfl rfl (by decide) rfl ?_
  refine xj_goto (tgt := 74) dX12_meet_143 (by decide) ?_
  cases h
  refine xj_pick (ls' := [(0, vR 12 0), (1, vI x1), (2, vI x2), (3, vI x3), (4, vI x4), (5, vI x5), (6, vI (x6 + 1))]) [1, 2, 3, 4, 5, 6, 0] rfl ?_
  exact kb x4 x5 (x6 + 1) rfl
noncomputable def r_X12_meet_b74 (x1 : Int32) (x2 : Int32) (x3 : Int32) (m : Mem) (x4 : Int32) (x5 : Int32) (x6 : Int32) : Option ((Int32 × Int32 × Int32) ⊕ (Int32 × Int32)) :=
  if (m 52 0 0) ≤ x6 then (some (Sum.inr (x4, x5))) else (if inb (72 + x1) 111 = true then (if inb (m 60 0 ((72 + x1).toNatClampNeg)) 12 = true then (if inb x6 12 = true then (if inb (72 + x2) 111 = true then (if inb (m 60 0 ((72 + x2).toNatClampNeg)) 12 = true then (if ((m 89 ((m 60 0 ((72 + x1).toNatClampNeg)).toNatClampNeg) x6.toNatClampNeg) + (m 89 ((m 60 0 ((72 + x2).toNatClampNeg)).toNatClampNeg) x6.toNatClampNeg)) < x5 then (r_X12_meet_j140_c74 x1 x2 x3 x6 ((m 89 ((m 60 0 ((72 + x1).toNatClampNeg)).toNatClampNeg) x6.toNatClampNeg) + (m 89 ((m 60 0 ((72 + x2).toNatClampNeg)).toNatClampNeg) x6.toNatClampNeg)) x6 m) else (r_X12_meet_j140_c74 x1 x2 x3 x4 x5 x6 m)) else none) else none) else none) else none) else none)
set_option maxHeartbeats 4000000 in
set_option maxRecDepth 20000 in
theorem ok_X12_meet_b74 (x1 : Int32) (x2 : Int32) (x3 : Int32) (m : Mem) (x4 : Int32) (x5 : Int32) (x6 : Int32) {r : (Int32 × Int32 × Int32) ⊕ (Int32 × Int32)} (h : r_X12_meet_b74 x1 x2 x3 m x4 x5 x6 = some r) {o : Ou} {M' : Mem} (kb : ∀ (x4' : Int32) (x5' : Int32) (x6' : Int32), r = Sum.inl (x4', x5', x6') → Xj RX12 cX12_meet 8 (some .int) 3 46 0 0 0 0 74 [(0, vR 12 0), (1, vI x1), (2, vI x2), (3, vI x3), (4, vI x4'), (5, vI x5'), (6, vI x6')] [] m o M') (ke : ∀ (x4' : Int32) (x5' : Int32), r = Sum.inr (x4', x5') → Xj RX12 cX12_meet 8 (some .int) 3 46 0 0 0 0 146 [(3, vI x3), (4, vI x4'), (5, vI x5')] [] m o M') : Xj RX12 cX12_meet 8 (some .int) 3 46 0 0 0 0 74 [(0, vR 12 0), (1, vI x1), (2, vI x2), (3, vI x3), (4, vI x4), (5, vI x5), (6, vI x6)] [] m o M' := by
  unfold r_X12_meet_b74 at h
  refine xj_iload 6 dX12_meet_74 rfl ?_
  refine xj_aload_n 0 dX12_meet_76 rfl ?_
  refine xg_getR (k' := 52) (i' := 0) dX12_meet_77 fl_X12_23 rfl ?_
  refine xj_iconst (z := 0) dX12_meet_80 (by decide) ?_
  refine xg_iald (z := (m 52 0 0)) (n := 0) dX12_meet_81 rfl (by decide) (inb_in (by decide)) (by decide) rfl ?_
  refine xj_icmp_ge (tgt := 146) dX12_meet_82 (by decide) (fun c18 => ?_) (fun c18 => ?_)
  · rw [if_pos c18] at h
    cases h
    refine xj_pick (ls' := [(3, vI x3), (4, vI x4), (5, vI x5)]) [3, 4, 5] rfl ?_
    exact ke x4 x5 rfl
  · rw [if_neg c18] at h
    refine xj_aload_n 0 dX12_meet_85 rfl ?_
    refine xg_getR (k' := 90) (i' := 0) dX12_meet_86 fl_X12_100 rfl ?_
    refine xj_aload_n 0 dX12_meet_89 rfl ?_
    refine xg_getR (k' := 60) (i' := 0) dX12_meet_90 fl_X12_73 rfl ?_
    refine xj_bipush (z := 72) dX12_meet_93 (by decide) ?_
    refine xj_iload_n 1 dX12_meet_95 rfl ?_
    refine xj_iadd dX12_meet_96 ?_
    by_cases c19 : inb (72 + x1) 111 = true
    case neg => rw [if_neg c19] at h; cases h
    rw [if_pos c19] at h
    refine xg_iald (z := (m 60 0 ((72 + x1).toNatClampNeg))) (n := (72 + x1).toNatClampNeg) dX12_meet_97 rfl (by decide) (inb_in c19) rfl rfl ?_
    by_cases c20 : inb (m 60 0 ((72 + x1).toNatClampNeg)) 12 = true
    case neg => rw [if_neg c20] at h; cases h
    rw [if_pos c20] at h
    refine xg_aald (k' := 89) (i' := ((m 60 0 ((72 + x1).toNatClampNeg)).toNatClampNeg)) (n := (m 60 0 ((72 + x1).toNatClampNeg)).toNatClampNeg) dX12_meet_98 rfl (by decide) (inb_in c20) rfl rfl ?_
    refine xj_iload 6 dX12_meet_99 rfl ?_
    by_cases c21 : inb x6 12 = true
    case neg => rw [if_neg c21] at h; cases h
    rw [if_pos c21] at h
    refine xg_iald (z := (m 89 ((m 60 0 ((72 + x1).toNatClampNeg)).toNatClampNeg) x6.toNatClampNeg)) (n := x6.toNatClampNeg) dX12_meet_101 rfl (by decide) (inb_in c21) rfl rfl ?_
    refine xj_aload_n 0 dX12_meet_102 rfl ?_
    refine xg_getR (k' := 90) (i' := 0) dX12_meet_103 fl_X12_100 rfl ?_
    refine xj_aload_n 0 dX12_meet_106 rfl ?_
    refine xg_getR (k' := 60) (i' := 0) dX12_meet_107 fl_X12_73 rfl ?_
    refine xj_bipush (z := 72) dX12_meet_110 (by decide) ?_
    refine xj_iload_n 2 dX12_meet_112 rfl ?_
    refine xj_iadd dX12_meet_113 ?_
    by_cases c22 : inb (72 + x2) 111 = true
    case neg => rw [if_neg c22] at h; cases h
    rw [if_pos c22] at h
    refine xg_iald (z := (m 60 0 ((72 + x2).toNatClampNeg))) (n := (72 + x2).toNatClampNeg) dX12_meet_114 rfl (by decide) (inb_in c22) rfl rfl ?_
    by_cases c23 : inb (m 60 0 ((72 + x2).toNatClampNeg)) 12 = true
    case neg => rw [if_neg c23] at h; cases h
    rw [if_pos c23] at h
    refine xg_aald (k' := 89) (i' := ((m 60 0 ((72 + x2).toNatClampNeg)).toNatClampNeg)) (n := (m 60 0 ((72 + x2).toNatClampNeg)).toNatClampNeg) dX12_meet_115 rfl (by decide) (inb_in c23) rfl rfl ?_
    refine xj_iload 6 dX12_meet_116 rfl ?_
    refine xg_iald (z := (m 89 ((m 60 0 ((72 + x2).toNatClampNeg)).toNatClampNeg) x6.toNatClampNeg)) (n := x6.toNatClampNeg) dX12_meet_118 rfl (by decide) (inb_in c21) rfl rfl ?_
    refine xj_iadd dX12_meet_119 ?_
    refine xj_istore (ls' := [(7, vI ((m 89 ((m 60 0 ((72 + x1).toNatClampNeg)).toNatClampNeg) x6.toNatClampNeg) + (m 89 ((m 60 0 ((72 + x2).toNatClampNeg)).toNatClampNeg) x6.toNatClampNeg))), (0, vR 12 0), (1, vI x1), (2, vI x2), (3, vI x3), (4, vI x4), (5, vI x5), (6, vI x6)]) dX12_meet_120 (by decide) rfl ?_
    refine xj_iload 0 dX12_meet_122 rfl ?_
    refine xj_iload 6 dX12_meet_124 rfl ?_
    refine xj_icmp_lt (tgt := 132) dX12_meet_126 (by decide) (fun c24 => ?_) (fun c24 => ?_)
    · rw [if_pos c24] at h
      refine xj_iload 7 dX12_meet_132 rfl ?_
      refine xj_istore (ls' := [(4, vI x6), (7, vI ((m 89 ((m 60 0 ((72 + x1).toNatClampNeg)).toNatClampNeg) x6.toNatClampNeg) + (m 89 ((m 60 0 ((72 + x2).toNatClampNeg)).toNatClampNeg) x6.toNatClampNeg))), (0, vR 12 0), (1, vI x1), (2, vI x2), (3, vI x3), (5, vI x5), (6, vI x6)]) dX12_meet_134 (by decide) rfl ?_
      refine xj_iload 1 dX12_meet_136 rfl ?_
      refine xj_istore (ls' := [(5, vI ((m 89 ((m 60 0 ((72 + x1).toNatClampNeg)).toNatClampNeg) x6.toNatClampNeg) + (m 89 ((m 60 0 ((72 + x2).toNatClampNeg)).toNatClampNeg) x6.toNatClampNeg))), (4, vI x6), (7, vI ((m 89 ((m 60 0 ((72 + x1).toNatClampNeg)).toNatClampNeg) x6.toNatClampNeg) + (m 89 ((m 60 0 ((72 + x2).toNatClampNeg)).toNatClampNeg) x6.toNatClampNeg))), (0, vR 12 0), (1, vI x1), (2, vI x2), (3, vI x3), (6, vI x6)]) dX12_meet_138 (by decide) rfl ?_
      refine xj_pick (ls' := [(0, vR 12 0), (1, vI x1), (2, vI x2), (3, vI x3), (4, vI x6), (5, vI ((m 89 ((m 60 0 ((72 + x1).toNatClampNeg)).toNatClampNeg) x6.toNatClampNeg) + (m 89 ((m 60 0 ((72 + x2).toNatClampNeg)).toNatClampNeg) x6.toNatClampNeg))), (6, vI x6)]) [3, 4, 5, 6, 1, 0, 7] rfl ?_
      exact ok_X12_meet_j140_c74 x1 x2 x3 x6 ((m 89 ((m 60 0 ((72 + x1).toNatClampNeg)).toNatClampNeg) x6.toNatClampNeg) + (m 89 ((m 60 0 ((72 + x2).toNatClampNeg)).toNatClampNeg) x6.toNatClampNeg)) x6 m h kb ke
    · rw [if_neg c24] at h
      refine xj_goto (tgt := 140) dX12_meet_129 (by decide) ?_
      refine xj_pick (ls' := [(0, vR 12 0), (1, vI x1), (2, vI x2), (3, vI x3), (4, vI x4), (5, vI x5), (6, vI x6)]) [1, 2, 3, 4, 5, 6, 7] rfl ?_
      exact ok_X12_meet_j140_c74 x1 x2 x3 x4 x5 x6 m h kb ke
noncomputable def r_X12_meet_e146_h74 (x3 : Int32) (x4 : Int32) (x5 : Int32) (m : Mem) : Option (Int32 × Mem) :=
  if x3 = 0 then (some (x4, m)) else (if x4 = (-1) then (some (x4, m)) else (some (x5, m)))
set_option maxHeartbeats 4000000 in
set_option maxRecDepth 20000 in
theorem ok_X12_meet_e146_h74 (x3 : Int32) (x4 : Int32) (x5 : Int32) (m : Mem) {z : Int32} {m' : Mem} (h : r_X12_meet_e146_h74 x3 x4 x5 m = some (z, m')) : Xj RX12 cX12_meet 8 (some .int) 3 46 0 0 0 0 146 [(3, vI x3), (4, vI x4), (5, vI x5)] [] m (oI z) m' := by
  unfold r_X12_meet_e146_h74 at h
  refine xj_iload_n 0 dX12_meet_146 rfl ?_
  refine xj_if_eq (tgt := 156) dX12_meet_147 (by decide) (fun c25 => ?_) (fun c25 => ?_)
  · rw [if_pos c25] at h
    refine xj_iload 1 dX12_meet_156 rfl ?_
    refine xj_goto (tgt := 163) dX12_meet_158 (by decide) ?_
    cases h
    exact xj_ireturn dX12_meet_163 rfl (by decide) (by decide)
  · rw [if_neg c25] at h
    refine xj_iload 1 dX12_meet_150 rfl ?_
    refine xj_iconst (z := (-1)) dX12_meet_152 (by decide) ?_
    refine xj_icmp_ne (tgt := 161) dX12_meet_153 (by decide) (fun c26 => ?_) (fun c26 => ?_)
    · rw [if_neg c26] at h
      refine xj_iload 2 dX12_meet_161 rfl ?_
      cases h
      exact xj_ireturn dX12_meet_163 rfl (by decide) (by decide)
    · rw [if_pos c26] at h
      refine xj_iload 1 dX12_meet_156 rfl ?_
      refine xj_goto (tgt := 163) dX12_meet_158 (by decide) ?_
      cases h
      exact xj_ireturn dX12_meet_163 rfl (by decide) (by decide)
noncomputable def r_X12_meet_l74 (x1 : Int32) (x2 : Int32) (x3 : Int32) (x4 : Int32) (x5 : Int32) (x6 : Int32) (m : Mem) : Option (Int32 × Mem) :=
  bd1 (loopO (fun s => r_X12_meet_b74 x1 x2 x3 m s.1 s.2.1 s.2.2) (x4, x5, x6)) (fun e => r_X12_meet_e146_h74 x3 e.1 e.2 m)
set_option maxHeartbeats 4000000 in
set_option maxRecDepth 20000 in
theorem ok_X12_meet_l74 (x1 : Int32) (x2 : Int32) (x3 : Int32) (x4 : Int32) (x5 : Int32) (x6 : Int32) (m : Mem) {z : Int32} {m' : Mem} (h : r_X12_meet_l74 x1 x2 x3 x4 x5 x6 m = some (z, m')) : Xj RX12 cX12_meet 8 (some .int) 3 46 0 0 0 0 74 [(0, vR 12 0), (1, vI x1), (2, vI x2), (3, vI x3), (4, vI x4), (5, vI x5), (6, vI x6)] [] m (oI z) m' := by
  unfold r_X12_meet_l74 at h
  obtain ⟨e, e1, h⟩ := bd1_some h
  refine loopO_ok (P := fun s : (Int32 × Int32 × Int32) => Xj RX12 cX12_meet 8 (some .int) 3 46 0 0 0 0 74 [(0, vR 12 0), (1, vI x1), (2, vI x2), (3, vI x3), (4, vI s.1), (5, vI s.2.1), (6, vI s.2.2)] [] m (oI z) m') (Q := fun e : (Int32 × Int32) => Xj RX12 cX12_meet 8 (some .int) 3 46 0 0 0 0 146 [(3, vI x3), (4, vI e.1), (5, vI e.2)] [] m (oI z) m') ?_ _ _ e1 ?_
  · intro s r9 h9 hi hx
    exact ok_X12_meet_b74 x1 x2 x3 m s.1 s.2.1 s.2.2 h9 (by rintro _ _ _ rfl; exact hi _ rfl) (by rintro _ _ rfl; exact hx _ rfl)
  · exact ok_X12_meet_e146_h74 x3 e.1 e.2 m h 
noncomputable def r_X12_meet_j50 (x1 : Int32) (x2 : Int32) (x3 : Int32) (s0 : Int32) (m : Mem) : Option (Int32 × Mem) :=
  bd2 (r_X12_bad s0 2 1 m) fun z14 m13 => (if z14 = true then (some (0, m13)) else (bd1 (r_X12_laysFar m13) fun m17 => (r_X12_meet_l74 x1 x2 x3 (-1) 99 0 m17)))
set_option maxHeartbeats 4000000 in
set_option maxRecDepth 20000 in
theorem ok_X12_meet_j50 (x1 : Int32) (x2 : Int32) (x3 : Int32) (s0 : Int32) (m : Mem) {z : Int32} {m' : Mem} (h : r_X12_meet_j50 x1 x2 x3 s0 m = some (z, m')) : Xj RX12 cX12_meet 8 (some .int) 3 46 0 0 0 0 50 [(0, vR 12 0), (1, vI x1), (2, vI x2), (3, vI x3)] [vI s0, vR 12 0] m (oI z) m' := by
  unfold r_X12_meet_j50 at h
  refine xj_iconst (z := 2) dX12_meet_50 (by decide) ?_
  refine xj_iconst (z := 1) dX12_meet_51 (by decide) ?_
  obtain ⟨z14, m13, e12, h⟩ := bd2_some h
  refine xc_Vb0 (st := []) (ok_X12_bad s0 2 1 m e12) dX12_meet_52 cv_X12_191 rfl rfl (Nat.le_of_ble_eq_true rfl) (by decide) (by decide) (by decide) (by decide) ?_
  refine xj_if_eq (tgt := 60) dX12_meet_55 (by decide) (fun c15 => ?_) (fun c15 => ?_)
  · rw [if_neg (b2i_f c15)] at h
    refine xj_iconst (z := (-1)) dX12_meet_60 (by decide) ?_
    refine xj_istore (ls' := [(4, vI (-1)), (0, vR 12 0), (1, vI x1), (2, vI x2), (3, vI x3)]) dX12_meet_61 (by decide) rfl ?_
    refine xj_bipush (z := 99) dX12_meet_63 (by decide) ?_
    refine xj_istore (ls' := [(5, vI 99), (4, vI (-1)), (0, vR 12 0), (1, vI x1), (2, vI x2), (3, vI x3)]) dX12_meet_65 (by decide) rfl ?_
    refine xj_aload_n 2 dX12_meet_67 rfl ?_
    obtain ⟨m17, e16, h⟩ := bd1_some h
    refine xc_Vv0 (st := []) (ok_X12_laysFar m13 e16) dX12_meet_68 cv_X12_390 rfl rfl (Nat.le_of_ble_eq_true rfl) (by decide) (by decide) (by decide) (by decide) ?_
    refine xj_iconst (z := 0) dX12_meet_71 (by decide) ?_
    refine xj_istore (ls' := [(6, vI 0), (5, vI 99), (4, vI (-1)), (0, vR 12 0), (1, vI x1), (2, vI x2), (3, vI x3)]) dX12_meet_72 (by decide) rfl ?_
    refine xj_pick (ls' := [(0, vR 12 0), (1, vI x1), (2, vI x2), (3, vI x3), (4, vI (-1)), (5, vI 99), (6, vI 0)]) [3, 4, 5, 6, 2, 1, 0] rfl ?_
    exact ok_X12_meet_l74 x1 x2 x3 (-1) 99 0 m17 h 
  · rw [if_pos (b2i_t c15)] at h
    refine xj_iconst (z := 0) dX12_meet_58 (by decide) ?_
    cases h
    exact xj_ireturn dX12_meet_59 rfl (by decide) (by decide)
noncomputable def r_X12_meet_j27 (x1 : Int32) (x2 : Int32) (x3 : Int32) (s0 : Int32) (m : Mem) : Option (Int32 × Mem) :=
  bd2 (r_X12_bad s0 1 0 m) fun z9 m8 => (if z9 = true then (some (0, m8)) else (if (r_X12_in x3 0 1) = true then (r_X12_meet_j50 x1 x2 x3 0 m8) else (r_X12_meet_j50 x1 x2 x3 1 m8)))
set_option maxHeartbeats 4000000 in
set_option maxRecDepth 20000 in
theorem ok_X12_meet_j27 (x1 : Int32) (x2 : Int32) (x3 : Int32) (s0 : Int32) (m : Mem) {z : Int32} {m' : Mem} (h : r_X12_meet_j27 x1 x2 x3 s0 m = some (z, m')) : Xj RX12 cX12_meet 8 (some .int) 3 46 0 0 0 0 27 [(0, vR 12 0), (1, vI x1), (2, vI x2), (3, vI x3)] [vI s0, vR 12 0] m (oI z) m' := by
  unfold r_X12_meet_j27 at h
  refine xj_iconst (z := 1) dX12_meet_27 (by decide) ?_
  refine xj_iconst (z := 0) dX12_meet_28 (by decide) ?_
  obtain ⟨z9, m8, e7, h⟩ := bd2_some h
  refine xc_Vb0 (st := []) (ok_X12_bad s0 1 0 m e7) dX12_meet_29 cv_X12_191 rfl rfl (Nat.le_of_ble_eq_true rfl) (by decide) (by decide) (by decide) (by decide) ?_
  refine xj_if_ne (tgt := 58) dX12_meet_32 (by decide) (fun c10 => ?_) (fun c10 => ?_)
  · rw [if_pos (b2i_t c10)] at h
    refine xj_iconst (z := 0) dX12_meet_58 (by decide) ?_
    cases h
    exact xj_ireturn dX12_meet_59 rfl (by decide) (by decide)
  · rw [if_neg (b2i_f c10)] at h
    refine xj_aload_n 0 dX12_meet_35 rfl ?_
    refine xj_iload_n 3 dX12_meet_36 rfl ?_
    refine xj_iconst (z := 0) dX12_meet_37 (by decide) ?_
    refine xj_iconst (z := 1) dX12_meet_38 (by decide) ?_
    refine xc_Sb0 (st := [vR 12 0]) (ok_X12_in x3 0 1 m8 rfl) dX12_meet_39 cs_X12_143 rfl rfl (Nat.le_of_ble_eq_true rfl) (by decide) (by decide) (by decide) (by decide) ?_
    refine xj_if_ne (tgt := 49) dX12_meet_42 (by decide) (fun c11 => ?_) (fun c11 => ?_)
    · rw [if_pos (b2i_t c11)] at h
      refine xj_iconst (z := 0) dX12_meet_49 (by decide) ?_
      exact ok_X12_meet_j50 x1 x2 x3 0 m8 h 
    · rw [if_neg (b2i_f c11)] at h
      refine xj_iconst (z := 1) dX12_meet_45 (by decide) ?_
      refine xj_goto (tgt := 50) dX12_meet_46 (by decide) ?_
      exact ok_X12_meet_j50 x1 x2 x3 1 m8 h 
noncomputable def r_X12_meet_j22 (x1 : Int32) (x2 : Int32) (x3 : Int32) (m : Mem) : Option (Int32 × Mem) :=
  r_X12_meet_j27 x1 x2 x3 1 m
set_option maxHeartbeats 4000000 in
set_option maxRecDepth 20000 in
theorem ok_X12_meet_j22 (x1 : Int32) (x2 : Int32) (x3 : Int32) (m : Mem) {z : Int32} {m' : Mem} (h : r_X12_meet_j22 x1 x2 x3 m = some (z, m')) : Xj RX12 cX12_meet 8 (some .int) 3 46 0 0 0 0 22 [(0, vR 12 0), (1, vI x1), (2, vI x2), (3, vI x3)] [vR 12 0] m (oI z) m' := by
  unfold r_X12_meet_j22 at h
  refine xj_iconst (z := 1) dX12_meet_22 (by decide) ?_
  refine xj_goto (tgt := 27) dX12_meet_23 (by decide) ?_
  exact ok_X12_meet_j27 x1 x2 x3 1 m h 
noncomputable def r_X12_meet (x1 : Int32) (x2 : Int32) (x3 : Int32) (m : Mem) : Option (Int32 × Mem) :=
  bd1 (r_X12_isPerson x1 (wr m 12 0 0 0)) fun z2 => (if z2 = true then (bd1 (r_X12_isPerson x2 (wr m 12 0 0 0)) fun z5 => (if z5 = true then (r_X12_meet_j27 x1 x2 x3 0 (wr m 12 0 0 0)) else (r_X12_meet_j22 x1 x2 x3 (wr m 12 0 0 0)))) else (r_X12_meet_j22 x1 x2 x3 (wr m 12 0 0 0)))
set_option maxHeartbeats 4000000 in
set_option maxRecDepth 20000 in
theorem ok_X12_meet (x1 : Int32) (x2 : Int32) (x3 : Int32) (m : Mem) {z : Int32} {m' : Mem} (h : r_X12_meet x1 x2 x3 m = some (z, m')) : Mt yX12_meet cX12_meet 8 (some .int) 3 46 0 0 [vR 12 0, vI x1, vI x2, vI x3] m (oI z) m' := by
  refine Mt.of (by decide) (Nat.le_of_ble_eq_true rfl) (by decide +kernel) (hhF_ne (by decide)) ?_
  show Xj RX12 cX12_meet 8 (some .int) 3 46 0 0 0 0 0 [(0, vR 12 0), (1, vI x1), (2, vI x2), (3, vI x3)] [] m (oI z) m'
  unfold r_X12_meet at h
  refine xj_aload_n 0 dX12_meet_0 rfl ?_
  refine xj_iconst (z := 0) dX12_meet_1 (by decide) ?_
  refine xj_putI dX12_meet_2 fw_X12_109 rfl ?_
  refine xj_aload_n 0 dX12_meet_5 rfl ?_
  refine xj_aload_n 0 dX12_meet_6 rfl ?_
  refine xj_iload_n 1 dX12_meet_7 rfl ?_
  obtain ⟨z2, e1, h⟩ := bd1_some h
  refine xc_Vb0 (st := [vR 12 0]) (ok_X12_isPerson x1 (wr m 12 0 0 0) e1) dX12_meet_8 cv_X12_358 rfl rfl (Nat.le_of_ble_eq_true rfl) (by decide) (by decide) (by decide) (by decide) ?_
  refine xj_if_eq (tgt := 22) dX12_meet_11 (by decide) (fun c3 => ?_) (fun c3 => ?_)
  · rw [if_neg (b2i_f c3)] at h
    exact ok_X12_meet_j22 x1 x2 x3 (wr m 12 0 0 0) h 
  · rw [if_pos (b2i_t c3)] at h
    refine xj_aload_n 0 dX12_meet_14 rfl ?_
    refine xj_iload_n 2 dX12_meet_15 rfl ?_
    obtain ⟨z5, e4, h⟩ := bd1_some h
    refine xc_Vb0 (st := [vR 12 0]) (ok_X12_isPerson x2 (wr m 12 0 0 0) e4) dX12_meet_16 cv_X12_358 rfl rfl (Nat.le_of_ble_eq_true rfl) (by decide) (by decide) (by decide) (by decide) ?_
    refine xj_if_ne (tgt := 26) dX12_meet_19 (by decide) (fun c6 => ?_) (fun c6 => ?_)
    · rw [if_pos (b2i_t c6)] at h
      refine xj_iconst (z := 0) dX12_meet_26 (by decide) ?_
      exact ok_X12_meet_j27 x1 x2 x3 0 (wr m 12 0 0 0) h 
    · rw [if_neg (b2i_f c6)] at h
      exact ok_X12_meet_j22 x1 x2 x3 (wr m 12 0 0 0) h 
