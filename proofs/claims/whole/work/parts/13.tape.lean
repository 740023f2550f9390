theorem dX8_append_0 : decode cX8_append 0 = .ok (.bipush 24, 2) := by decide +kernel
theorem dX8_append_2 : decode cX8_append 2 = .ok (.istore_n 2, 1) := by decide +kernel
theorem dX8_append_3 : decode cX8_append 3 = .ok (.iload_n 2, 1) := by decide +kernel
theorem dX8_append_4 : decode cX8_append 4 = .ok (.ifCond .lt 45, 3) := by decide +kernel
theorem dX8_append_7 : decode cX8_append 7 = .ok (.aload_n 0, 1) := by decide +kernel
theorem dX8_append_8 : decode cX8_append 8 = .ok (.getfield 19, 3) := by decide +kernel
theorem dX8_append_11 : decode cX8_append 11 = .ok (.sipush 600, 3) := by decide +kernel
theorem dX8_append_14 : decode cX8_append 14 = .ok (.if_icmp .ge 35, 3) := by decide +kernel
theorem dX8_append_17 : decode cX8_append 17 = .ok (.aload_n 0, 1) := by decide +kernel
theorem dX8_append_18 : decode cX8_append 18 = .ok (.getfield 9, 3) := by decide +kernel
theorem dX8_append_21 : decode cX8_append 21 = .ok (.aload_n 0, 1) := by decide +kernel
theorem dX8_append_22 : decode cX8_append 22 = .ok (.getfield 19, 3) := by decide +kernel
theorem dX8_append_25 : decode cX8_append 25 = .ok (.iload_n 1, 1) := by decide +kernel
theorem dX8_append_26 : decode cX8_append 26 = .ok (.iload_n 2, 1) := by decide +kernel
theorem dX8_append_27 : decode cX8_append 27 = .ok (.iushr, 1) := by decide +kernel
theorem dX8_append_28 : decode cX8_append 28 = .ok (.sipush 255, 3) := by decide +kernel
theorem dX8_append_31 : decode cX8_append 31 = .ok (.iand, 1) := by decide +kernel
theorem dX8_append_32 : decode cX8_append 32 = .ok (.iastore, 1) := by decide +kernel
theorem dX8_append_33 : decode cX8_append 33 = .ok (.aload_n 0, 1) := by decide +kernel
theorem dX8_append_34 : decode cX8_append 34 = .ok (.dup, 1) := by decide +kernel
theorem dX8_append_35 : decode cX8_append 35 = .ok (.getfield 19, 3) := by decide +kernel
theorem dX8_append_38 : decode cX8_append 38 = .ok (.iconst 1, 1) := by decide +kernel
theorem dX8_append_39 : decode cX8_append 39 = .ok (.iadd, 1) := by decide +kernel
theorem dX8_append_40 : decode cX8_append 40 = .ok (.putfield 19, 3) := by decide +kernel
theorem dX8_append_43 : decode cX8_append 43 = .ok (.iinc 2 (-8), 3) := by decide +kernel
theorem dX8_append_46 : decode cX8_append 46 = .ok (.goto (-43), 3) := by decide +kernel
theorem dX8_append_49 : decode cX8_append 49 = .ok (.return_, 1) := by decide +kernel
theorem dX8_open_0 : decode cX8_open 0 = .ok (.aload_n 0, 1) := by decide +kernel
theorem dX8_open_1 : decode cX8_open 1 = .ok (.iload_n 1, 1) := by decide +kernel
theorem dX8_open_2 : decode cX8_open 2 = .ok (.putfield 22, 3) := by decide +kernel
theorem dX8_open_5 : decode cX8_open 5 = .ok (.aload_n 0, 1) := by decide +kernel
theorem dX8_open_6 : decode cX8_open 6 = .ok (.iconst 0, 1) := by decide +kernel
theorem dX8_open_7 : decode cX8_open 7 = .ok (.putfield 19, 3) := by decide +kernel
theorem dX8_open_10 : decode cX8_open 10 = .ok (.aload_n 0, 1) := by decide +kernel
theorem dX8_open_11 : decode cX8_open 11 = .ok (.iconst 0, 1) := by decide +kernel
theorem dX8_open_12 : decode cX8_open 12 = .ok (.putfield 25, 3) := by decide +kernel
theorem dX8_open_15 : decode cX8_open 15 = .ok (.aload_n 0, 1) := by decide +kernel
theorem dX8_open_16 : decode cX8_open 16 = .ok (.iconst 0, 1) := by decide +kernel
theorem dX8_open_17 : decode cX8_open 17 = .ok (.putfield 28, 3) := by decide +kernel
theorem dX8_open_20 : decode cX8_open 20 = .ok (.aload_n 0, 1) := by decide +kernel
theorem dX8_open_21 : decode cX8_open 21 = .ok (.iconst 0, 1) := by decide +kernel
theorem dX8_open_22 : decode cX8_open 22 = .ok (.putfield 31, 3) := by decide +kernel
theorem dX8_open_25 : decode cX8_open 25 = .ok (.aload_n 0, 1) := by decide +kernel
theorem dX8_open_26 : decode cX8_open 26 = .ok (.iconst (-1), 1) := by decide +kernel
theorem dX8_open_27 : decode cX8_open 27 = .ok (.putfield 15, 3) := by decide +kernel
theorem dX8_open_30 : decode cX8_open 30 = .ok (.return_, 1) := by decide +kernel
theorem dX8_peek_0 : decode cX8_peek 0 = .ok (.aload_n 0, 1) := by decide +kernel
theorem dX8_peek_1 : decode cX8_peek 1 = .ok (.getfield 25, 3) := by decide +kernel
theorem dX8_peek_4 : decode cX8_peek 4 = .ok (.aload_n 0, 1) := by decide +kernel
theorem dX8_peek_5 : decode cX8_peek 5 = .ok (.getfield 22, 3) := by decide +kernel
theorem dX8_peek_8 : decode cX8_peek 8 = .ok (.if_icmp .ge 30, 3) := by decide +kernel
theorem dX8_peek_11 : decode cX8_peek 11 = .ok (.aload_n 0, 1) := by decide +kernel
theorem dX8_peek_12 : decode cX8_peek 12 = .ok (.getfield 9, 3) := by decide +kernel
theorem dX8_peek_15 : decode cX8_peek 15 = .ok (.aload_n 0, 1) := by decide +kernel
theorem dX8_peek_16 : decode cX8_peek 16 = .ok (.getfield 25, 3) := by decide +kernel
theorem dX8_peek_19 : decode cX8_peek 19 = .ok (.iaload, 1) := by decide +kernel
theorem dX8_peek_20 : decode cX8_peek 20 = .ok (.bipush 32, 2) := by decide +kernel
theorem dX8_peek_22 : decode cX8_peek 22 = .ok (.if_icmp .ne 16, 3) := by decide +kernel
theorem dX8_peek_25 : decode cX8_peek 25 = .ok (.aload_n 0, 1) := by decide +kernel
theorem dX8_peek_26 : decode cX8_peek 26 = .ok (.dup, 1) := by decide +kernel
theorem dX8_peek_27 : decode cX8_peek 27 = .ok (.getfield 25, 3) := by decide +kernel
theorem dX8_peek_30 : decode cX8_peek 30 = .ok (.iconst 1, 1) := by decide +kernel
theorem dX8_peek_31 : decode cX8_peek 31 = .ok (.iadd, 1) := by decide +kernel
theorem dX8_peek_32 : decode cX8_peek 32 = .ok (.putfield 25, 3) := by decide +kernel
theorem dX8_peek_35 : decode cX8_peek 35 = .ok (.goto (-35), 3) := by decide +kernel
theorem dX8_peek_38 : decode cX8_peek 38 = .ok (.aload_n 0, 1) := by decide +kernel
theorem dX8_peek_39 : decode cX8_peek 39 = .ok (.getfield 25, 3) := by decide +kernel
theorem dX8_peek_42 : decode cX8_peek 42 = .ok (.aload_n 0, 1) := by decide +kernel
theorem dX8_peek_43 : decode cX8_peek 43 = .ok (.getfield 22, 3) := by decide +kernel
theorem dX8_peek_46 : decode cX8_peek 46 = .ok (.if_icmp .ge 15, 3) := by decide +kernel
theorem dX8_peek_49 : decode cX8_peek 49 = .ok (.aload_n 0, 1) := by decide +kernel
theorem dX8_peek_50 : decode cX8_peek 50 = .ok (.getfield 9, 3) := by decide +kernel
theorem dX8_peek_53 : decode cX8_peek 53 = .ok (.aload_n 0, 1) := by decide +kernel
theorem dX8_peek_54 : decode cX8_peek 54 = .ok (.getfield 25, 3) := by decide +kernel
theorem dX8_peek_57 : decode cX8_peek 57 = .ok (.iaload, 1) := by decide +kernel
theorem dX8_peek_58 : decode cX8_peek 58 = .ok (.goto 4, 3) := by decide +kernel
theorem dX8_peek_61 : decode cX8_peek 61 = .ok (.iconst (-1), 1) := by decide +kernel
theorem dX8_peek_62 : decode cX8_peek 62 = .ok (.ireturn, 1) := by decide +kernel
theorem dX8_isDigit_0 : decode cX8_isDigit 0 = .ok (.iload_n 1, 1) := by decide +kernel
theorem dX8_isDigit_1 : decode cX8_isDigit 1 = .ok (.bipush 48, 2) := by decide +kernel
theorem dX8_isDigit_3 : decode cX8_isDigit 3 = .ok (.if_icmp .lt 13, 3) := by decide +kernel
theorem dX8_isDigit_6 : decode cX8_isDigit 6 = .ok (.iload_n 1, 1) := by decide +kernel
theorem dX8_isDigit_7 : decode cX8_isDigit 7 = .ok (.bipush 57, 2) := by decide +kernel
theorem dX8_isDigit_9 : decode cX8_isDigit 9 = .ok (.if_icmp .gt 7, 3) := by decide +kernel
theorem dX8_isDigit_12 : decode cX8_isDigit 12 = .ok (.iconst 1, 1) := by decide +kernel
theorem dX8_isDigit_13 : decode cX8_isDigit 13 = .ok (.goto 4, 3) := by decide +kernel
theorem dX8_isDigit_16 : decode cX8_isDigit 16 = .ok (.iconst 0, 1) := by decide +kernel
theorem dX8_isDigit_17 : decode cX8_isDigit 17 = .ok (.ireturn, 1) := by decide +kernel
theorem dX8_wrong_0 : decode cX8_wrong 0 = .ok (.aload_n 0, 1) := by decide +kernel
theorem dX8_wrong_1 : decode cX8_wrong 1 = .ok (.iload_n 1, 1) := by decide +kernel
theorem dX8_wrong_2 : decode cX8_wrong 2 = .ok (.putfield 31, 3) := by decide +kernel
theorem dX8_wrong_5 : decode cX8_wrong 5 = .ok (.aload_n 0, 1) := by decide +kernel
theorem dX8_wrong_6 : decode cX8_wrong 6 = .ok (.iload_n 2, 1) := by decide +kernel
theorem dX8_wrong_7 : decode cX8_wrong 7 = .ok (.putfield 15, 3) := by decide +kernel
theorem dX8_wrong_10 : decode cX8_wrong 10 = .ok (.iconst 0, 1) := by decide +kernel
theorem dX8_wrong_11 : decode cX8_wrong 11 = .ok (.ireturn, 1) := by decide +kernel
theorem dX8_faultAnswer_0 : decode cX8_faultAnswer 0 = .ok (.aload_n 0, 1) := by decide +kernel
theorem dX8_faultAnswer_1 : decode cX8_faultAnswer 1 = .ok (.getfield 31, 3) := by decide +kernel
theorem dX8_faultAnswer_4 : decode cX8_faultAnswer 4 = .ok (.bipush 10, 2) := by decide +kernel
theorem dX8_faultAnswer_6 : decode cX8_faultAnswer 6 = .ok (.isub, 1) := by decide +kernel
theorem dX8_faultAnswer_7 : decode cX8_faultAnswer 7 = .ok (.ireturn, 1) := by decide +kernel
theorem dX8_sign_0 : decode cX8_sign 0 = .ok (.aload_n 0, 1) := by decide +kernel
theorem dX8_sign_1 : decode cX8_sign 1 = .ok (.invokevirtual 34, 3) := by decide +kernel
theorem dX8_sign_4 : decode cX8_sign 4 = .ok (.iload_n 1, 1) := by decide +kernel
theorem dX8_sign_5 : decode cX8_sign 5 = .ok (.if_icmp .eq 13, 3) := by decide +kernel
theorem dX8_sign_8 : decode cX8_sign 8 = .ok (.aload_n 0, 1) := by decide +kernel
theorem dX8_sign_9 : decode cX8_sign 9 = .ok (.iconst 1, 1) := by decide +kernel
theorem dX8_sign_10 : decode cX8_sign 10 = .ok (.aload_n 0, 1) := by decide +kernel
theorem dX8_sign_11 : decode cX8_sign 11 = .ok (.getfield 25, 3) := by decide +kernel
theorem dX8_sign_14 : decode cX8_sign 14 = .ok (.invokevirtual 38, 3) := by decide +kernel
theorem dX8_sign_17 : decode cX8_sign 17 = .ok (.ireturn, 1) := by decide +kernel
theorem dX8_sign_18 : decode cX8_sign 18 = .ok (.aload_n 0, 1) := by decide +kernel
theorem dX8_sign_19 : decode cX8_sign 19 = .ok (.aload_n 0, 1) := by decide +kernel
theorem dX8_sign_20 : decode cX8_sign 20 = .ok (.getfield 25, 3) := by decide +kernel
theorem dX8_sign_23 : decode cX8_sign 23 = .ok (.putfield 28, 3) := by decide +kernel
theorem dX8_sign_26 : decode cX8_sign 26 = .ok (.aload_n 0, 1) := by decide +kernel
theorem dX8_sign_27 : decode cX8_sign 27 = .ok (.dup, 1) := by decide +kernel
theorem dX8_sign_28 : decode cX8_sign 28 = .ok (.getfield 25, 3) := by decide +kernel
theorem dX8_sign_31 : decode cX8_sign 31 = .ok (.iconst 1, 1) := by decide +kernel
theorem dX8_sign_32 : decode cX8_sign 32 = .ok (.iadd, 1) := by decide +kernel
theorem dX8_sign_33 : decode cX8_sign 33 = .ok (.putfield 25, 3) := by decide +kernel
theorem dX8_sign_36 : decode cX8_sign 36 = .ok (.iconst 1, 1) := by decide +kernel
theorem dX8_sign_37 : decode cX8_sign 37 = .ok (.ireturn, 1) := by decide +kernel
theorem dX8_endsHere_0 : decode cX8_endsHere 0 = .ok (.aload_n 0, 1) := by decide +kernel
theorem dX8_endsHere_1 : decode cX8_endsHere 1 = .ok (.invokevirtual 34, 3) := by decide +kernel
theorem dX8_endsHere_4 : decode cX8_endsHere 4 = .ok (.iconst (-1), 1) := by decide +kernel
theorem dX8_endsHere_5 : decode cX8_endsHere 5 = .ok (.if_icmp .eq 15, 3) := by decide +kernel
theorem dX8_endsHere_8 : decode cX8_endsHere 8 = .ok (.aload_n 0, 1) := by decide +kernel
theorem dX8_endsHere_9 : decode cX8_endsHere 9 = .ok (.iconst 1, 1) := by decide +kernel
theorem dX8_endsHere_10 : decode cX8_endsHere 10 = .ok (.aload_n 0, 1) := by decide +kernel
theorem dX8_endsHere_11 : decode cX8_endsHere 11 = .ok (.getfield 25, 3) := by decide +kernel
theorem dX8_endsHere_14 : decode cX8_endsHere 14 = .ok (.invokevirtual 38, 3) := by decide +kernel
theorem dX8_endsHere_17 : decode cX8_endsHere 17 = .ok (.ifCond .eq 7, 3) := by decide +kernel
theorem dX8_endsHere_20 : decode cX8_endsHere 20 = .ok (.iconst 1, 1) := by decide +kernel
theorem dX8_endsHere_21 : decode cX8_endsHere 21 = .ok (.goto 4, 3) := by decide +kernel
theorem dX8_endsHere_24 : decode cX8_endsHere 24 = .ok (.iconst 0, 1) := by decide +kernel
theorem dX8_endsHere_25 : decode cX8_endsHere 25 = .ok (.ireturn, 1) := by decide +kernel
theorem dX8_isLetter_0 : decode cX8_isLetter 0 = .ok (.iload_n 1, 1) := by decide +kernel
theorem dX8_isLetter_1 : decode cX8_isLetter 1 = .ok (.bipush 97, 2) := by decide +kernel
theorem dX8_isLetter_3 : decode cX8_isLetter 3 = .ok (.if_icmp .lt 13, 3) := by decide +kernel
theorem dX8_isLetter_6 : decode cX8_isLetter 6 = .ok (.iload_n 1, 1) := by decide +kernel
theorem dX8_isLetter_7 : decode cX8_isLetter 7 = .ok (.bipush 122, 2) := by decide +kernel
theorem dX8_isLetter_9 : decode cX8_isLetter 9 = .ok (.if_icmp .gt 7, 3) := by decide +kernel
theorem dX8_isLetter_12 : decode cX8_isLetter 12 = .ok (.iconst 1, 1) := by decide +kernel
theorem dX8_isLetter_13 : decode cX8_isLetter 13 = .ok (.goto 4, 3) := by decide +kernel
theorem dX8_isLetter_16 : decode cX8_isLetter 16 = .ok (.iconst 0, 1) := by decide +kernel
theorem dX8_isLetter_17 : decode cX8_isLetter 17 = .ok (.ireturn, 1) := by decide +kernel
theorem dX8_word_0 : decode cX8_word 0 = .ok (.aload_n 0, 1) := by decide +kernel
theorem dX8_word_1 : decode cX8_word 1 = .ok (.aload_n 0, 1) := by decide +kernel
theorem dX8_word_2 : decode cX8_word 2 = .ok (.invokevirtual 34, 3) := by decide +kernel
theorem dX8_word_5 : decode cX8_word 5 = .ok (.invokevirtual 42, 3) := by decide +kernel
theorem dX8_word_8 : decode cX8_word 8 = .ok (.ifCond .ne 13, 3) := by decide +kernel
theorem dX8_word_11 : decode cX8_word 11 = .ok (.aload_n 0, 1) := by decide +kernel
theorem dX8_word_12 : decode cX8_word 12 = .ok (.iconst 1, 1) := by decide +kernel
theorem dX8_word_13 : decode cX8_word 13 = .ok (.aload_n 0, 1) := by decide +kernel
theorem dX8_word_14 : decode cX8_word 14 = .ok (.getfield 25, 3) := by decide +kernel
theorem dX8_word_17 : decode cX8_word 17 = .ok (.invokevirtual 38, 3) := by decide +kernel
theorem dX8_word_20 : decode cX8_word 20 = .ok (.ireturn, 1) := by decide +kernel
theorem dX8_word_21 : decode cX8_word 21 = .ok (.aload_n 0, 1) := by decide +kernel
theorem dX8_word_22 : decode cX8_word 22 = .ok (.aload_n 0, 1) := by decide +kernel
theorem dX8_word_23 : decode cX8_word 23 = .ok (.getfield 25, 3) := by decide +kernel
theorem dX8_word_26 : decode cX8_word 26 = .ok (.putfield 28, 3) := by decide +kernel
theorem dX8_word_29 : decode cX8_word 29 = .ok (.aload_n 0, 1) := by decide +kernel
theorem dX8_word_30 : decode cX8_word 30 = .ok (.getfield 25, 3) := by decide +kernel
theorem dX8_word_33 : decode cX8_word 33 = .ok (.aload_n 0, 1) := by decide +kernel
theorem dX8_word_34 : decode cX8_word 34 = .ok (.getfield 22, 3) := by decide +kernel
theorem dX8_word_37 : decode cX8_word 37 = .ok (.if_icmp .ge 32, 3) := by decide +kernel
theorem dX8_word_40 : decode cX8_word 40 = .ok (.aload_n 0, 1) := by decide +kernel
theorem dX8_word_41 : decode cX8_word 41 = .ok (.aload_n 0, 1) := by decide +kernel
theorem dX8_word_42 : decode cX8_word 42 = .ok (.getfield 9, 3) := by decide +kernel
theorem dX8_word_45 : decode cX8_word 45 = .ok (.aload_n 0, 1) := by decide +kernel
theorem dX8_word_46 : decode cX8_word 46 = .ok (.getfield 25, 3) := by decide +kernel
theorem dX8_word_49 : decode cX8_word 49 = .ok (.iaload, 1) := by decide +kernel
theorem dX8_word_50 : decode cX8_word 50 = .ok (.invokevirtual 42, 3) := by decide +kernel
theorem dX8_word_53 : decode cX8_word 53 = .ok (.ifCond .eq 16, 3) := by decide +kernel
theorem dX8_word_56 : decode cX8_word 56 = .ok (.aload_n 0, 1) := by decide +kernel
theorem dX8_word_57 : decode cX8_word 57 = .ok (.dup, 1) := by decide +kernel
theorem dX8_word_58 : decode cX8_word 58 = .ok (.getfield 25, 3) := by decide +kernel
theorem dX8_word_61 : decode cX8_word 61 = .ok (.iconst 1, 1) := by decide +kernel
theorem dX8_word_62 : decode cX8_word 62 = .ok (.iadd, 1) := by decide +kernel
theorem dX8_word_63 : decode cX8_word 63 = .ok (.putfield 25, 3) := by decide +kernel
theorem dX8_word_66 : decode cX8_word 66 = .ok (.goto (-37), 3) := by decide +kernel
theorem dX8_word_69 : decode cX8_word 69 = .ok (.iconst 1, 1) := by decide +kernel
theorem dX8_word_70 : decode cX8_word 70 = .ok (.ireturn, 1) := by decide +kernel
theorem dX8_number_0 : decode cX8_number 0 = .ok (.aload_n 0, 1) := by decide +kernel
theorem dX8_number_1 : decode cX8_number 1 = .ok (.aload_n 0, 1) := by decide +kernel
theorem dX8_number_2 : decode cX8_number 2 = .ok (.invokevirtual 34, 3) := by decide +kernel
theorem dX8_number_5 : decode cX8_number 5 = .ok (.invokevirtual 54, 3) := by decide +kernel
theorem dX8_number_8 : decode cX8_number 8 = .ok (.ifCond .ne 15, 3) := by decide +kernel
theorem dX8_number_11 : decode cX8_number 11 = .ok (.aload_n 0, 1) := by decide +kernel
theorem dX8_number_12 : decode cX8_number 12 = .ok (.iconst 1, 1) := by decide +kernel
theorem dX8_number_13 : decode cX8_number 13 = .ok (.aload_n 0, 1) := by decide +kernel
theorem dX8_number_14 : decode cX8_number 14 = .ok (.getfield 25, 3) := by decide +kernel
theorem dX8_number_17 : decode cX8_number 17 = .ok (.invokevirtual 38, 3) := by decide +kernel
theorem dX8_number_20 : decode cX8_number 20 = .ok (.pop, 1) := by decide +kernel
theorem dX8_number_21 : decode cX8_number 21 = .ok (.iconst (-1), 1) := by decide +kernel
theorem dX8_number_22 : decode cX8_number 22 = .ok (.ireturn, 1) := by decide +kernel
theorem dX8_number_23 : decode cX8_number 23 = .ok (.aload_n 0, 1) := by decide +kernel
theorem dX8_number_24 : decode cX8_number 24 = .ok (.aload_n 0, 1) := by decide +kernel
theorem dX8_number_25 : decode cX8_number 25 = .ok (.getfield 25, 3) := by decide +kernel
theorem dX8_number_28 : decode cX8_number 28 = .ok (.putfield 28, 3) := by decide +kernel
theorem dX8_number_31 : decode cX8_number 31 = .ok (.iconst 0, 1) := by decide +kernel
theorem dX8_number_32 : decode cX8_number 32 = .ok (.istore_n 3, 1) := by decide +kernel
theorem dX8_number_33 : decode cX8_number 33 = .ok (.aload_n 0, 1) := by decide +kernel
theorem dX8_number_34 : decode cX8_number 34 = .ok (.getfield 25, 3) := by decide +kernel
theorem dX8_number_37 : decode cX8_number 37 = .ok (.aload_n 0, 1) := by decide +kernel
theorem dX8_number_38 : decode cX8_number 38 = .ok (.getfield 22, 3) := by decide +kernel
theorem dX8_number_41 : decode cX8_number 41 = .ok (.if_icmp .ge 55, 3) := by decide +kernel
theorem dX8_number_44 : decode cX8_number 44 = .ok (.aload_n 0, 1) := by decide +kernel
theorem dX8_number_45 : decode cX8_number 45 = .ok (.aload_n 0, 1) := by decide +kernel
theorem dX8_number_46 : decode cX8_number 46 = .ok (.getfield 9, 3) := by decide +kernel
theorem dX8_number_49 : decode cX8_number 49 = .ok (.aload_n 0, 1) := by decide +kernel
theorem dX8_number_50 : decode cX8_number 50 = .ok (.getfield 25, 3) := by decide +kernel
theorem dX8_number_53 : decode cX8_number 53 = .ok (.iaload, 1) := by decide +kernel
theorem dX8_number_54 : decode cX8_number 54 = .ok (.invokevirtual 54, 3) := by decide +kernel
theorem dX8_number_57 : decode cX8_number 57 = .ok (.ifCond .eq 39, 3) := by decide +kernel
theorem dX8_number_60 : decode cX8_number 60 = .ok (.ldc 57, 2) := by decide +kernel
theorem dX8_number_62 : decode cX8_number 62 = .ok (.iload_n 3, 1) := by decide +kernel
theorem dX8_number_63 : decode cX8_number 63 = .ok (.bipush 10, 2) := by decide +kernel
theorem dX8_number_65 : decode cX8_number 65 = .ok (.imul, 1) := by decide +kernel
theorem dX8_number_66 : decode cX8_number 66 = .ok (.aload_n 0, 1) := by decide +kernel
theorem dX8_number_67 : decode cX8_number 67 = .ok (.getfield 9, 3) := by decide +kernel
theorem dX8_number_70 : decode cX8_number 70 = .ok (.aload_n 0, 1) := by decide +kernel
theorem dX8_number_71 : decode cX8_number 71 = .ok (.getfield 25, 3) := by decide +kernel
theorem dX8_number_74 : decode cX8_number 74 = .ok (.iaload, 1) := by decide +kernel
theorem dX8_number_75 : decode cX8_number 75 = .ok (.iadd, 1) := by decide +kernel
theorem dX8_number_76 : decode cX8_number 76 = .ok (.bipush 48, 2) := by decide +kernel
theorem dX8_number_78 : decode cX8_number 78 = .ok (.isub, 1) := by decide +kernel
theorem dX8_number_79 : decode cX8_number 79 = .ok (.invokestatic 58, 3) := by decide +kernel
theorem dX8_number_82 : decode cX8_number 82 = .ok (.istore_n 3, 1) := by decide +kernel
theorem dX8_number_83 : decode cX8_number 83 = .ok (.aload_n 0, 1) := by decide +kernel
theorem dX8_number_84 : decode cX8_number 84 = .ok (.dup, 1) := by decide +kernel
theorem dX8_number_85 : decode cX8_number 85 = .ok (.getfield 25, 3) := by decide +kernel
theorem dX8_number_88 : decode cX8_number 88 = .ok (.iconst 1, 1) := by decide +kernel
theorem dX8_number_89 : decode cX8_number 89 = .ok (.iadd, 1) := by decide +kernel
theorem dX8_number_90 : decode cX8_number 90 = .ok (.putfield 25, 3) := by decide +kernel
theorem dX8_number_93 : decode cX8_number 93 = .ok (.goto (-60), 3) := by decide +kernel
theorem dX8_number_96 : decode cX8_number 96 = .ok (.iload_n 3, 1) := by decide +kernel
theorem dX8_number_97 : decode cX8_number 97 = .ok (.iload_n 1, 1) := by decide +kernel
theorem dX8_number_98 : decode cX8_number 98 = .ok (.if_icmp .lt 8, 3) := by decide +kernel
theorem dX8_number_101 : decode cX8_number 101 = .ok (.iload_n 3, 1) := by decide +kernel
theorem dX8_number_102 : decode cX8_number 102 = .ok (.iload_n 2, 1) := by decide +kernel
theorem dX8_number_103 : decode cX8_number 103 = .ok (.if_icmp .le 15, 3) := by decide +kernel
theorem dX8_number_106 : decode cX8_number 106 = .ok (.aload_n 0, 1) := by decide +kernel
theorem dX8_number_107 : decode cX8_number 107 = .ok (.iconst 2, 1) := by decide +kernel
theorem dX8_number_108 : decode cX8_number 108 = .ok (.aload_n 0, 1) := by decide +kernel
theorem dX8_number_109 : decode cX8_number 109 = .ok (.getfield 28, 3) := by decide +kernel
theorem dX8_number_112 : decode cX8_number 112 = .ok (.invokevirtual 38, 3) := by decide +kernel
theorem dX8_number_115 : decode cX8_number 115 = .ok (.pop, 1) := by decide +kernel
theorem dX8_number_116 : decode cX8_number 116 = .ok (.iconst (-1), 1) := by decide +kernel
theorem dX8_number_117 : decode cX8_number 117 = .ok (.ireturn, 1) := by decide +kernel
theorem dX8_number_118 : decode cX8_number 118 = .ok (.iload_n 3, 1) := by decide +kernel
theorem dX8_number_119 : decode cX8_number 119 = .ok (.ireturn, 1) := by decide +kernel
noncomputable def r_X8_append_b3 (x1 : Int32) (x2 : Int32) (m : Mem) : Option ((Int32 × Mem) ⊕ (Mem)) :=
  if x2 < 0 then (some (Sum.inr m)) else (if 600 ≤ (m 8 0 1) then (some (Sum.inr m)) else (if inb (m 8 0 1) 600 = true then (some (Sum.inl (x2 + (-8), (wr (wr m 37 0 ((m 8 0 1).toNatClampNeg) (((x1.toUInt32 >>> (x2.toUInt32 &&& Int32.toUInt32 31)).toInt32) &&& 255)) 8 0 1 ((m 8 0 1) + 1))))) else none))
set_option maxHeartbeats 4000000 in
set_option maxRecDepth 20000 in
theorem ok_X8_append_b3 (x1 : Int32) (x2 : Int32) (m : Mem) {r : (Int32 × Mem) ⊕ (Mem)} (h : r_X8_append_b3 x1 x2 m = some r) {o : Ou} {M' : Mem} (kb : ∀ (x2' : Int32) (m'' : Mem), r = Sum.inl (x2', m'') → Xj RX8 cX8_append 3 none 1 0 0 0 0 0 3 [(0, vR 8 0), (1, vI x1), (2, vI x2')] [] m'' o M') (ke : ∀ (m'' : Mem), r = Sum.inr m'' → Xj RX8 cX8_append 3 none 1 0 0 0 0 0 49 [] [] m'' o M') : Xj RX8 cX8_append 3 none 1 0 0 0 0 0 3 [(0, vR 8 0), (1, vI x1), (2, vI x2)] [] m o M' := by
  unfold r_X8_append_b3 at h
  refine xj_iload_n 2 dX8_append_3 rfl ?_
  refine xj_if_lt (tgt := 49) dX8_append_4 (by decide) (fun c1 => ?_) (fun c1 => ?_)
  · rw [if_pos c1] at h
    cases h
    refine xj_pick (ls' := []) [] rfl ?_
    exact ke m rfl
  · rw [if_neg c1] at h
    refine xj_aload_n 0 dX8_append_7 rfl ?_
    refine xg_getI (x := (m 8 0 1)) dX8_append_8 fl_X8_19 rfl rfl ?_
    refine xj_sipush (z := 600) dX8_append_11 (by decide) ?_
    refine xj_icmp_ge (tgt := 49) dX8_append_14 (by decide) (fun c2 => ?_) (fun c2 => ?_)
    · rw [if_pos c2] at h
      cases h
      refine xj_pick (ls' := []) [] rfl ?_
      exact ke m rfl
    · rw [if_neg c2] at h
      refine xj_aload_n 0 dX8_append_17 rfl ?_
      refine xg_getR (k' := 37) (i' := 0) dX8_append_18 fl_X8_9 rfl ?_
      refine xj_aload_n 0 dX8_append_21 rfl ?_
      refine xg_getI (x := (m 8 0 1)) dX8_append_22 fl_X8_19 rfl rfl ?_
      refine xj_iload_n 1 dX8_append_25 rfl ?_
      refine xj_iload_n 2 dX8_append_26 rfl ?_
      refine xj_iushr dX8_append_27 ?_
      refine xj_sipush (z := 255) dX8_append_28 (by decide) ?_
      refine xj_iand dX8_append_31 ?_
      by_cases c3 : inb (m 8 0 1) 600 = true
      case neg => rw [if_neg c3] at h; cases h
      rw [if_pos c3] at h
      refine xg_iast (n := (m 8 0 1).toNatClampNeg) dX8_append_32 rfl (by decide) (inb_in c3) rfl ?_
      refine xj_aload_n 0 dX8_append_33 rfl ?_
      refine xj_dup dX8_append_34 rfl ?_
      refine xg_getI (x := (m 8 0 1)) dX8_append_35 fl_X8_19 rfl rfl ?_
      refine xj_iconst (z := 1) dX8_append_38 (by decide) ?_
      refine xj_iadd dX8_append_39 ?_
      refine xj_putI dX8_append_40 fw_X8_19 rfl ?_
      refine xj_iinc (z := x2 + (-8)) (ls' := [(2, vI (x2 + (-8))), (0, vR 8 0), (1, vI x1)]) 2 dX8_append_43 rfl rfl (by decide) rfl ?_
      refine xj_goto (tgt := 3) dX8_append_46 (by decide) ?_
      cases h
      refine xj_pick (ls' := [(0, vR 8 0), (1, vI x1), (2, vI (x2 + (-8)))]) [1, 2, 0] rfl ?_
      exact kb (x2 + (-8)) (wr (wr m 37 0 ((m 8 0 1).toNatClampNeg) (((x1.toUInt32 >>> (x2.toUInt32 &&& Int32.toUInt32 31)).toInt32) &&& 255)) 8 0 1 ((m 8 0 1) + 1)) rfl
noncomputable def r_X8_append_e49_h3 (m : Mem) : Option Mem :=
  some m
set_option maxHeartbeats 4000000 in
set_option maxRecDepth 20000 in
theorem ok_X8_append_e49_h3 (m : Mem) {m' : Mem} (h : r_X8_append_e49_h3 m = some m') : Xj RX8 cX8_append 3 none 1 0 0 0 0 0 49 [] [] m oV m' := by
  unfold r_X8_append_e49_h3 at h
  cases h
  exact xj_return dX8_append_49 (by decide) (by decide)
noncomputable def r_X8_append_l3 (x1 : Int32) (x2 : Int32) (m : Mem) : Option Mem :=
  bd1 (loopO (fun s => r_X8_append_b3 x1 s.1 s.2) (x2, m)) (fun e => r_X8_append_e49_h3 e)
set_option maxHeartbeats 4000000 in
set_option maxRecDepth 20000 in
theorem ok_X8_append_l3 (x1 : Int32) (x2 : Int32) (m : Mem) {m' : Mem} (h : r_X8_append_l3 x1 x2 m = some m') : Xj RX8 cX8_append 3 none 1 0 0 0 0 0 3 [(0, vR 8 0), (1, vI x1), (2, vI x2)] [] m oV m' := by
  unfold r_X8_append_l3 at h
  obtain ⟨e, e1, h⟩ := bd1_some h
  refine loopO_ok (P := fun s : (Int32 × Mem) => Xj RX8 cX8_append 3 none 1 0 0 0 0 0 3 [(0, vR 8 0), (1, vI x1), (2, vI s.1)] [] s.2 oV m') (Q := fun e : (Mem) => Xj RX8 cX8_append 3 none 1 0 0 0 0 0 49 [] [] e oV m') ?_ _ _ e1 ?_
  · intro s r9 h9 hi hx
    exact ok_X8_append_b3 x1 s.1 s.2 h9 (by rintro _ _ rfl; exact hi _ rfl) (by rintro _ rfl; exact hx _ rfl)
  · exact ok_X8_append_e49_h3 e h 
noncomputable def r_X8_append (x1 : Int32) (m : Mem) : Option Mem :=
  r_X8_append_l3 x1 24 m
set_option maxHeartbeats 4000000 in
set_option maxRecDepth 20000 in
theorem ok_X8_append (x1 : Int32) (m : Mem) {m' : Mem} (h : r_X8_append x1 m = some m') : Mt yX8_append cX8_append 3 none 1 0 0 0 [vR 8 0, vI x1] m oV m' := by
  refine Mt.of (by decide) (Nat.le_of_ble_eq_true rfl) (by decide +kernel) (hhF_ne (by decide)) ?_
  show Xj RX8 cX8_append 3 none 1 0 0 0 0 0 0 [(0, vR 8 0), (1, vI x1)] [] m oV m'
  unfold r_X8_append at h
  refine xj_bipush (z := 24) dX8_append_0 (by decide) ?_
  refine xj_istore_n (ls' := [(2, vI 24), (0, vR 8 0), (1, vI x1)]) dX8_append_2 rfl (by decide) rfl ?_
  refine xj_pick (ls' := [(0, vR 8 0), (1, vI x1), (2, vI 24)]) [1, 2, 0] rfl ?_
  exact ok_X8_append_l3 x1 24 m h 
noncomputable def r_X8_open (x1 : Int32) (m : Mem) : Option Mem :=
  some (wr (wr (wr (wr (wr (wr m 8 0 5 x1) 8 0 1 0) 8 0 6 0) 8 0 2 0) 8 0 4 0) 8 0 3 (-1))
set_option maxHeartbeats 4000000 in
set_option maxRecDepth 20000 in
theorem ok_X8_open (x1 : Int32) (m : Mem) {m' : Mem} (h : r_X8_open x1 m = some m') : Mt yX8_open cX8_open 2 none 1 0 0 0 [vR 8 0, vI x1] m oV m' := by
  refine Mt.of (by decide) (Nat.le_of_ble_eq_true rfl) (by decide +kernel) (hhF_ne (by decide)) ?_
  show Xj RX8 cX8_open 2 none 1 0 0 0 0 0 0 [(0, vR 8 0), (1, vI x1)] [] m oV m'
  unfold r_X8_open at h
  refine xj_aload_n 0 dX8_open_0 rfl ?_
  refine xj_iload_n 1 dX8_open_1 rfl ?_
  refine xj_putI dX8_open_2 fw_X8_22 rfl ?_
  refine xj_aload_n 0 dX8_open_5 rfl ?_
  refine xj_iconst (z := 0) dX8_open_6 (by decide) ?_
  refine xj_putI dX8_open_7 fw_X8_19 rfl ?_
  refine xj_aload_n 0 dX8_open_10 rfl ?_
  refine xj_iconst (z := 0) dX8_open_11 (by decide) ?_
  refine xj_putI dX8_open_12 fw_X8_25 rfl ?_
  refine xj_aload_n 0 dX8_open_15 rfl ?_
  refine xj_iconst (z := 0) dX8_open_16 (by decide) ?_
  refine xj_putI dX8_open_17 fw_X8_28 rfl ?_
  refine xj_aload_n 0 dX8_open_20 rfl ?_
  refine xj_iconst (z := 0) dX8_open_21 (by decide) ?_
  refine xj_putI dX8_open_22 fw_X8_31 rfl ?_
  refine xj_aload_n 0 dX8_open_25 rfl ?_
  refine xj_iconst (z := (-1)) dX8_open_26 (by decide) ?_
  refine xj_putI dX8_open_27 fw_X8_15 rfl ?_
  cases h
  exact xj_return dX8_open_30 (by decide) (by decide)
noncomputable def r_X8_peek_b0 (m : Mem) : Option ((Mem) ⊕ (Mem)) :=
  if (m 8 0 5) ≤ (m 8 0 6) then (some (Sum.inr m)) else (if inb (m 8 0 6) 600 = true then (if (m 37 0 ((m 8 0 6).toNatClampNeg)) = 32 then (some (Sum.inl (wr m 8 0 6 ((m 8 0 6) + 1)))) else (some (Sum.inr m))) else none)
set_option maxHeartbeats 4000000 in
set_option maxRecDepth 20000 in
theorem ok_X8_peek_b0 (m : Mem) {r : (Mem) ⊕ (Mem)} (h : r_X8_peek_b0 m = some r) {o : Ou} {M' : Mem} (kb : ∀ (m'' : Mem), r = Sum.inl m'' → Xj RX8 cX8_peek 1 (some .int) 1 0 0 0 0 0 0 [(0, vR 8 0)] [] m'' o M') (ke : ∀ (m'' : Mem), r = Sum.inr m'' → Xj RX8 cX8_peek 1 (some .int) 1 0 0 0 0 0 38 [(0, vR 8 0)] [] m'' o M') : Xj RX8 cX8_peek 1 (some .int) 1 0 0 0 0 0 0 [(0, vR 8 0)] [] m o M' := by
  unfold r_X8_peek_b0 at h
  refine xj_aload_n 0 dX8_peek_0 rfl ?_
  refine xg_getI (x := (m 8 0 6)) dX8_peek_1 fl_X8_25 rfl rfl ?_
  refine xj_aload_n 0 dX8_peek_4 rfl ?_
  refine xg_getI (x := (m 8 0 5)) dX8_peek_5 fl_X8_22 rfl rfl ?_
  refine xj_icmp_ge (tgt := 38) dX8_peek_8 (by decide) (fun c1 => ?_) (fun c1 => ?_)
  · rw [if_pos c1] at h
    cases h
    exact ke m rfl
  · rw [if_neg c1] at h
    refine xj_aload_n 0 dX8_peek_11 rfl ?_
    refine xg_getR (k' := 37) (i' := 0) dX8_peek_12 fl_X8_9 rfl ?_
    refine xj_aload_n 0 dX8_peek_15 rfl ?_
    refine xg_getI (x := (m 8 0 6)) dX8_peek_16 fl_X8_25 rfl rfl ?_
    by_cases c2 : inb (m 8 0 6) 600 = true
    case neg => rw [if_neg c2] at h; cases h
    rw [if_pos c2] at h
    refine xg_iald (z := (m 37 0 ((m 8 0 6).toNatClampNeg))) (n := (m 8 0 6).toNatClampNeg) dX8_peek_19 rfl (by decide) (inb_in c2) rfl rfl ?_
    refine xj_bipush (z := 32) dX8_peek_20 (by decide) ?_
    refine xj_icmp_ne (tgt := 38) dX8_peek_22 (by decide) (fun c3 => ?_) (fun c3 => ?_)
    · rw [if_neg c3] at h
      cases h
      exact ke m rfl
    · rw [if_pos c3] at h
      refine xj_aload_n 0 dX8_peek_25 rfl ?_
      refine xj_dup dX8_peek_26 rfl ?_
      refine xg_getI (x := (m 8 0 6)) dX8_peek_27 fl_X8_25 rfl rfl ?_
      refine xj_iconst (z := 1) dX8_peek_30 (by decide) ?_
      refine xj_iadd dX8_peek_31 ?_
      refine xj_putI dX8_peek_32 fw_X8_25 rfl ?_
      refine xj_goto (tgt := 0) dX8_peek_35 (by decide) ?_
      cases h
      exact kb (wr m 8 0 6 ((m 8 0 6) + 1)) rfl
noncomputable def r_X8_peek_j38 (m : Mem) : Option (Int32 × Mem) :=
  if (m 8 0 5) ≤ (m 8 0 6) then (some ((-1), m)) else (if inb (m 8 0 6) 600 = true then (some ((m 37 0 ((m 8 0 6).toNatClampNeg)), m)) else none)
set_option maxHeartbeats 4000000 in
set_option maxRecDepth 20000 in
theorem ok_X8_peek_j38 (m : Mem) {z : Int32} {m' : Mem} (h : r_X8_peek_j38 m = some (z, m')) : Xj RX8 cX8_peek 1 (some .int) 1 0 0 0 0 0 38 [(0, vR 8 0)] [] m (oI z) m' := by
  unfold r_X8_peek_j38 at h
  refine xj_aload_n 0 dX8_peek_38 rfl ?_
  refine xg_getI (x := (m 8 0 6)) dX8_peek_39 fl_X8_25 rfl rfl ?_
  refine xj_aload_n 0 dX8_peek_42 rfl ?_
  refine xg_getI (x := (m 8 0 5)) dX8_peek_43 fl_X8_22 rfl rfl ?_
  refine xj_icmp_ge (tgt := 61) dX8_peek_46 (by decide) (fun c4 => ?_) (fun c4 => ?_)
  · rw [if_pos c4] at h
    refine xj_iconst (z := (-1)) dX8_peek_61 (by decide) ?_
    cases h
    exact xj_ireturn dX8_peek_62 rfl (by decide) (by decide)
  · rw [if_neg c4] at h
    refine xj_aload_n 0 dX8_peek_49 rfl ?_
    refine xg_getR (k' := 37) (i' := 0) dX8_peek_50 fl_X8_9 rfl ?_
    refine xj_aload_n 0 dX8_peek_53 rfl ?_
    refine xg_getI (x := (m 8 0 6)) dX8_peek_54 fl_X8_25 rfl rfl ?_
    by_cases c5 : inb (m 8 0 6) 600 = true
    case neg => rw [if_neg c5] at h; cases h
    rw [if_pos c5] at h
    refine xg_iald (z := (m 37 0 ((m 8 0 6).toNatClampNeg))) (n := (m 8 0 6).toNatClampNeg) dX8_peek_57 rfl (by decide) (inb_in c5) rfl rfl ?_
    refine xj_goto (tgt := 62) dX8_peek_58 (by decide) ?_
    cases h
    exact xj_ireturn dX8_peek_62 rfl (by decide) (by decide)
noncomputable def r_X8_peek_e38_h0 (m : Mem) : Option (Int32 × Mem) :=
  r_X8_peek_j38 m
set_option maxHeartbeats 4000000 in
set_option maxRecDepth 20000 in
theorem ok_X8_peek_e38_h0 (m : Mem) {z : Int32} {m' : Mem} (h : r_X8_peek_e38_h0 m = some (z, m')) : Xj RX8 cX8_peek 1 (some .int) 1 0 0 0 0 0 38 [(0, vR 8 0)] [] m (oI z) m' := by
  unfold r_X8_peek_e38_h0 at h
  exact ok_X8_peek_j38 m h 
noncomputable def r_X8_peek_l0 (m : Mem) : Option (Int32 × Mem) :=
  bd1 (loopO (fun s => r_X8_peek_b0 s) m) (fun e => r_X8_peek_e38_h0 e)
set_option maxHeartbeats 4000000 in
set_option maxRecDepth 20000 in
theorem ok_X8_peek_l0 (m : Mem) {z : Int32} {m' : Mem} (h : r_X8_peek_l0 m = some (z, m')) : Xj RX8 cX8_peek 1 (some .int) 1 0 0 0 0 0 0 [(0, vR 8 0)] [] m (oI z) m' := by
  unfold r_X8_peek_l0 at h
  obtain ⟨e, e1, h⟩ := bd1_some h
  refine loopO_ok (P := fun s : (Mem) => Xj RX8 cX8_peek 1 (some .int) 1 0 0 0 0 0 0 [(0, vR 8 0)] [] s (oI z) m') (Q := fun e : (Mem) => Xj RX8 cX8_peek 1 (some .int) 1 0 0 0 0 0 38 [(0, vR 8 0)] [] e (oI z) m') ?_ _ _ e1 ?_
  · intro s r9 h9 hi hx
    exact ok_X8_peek_b0 s h9 (by rintro _ rfl; exact hi _ rfl) (by rintro _ rfl; exact hx _ rfl)
  · exact ok_X8_peek_e38_h0 e h 
noncomputable def r_X8_peek (m : Mem) : Option (Int32 × Mem) :=
  r_X8_peek_l0 m
set_option maxHeartbeats 4000000 in
set_option maxRecDepth 20000 in
theorem ok_X8_peek (m : Mem) {z : Int32} {m' : Mem} (h : r_X8_peek m = some (z, m')) : Mt yX8_peek cX8_peek 1 (some .int) 1 0 0 0 [vR 8 0] m (oI z) m' := by
  refine Mt.of (by decide) (Nat.le_of_ble_eq_true rfl) (by decide +kernel) (hhF_ne (by decide)) ?_
  show Xj RX8 cX8_peek 1 (some .int) 1 0 0 0 0 0 0 [(0, vR 8 0)] [] m (oI z) m'
  unfold r_X8_peek at h
  exact ok_X8_peek_l0 m h 
noncomputable def r_X8_isDigit (x1 : Int32) : Bool :=
  if x1 < 48 then (false) else (if 57 < x1 then (false) else (true))
set_option maxHeartbeats 4000000 in
set_option maxRecDepth 20000 in
theorem ok_X8_isDigit (x1 : Int32) (m : Mem) {z : Bool} (h : r_X8_isDigit x1 = z) : Mt yX8_isDigit cX8_isDigit 2 (some .boolean) 1 0 0 0 [vR 8 0, vI x1] m (oB z) m := by
  refine Mt.of (by decide) (Nat.le_of_ble_eq_true rfl) (by decide +kernel) (hhF_ne (by decide)) ?_
  show Xj RX8 cX8_isDigit 2 (some .boolean) 1 0 0 0 0 0 0 [(0, vR 8 0), (1, vI x1)] [] m (oB z) m
  unfold r_X8_isDigit at h
  refine xj_iload_n 1 dX8_isDigit_0 rfl ?_
  refine xj_bipush (z := 48) dX8_isDigit_1 (by decide) ?_
  refine xj_icmp_lt (tgt := 16) dX8_isDigit_3 (by decide) (fun c1 => ?_) (fun c1 => ?_)
  · rw [if_pos c1] at h
    refine xj_iconst (z := 0) dX8_isDigit_16 (by decide) ?_
    subst h
    exact xj_ireturn dX8_isDigit_17 rfl (by decide) (by decide)
  · rw [if_neg c1] at h
    refine xj_iload_n 1 dX8_isDigit_6 rfl ?_
    refine xj_bipush (z := 57) dX8_isDigit_7 (by decide) ?_
    refine xj_icmp_gt (tgt := 16) dX8_isDigit_9 (by decide) (fun c2 => ?_) (fun c2 => ?_)
    · rw [if_pos c2] at h
      refine xj_iconst (z := 0) dX8_isDigit_16 (by decide) ?_
      subst h
      exact xj_ireturn dX8_isDigit_17 rfl (by decide) (by decide)
    · rw [if_neg c2] at h
      refine xj_iconst (z := 1) dX8_isDigit_12 (by decide) ?_
      refine xj_goto (tgt := 17) dX8_isDigit_13 (by decide) ?_
      subst h
      exact xj_ireturn dX8_isDigit_17 rfl (by decide) (by decide)
noncomputable def r_X8_wrong (x1 : Int32) (x2 : Int32) (m : Mem) : Option (Bool × Mem) :=
  some (false, (wr (wr m 8 0 4 x1) 8 0 3 x2))
set_option maxHeartbeats 4000000 in
set_option maxRecDepth 20000 in
theorem ok_X8_wrong (x1 : Int32) (x2 : Int32) (m : Mem) {z : Bool} {m' : Mem} (h : r_X8_wrong x1 x2 m = some (z, m')) : Mt yX8_wrong cX8_wrong 3 (some .boolean) 1 0 0 0 [vR 8 0, vI x1, vI x2] m (oB z) m' := by
  refine Mt.of (by decide) (Nat.le_of_ble_eq_true rfl) (by decide +kernel) (hhF_ne (by decide)) ?_
  show Xj RX8 cX8_wrong 3 (some .boolean) 1 0 0 0 0 0 0 [(0, vR 8 0), (1, vI x1), (2, vI x2)] [] m (oB z) m'
  unfold r_X8_wrong at h
  refine xj_aload_n 0 dX8_wrong_0 rfl ?_
  refine xj_iload_n 1 dX8_wrong_1 rfl ?_
  refine xj_putI dX8_wrong_2 fw_X8_31 rfl ?_
  refine xj_aload_n 0 dX8_wrong_5 rfl ?_
  refine xj_iload_n 2 dX8_wrong_6 rfl ?_
  refine xj_putI dX8_wrong_7 fw_X8_15 rfl ?_
  refine xj_iconst (z := 0) dX8_wrong_10 (by decide) ?_
  cases h
  exact xj_ireturn dX8_wrong_11 rfl (by decide) (by decide)
noncomputable def r_X8_faultAnswer (m : Mem) : Int32 :=
  ((m 8 0 4) - 10)
set_option maxHeartbeats 4000000 in
set_option maxRecDepth 20000 in
theorem ok_X8_faultAnswer (m : Mem) {z : Int32} (h : r_X8_faultAnswer m = z) : Mt yX8_faultAnswer cX8_faultAnswer 1 (some .int) 1 0 0 0 [vR 8 0] m (oI z) m := by
  refine Mt.of (by decide) (Nat.le_of_ble_eq_true rfl) (by decide +kernel) (hhF_ne (by decide)) ?_
  show Xj RX8 cX8_faultAnswer 1 (some .int) 1 0 0 0 0 0 0 [(0, vR 8 0)] [] m (oI z) m
  unfold r_X8_faultAnswer at h
  refine xj_aload_n 0 dX8_faultAnswer_0 rfl ?_
  refine xg_getI (x := (m 8 0 4)) dX8_faultAnswer_1 fl_X8_31 rfl rfl ?_
  refine xj_bipush (z := 10) dX8_faultAnswer_4 (by decide) ?_
  refine xj_isub dX8_faultAnswer_6 ?_
  subst h
  exact xj_ireturn dX8_faultAnswer_7 rfl (by decide) (by decide)
noncomputable def r_X8_sign (x1 : Int32) (m : Mem) : Option (Bool × Mem) :=
  bd2 (r_X8_peek m) fun z3 m2 => (if z3 = x1 then (some (true, (wr (wr m2 8 0 2 (m2 8 0 6)) 8 0 6 ((m2 8 0 6) + 1)))) else (bd2 (r_X8_wrong 1 (m2 8 0 6) m2) fun z7 m6 => (some (z7, m6))))
set_option maxHeartbeats 4000000 in
set_option maxRecDepth 20000 in
theorem ok_X8_sign (x1 : Int32) (m : Mem) {z : Bool} {m' : Mem} (h : r_X8_sign x1 m = some (z, m')) : Mt yX8_sign cX8_sign 2 (some .boolean) 2 22 0 0 [vR 8 0, vI x1] m (oB z) m' := by
  refine Mt.of (by decide) (Nat.le_of_ble_eq_true rfl) (by decide +kernel) (hhF_ne (by decide)) ?_
  show Xj RX8 cX8_sign 2 (some .boolean) 2 22 0 0 0 0 0 [(0, vR 8 0), (1, vI x1)] [] m (oB z) m'
  unfold r_X8_sign at h
  refine xj_aload_n 0 dX8_sign_0 rfl ?_
  obtain ⟨z3, m2, e1, h⟩ := bd2_some h
  refine xc_Vi0 (st := []) (ok_X8_peek m e1) dX8_sign_1 cv_X8_34 rfl rfl (Nat.le_of_ble_eq_true rfl) (by decide) (by decide) (by decide) (by decide) ?_
  refine xj_iload_n 1 dX8_sign_4 rfl ?_
  refine xj_icmp_eq (tgt := 18) dX8_sign_5 (by decide) (fun c4 => ?_) (fun c4 => ?_)
  · rw [if_pos c4] at h
    refine xj_aload_n 0 dX8_sign_18 rfl ?_
    refine xj_aload_n 0 dX8_sign_19 rfl ?_
    refine xg_getI (x := (m2 8 0 6)) dX8_sign_20 fl_X8_25 rfl rfl ?_
    refine xj_putI dX8_sign_23 fw_X8_28 rfl ?_
    refine xj_aload_n 0 dX8_sign_26 rfl ?_
    refine xj_dup dX8_sign_27 rfl ?_
    refine xg_getI (x := (m2 8 0 6)) dX8_sign_28 fl_X8_25 rfl rfl ?_
    refine xj_iconst (z := 1) dX8_sign_31 (by decide) ?_
    refine xj_iadd dX8_sign_32 ?_
    refine xj_putI dX8_sign_33 fw_X8_25 rfl ?_
    refine xj_iconst (z := 1) dX8_sign_36 (by decide) ?_
    cases h
    exact xj_ireturn dX8_sign_37 rfl (by decide) (by decide)
  · rw [if_neg c4] at h
    refine xj_aload_n 0 dX8_sign_8 rfl ?_
    refine xj_iconst (z := 1) dX8_sign_9 (by decide) ?_
    refine xj_aload_n 0 dX8_sign_10 rfl ?_
    refine xg_getI (x := (m2 8 0 6)) dX8_sign_11 fl_X8_25 rfl rfl ?_
    obtain ⟨z7, m6, e5, h⟩ := bd2_some h
    refine xc_Vb0 (st := []) (ok_X8_wrong 1 (m2 8 0 6) m2 e5) dX8_sign_14 cv_X8_38 rfl rfl (Nat.le_of_ble_eq_true rfl) (by decide) (by decide) (by decide) (by decide) ?_
    cases h
    exact xj_ireturn dX8_sign_17 (nar_b2i _) (by decide) (by decide)
noncomputable def r_X8_endsHere (m : Mem) : Option (Bool × Mem) :=
  bd2 (r_X8_peek m) fun z3 m2 => (if z3 = (-1) then (some (true, m2)) else (bd2 (r_X8_wrong 1 (m2 8 0 6) m2) fun z7 m6 => (if z7 = true then (some (true, m6)) else (some (false, m6)))))
set_option maxHeartbeats 4000000 in
set_option maxRecDepth 20000 in
theorem ok_X8_endsHere (m : Mem) {z : Bool} {m' : Mem} (h : r_X8_endsHere m = some (z, m')) : Mt yX8_endsHere cX8_endsHere 1 (some .boolean) 2 22 0 0 [vR 8 0] m (oB z) m' := by
  refine Mt.of (by decide) (Nat.le_of_ble_eq_true rfl) (by decide +kernel) (hhF_ne (by decide)) ?_
  show Xj RX8 cX8_endsHere 1 (some .boolean) 2 22 0 0 0 0 0 [(0, vR 8 0)] [] m (oB z) m'
  unfold r_X8_endsHere at h
  refine xj_aload_n 0 dX8_endsHere_0 rfl ?_
  obtain ⟨z3, m2, e1, h⟩ := bd2_some h
  refine xc_Vi0 (st := []) (ok_X8_peek m e1) dX8_endsHere_1 cv_X8_34 rfl rfl (Nat.le_of_ble_eq_true rfl) (by decide) (by decide) (by decide) (by decide) ?_
  refine xj_iconst (z := (-1)) dX8_endsHere_4 (by decide) ?_
  refine xj_icmp_eq (tgt := 20) dX8_endsHere_5 (by decide) (fun c4 => ?_) (fun c4 => ?_)
  · rw [if_pos c4] at h
    refine xj_iconst (z := 1) dX8_endsHere_20 (by decide) ?_
    refine xj_goto (tgt := 25) dX8_endsHere_21 (by decide) ?_
    cases h
    exact xj_ireturn dX8_endsHere_25 rfl (by decide) (by decide)
  · rw [if_neg c4] at h
    refine xj_aload_n 0 dX8_endsHere_8 rfl ?_
    refine xj_iconst (z := 1) dX8_endsHere_9 (by decide) ?_
    refine xj_aload_n 0 dX8_endsHere_10 rfl ?_
    refine xg_getI (x := (m2 8 0 6)) dX8_endsHere_11 fl_X8_25 rfl rfl ?_
    obtain ⟨z7, m6, e5, h⟩ := bd2_some h
    refine xc_Vb0 (st := []) (ok_X8_wrong 1 (m2 8 0 6) m2 e5) dX8_endsHere_14 cv_X8_38 rfl rfl (Nat.le_of_ble_eq_true rfl) (by decide) (by decide) (by decide) (by decide) ?_
    refine xj_if_eq (tgt := 24) dX8_endsHere_17 (by decide) (fun c8 => ?_) (fun c8 => ?_)
    · rw [if_neg (b2i_f c8)] at h
      refine xj_iconst (z := 0) dX8_endsHere_24 (by decide) ?_
      cases h
      exact xj_ireturn dX8_endsHere_25 rfl (by decide) (by decide)
    · rw [if_pos (b2i_t c8)] at h
      refine xj_iconst (z := 1) dX8_endsHere_20 (by decide) ?_
      refine xj_goto (tgt := 25) dX8_endsHere_21 (by decide) ?_
      cases h
      exact xj_ireturn dX8_endsHere_25 rfl (by decide) (by decide)
noncomputable def r_X8_isLetter (x1 : Int32) : Bool :=
  if x1 < 97 then (false) else (if 122 < x1 then (false) else (true))
set_option maxHeartbeats 4000000 in
set_option maxRecDepth 20000 in
theorem ok_X8_isLetter (x1 : Int32) (m : Mem) {z : Bool} (h : r_X8_isLetter x1 = z) : Mt yX8_isLetter cX8_isLetter 2 (some .boolean) 1 0 0 0 [vR 8 0, vI x1] m (oB z) m := by
  refine Mt.of (by decide) (Nat.le_of_ble_eq_true rfl) (by decide +kernel) (hhF_ne (by decide)) ?_
  show Xj RX8 cX8_isLetter 2 (some .boolean) 1 0 0 0 0 0 0 [(0, vR 8 0), (1, vI x1)] [] m (oB z) m
  unfold r_X8_isLetter at h
  refine xj_iload_n 1 dX8_isLetter_0 rfl ?_
  refine xj_bipush (z := 97) dX8_isLetter_1 (by decide) ?_
  refine xj_icmp_lt (tgt := 16) dX8_isLetter_3 (by decide) (fun c1 => ?_) (fun c1 => ?_)
  · rw [if_pos c1] at h
    refine xj_iconst (z := 0) dX8_isLetter_16 (by decide) ?_
    subst h
    exact xj_ireturn dX8_isLetter_17 rfl (by decide) (by decide)
  · rw [if_neg c1] at h
    refine xj_iload_n 1 dX8_isLetter_6 rfl ?_
    refine xj_bipush (z := 122) dX8_isLetter_7 (by decide) ?_
    refine xj_icmp_gt (tgt := 16) dX8_isLetter_9 (by decide) (fun c2 => ?_) (fun c2 => ?_)
    · rw [if_pos c2] at h
      refine xj_iconst (z := 0) dX8_isLetter_16 (by decide) ?_
      subst h
      exact xj_ireturn dX8_isLetter_17 rfl (by decide) (by decide)
    · rw [if_neg c2] at h
      refine xj_iconst (z := 1) dX8_isLetter_12 (by decide) ?_
      refine xj_goto (tgt := 17) dX8_isLetter_13 (by decide) ?_
      subst h
      exact xj_ireturn dX8_isLetter_17 rfl (by decide) (by decide)
noncomputable def r_X8_word_b29 (m : Mem) : Option ((Mem) ⊕ (Mem)) :=
  if (m 8 0 5) ≤ (m 8 0 6) then (some (Sum.inr m)) else (if inb (m 8 0 6) 600 = true then (if (r_X8_isLetter (m 37 0 ((m 8 0 6).toNatClampNeg))) = true then (some (Sum.inl (wr m 8 0 6 ((m 8 0 6) + 1)))) else (some (Sum.inr m))) else none)
set_option maxHeartbeats 4000000 in
set_option maxRecDepth 20000 in
theorem ok_X8_word_b29 (m : Mem) {r : (Mem) ⊕ (Mem)} (h : r_X8_word_b29 m = some r) {o : Ou} {M' : Mem} (kb : ∀ (m'' : Mem), r = Sum.inl m'' → Xj RX8 cX8_word 1 (some .boolean) 2 22 0 0 0 0 29 [(0, vR 8 0)] [] m'' o M') (ke : ∀ (m'' : Mem), r = Sum.inr m'' → Xj RX8 cX8_word 1 (some .boolean) 2 22 0 0 0 0 69 [] [] m'' o M') : Xj RX8 cX8_word 1 (some .boolean) 2 22 0 0 0 0 29 [(0, vR 8 0)] [] m o M' := by
  unfold r_X8_word_b29 at h
  refine xj_aload_n 0 dX8_word_29 rfl ?_
  refine xg_getI (x := (m 8 0 6)) dX8_word_30 fl_X8_25 rfl rfl ?_
  refine xj_aload_n 0 dX8_word_33 rfl ?_
  refine xg_getI (x := (m 8 0 5)) dX8_word_34 fl_X8_22 rfl rfl ?_
  refine xj_icmp_ge (tgt := 69) dX8_word_37 (by decide) (fun c5 => ?_) (fun c5 => ?_)
  · rw [if_pos c5] at h
    cases h
    refine xj_pick (ls' := []) [] rfl ?_
    exact ke m rfl
  · rw [if_neg c5] at h
    refine xj_aload_n 0 dX8_word_40 rfl ?_
    refine xj_aload_n 0 dX8_word_41 rfl ?_
    refine xg_getR (k' := 37) (i' := 0) dX8_word_42 fl_X8_9 rfl ?_
    refine xj_aload_n 0 dX8_word_45 rfl ?_
    refine xg_getI (x := (m 8 0 6)) dX8_word_46 fl_X8_25 rfl rfl ?_
    by_cases c6 : inb (m 8 0 6) 600 = true
    case neg => rw [if_neg c6] at h; cases h
    rw [if_pos c6] at h
    refine xg_iald (z := (m 37 0 ((m 8 0 6).toNatClampNeg))) (n := (m 8 0 6).toNatClampNeg) dX8_word_49 rfl (by decide) (inb_in c6) rfl rfl ?_
    refine xc_Vb0 (st := []) (ok_X8_isLetter (m 37 0 ((m 8 0 6).toNatClampNeg)) m rfl) dX8_word_50 cv_X8_42 rfl rfl (Nat.le_of_ble_eq_true rfl) (by decide) (by decide) (by decide) (by decide) ?_
    refine xj_if_eq (tgt := 69) dX8_word_53 (by decide) (fun c7 => ?_) (fun c7 => ?_)
    · rw [if_neg (b2i_f c7)] at h
      cases h
      refine xj_pick (ls' := []) [] rfl ?_
      exact ke m rfl
    · rw [if_pos (b2i_t c7)] at h
      refine xj_aload_n 0 dX8_word_56 rfl ?_
      refine xj_dup dX8_word_57 rfl ?_
      refine xg_getI (x := (m 8 0 6)) dX8_word_58 fl_X8_25 rfl rfl ?_
      refine xj_iconst (z := 1) dX8_word_61 (by decide) ?_
      refine xj_iadd dX8_word_62 ?_
      refine xj_putI dX8_word_63 fw_X8_25 rfl ?_
      refine xj_goto (tgt := 29) dX8_word_66 (by decide) ?_
      cases h
      exact kb (wr m 8 0 6 ((m 8 0 6) + 1)) rfl
noncomputable def r_X8_word_e69_h29 (m : Mem) : Option (Bool × Mem) :=
  some (true, m)
set_option maxHeartbeats 4000000 in
set_option maxRecDepth 20000 in
theorem ok_X8_word_e69_h29 (m : Mem) {z : Bool} {m' : Mem} (h : r_X8_word_e69_h29 m = some (z, m')) : Xj RX8 cX8_word 1 (some .boolean) 2 22 0 0 0 0 69 [] [] m (oB z) m' := by
  unfold r_X8_word_e69_h29 at h
  refine xj_iconst (z := 1) dX8_word_69 (by decide) ?_
  cases h
  exact xj_ireturn dX8_word_70 rfl (by decide) (by decide)
noncomputable def r_X8_word_l29 (m : Mem) : Option (Bool × Mem) :=
  bd1 (loopO (fun s => r_X8_word_b29 s) m) (fun e => r_X8_word_e69_h29 e)
set_option maxHeartbeats 4000000 in
set_option maxRecDepth 20000 in
theorem ok_X8_word_l29 (m : Mem) {z : Bool} {m' : Mem} (h : r_X8_word_l29 m = some (z, m')) : Xj RX8 cX8_word 1 (some .boolean) 2 22 0 0 0 0 29 [(0, vR 8 0)] [] m (oB z) m' := by
  unfold r_X8_word_l29 at h
  obtain ⟨e, e1, h⟩ := bd1_some h
  refine loopO_ok (P := fun s : (Mem) => Xj RX8 cX8_word 1 (some .boolean) 2 22 0 0 0 0 29 [(0, vR 8 0)] [] s (oB z) m') (Q := fun e : (Mem) => Xj RX8 cX8_word 1 (some .boolean) 2 22 0 0 0 0 69 [] [] e (oB z) m') ?_ _ _ e1 ?_
  · intro s r9 h9 hi hx
    exact ok_X8_word_b29 s h9 (by rintro _ rfl; exact hi _ rfl) (by rintro _ rfl; exact hx _ rfl)
  · exact ok_X8_word_e69_h29 e h 
noncomputable def r_X8_word (m : Mem) : Option (Bool × Mem) :=
  bd2 (r_X8_peek m) fun z3 m2 => (if (r_X8_isLetter z3) = true then (r_X8_word_l29 (wr m2 8 0 2 (m2 8 0 6))) else (bd2 (r_X8_wrong 1 (m2 8 0 6) m2) fun z10 m9 => (some (z10, m9))))
set_option maxHeartbeats 4000000 in
set_option maxRecDepth 20000 in
theorem ok_X8_word (m : Mem) {z : Bool} {m' : Mem} (h : r_X8_word m = some (z, m')) : Mt yX8_word cX8_word 1 (some .boolean) 2 22 0 0 [vR 8 0] m (oB z) m' := by
  refine Mt.of (by decide) (Nat.le_of_ble_eq_true rfl) (by decide +kernel) (hhF_ne (by decide)) ?_
  show Xj RX8 cX8_word 1 (some .boolean) 2 22 0 0 0 0 0 [(0, vR 8 0)] [] m (oB z) m'
  unfold r_X8_word at h
  refine xj_aload_n 0 dX8_word_0 rfl ?_
  refine xj_aload_n 0 dX8_word_1 rfl ?_
  obtain ⟨z3, m2, e1, h⟩ := bd2_some h
  refine xc_Vi0 (st := [vR 8 0]) (ok_X8_peek m e1) dX8_word_2 cv_X8_34 rfl rfl (Nat.le_of_ble_eq_true rfl) (by decide) (by decide) (by decide) (by decide) ?_
  refine xc_Vb0 (st := []) (ok_X8_isLetter z3 m2 rfl) dX8_word_5 cv_X8_42 rfl rfl (Nat.le_of_ble_eq_true rfl) (by decide) (by decide) (by decide) (by decide) ?_
  refine xj_if_ne (tgt := 21) dX8_word_8 (by decide) (fun c4 => ?_) (fun c4 => ?_)
  · rw [if_pos (b2i_t c4)] at h
    refine xj_aload_n 0 dX8_word_21 rfl ?_
    refine xj_aload_n 0 dX8_word_22 rfl ?_
    refine xg_getI (x := (m2 8 0 6)) dX8_word_23 fl_X8_25 rfl rfl ?_
    refine xj_putI dX8_word_26 fw_X8_28 rfl ?_
    exact ok_X8_word_l29 (wr m2 8 0 2 (m2 8 0 6)) h 
  · rw [if_neg (b2i_f c4)] at h
    refine xj_aload_n 0 dX8_word_11 rfl ?_
    refine xj_iconst (z := 1) dX8_word_12 (by decide) ?_
    refine xj_aload_n 0 dX8_word_13 rfl ?_
    refine xg_getI (x := (m2 8 0 6)) dX8_word_14 fl_X8_25 rfl rfl ?_
    obtain ⟨z10, m9, e8, h⟩ := bd2_some h
    refine xc_Vb0 (st := []) (ok_X8_wrong 1 (m2 8 0 6) m2 e8) dX8_word_17 cv_X8_38 rfl rfl (Nat.le_of_ble_eq_true rfl) (by decide) (by decide) (by decide) (by decide) ?_
    cases h
    exact xj_ireturn dX8_word_20 (nar_b2i _) (by decide) (by decide)
noncomputable def r_X8_number_b33 (x1 : Int32) (x2 : Int32) (x3 : Int32) (m : Mem) : Option ((Int32 × Mem) ⊕ (Int32 × Mem)) :=
  if (m 8 0 5) ≤ (m 8 0 6) then (some (Sum.inr (x3, m))) else (if inb (m 8 0 6) 600 = true then (if (r_X8_isDigit (m 37 0 ((m 8 0 6).toNatClampNeg))) = true then (some (Sum.inl ((imin 100000 (((x3 * 10) + (m 37 0 ((m 8 0 6).toNatClampNeg))) - 48)), (wr m 8 0 6 ((m 8 0 6) + 1))))) else (some (Sum.inr (x3, m)))) else none)
set_option maxHeartbeats 4000000 in
set_option maxRecDepth 20000 in
theorem ok_X8_number_b33 (x1 : Int32) (x2 : Int32) (x3 : Int32) (m : Mem) {r : (Int32 × Mem) ⊕ (Int32 × Mem)} (h : r_X8_number_b33 x1 x2 x3 m = some r) {o : Ou} {M' : Mem} (kb : ∀ (x3' : Int32) (m'' : Mem), r = Sum.inl (x3', m'') → Xj RX8 cX8_number 4 (some .int) 2 22 0 0 0 0 33 [(0, vR 8 0), (1, vI x1), (2, vI x2), (3, vI x3')] [] m'' o M') (ke : ∀ (x3' : Int32) (m'' : Mem), r = Sum.inr (x3', m'') → Xj RX8 cX8_number 4 (some .int) 2 22 0 0 0 0 96 [(0, vR 8 0), (1, vI x1), (2, vI x2), (3, vI x3')] [] m'' o M') : Xj RX8 cX8_number 4 (some .int) 2 22 0 0 0 0 33 [(0, vR 8 0), (1, vI x1), (2, vI x2), (3, vI x3)] [] m o M' := by
  unfold r_X8_number_b33 at h
  refine xj_aload_n 0 dX8_number_33 rfl ?_
  refine xg_getI (x := (m 8 0 6)) dX8_number_34 fl_X8_25 rfl rfl ?_
  refine xj_aload_n 0 dX8_number_37 rfl ?_
  refine xg_getI (x := (m 8 0 5)) dX8_number_38 fl_X8_22 rfl rfl ?_
  refine xj_icmp_ge (tgt := 96) dX8_number_41 (by decide) (fun c5 => ?_) (fun c5 => ?_)
  · rw [if_pos c5] at h
    cases h
    exact ke x3 m rfl
  · rw [if_neg c5] at h
    refine xj_aload_n 0 dX8_number_44 rfl ?_
    refine xj_aload_n 0 dX8_number_45 rfl ?_
    refine xg_getR (k' := 37) (i' := 0) dX8_number_46 fl_X8_9 rfl ?_
    refine xj_aload_n 0 dX8_number_49 rfl ?_
    refine xg_getI (x := (m 8 0 6)) dX8_number_50 fl_X8_25 rfl rfl ?_
    by_cases c6 : inb (m 8 0 6) 600 = true
    case neg => rw [if_neg c6] at h; cases h
    rw [if_pos c6] at h
    refine xg_iald (z := (m 37 0 ((m 8 0 6).toNatClampNeg))) (n := (m 8 0 6).toNatClampNeg) dX8_number_53 rfl (by decide) (inb_in c6) rfl rfl ?_
    refine xc_Vb0 (st := []) (ok_X8_isDigit (m 37 0 ((m 8 0 6).toNatClampNeg)) m rfl) dX8_number_54 cv_X8_54 rfl rfl (Nat.le_of_ble_eq_true rfl) (by decide) (by decide) (by decide) (by decide) ?_
    refine xj_if_eq (tgt := 96) dX8_number_57 (by decide) (fun c7 => ?_) (fun c7 => ?_)
    · rw [if_neg (b2i_f c7)] at h
      cases h
      exact ke x3 m rfl
    · rw [if_pos (b2i_t c7)] at h
      refine xj_ldc (z := 100000) dX8_number_60 wt_810 ?_
      refine xj_iload_n 3 dX8_number_62 rfl ?_
      refine xj_bipush (z := 10) dX8_number_63 (by decide) ?_
      refine xj_imul dX8_number_65 ?_
      refine xj_aload_n 0 dX8_number_66 rfl ?_
      refine xg_getR (k' := 37) (i' := 0) dX8_number_67 fl_X8_9 rfl ?_
      refine xj_aload_n 0 dX8_number_70 rfl ?_
      refine xg_getI (x := (m 8 0 6)) dX8_number_71 fl_X8_25 rfl rfl ?_
      refine xg_iald (z := (m 37 0 ((m 8 0 6).toNatClampNeg))) (n := (m 8 0 6).toNatClampNeg) dX8_number_74 rfl (by decide) (inb_in c6) rfl rfl ?_
      refine xj_iadd dX8_number_75 ?_
      refine xj_bipush (z := 48) dX8_number_76 (by decide) ?_
      refine xj_isub dX8_number_78 ?_
      refine xj_min dX8_number_79 cm_X8_58 (by decide) (Nat.le_of_ble_eq_true rfl) (by decide) (by decide) ?_
      refine xj_istore_n (ls' := [(3, vI (imin 100000 (((x3 * 10) + (m 37 0 ((m 8 0 6).toNatClampNeg))) - 48))), (0, vR 8 0), (1, vI x1), (2, vI x2)]) dX8_number_82 rfl (by decide) rfl ?_
      refine xj_aload_n 1 dX8_number_83 rfl ?_
      refine xj_dup dX8_number_84 rfl ?_
      refine xg_getI (x := (m 8 0 6)) dX8_number_85 fl_X8_25 rfl rfl ?_
      refine xj_iconst (z := 1) dX8_number_88 (by decide) ?_
      refine xj_iadd dX8_number_89 ?_
      refine xj_putI dX8_number_90 fw_X8_25 rfl ?_
      refine xj_goto (tgt := 33) dX8_number_93 (by decide) ?_
      cases h
      refine xj_pick (ls' := [(0, vR 8 0), (1, vI x1), (2, vI x2), (3, vI (imin 100000 (((x3 * 10) + (m 37 0 ((m 8 0 6).toNatClampNeg))) - 48)))]) [1, 2, 3, 0] rfl ?_
      exact kb (imin 100000 (((x3 * 10) + (m 37 0 ((m 8 0 6).toNatClampNeg))) - 48)) (wr m 8 0 6 ((m 8 0 6) + 1)) rfl
noncomputable def r_X8_number_j106 (m : Mem) : Option (Int32 × Mem) :=
  bd2 (r_X8_wrong 2 (m 8 0 2) m) fun z11 m10 => (some ((-1), m10))
set_option maxHeartbeats 4000000 in
set_option maxRecDepth 20000 in
theorem ok_X8_number_j106 (m : Mem) {z : Int32} {m' : Mem} (h : r_X8_number_j106 m = some (z, m')) : Xj RX8 cX8_number 4 (some .int) 2 22 0 0 0 0 106 [(0, vR 8 0)] [] m (oI z) m' := by
  unfold r_X8_number_j106 at h
  refine xj_aload_n 0 dX8_number_106 rfl ?_
  refine xj_iconst (z := 2) dX8_number_107 (by decide) ?_
  refine xj_aload_n 0 dX8_number_108 rfl ?_
  refine xg_getI (x := (m 8 0 2)) dX8_number_109 fl_X8_28 rfl rfl ?_
  obtain ⟨z11, m10, e9, h⟩ := bd2_some h
  refine xc_Vb0 (st := []) (ok_X8_wrong 2 (m 8 0 2) m e9) dX8_number_112 cv_X8_38 rfl rfl (Nat.le_of_ble_eq_true rfl) (by decide) (by decide) (by decide) (by decide) ?_
  refine xj_pop dX8_number_115 rfl ?_
  refine xj_iconst (z := (-1)) dX8_number_116 (by decide) ?_
  cases h
  exact xj_ireturn dX8_number_117 rfl (by decide) (by decide)
noncomputable def r_X8_number_j96 (x1 : Int32) (x2 : Int32) (x3 : Int32) (m : Mem) : Option (Int32 × Mem) :=
  if x3 < x1 then (r_X8_number_j106 m) else (if x3 ≤ x2 then (some (x3, m)) else (r_X8_number_j106 m))
set_option maxHeartbeats 4000000 in
set_option maxRecDepth 20000 in
theorem ok_X8_number_j96 (x1 : Int32) (x2 : Int32) (x3 : Int32) (m : Mem) {z : Int32} {m' : Mem} (h : r_X8_number_j96 x1 x2 x3 m = some (z, m')) : Xj RX8 cX8_number 4 (some .int) 2 22 0 0 0 0 96 [(0, vR 8 0), (1, vI x1), (2, vI x2), (3, vI x3)] [] m (oI z) m' := by
  unfold r_X8_number_j96 at h
  refine xj_iload_n 3 dX8_number_96 rfl ?_
  refine xj_iload_n 1 dX8_number_97 rfl ?_
  refine xj_icmp_lt (tgt := 106) dX8_number_98 (by decide) (fun c8 => ?_) (fun c8 => ?_)
  · rw [if_pos c8] at h
    refine xj_pick (ls' := [(0, vR 8 0)]) [0] rfl ?_
    exact ok_X8_number_j106 m h 
  · rw [if_neg c8] at h
    refine xj_iload_n 3 dX8_number_101 rfl ?_
    refine xj_iload_n 2 dX8_number_102 rfl ?_
    refine xj_icmp_le (tgt := 118) dX8_number_103 (by decide) (fun c12 => ?_) (fun c12 => ?_)
    · rw [if_pos c12] at h
      refine xj_iload_n 3 dX8_number_118 rfl ?_
      cases h
      exact xj_ireturn dX8_number_119 rfl (by decide) (by decide)
    · rw [if_neg c12] at h
      refine xj_pick (ls' := [(0, vR 8 0)]) [0] rfl ?_
      exact ok_X8_number_j106 m h 
noncomputable def r_X8_number_e96_h33 (x1 : Int32) (x2 : Int32) (x3 : Int32) (m : Mem) : Option (Int32 × Mem) :=
  r_X8_number_j96 x1 x2 x3 m
set_option maxHeartbeats 4000000 in
set_option maxRecDepth 20000 in
theorem ok_X8_number_e96_h33 (x1 : Int32) (x2 : Int32) (x3 : Int32) (m : Mem) {z : Int32} {m' : Mem} (h : r_X8_number_e96_h33 x1 x2 x3 m = some (z, m')) : Xj RX8 cX8_number 4 (some .int) 2 22 0 0 0 0 96 [(0, vR 8 0), (1, vI x1), (2, vI x2), (3, vI x3)] [] m (oI z) m' := by
  unfold r_X8_number_e96_h33 at h
  exact ok_X8_number_j96 x1 x2 x3 m h 
noncomputable def r_X8_number_l33 (x1 : Int32) (x2 : Int32) (x3 : Int32) (m : Mem) : Option (Int32 × Mem) :=
  bd1 (loopO (fun s => r_X8_number_b33 x1 x2 s.1 s.2) (x3, m)) (fun e => r_X8_number_e96_h33 x1 x2 e.1 e.2)
set_option maxHeartbeats 4000000 in
set_option maxRecDepth 20000 in
theorem ok_X8_number_l33 (x1 : Int32) (x2 : Int32) (x3 : Int32) (m : Mem) {z : Int32} {m' : Mem} (h : r_X8_number_l33 x1 x2 x3 m = some (z, m')) : Xj RX8 cX8_number 4 (some .int) 2 22 0 0 0 0 33 [(0, vR 8 0), (1, vI x1), (2, vI x2), (3, vI x3)] [] m (oI z) m' := by
  unfold r_X8_number_l33 at h
  obtain ⟨e, e1, h⟩ := bd1_some h
  refine loopO_ok (P := fun s : (Int32 × Mem) => Xj RX8 cX8_number 4 (some .int) 2 22 0 0 0 0 33 [(0, vR 8 0), (1, vI x1), (2, vI x2), (3, vI s.1)] [] s.2 (oI z) m') (Q := fun e : (Int32 × Mem) => Xj RX8 cX8_number 4 (some .int) 2 22 0 0 0 0 96 [(0, vR 8 0), (1, vI x1), (2, vI x2), (3, vI e.1)] [] e.2 (oI z) m') ?_ _ _ e1 ?_
  · intro s r9 h9 hi hx
    exact ok_X8_number_b33 x1 x2 s.1 s.2 h9 (by rintro _ _ rfl; exact hi _ rfl) (by rintro _ _ rfl; exact hx _ rfl)
  · exact ok_X8_number_e96_h33 x1 x2 e.1 e.2 h 
noncomputable def r_X8_number (x1 : Int32) (x2 : Int32) (m : Mem) : Option (Int32 × Mem) :=
  bd2 (r_X8_peek m) fun z3 m2 => (if (r_X8_isDigit z3) = true then (r_X8_number_l33 x1 x2 0 (wr m2 8 0 2 (m2 8 0 6))) else (bd2 (r_X8_wrong 1 (m2 8 0 6) m2) fun z15 m14 => (some ((-1), m14))))
set_option maxHeartbeats 4000000 in
set_option maxRecDepth 20000 in
theorem ok_X8_number (x1 : Int32) (x2 : Int32) (m : Mem) {z : Int32} {m' : Mem} (h : r_X8_number x1 x2 m = some (z, m')) : Mt yX8_number cX8_number 4 (some .int) 2 22 0 0 [vR 8 0, vI x1, vI x2] m (oI z) m' := by
  refine Mt.of (by decide) (Nat.le_of_ble_eq_true rfl) (by decide +kernel) (hhF_ne (by decide)) ?_
  show Xj RX8 cX8_number 4 (some .int) 2 22 0 0 0 0 0 [(0, vR 8 0), (1, vI x1), (2, vI x2)] [] m (oI z) m'
  unfold r_X8_number at h
  refine xj_aload_n 0 dX8_number_0 rfl ?_
  refine xj_aload_n 0 dX8_number_1 rfl ?_
  obtain ⟨z3, m2, e1, h⟩ := bd2_some h
  refine xc_Vi0 (st := [vR 8 0]) (ok_X8_peek m e1) dX8_number_2 cv_X8_34 rfl rfl (Nat.le_of_ble_eq_true rfl) (by decide) (by decide) (by decide) (by decide) ?_
  refine xc_Vb0 (st := []) (ok_X8_isDigit z3 m2 rfl) dX8_number_5 cv_X8_54 rfl rfl (Nat.le_of_ble_eq_true rfl) (by decide) (by decide) (by decide) (by decide) ?_
  refine xj_if_ne (tgt := 23) dX8_number_8 (by decide) (fun c4 => ?_) (fun c4 => ?_)
  · rw [if_pos (b2i_t c4)] at h
    refine xj_aload_n 0 dX8_number_23 rfl ?_
    refine xj_aload_n 0 dX8_number_24 rfl ?_
    refine xg_getI (x := (m2 8 0 6)) dX8_number_25 fl_X8_25 rfl rfl ?_
    refine xj_putI dX8_number_28 fw_X8_28 rfl ?_
    refine xj_iconst (z := 0) dX8_number_31 (by decide) ?_
    refine xj_istore_n (ls' := [(3, vI 0), (0, vR 8 0), (1, vI x1), (2, vI x2)]) dX8_number_32 rfl (by decide) rfl ?_
    refine xj_pick (ls' := [(0, vR 8 0), (1, vI x1), (2, vI x2), (3, vI 0)]) [1, 2, 3, 0] rfl ?_
    exact ok_X8_number_l33 x1 x2 0 (wr m2 8 0 2 (m2 8 0 6)) h 
  · rw [if_neg (b2i_f c4)] at h
    refine xj_aload_n 0 dX8_number_11 rfl ?_
    refine xj_iconst (z := 1) dX8_number_12 (by decide) ?_
    refine xj_aload_n 0 dX8_number_13 rfl ?_
    refine xg_getI (x := (m2 8 0 6)) dX8_number_14 fl_X8_25 rfl rfl ?_
    obtain ⟨z15, m14, e13, h⟩ := bd2_some h
    refine xc_Vb0 (st := []) (ok_X8_wrong 1 (m2 8 0 6) m2 e13) dX8_number_17 cv_X8_38 rfl rfl (Nat.le_of_ble_eq_true rfl) (by decide) (by decide) (by decide) (by decide) ?_
    refine xj_pop dX8_number_20 rfl ?_
    refine xj_iconst (z := (-1)) dX8_number_21 (by decide) ?_
    cases h
    exact xj_ireturn dX8_number_22 rfl (by decide) (by decide)
