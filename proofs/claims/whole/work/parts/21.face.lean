theorem dX5_popInto_0 : decode cX5_popInto 0 = .ok (.aload_n 0, 1) := by decide +kernel
theorem dX5_popInto_1 : decode cX5_popInto 1 = .ok (.getfield 17, 3) := by decide +kernel
theorem dX5_popInto_4 : decode cX5_popInto 4 = .ok (.ifCond .le 40, 3) := by decide +kernel
theorem dX5_popInto_7 : decode cX5_popInto 7 = .ok (.aload_n 0, 1) := by decide +kernel
theorem dX5_popInto_8 : decode cX5_popInto 8 = .ok (.getfield 11, 3) := by decide +kernel
theorem dX5_popInto_11 : decode cX5_popInto 11 = .ok (.aload_n 0, 1) := by decide +kernel
theorem dX5_popInto_12 : decode cX5_popInto 12 = .ok (.getfield 17, 3) := by decide +kernel
theorem dX5_popInto_15 : decode cX5_popInto 15 = .ok (.iconst 1, 1) := by decide +kernel
theorem dX5_popInto_16 : decode cX5_popInto 16 = .ok (.isub, 1) := by decide +kernel
theorem dX5_popInto_17 : decode cX5_popInto 17 = .ok (.aaload, 1) := by decide +kernel
theorem dX5_popInto_18 : decode cX5_popInto 18 = .ok (.ifnull 26, 3) := by decide +kernel
theorem dX5_popInto_21 : decode cX5_popInto 21 = .ok (.aload_n 0, 1) := by decide +kernel
theorem dX5_popInto_22 : decode cX5_popInto 22 = .ok (.dup, 1) := by decide +kernel
theorem dX5_popInto_23 : decode cX5_popInto 23 = .ok (.getfield 17, 3) := by decide +kernel
theorem dX5_popInto_26 : decode cX5_popInto 26 = .ok (.iconst 1, 1) := by decide +kernel
theorem dX5_popInto_27 : decode cX5_popInto 27 = .ok (.isub, 1) := by decide +kernel
theorem dX5_popInto_28 : decode cX5_popInto 28 = .ok (.putfield 17, 3) := by decide +kernel
theorem dX5_popInto_31 : decode cX5_popInto 31 = .ok (.aload_n 1, 1) := by decide +kernel
theorem dX5_popInto_32 : decode cX5_popInto 32 = .ok (.aload_n 0, 1) := by decide +kernel
theorem dX5_popInto_33 : decode cX5_popInto 33 = .ok (.getfield 11, 3) := by decide +kernel
theorem dX5_popInto_36 : decode cX5_popInto 36 = .ok (.aload_n 0, 1) := by decide +kernel
theorem dX5_popInto_37 : decode cX5_popInto 37 = .ok (.getfield 17, 3) := by decide +kernel
theorem dX5_popInto_40 : decode cX5_popInto 40 = .ok (.aaload, 1) := by decide +kernel
theorem dX5_popInto_41 : decode cX5_popInto 41 = .ok (.invokevirtual 26, 3) := by decide +kernel
theorem dX5_popInto_44 : decode cX5_popInto 44 = .ok (.return_, 1) := by decide +kernel
theorem dX5_clear_0 : decode cX5_clear 0 = .ok (.aload_n 0, 1) := by decide +kernel
theorem dX5_clear_1 : decode cX5_clear 1 = .ok (.iconst 0, 1) := by decide +kernel
theorem dX5_clear_2 : decode cX5_clear 2 = .ok (.putfield 17, 3) := by decide +kernel
theorem dX5_clear_5 : decode cX5_clear 5 = .ok (.return_, 1) := by decide +kernel
theorem dX2_clear_0 : decode cX2_clear 0 = .ok (.aload_n 0, 1) := by decide +kernel
theorem dX2_clear_1 : decode cX2_clear 1 = .ok (.iconst 0, 1) := by decide +kernel
theorem dX2_clear_2 : decode cX2_clear 2 = .ok (.putfield 23, 3) := by decide +kernel
theorem dX2_clear_5 : decode cX2_clear 5 = .ok (.return_, 1) := by decide +kernel
theorem dX11_need_0 : decode cX11_need 0 = .ok (.iload_n 1, 1) := by decide +kernel
theorem dX11_need_1 : decode cX11_need 1 = .ok (.ifCond .ne 24, 3) := by decide +kernel
theorem dX11_need_4 : decode cX11_need 4 = .ok (.aload_n 0, 1) := by decide +kernel
theorem dX11_need_5 : decode cX11_need 5 = .ok (.dup, 1) := by decide +kernel
theorem dX11_need_6 : decode cX11_need 6 = .ok (.getfield 394, 3) := by decide +kernel
theorem dX11_need_9 : decode cX11_need 9 = .ok (.iconst 1, 1) := by decide +kernel
theorem dX11_need_10 : decode cX11_need 10 = .ok (.iadd, 1) := by decide +kernel
theorem dX11_need_11 : decode cX11_need 11 = .ok (.putfield 394, 3) := by decide +kernel
theorem dX11_need_14 : decode cX11_need 14 = .ok (.new 407, 3) := by decide +kernel
theorem dX11_need_17 : decode cX11_need 17 = .ok (.dup, 1) := by decide +kernel
theorem dX11_need_18 : decode cX11_need 18 = .ok (.ldc_w 409, 3) := by decide +kernel
theorem dX11_need_21 : decode cX11_need 21 = .ok (.invokespecial 411, 3) := by decide +kernel
theorem dX11_need_24 : decode cX11_need 24 = .ok (.athrow, 1) := by decide +kernel
theorem dX11_need_25 : decode cX11_need 25 = .ok (.return_, 1) := by decide +kernel
theorem dX11_needRange_0 : decode cX11_needRange 0 = .ok (.aload_n 0, 1) := by decide +kernel
theorem dX11_needRange_1 : decode cX11_needRange 1 = .ok (.iload_n 1, 1) := by decide +kernel
theorem dX11_needRange_2 : decode cX11_needRange 2 = .ok (.iload_n 2, 1) := by decide +kernel
theorem dX11_needRange_3 : decode cX11_needRange 3 = .ok (.if_icmp .lt 12, 3) := by decide +kernel
theorem dX11_needRange_6 : decode cX11_needRange 6 = .ok (.iload_n 1, 1) := by decide +kernel
theorem dX11_needRange_7 : decode cX11_needRange 7 = .ok (.iload_n 3, 1) := by decide +kernel
theorem dX11_needRange_8 : decode cX11_needRange 8 = .ok (.if_icmp .gt 7, 3) := by decide +kernel
theorem dX11_needRange_11 : decode cX11_needRange 11 = .ok (.iconst 1, 1) := by decide +kernel
theorem dX11_needRange_12 : decode cX11_needRange 12 = .ok (.goto 4, 3) := by decide +kernel
theorem dX11_needRange_15 : decode cX11_needRange 15 = .ok (.iconst 0, 1) := by decide +kernel
theorem dX11_needRange_16 : decode cX11_needRange 16 = .ok (.invokevirtual 278, 3) := by decide +kernel
theorem dX11_needRange_19 : decode cX11_needRange 19 = .ok (.return_, 1) := by decide +kernel
theorem dX11_ahead_0 : decode cX11_ahead 0 = .ok (.aload_n 0, 1) := by decide +kernel
theorem dX11_ahead_1 : decode cX11_ahead 1 = .ok (.iload_n 1, 1) := by decide +kernel
theorem dX11_ahead_2 : decode cX11_ahead 2 = .ok (.iconst 0, 1) := by decide +kernel
theorem dX11_ahead_3 : decode cX11_ahead 3 = .ok (.bipush 99, 2) := by decide +kernel
theorem dX11_ahead_5 : decode cX11_ahead 5 = .ok (.invokevirtual 176, 3) := by decide +kernel
theorem dX11_ahead_8 : decode cX11_ahead 8 = .ok (.aload_n 0, 1) := by decide +kernel
theorem dX11_ahead_9 : decode cX11_ahead 9 = .ok (.iload_n 2, 1) := by decide +kernel
theorem dX11_ahead_10 : decode cX11_ahead 10 = .ok (.iconst 0, 1) := by decide +kernel
theorem dX11_ahead_11 : decode cX11_ahead 11 = .ok (.iconst 1, 1) := by decide +kernel
theorem dX11_ahead_12 : decode cX11_ahead 12 = .ok (.invokevirtual 176, 3) := by decide +kernel
theorem dX11_ahead_15 : decode cX11_ahead 15 = .ok (.aload_n 0, 1) := by decide +kernel
theorem dX11_ahead_16 : decode cX11_ahead 16 = .ok (.getfield 90, 3) := by decide +kernel
theorem dX11_ahead_19 : decode cX11_ahead 19 = .ok (.aload_n 0, 1) := by decide +kernel
theorem dX11_ahead_20 : decode cX11_ahead 20 = .ok (.getfield 49, 3) := by decide +kernel
theorem dX11_ahead_23 : decode cX11_ahead 23 = .ok (.iload_n 1, 1) := by decide +kernel
theorem dX11_ahead_24 : decode cX11_ahead 24 = .ok (.invokevirtual 285, 3) := by decide +kernel
theorem dX11_ahead_27 : decode cX11_ahead 27 = .ok (.iload_n 2, 1) := by decide +kernel
theorem dX11_ahead_28 : decode cX11_ahead 28 = .ok (.ifCond .ne 13, 3) := by decide +kernel
theorem dX11_ahead_31 : decode cX11_ahead 31 = .ok (.aload_n 0, 1) := by decide +kernel
theorem dX11_ahead_32 : decode cX11_ahead 32 = .ok (.getfield 72, 3) := by decide +kernel
theorem dX11_ahead_35 : decode cX11_ahead 35 = .ok (.getfield 205, 3) := by decide +kernel
theorem dX11_ahead_38 : decode cX11_ahead 38 = .ok (.goto 10, 3) := by decide +kernel
theorem dX11_ahead_41 : decode cX11_ahead 41 = .ok (.aload_n 0, 1) := by decide +kernel
theorem dX11_ahead_42 : decode cX11_ahead 42 = .ok (.getfield 72, 3) := by decide +kernel
theorem dX11_ahead_45 : decode cX11_ahead 45 = .ok (.invokevirtual 208, 3) := by decide +kernel
theorem dX11_ahead_48 : decode cX11_ahead 48 = .ok (.ireturn, 1) := by decide +kernel
theorem dX11_needMember_0 : decode cX11_needMember 0 = .ok (.iload_n 1, 1) := by decide +kernel
theorem dX11_needMember_1 : decode cX11_needMember 1 = .ok (.ifCond .lt 8, 3) := by decide +kernel
theorem dX11_needMember_4 : decode cX11_needMember 4 = .ok (.iload_n 1, 1) := by decide +kernel
theorem dX11_needMember_5 : decode cX11_needMember 5 = .ok (.iload_n 2, 1) := by decide +kernel
theorem dX11_needMember_6 : decode cX11_needMember 6 = .ok (.if_icmp .lt 24, 3) := by decide +kernel
theorem dX11_needMember_9 : decode cX11_needMember 9 = .ok (.aload_n 0, 1) := by decide +kernel
theorem dX11_needMember_10 : decode cX11_needMember 10 = .ok (.dup, 1) := by decide +kernel
theorem dX11_needMember_11 : decode cX11_needMember 11 = .ok (.getfield 391, 3) := by decide +kernel
theorem dX11_needMember_14 : decode cX11_needMember 14 = .ok (.iconst 1, 1) := by decide +kernel
theorem dX11_needMember_15 : decode cX11_needMember 15 = .ok (.iadd, 1) := by decide +kernel
theorem dX11_needMember_16 : decode cX11_needMember 16 = .ok (.putfield 391, 3) := by decide +kernel
theorem dX11_needMember_19 : decode cX11_needMember 19 = .ok (.new 400, 3) := by decide +kernel
theorem dX11_needMember_22 : decode cX11_needMember 22 = .ok (.dup, 1) := by decide +kernel
theorem dX11_needMember_23 : decode cX11_needMember 23 = .ok (.ldc_w 402, 3) := by decide +kernel
theorem dX11_needMember_26 : decode cX11_needMember 26 = .ok (.invokespecial 404, 3) := by decide +kernel
theorem dX11_needMember_29 : decode cX11_needMember 29 = .ok (.athrow, 1) := by decide +kernel
theorem dX11_needMember_30 : decode cX11_needMember 30 = .ok (.return_, 1) := by decide +kernel
theorem dX11_needPerson_0 : decode cX11_needPerson 0 = .ok (.aload_n 0, 1) := by decide +kernel
theorem dX11_needPerson_1 : decode cX11_needPerson 1 = .ok (.iload_n 1, 1) := by decide +kernel
theorem dX11_needPerson_2 : decode cX11_needPerson 2 = .ok (.aload_n 0, 1) := by decide +kernel
theorem dX11_needPerson_3 : decode cX11_needPerson 3 = .ok (.getfield 19, 3) := by decide +kernel
theorem dX11_needPerson_6 : decode cX11_needPerson 6 = .ok (.getfield 183, 3) := by decide +kernel
theorem dX11_needPerson_9 : decode cX11_needPerson 9 = .ok (.invokevirtual 231, 3) := by decide +kernel
theorem dX11_needPerson_12 : decode cX11_needPerson 12 = .ok (.return_, 1) := by decide +kernel
theorem dX11_needPlace_0 : decode cX11_needPlace 0 = .ok (.aload_n 0, 1) := by decide +kernel
theorem dX11_needPlace_1 : decode cX11_needPlace 1 = .ok (.iload_n 1, 1) := by decide +kernel
theorem dX11_needPlace_2 : decode cX11_needPlace 2 = .ok (.aload_n 0, 1) := by decide +kernel
theorem dX11_needPlace_3 : decode cX11_needPlace 3 = .ok (.getfield 19, 3) := by decide +kernel
theorem dX11_needPlace_6 : decode cX11_needPlace 6 = .ok (.getfield 137, 3) := by decide +kernel
theorem dX11_needPlace_9 : decode cX11_needPlace 9 = .ok (.invokevirtual 231, 3) := by decide +kernel
theorem dX11_needPlace_12 : decode cX11_needPlace 12 = .ok (.return_, 1) := by decide +kernel
theorem dX11_belief_0 : decode cX11_belief 0 = .ok (.aload_n 0, 1) := by decide +kernel
theorem dX11_belief_1 : decode cX11_belief 1 = .ok (.iload_n 1, 1) := by decide +kernel
theorem dX11_belief_2 : decode cX11_belief 2 = .ok (.invokevirtual 246, 3) := by decide +kernel
theorem dX11_belief_5 : decode cX11_belief 5 = .ok (.aload_n 0, 1) := by decide +kernel
theorem dX11_belief_6 : decode cX11_belief 6 = .ok (.iload_n 2, 1) := by decide +kernel
theorem dX11_belief_7 : decode cX11_belief 7 = .ok (.invokevirtual 211, 3) := by decide +kernel
theorem dX11_belief_10 : decode cX11_belief 10 = .ok (.aload_n 0, 1) := by decide +kernel
theorem dX11_belief_11 : decode cX11_belief 11 = .ok (.getfield 49, 3) := by decide +kernel
theorem dX11_belief_14 : decode cX11_belief 14 = .ok (.iload_n 1, 1) := by decide +kernel
theorem dX11_belief_15 : decode cX11_belief 15 = .ok (.iload_n 2, 1) := by decide +kernel
theorem dX11_belief_16 : decode cX11_belief 16 = .ok (.invokevirtual 261, 3) := by decide +kernel
theorem dX11_belief_19 : decode cX11_belief 19 = .ok (.ireturn, 1) := by decide +kernel
theorem dX11_blank_0 : decode cX11_blank 0 = .ok (.aload_n 0, 1) := by decide +kernel
theorem dX11_blank_1 : decode cX11_blank 1 = .ok (.iload_n 1, 1) := by decide +kernel
theorem dX11_blank_2 : decode cX11_blank 2 = .ok (.iconst 0, 1) := by decide +kernel
theorem dX11_blank_3 : decode cX11_blank 3 = .ok (.iconst 1, 1) := by decide +kernel
theorem dX11_blank_4 : decode cX11_blank 4 = .ok (.invokevirtual 176, 3) := by decide +kernel
theorem dX11_blank_7 : decode cX11_blank 7 = .ok (.iconst (-1), 1) := by decide +kernel
theorem dX11_blank_8 : decode cX11_blank 8 = .ok (.istore_n 2, 1) := by decide +kernel
theorem dX11_blank_9 : decode cX11_blank 9 = .ok (.iconst (-1), 1) := by decide +kernel
theorem dX11_blank_10 : decode cX11_blank 10 = .ok (.istore_n 3, 1) := by decide +kernel
theorem dX11_blank_11 : decode cX11_blank 11 = .ok (.iconst 0, 1) := by decide +kernel
theorem dX11_blank_12 : decode cX11_blank 12 = .ok (.istore 4, 2) := by decide +kernel
theorem dX11_blank_14 : decode cX11_blank 14 = .ok (.iload 4, 2) := by decide +kernel
theorem dX11_blank_16 : decode cX11_blank 16 = .ok (.aload_n 0, 1) := by decide +kernel
theorem dX11_blank_17 : decode cX11_blank 17 = .ok (.getfield 19, 3) := by decide +kernel
theorem dX11_blank_20 : decode cX11_blank 20 = .ok (.getfield 183, 3) := by decide +kernel
theorem dX11_blank_23 : decode cX11_blank 23 = .ok (.if_icmp .ge 49, 3) := by decide +kernel
theorem dX11_blank_26 : decode cX11_blank 26 = .ok (.aload_n 0, 1) := by decide +kernel
theorem dX11_blank_27 : decode cX11_blank 27 = .ok (.getfield 49, 3) := by decide +kernel
theorem dX11_blank_30 : decode cX11_blank 30 = .ok (.iload 4, 2) := by decide +kernel
theorem dX11_blank_32 : decode cX11_blank 32 = .ok (.invokevirtual 255, 3) := by decide +kernel
theorem dX11_blank_35 : decode cX11_blank 35 = .ok (.ifCond .ne 31, 3) := by decide +kernel
theorem dX11_blank_38 : decode cX11_blank 38 = .ok (.aload_n 0, 1) := by decide +kernel
theorem dX11_blank_39 : decode cX11_blank 39 = .ok (.getfield 49, 3) := by decide +kernel
theorem dX11_blank_42 : decode cX11_blank 42 = .ok (.getfield 249, 3) := by decide +kernel
theorem dX11_blank_45 : decode cX11_blank 45 = .ok (.iload 4, 2) := by decide +kernel
theorem dX11_blank_47 : decode cX11_blank 47 = .ok (.iaload, 1) := by decide +kernel
theorem dX11_blank_48 : decode cX11_blank 48 = .ok (.iload_n 3, 1) := by decide +kernel
theorem dX11_blank_49 : decode cX11_blank 49 = .ok (.if_icmp .le 17, 3) := by decide +kernel
theorem dX11_blank_52 : decode cX11_blank 52 = .ok (.iload 4, 2) := by decide +kernel
theorem dX11_blank_54 : decode cX11_blank 54 = .ok (.istore_n 2, 1) := by decide +kernel
theorem dX11_blank_55 : decode cX11_blank 55 = .ok (.aload_n 0, 1) := by decide +kernel
theorem dX11_blank_56 : decode cX11_blank 56 = .ok (.getfield 49, 3) := by decide +kernel
theorem dX11_blank_59 : decode cX11_blank 59 = .ok (.getfield 249, 3) := by decide +kernel
theorem dX11_blank_62 : decode cX11_blank 62 = .ok (.iload 4, 2) := by decide +kernel
theorem dX11_blank_64 : decode cX11_blank 64 = .ok (.iaload, 1) := by decide +kernel
theorem dX11_blank_65 : decode cX11_blank 65 = .ok (.istore_n 3, 1) := by decide +kernel
theorem dX11_blank_66 : decode cX11_blank 66 = .ok (.iinc 4 1, 3) := by decide +kernel
theorem dX11_blank_69 : decode cX11_blank 69 = .ok (.goto (-55), 3) := by decide +kernel
theorem dX11_blank_72 : decode cX11_blank 72 = .ok (.iload_n 1, 1) := by decide +kernel
theorem dX11_blank_73 : decode cX11_blank 73 = .ok (.ifCond .ne 7, 3) := by decide +kernel
theorem dX11_blank_76 : decode cX11_blank 76 = .ok (.iload_n 2, 1) := by decide +kernel
theorem dX11_blank_77 : decode cX11_blank 77 = .ok (.goto 4, 3) := by decide +kernel
theorem dX11_blank_80 : decode cX11_blank 80 = .ok (.iload_n 3, 1) := by decide +kernel
theorem dX11_blank_81 : decode cX11_blank 81 = .ok (.ireturn, 1) := by decide +kernel
theorem dX11_openText_0 : decode cX11_openText 0 = .ok (.aload_n 0, 1) := by decide +kernel
theorem dX11_openText_1 : decode cX11_openText 1 = .ok (.iload_n 1, 1) := by decide +kernel
theorem dX11_openText_2 : decode cX11_openText 2 = .ok (.iconst 0, 1) := by decide +kernel
theorem dX11_openText_3 : decode cX11_openText 3 = .ok (.iload_n 2, 1) := by decide +kernel
theorem dX11_openText_4 : decode cX11_openText 4 = .ok (.aload_n 0, 1) := by decide +kernel
theorem dX11_openText_5 : decode cX11_openText 5 = .ok (.getfield 10, 3) := by decide +kernel
theorem dX11_openText_8 : decode cX11_openText 8 = .ok (.getfield 101, 3) := by decide +kernel
theorem dX11_openText_11 : decode cX11_openText 11 = .ok (.invokestatic 365, 3) := by decide +kernel
theorem dX11_openText_14 : decode cX11_openText 14 = .ok (.invokevirtual 176, 3) := by decide +kernel
theorem dX11_openText_17 : decode cX11_openText 17 = .ok (.aload_n 0, 1) := by decide +kernel
theorem dX11_openText_18 : decode cX11_openText 18 = .ok (.getfield 10, 3) := by decide +kernel
theorem dX11_openText_21 : decode cX11_openText 21 = .ok (.iload_n 1, 1) := by decide +kernel
theorem dX11_openText_22 : decode cX11_openText 22 = .ok (.invokevirtual 397, 3) := by decide +kernel
theorem dX11_openText_25 : decode cX11_openText 25 = .ok (.return_, 1) := by decide +kernel
theorem dX11_book_0 : decode cX11_book 0 = .ok (.aload_n 0, 1) := by decide +kernel
theorem dX11_book_1 : decode cX11_book 1 = .ok (.iload_n 1, 1) := by decide +kernel
theorem dX11_book_2 : decode cX11_book 2 = .ok (.bipush 60, 2) := by decide +kernel
theorem dX11_book_4 : decode cX11_book 4 = .ok (.invokevirtual 109, 3) := by decide +kernel
theorem dX11_book_7 : decode cX11_book 7 = .ok (.aload_n 0, 1) := by decide +kernel
theorem dX11_book_8 : decode cX11_book 8 = .ok (.getfield 43, 3) := by decide +kernel
theorem dX11_book_11 : decode cX11_book 11 = .ok (.aload_n 0, 1) := by decide +kernel
theorem dX11_book_12 : decode cX11_book 12 = .ok (.getfield 10, 3) := by decide +kernel
theorem dX11_book_15 : decode cX11_book 15 = .ok (.aload_n 0, 1) := by decide +kernel
theorem dX11_book_16 : decode cX11_book 16 = .ok (.getfield 19, 3) := by decide +kernel
theorem dX11_book_19 : decode cX11_book 19 = .ok (.invokevirtual 161, 3) := by decide +kernel
theorem dX11_book_22 : decode cX11_book 22 = .ok (.ifCond .ne 11, 3) := by decide +kernel
theorem dX11_book_25 : decode cX11_book 25 = .ok (.aload_n 0, 1) := by decide +kernel
theorem dX11_book_26 : decode cX11_book 26 = .ok (.getfield 10, 3) := by decide +kernel
theorem dX11_book_29 : decode cX11_book 29 = .ok (.invokevirtual 117, 3) := by decide +kernel
theorem dX11_book_32 : decode cX11_book 32 = .ok (.ireturn, 1) := by decide +kernel
theorem dX11_book_33 : decode cX11_book 33 = .ok (.aload_n 0, 1) := by decide +kernel
theorem dX11_book_34 : decode cX11_book 34 = .ok (.getfield 39, 3) := by decide +kernel
theorem dX11_book_37 : decode cX11_book 37 = .ok (.aload_n 0, 1) := by decide +kernel
theorem dX11_book_38 : decode cX11_book 38 = .ok (.getfield 43, 3) := by decide +kernel
theorem dX11_book_41 : decode cX11_book 41 = .ok (.invokevirtual 164, 3) := by decide +kernel
theorem dX11_book_44 : decode cX11_book 44 = .ok (.aload_n 0, 1) := by decide +kernel
theorem dX11_book_45 : decode cX11_book 45 = .ok (.getfield 39, 3) := by decide +kernel
theorem dX11_book_48 : decode cX11_book 48 = .ok (.getfield 167, 3) := by decide +kernel
theorem dX11_book_51 : decode cX11_book 51 = .ok (.ireturn, 1) := by decide +kernel
theorem dX11_count_0 : decode cX11_count 0 = .ok (.iload_n 1, 1) := by decide +kernel
theorem dX11_count_1 : decode cX11_count 1 = .ok (.tableswitch 51 0 2 #[27, 35, 43], 27) := by decide +kernel
theorem dX11_count_28 : decode cX11_count 28 = .ok (.aload_n 0, 1) := by decide +kernel
theorem dX11_count_29 : decode cX11_count 29 = .ok (.getfield 63, 3) := by decide +kernel
theorem dX11_count_32 : decode cX11_count 32 = .ok (.getfield 387, 3) := by decide +kernel
theorem dX11_count_35 : decode cX11_count 35 = .ok (.ireturn, 1) := by decide +kernel
theorem dX11_count_36 : decode cX11_count 36 = .ok (.aload_n 0, 1) := by decide +kernel
theorem dX11_count_37 : decode cX11_count 37 = .ok (.getfield 10, 3) := by decide +kernel
theorem dX11_count_40 : decode cX11_count 40 = .ok (.getfield 101, 3) := by decide +kernel
theorem dX11_count_43 : decode cX11_count 43 = .ok (.ireturn, 1) := by decide +kernel
theorem dX11_count_44 : decode cX11_count 44 = .ok (.aload_n 0, 1) := by decide +kernel
theorem dX11_count_45 : decode cX11_count 45 = .ok (.getfield 56, 3) := by decide +kernel
theorem dX11_count_48 : decode cX11_count 48 = .ok (.getfield 144, 3) := by decide +kernel
theorem dX11_count_51 : decode cX11_count 51 = .ok (.ireturn, 1) := by decide +kernel
theorem dX11_count_52 : decode cX11_count 52 = .ok (.iconst (-1), 1) := by decide +kernel
theorem dX11_count_53 : decode cX11_count 53 = .ok (.ireturn, 1) := by decide +kernel
theorem dX11_course_0 : decode cX11_course 0 = .ok (.aload_n 0, 1) := by decide +kernel
theorem dX11_course_1 : decode cX11_course 1 = .ok (.iload_n 1, 1) := by decide +kernel
theorem dX11_course_2 : decode cX11_course 2 = .ok (.ifCond .lt 7, 3) := by decide +kernel
theorem dX11_course_5 : decode cX11_course 5 = .ok (.iconst 1, 1) := by decide +kernel
theorem dX11_course_6 : decode cX11_course 6 = .ok (.goto 4, 3) := by decide +kernel
theorem dX11_course_9 : decode cX11_course 9 = .ok (.iconst 0, 1) := by decide +kernel
theorem dX11_course_10 : decode cX11_course 10 = .ok (.invokevirtual 278, 3) := by decide +kernel
theorem dX11_course_13 : decode cX11_course 13 = .ok (.aload_n 0, 1) := by decide +kernel
theorem dX11_course_14 : decode cX11_course 14 = .ok (.getfield 72, 3) := by decide +kernel
theorem dX11_course_17 : decode cX11_course 17 = .ok (.aload_n 0, 1) := by decide +kernel
theorem dX11_course_18 : decode cX11_course 18 = .ok (.getfield 49, 3) := by decide +kernel
theorem dX11_course_21 : decode cX11_course 21 = .ok (.invokevirtual 199, 3) := by decide +kernel
theorem dX11_course_24 : decode cX11_course 24 = .ok (.iload_n 1, 1) := by decide +kernel
theorem dX11_course_25 : decode cX11_course 25 = .ok (.aload_n 0, 1) := by decide +kernel
theorem dX11_course_26 : decode cX11_course 26 = .ok (.getfield 72, 3) := by decide +kernel
theorem dX11_course_29 : decode cX11_course 29 = .ok (.getfield 202, 3) := by decide +kernel
theorem dX11_course_32 : decode cX11_course 32 = .ok (.if_icmp .ge 15, 3) := by decide +kernel
theorem dX11_course_35 : decode cX11_course 35 = .ok (.aload_n 0, 1) := by decide +kernel
theorem dX11_course_36 : decode cX11_course 36 = .ok (.getfield 72, 3) := by decide +kernel
theorem dX11_course_39 : decode cX11_course 39 = .ok (.getfield 282, 3) := by decide +kernel
theorem dX11_course_42 : decode cX11_course 42 = .ok (.iload_n 1, 1) := by decide +kernel
theorem dX11_course_43 : decode cX11_course 43 = .ok (.iaload, 1) := by decide +kernel
theorem dX11_course_44 : decode cX11_course 44 = .ok (.goto 4, 3) := by decide +kernel
theorem dX11_course_47 : decode cX11_course 47 = .ok (.iconst (-1), 1) := by decide +kernel
theorem dX11_course_48 : decode cX11_course 48 = .ok (.ireturn, 1) := by decide +kernel
theorem dX11_digs_0 : decode cX11_digs 0 = .ok (.aload_n 0, 1) := by decide +kernel
theorem dX11_digs_1 : decode cX11_digs 1 = .ok (.iload_n 1, 1) := by decide +kernel
theorem dX11_digs_2 : decode cX11_digs 2 = .ok (.invokevirtual 211, 3) := by decide +kernel
theorem dX11_digs_5 : decode cX11_digs 5 = .ok (.aload_n 0, 1) := by decide +kernel
theorem dX11_digs_6 : decode cX11_digs 6 = .ok (.iload_n 2, 1) := by decide +kernel
theorem dX11_digs_7 : decode cX11_digs 7 = .ok (.invokevirtual 211, 3) := by decide +kernel
theorem dX11_digs_10 : decode cX11_digs 10 = .ok (.aload_n 0, 1) := by decide +kernel
theorem dX11_digs_11 : decode cX11_digs 11 = .ok (.getfield 90, 3) := by decide +kernel
theorem dX11_digs_14 : decode cX11_digs 14 = .ok (.aload_n 0, 1) := by decide +kernel
theorem dX11_digs_15 : decode cX11_digs 15 = .ok (.getfield 49, 3) := by decide +kernel
theorem dX11_digs_18 : decode cX11_digs 18 = .ok (.iload_n 1, 1) := by decide +kernel
theorem dX11_digs_19 : decode cX11_digs 19 = .ok (.iload_n 2, 1) := by decide +kernel
theorem dX11_digs_20 : decode cX11_digs 20 = .ok (.invokevirtual 328, 3) := by decide +kernel
theorem dX11_digs_23 : decode cX11_digs 23 = .ok (.ireturn, 1) := by decide +kernel
theorem dX11_ditch_0 : decode cX11_ditch 0 = .ok (.aload_n 0, 1) := by decide +kernel
theorem dX11_ditch_1 : decode cX11_ditch 1 = .ok (.iload_n 1, 1) := by decide +kernel
theorem dX11_ditch_2 : decode cX11_ditch 2 = .ok (.aload_n 0, 1) := by decide +kernel
theorem dX11_ditch_3 : decode cX11_ditch 3 = .ok (.getfield 19, 3) := by decide +kernel
theorem dX11_ditch_6 : decode cX11_ditch 6 = .ok (.getfield 180, 3) := by decide +kernel
theorem dX11_ditch_9 : decode cX11_ditch 9 = .ok (.invokevirtual 231, 3) := by decide +kernel
theorem dX11_ditch_12 : decode cX11_ditch 12 = .ok (.aload_n 0, 1) := by decide +kernel
theorem dX11_ditch_13 : decode cX11_ditch 13 = .ok (.iload_n 2, 1) := by decide +kernel
theorem dX11_ditch_14 : decode cX11_ditch 14 = .ok (.iconst 0, 1) := by decide +kernel
theorem dX11_ditch_15 : decode cX11_ditch 15 = .ok (.iconst 3, 1) := by decide +kernel
theorem dX11_ditch_16 : decode cX11_ditch 16 = .ok (.invokevirtual 176, 3) := by decide +kernel
theorem dX11_ditch_19 : decode cX11_ditch 19 = .ok (.iload_n 2, 1) := by decide +kernel
theorem dX11_ditch_20 : decode cX11_ditch 20 = .ok (.tableswitch 58 0 2 #[28, 38, 48], 28) := by decide +kernel
theorem dX11_ditch_48 : decode cX11_ditch 48 = .ok (.aload_n 0, 1) := by decide +kernel
theorem dX11_ditch_49 : decode cX11_ditch 49 = .ok (.getfield 19, 3) := by decide +kernel
theorem dX11_ditch_52 : decode cX11_ditch 52 = .ok (.getfield 234, 3) := by decide +kernel
theorem dX11_ditch_55 : decode cX11_ditch 55 = .ok (.iload_n 1, 1) := by decide +kernel
theorem dX11_ditch_56 : decode cX11_ditch 56 = .ok (.iaload, 1) := by decide +kernel
theorem dX11_ditch_57 : decode cX11_ditch 57 = .ok (.ireturn, 1) := by decide +kernel
theorem dX11_ditch_58 : decode cX11_ditch 58 = .ok (.aload_n 0, 1) := by decide +kernel
theorem dX11_ditch_59 : decode cX11_ditch 59 = .ok (.getfield 19, 3) := by decide +kernel
theorem dX11_ditch_62 : decode cX11_ditch 62 = .ok (.getfield 237, 3) := by decide +kernel
theorem dX11_ditch_65 : decode cX11_ditch 65 = .ok (.iload_n 1, 1) := by decide +kernel
theorem dX11_ditch_66 : decode cX11_ditch 66 = .ok (.iaload, 1) := by decide +kernel
theorem dX11_ditch_67 : decode cX11_ditch 67 = .ok (.ireturn, 1) := by decide +kernel
theorem dX11_ditch_68 : decode cX11_ditch 68 = .ok (.aload_n 0, 1) := by decide +kernel
theorem dX11_ditch_69 : decode cX11_ditch 69 = .ok (.getfield 49, 3) := by decide +kernel
theorem dX11_ditch_72 : decode cX11_ditch 72 = .ok (.getfield 240, 3) := by decide +kernel
theorem dX11_ditch_75 : decode cX11_ditch 75 = .ok (.iload_n 1, 1) := by decide +kernel
theorem dX11_ditch_76 : decode cX11_ditch 76 = .ok (.iaload, 1) := by decide +kernel
theorem dX11_ditch_77 : decode cX11_ditch 77 = .ok (.ireturn, 1) := by decide +kernel
theorem dX11_ditch_78 : decode cX11_ditch 78 = .ok (.aload_n 0, 1) := by decide +kernel
theorem dX11_ditch_79 : decode cX11_ditch 79 = .ok (.getfield 49, 3) := by decide +kernel
theorem dX11_ditch_82 : decode cX11_ditch 82 = .ok (.getfield 243, 3) := by decide +kernel
theorem dX11_ditch_85 : decode cX11_ditch 85 = .ok (.iload_n 1, 1) := by decide +kernel
theorem dX11_ditch_86 : decode cX11_ditch 86 = .ok (.iaload, 1) := by decide +kernel
theorem dX11_ditch_87 : decode cX11_ditch 87 = .ok (.ireturn, 1) := by decide +kernel
theorem dX11_fault_0 : decode cX11_fault 0 = .ok (.aload_n 0, 1) := by decide +kernel
theorem dX11_fault_1 : decode cX11_fault 1 = .ok (.getfield 10, 3) := by decide +kernel
theorem dX11_fault_4 : decode cX11_fault 4 = .ok (.getfield 170, 3) := by decide +kernel
theorem dX11_fault_7 : decode cX11_fault 7 = .ok (.ireturn, 1) := by decide +kernel
theorem dX11_feed_0 : decode cX11_feed 0 = .ok (.aload_n 0, 1) := by decide +kernel
theorem dX11_feed_1 : decode cX11_feed 1 = .ok (.getfield 10, 3) := by decide +kernel
theorem dX11_feed_4 : decode cX11_feed 4 = .ok (.getfield 101, 3) := by decide +kernel
theorem dX11_feed_7 : decode cX11_feed 7 = .ok (.bipush 20, 2) := by decide +kernel
theorem dX11_feed_9 : decode cX11_feed 9 = .ok (.iadd, 1) := by decide +kernel
theorem dX11_feed_10 : decode cX11_feed 10 = .ok (.sipush 600, 3) := by decide +kernel
theorem dX11_feed_13 : decode cX11_feed 13 = .ok (.if_icmp .le 5, 3) := by decide +kernel
theorem dX11_feed_16 : decode cX11_feed 16 = .ok (.iconst (-1), 1) := by decide +kernel
theorem dX11_feed_17 : decode cX11_feed 17 = .ok (.ireturn, 1) := by decide +kernel
theorem dX11_feed_18 : decode cX11_feed 18 = .ok (.aload_n 0, 1) := by decide +kernel
theorem dX11_feed_19 : decode cX11_feed 19 = .ok (.getfield 10, 3) := by decide +kernel
theorem dX11_feed_22 : decode cX11_feed 22 = .ok (.iload_n 1, 1) := by decide +kernel
theorem dX11_feed_23 : decode cX11_feed 23 = .ok (.invokevirtual 105, 3) := by decide +kernel
theorem dX11_feed_26 : decode cX11_feed 26 = .ok (.aload_n 0, 1) := by decide +kernel
theorem dX11_feed_27 : decode cX11_feed 27 = .ok (.getfield 10, 3) := by decide +kernel
theorem dX11_feed_30 : decode cX11_feed 30 = .ok (.iload_n 2, 1) := by decide +kernel
theorem dX11_feed_31 : decode cX11_feed 31 = .ok (.invokevirtual 105, 3) := by decide +kernel
theorem dX11_feed_34 : decode cX11_feed 34 = .ok (.aload_n 0, 1) := by decide +kernel
theorem dX11_feed_35 : decode cX11_feed 35 = .ok (.getfield 10, 3) := by decide +kernel
theorem dX11_feed_38 : decode cX11_feed 38 = .ok (.iload_n 3, 1) := by decide +kernel
theorem dX11_feed_39 : decode cX11_feed 39 = .ok (.invokevirtual 105, 3) := by decide +kernel
theorem dX11_feed_42 : decode cX11_feed 42 = .ok (.aload_n 0, 1) := by decide +kernel
theorem dX11_feed_43 : decode cX11_feed 43 = .ok (.getfield 10, 3) := by decide +kernel
theorem dX11_feed_46 : decode cX11_feed 46 = .ok (.iload 4, 2) := by decide +kernel
theorem dX11_feed_48 : decode cX11_feed 48 = .ok (.invokevirtual 105, 3) := by decide +kernel
theorem dX11_feed_51 : decode cX11_feed 51 = .ok (.aload_n 0, 1) := by decide +kernel
theorem dX11_feed_52 : decode cX11_feed 52 = .ok (.getfield 10, 3) := by decide +kernel
theorem dX11_feed_55 : decode cX11_feed 55 = .ok (.iload 5, 2) := by decide +kernel
theorem dX11_feed_57 : decode cX11_feed 57 = .ok (.invokevirtual 105, 3) := by decide +kernel
theorem dX11_feed_60 : decode cX11_feed 60 = .ok (.aload_n 0, 1) := by decide +kernel
theorem dX11_feed_61 : decode cX11_feed 61 = .ok (.getfield 10, 3) := by decide +kernel
theorem dX11_feed_64 : decode cX11_feed 64 = .ok (.getfield 101, 3) := by decide +kernel
theorem dX11_feed_67 : decode cX11_feed 67 = .ok (.ireturn, 1) := by decide +kernel
theorem dX11_givenBy_0 : decode cX11_givenBy 0 = .ok (.iconst 0, 1) := by decide +kernel
theorem dX11_givenBy_1 : decode cX11_givenBy 1 = .ok (.istore_n 3, 1) := by decide +kernel
theorem dX11_givenBy_2 : decode cX11_givenBy 2 = .ok (.iconst 0, 1) := by decide +kernel
theorem dX11_givenBy_3 : decode cX11_givenBy 3 = .ok (.istore 4, 2) := by decide +kernel
theorem dX11_givenBy_5 : decode cX11_givenBy 5 = .ok (.iload 4, 2) := by decide +kernel
theorem dX11_givenBy_7 : decode cX11_givenBy 7 = .ok (.aload_n 0, 1) := by decide +kernel
theorem dX11_givenBy_8 : decode cX11_givenBy 8 = .ok (.getfield 19, 3) := by decide +kernel
theorem dX11_givenBy_11 : decode cX11_givenBy 11 = .ok (.getfield 183, 3) := by decide +kernel
theorem dX11_givenBy_14 : decode cX11_givenBy 14 = .ok (.if_icmp .ge 35, 3) := by decide +kernel
theorem dX11_givenBy_17 : decode cX11_givenBy 17 = .ok (.iload_n 2, 1) := by decide +kernel
theorem dX11_givenBy_18 : decode cX11_givenBy 18 = .ok (.iload 4, 2) := by decide +kernel
theorem dX11_givenBy_20 : decode cX11_givenBy 20 = .ok (.ishr, 1) := by decide +kernel
theorem dX11_givenBy_21 : decode cX11_givenBy 21 = .ok (.iconst 1, 1) := by decide +kernel
theorem dX11_givenBy_22 : decode cX11_givenBy 22 = .ok (.iand, 1) := by decide +kernel
theorem dX11_givenBy_23 : decode cX11_givenBy 23 = .ok (.ifCond .eq 20, 3) := by decide +kernel
theorem dX11_givenBy_26 : decode cX11_givenBy 26 = .ok (.iload_n 3, 1) := by decide +kernel
theorem dX11_givenBy_27 : decode cX11_givenBy 27 = .ok (.iload_n 1, 1) := by decide +kernel
theorem dX11_givenBy_28 : decode cX11_givenBy 28 = .ok (.aload_n 0, 1) := by decide +kernel
theorem dX11_givenBy_29 : decode cX11_givenBy 29 = .ok (.getfield 49, 3) := by decide +kernel
theorem dX11_givenBy_32 : decode cX11_givenBy 32 = .ok (.getfield 249, 3) := by decide +kernel
theorem dX11_givenBy_35 : decode cX11_givenBy 35 = .ok (.iload 4, 2) := by decide +kernel
theorem dX11_givenBy_37 : decode cX11_givenBy 37 = .ok (.iaload, 1) := by decide +kernel
theorem dX11_givenBy_38 : decode cX11_givenBy 38 = .ok (.invokestatic 365, 3) := by decide +kernel
theorem dX11_givenBy_41 : decode cX11_givenBy 41 = .ok (.iadd, 1) := by decide +kernel
theorem dX11_givenBy_42 : decode cX11_givenBy 42 = .ok (.istore_n 3, 1) := by decide +kernel
theorem dX11_givenBy_43 : decode cX11_givenBy 43 = .ok (.iinc 4 1, 3) := by decide +kernel
theorem dX11_givenBy_46 : decode cX11_givenBy 46 = .ok (.goto (-41), 3) := by decide +kernel
theorem dX11_givenBy_49 : decode cX11_givenBy 49 = .ok (.iload_n 3, 1) := by decide +kernel
theorem dX11_givenBy_50 : decode cX11_givenBy 50 = .ok (.ireturn, 1) := by decide +kernel
theorem dX11_land_0 : decode cX11_land 0 = .ok (.aload_n 0, 1) := by decide +kernel
theorem dX11_land_1 : decode cX11_land 1 = .ok (.iload_n 1, 1) := by decide +kernel
theorem dX11_land_2 : decode cX11_land 2 = .ok (.sipush 600, 3) := by decide +kernel
theorem dX11_land_5 : decode cX11_land 5 = .ok (.invokevirtual 109, 3) := by decide +kernel
theorem dX11_land_8 : decode cX11_land 8 = .ok (.aload_n 0, 1) := by decide +kernel
theorem dX11_land_9 : decode cX11_land 9 = .ok (.getfield 23, 3) := by decide +kernel
theorem dX11_land_12 : decode cX11_land 12 = .ok (.aload_n 0, 1) := by decide +kernel
theorem dX11_land_13 : decode cX11_land 13 = .ok (.getfield 10, 3) := by decide +kernel
theorem dX11_land_16 : decode cX11_land 16 = .ok (.invokevirtual 113, 3) := by decide +kernel
theorem dX11_land_19 : decode cX11_land 19 = .ok (.ifCond .ne 11, 3) := by decide +kernel
theorem dX11_land_22 : decode cX11_land 22 = .ok (.aload_n 0, 1) := by decide +kernel
theorem dX11_land_23 : decode cX11_land 23 = .ok (.getfield 10, 3) := by decide +kernel
theorem dX11_land_26 : decode cX11_land 26 = .ok (.invokevirtual 117, 3) := by decide +kernel
theorem dX11_land_29 : decode cX11_land 29 = .ok (.ireturn, 1) := by decide +kernel
theorem dX11_land_30 : decode cX11_land 30 = .ok (.aload_n 0, 1) := by decide +kernel
theorem dX11_land_31 : decode cX11_land 31 = .ok (.getfield 19, 3) := by decide +kernel
theorem dX11_land_34 : decode cX11_land 34 = .ok (.aload_n 0, 1) := by decide +kernel
theorem dX11_land_35 : decode cX11_land 35 = .ok (.getfield 23, 3) := by decide +kernel
theorem dX11_land_38 : decode cX11_land 38 = .ok (.invokevirtual 121, 3) := by decide +kernel
theorem dX11_land_41 : decode cX11_land 41 = .ok (.aload_n 0, 1) := by decide +kernel
theorem dX11_land_42 : decode cX11_land 42 = .ok (.getfield 29, 3) := by decide +kernel
theorem dX11_land_45 : decode cX11_land 45 = .ok (.invokevirtual 125, 3) := by decide +kernel
theorem dX11_land_48 : decode cX11_land 48 = .ok (.aload_n 0, 1) := by decide +kernel
theorem dX11_land_49 : decode cX11_land 49 = .ok (.getfield 39, 3) := by decide +kernel
theorem dX11_land_52 : decode cX11_land 52 = .ok (.invokevirtual 128, 3) := by decide +kernel
theorem dX11_land_55 : decode cX11_land 55 = .ok (.aload_n 0, 1) := by decide +kernel
theorem dX11_land_56 : decode cX11_land 56 = .ok (.getfield 49, 3) := by decide +kernel
theorem dX11_land_59 : decode cX11_land 59 = .ok (.aload_n 0, 1) := by decide +kernel
theorem dX11_land_60 : decode cX11_land 60 = .ok (.getfield 19, 3) := by decide +kernel
theorem dX11_land_63 : decode cX11_land 63 = .ok (.invokevirtual 129, 3) := by decide +kernel
theorem dX11_land_66 : decode cX11_land 66 = .ok (.aload_n 0, 1) := by decide +kernel
theorem dX11_land_67 : decode cX11_land 67 = .ok (.getfield 56, 3) := by decide +kernel
theorem dX11_land_70 : decode cX11_land 70 = .ok (.invokevirtual 132, 3) := by decide +kernel
theorem dX11_land_73 : decode cX11_land 73 = .ok (.aload_n 0, 1) := by decide +kernel
theorem dX11_land_74 : decode cX11_land 74 = .ok (.getfield 63, 3) := by decide +kernel
theorem dX11_land_77 : decode cX11_land 77 = .ok (.invokevirtual 133, 3) := by decide +kernel
theorem dX11_land_80 : decode cX11_land 80 = .ok (.aload_n 0, 1) := by decide +kernel
theorem dX11_land_81 : decode cX11_land 81 = .ok (.iconst 0, 1) := by decide +kernel
theorem dX11_land_82 : decode cX11_land 82 = .ok (.putfield 134, 3) := by decide +kernel
theorem dX11_land_85 : decode cX11_land 85 = .ok (.aload_n 0, 1) := by decide +kernel
theorem dX11_land_86 : decode cX11_land 86 = .ok (.getfield 19, 3) := by decide +kernel
theorem dX11_land_89 : decode cX11_land 89 = .ok (.getfield 137, 3) := by decide +kernel
theorem dX11_land_92 : decode cX11_land 92 = .ok (.ireturn, 1) := by decide +kernel
theorem dX11_law_0 : decode cX11_law 0 = .ok (.aload_n 0, 1) := by decide +kernel
theorem dX11_law_1 : decode cX11_law 1 = .ok (.iload_n 1, 1) := by decide +kernel
theorem dX11_law_2 : decode cX11_law 2 = .ok (.sipush 150, 3) := by decide +kernel
theorem dX11_law_5 : decode cX11_law 5 = .ok (.invokevirtual 109, 3) := by decide +kernel
theorem dX11_law_8 : decode cX11_law 8 = .ok (.aload_n 0, 1) := by decide +kernel
theorem dX11_law_9 : decode cX11_law 9 = .ok (.getfield 33, 3) := by decide +kernel
theorem dX11_law_12 : decode cX11_law 12 = .ok (.aload_n 0, 1) := by decide +kernel
theorem dX11_law_13 : decode cX11_law 13 = .ok (.getfield 10, 3) := by decide +kernel
theorem dX11_law_16 : decode cX11_law 16 = .ok (.invokevirtual 140, 3) := by decide +kernel
theorem dX11_law_19 : decode cX11_law 19 = .ok (.ifCond .ne 11, 3) := by decide +kernel
theorem dX11_law_22 : decode cX11_law 22 = .ok (.aload_n 0, 1) := by decide +kernel
theorem dX11_law_23 : decode cX11_law 23 = .ok (.getfield 10, 3) := by decide +kernel
theorem dX11_law_26 : decode cX11_law 26 = .ok (.invokevirtual 117, 3) := by decide +kernel
theorem dX11_law_29 : decode cX11_law 29 = .ok (.ireturn, 1) := by decide +kernel
theorem dX11_law_30 : decode cX11_law 30 = .ok (.aload_n 0, 1) := by decide +kernel
theorem dX11_law_31 : decode cX11_law 31 = .ok (.getfield 29, 3) := by decide +kernel
theorem dX11_law_34 : decode cX11_law 34 = .ok (.aload_n 0, 1) := by decide +kernel
theorem dX11_law_35 : decode cX11_law 35 = .ok (.getfield 33, 3) := by decide +kernel
theorem dX11_law_38 : decode cX11_law 38 = .ok (.invokevirtual 141, 3) := by decide +kernel
theorem dX11_law_41 : decode cX11_law 41 = .ok (.iconst 1, 1) := by decide +kernel
theorem dX11_law_42 : decode cX11_law 42 = .ok (.ireturn, 1) := by decide +kernel
theorem dX11_leaders_0 : decode cX11_leaders 0 = .ok (.aload_n 0, 1) := by decide +kernel
theorem dX11_leaders_1 : decode cX11_leaders 1 = .ok (.iload_n 1, 1) := by decide +kernel
theorem dX11_leaders_2 : decode cX11_leaders 2 = .ok (.iconst 0, 1) := by decide +kernel
theorem dX11_leaders_3 : decode cX11_leaders 3 = .ok (.bipush 30, 2) := by decide +kernel
theorem dX11_leaders_5 : decode cX11_leaders 5 = .ok (.invokevirtual 176, 3) := by decide +kernel
theorem dX11_leaders_8 : decode cX11_leaders 8 = .ok (.aload_n 0, 1) := by decide +kernel
theorem dX11_leaders_9 : decode cX11_leaders 9 = .ok (.iload_n 2, 1) := by decide +kernel
theorem dX11_leaders_10 : decode cX11_leaders 10 = .ok (.iconst 0, 1) := by decide +kernel
theorem dX11_leaders_11 : decode cX11_leaders 11 = .ok (.iconst 2, 1) := by decide +kernel
theorem dX11_leaders_12 : decode cX11_leaders 12 = .ok (.invokevirtual 176, 3) := by decide +kernel
theorem dX11_leaders_15 : decode cX11_leaders 15 = .ok (.aload_n 0, 1) := by decide +kernel
theorem dX11_leaders_16 : decode cX11_leaders 16 = .ok (.getfield 90, 3) := by decide +kernel
theorem dX11_leaders_19 : decode cX11_leaders 19 = .ok (.aload_n 0, 1) := by decide +kernel
theorem dX11_leaders_20 : decode cX11_leaders 20 = .ok (.getfield 49, 3) := by decide +kernel
theorem dX11_leaders_23 : decode cX11_leaders 23 = .ok (.iload_n 1, 1) := by decide +kernel
theorem dX11_leaders_24 : decode cX11_leaders 24 = .ok (.invokevirtual 350, 3) := by decide +kernel
theorem dX11_leaders_27 : decode cX11_leaders 27 = .ok (.iload_n 2, 1) := by decide +kernel
theorem dX11_leaders_28 : decode cX11_leaders 28 = .ok (.lookupswitch 44 #[(0, 28), (1, 36)], 28) := by decide +kernel
theorem dX11_leaders_56 : decode cX11_leaders 56 = .ok (.aload_n 0, 1) := by decide +kernel
theorem dX11_leaders_57 : decode cX11_leaders 57 = .ok (.getfield 90, 3) := by decide +kernel
theorem dX11_leaders_60 : decode cX11_leaders 60 = .ok (.getfield 353, 3) := by decide +kernel
theorem dX11_leaders_63 : decode cX11_leaders 63 = .ok (.ireturn, 1) := by decide +kernel
theorem dX11_leaders_64 : decode cX11_leaders 64 = .ok (.aload_n 0, 1) := by decide +kernel
theorem dX11_leaders_65 : decode cX11_leaders 65 = .ok (.getfield 90, 3) := by decide +kernel
theorem dX11_leaders_68 : decode cX11_leaders 68 = .ok (.getfield 356, 3) := by decide +kernel
theorem dX11_leaders_71 : decode cX11_leaders 71 = .ok (.ireturn, 1) := by decide +kernel
theorem dX11_leaders_72 : decode cX11_leaders 72 = .ok (.aload_n 0, 1) := by decide +kernel
theorem dX11_leaders_73 : decode cX11_leaders 73 = .ok (.getfield 90, 3) := by decide +kernel
theorem dX11_leaders_76 : decode cX11_leaders 76 = .ok (.getfield 359, 3) := by decide +kernel
theorem dX11_leaders_79 : decode cX11_leaders 79 = .ok (.ireturn, 1) := by decide +kernel
theorem dX11_look_0 : decode cX11_look 0 = .ok (.aload_n 0, 1) := by decide +kernel
theorem dX11_look_1 : decode cX11_look 1 = .ok (.iload_n 1, 1) := by decide +kernel
theorem dX11_look_2 : decode cX11_look 2 = .ok (.iconst 0, 1) := by decide +kernel
theorem dX11_look_3 : decode cX11_look 3 = .ok (.iconst 1, 1) := by decide +kernel
theorem dX11_look_4 : decode cX11_look 4 = .ok (.invokevirtual 176, 3) := by decide +kernel
theorem dX11_look_7 : decode cX11_look 7 = .ok (.aload_n 0, 1) := by decide +kernel
theorem dX11_look_8 : decode cX11_look 8 = .ok (.getfield 90, 3) := by decide +kernel
theorem dX11_look_11 : decode cX11_look 11 = .ok (.aload_n 0, 1) := by decide +kernel
theorem dX11_look_12 : decode cX11_look 12 = .ok (.getfield 49, 3) := by decide +kernel
theorem dX11_look_15 : decode cX11_look 15 = .ok (.aload_n 0, 1) := by decide +kernel
theorem dX11_look_16 : decode cX11_look 16 = .ok (.getfield 39, 3) := by decide +kernel
theorem dX11_look_19 : decode cX11_look 19 = .ok (.invokevirtual 319, 3) := by decide +kernel
theorem dX11_look_22 : decode cX11_look 22 = .ok (.iload_n 1, 1) := by decide +kernel
theorem dX11_look_23 : decode cX11_look 23 = .ok (.ifCond .ne 13, 3) := by decide +kernel
theorem dX11_look_26 : decode cX11_look 26 = .ok (.aload_n 0, 1) := by decide +kernel
theorem dX11_look_27 : decode cX11_look 27 = .ok (.getfield 90, 3) := by decide +kernel
theorem dX11_look_30 : decode cX11_look 30 = .ok (.getfield 322, 3) := by decide +kernel
theorem dX11_look_33 : decode cX11_look 33 = .ok (.goto 10, 3) := by decide +kernel
theorem dX11_look_36 : decode cX11_look 36 = .ok (.aload_n 0, 1) := by decide +kernel
theorem dX11_look_37 : decode cX11_look 37 = .ok (.getfield 90, 3) := by decide +kernel
theorem dX11_look_40 : decode cX11_look 40 = .ok (.getfield 325, 3) := by decide +kernel
theorem dX11_look_43 : decode cX11_look 43 = .ok (.ireturn, 1) := by decide +kernel
theorem dX11_meet_0 : decode cX11_meet 0 = .ok (.aload_n 0, 1) := by decide +kernel
theorem dX11_meet_1 : decode cX11_meet 1 = .ok (.iload_n 1, 1) := by decide +kernel
theorem dX11_meet_2 : decode cX11_meet 2 = .ok (.invokevirtual 246, 3) := by decide +kernel
theorem dX11_meet_5 : decode cX11_meet 5 = .ok (.aload_n 0, 1) := by decide +kernel
theorem dX11_meet_6 : decode cX11_meet 6 = .ok (.iload_n 2, 1) := by decide +kernel
theorem dX11_meet_7 : decode cX11_meet 7 = .ok (.invokevirtual 246, 3) := by decide +kernel
theorem dX11_meet_10 : decode cX11_meet 10 = .ok (.aload_n 0, 1) := by decide +kernel
theorem dX11_meet_11 : decode cX11_meet 11 = .ok (.iload_n 3, 1) := by decide +kernel
theorem dX11_meet_12 : decode cX11_meet 12 = .ok (.iconst 0, 1) := by decide +kernel
theorem dX11_meet_13 : decode cX11_meet 13 = .ok (.iconst 1, 1) := by decide +kernel
theorem dX11_meet_14 : decode cX11_meet 14 = .ok (.invokevirtual 176, 3) := by decide +kernel
theorem dX11_meet_17 : decode cX11_meet 17 = .ok (.iconst (-1), 1) := by decide +kernel
theorem dX11_meet_18 : decode cX11_meet 18 = .ok (.istore 4, 2) := by decide +kernel
theorem dX11_meet_20 : decode cX11_meet 20 = .ok (.iconst (-1), 1) := by decide +kernel
theorem dX11_meet_21 : decode cX11_meet 21 = .ok (.istore 5, 2) := by decide +kernel
theorem dX11_meet_23 : decode cX11_meet 23 = .ok (.iconst 0, 1) := by decide +kernel
theorem dX11_meet_24 : decode cX11_meet 24 = .ok (.istore 6, 2) := by decide +kernel
theorem dX11_meet_26 : decode cX11_meet 26 = .ok (.iload 6, 2) := by decide +kernel
theorem dX11_meet_28 : decode cX11_meet 28 = .ok (.aload_n 0, 1) := by decide +kernel
theorem dX11_meet_29 : decode cX11_meet 29 = .ok (.getfield 19, 3) := by decide +kernel
theorem dX11_meet_32 : decode cX11_meet 32 = .ok (.getfield 137, 3) := by decide +kernel
theorem dX11_meet_35 : decode cX11_meet 35 = .ok (.if_icmp .ge 88, 3) := by decide +kernel
theorem dX11_meet_38 : decode cX11_meet 38 = .ok (.aload_n 0, 1) := by decide +kernel
theorem dX11_meet_39 : decode cX11_meet 39 = .ok (.getfield 19, 3) := by decide +kernel
theorem dX11_meet_42 : decode cX11_meet 42 = .ok (.aload_n 0, 1) := by decide +kernel
theorem dX11_meet_43 : decode cX11_meet 43 = .ok (.getfield 49, 3) := by decide +kernel
theorem dX11_meet_46 : decode cX11_meet 46 = .ok (.getfield 252, 3) := by decide +kernel
theorem dX11_meet_49 : decode cX11_meet 49 = .ok (.iload_n 1, 1) := by decide +kernel
theorem dX11_meet_50 : decode cX11_meet 50 = .ok (.iaload, 1) := by decide +kernel
theorem dX11_meet_51 : decode cX11_meet 51 = .ok (.iload 6, 2) := by decide +kernel
theorem dX11_meet_53 : decode cX11_meet 53 = .ok (.invokevirtual 331, 3) := by decide +kernel
theorem dX11_meet_56 : decode cX11_meet 56 = .ok (.istore 7, 2) := by decide +kernel
theorem dX11_meet_58 : decode cX11_meet 58 = .ok (.aload_n 0, 1) := by decide +kernel
theorem dX11_meet_59 : decode cX11_meet 59 = .ok (.getfield 19, 3) := by decide +kernel
theorem dX11_meet_62 : decode cX11_meet 62 = .ok (.aload_n 0, 1) := by decide +kernel
theorem dX11_meet_63 : decode cX11_meet 63 = .ok (.getfield 49, 3) := by decide +kernel
theorem dX11_meet_66 : decode cX11_meet 66 = .ok (.getfield 252, 3) := by decide +kernel
theorem dX11_meet_69 : decode cX11_meet 69 = .ok (.iload_n 2, 1) := by decide +kernel
theorem dX11_meet_70 : decode cX11_meet 70 = .ok (.iaload, 1) := by decide +kernel
theorem dX11_meet_71 : decode cX11_meet 71 = .ok (.iload 6, 2) := by decide +kernel
theorem dX11_meet_73 : decode cX11_meet 73 = .ok (.invokevirtual 331, 3) := by decide +kernel
theorem dX11_meet_76 : decode cX11_meet 76 = .ok (.istore 8, 2) := by decide +kernel
theorem dX11_meet_78 : decode cX11_meet 78 = .ok (.iload 7, 2) := by decide +kernel
theorem dX11_meet_80 : decode cX11_meet 80 = .ok (.iconst (-1), 1) := by decide +kernel
theorem dX11_meet_81 : decode cX11_meet 81 = .ok (.if_icmp .eq 36, 3) := by decide +kernel
theorem dX11_meet_84 : decode cX11_meet 84 = .ok (.iload 8, 2) := by decide +kernel
theorem dX11_meet_86 : decode cX11_meet 86 = .ok (.iconst (-1), 1) := by decide +kernel
theorem dX11_meet_87 : decode cX11_meet 87 = .ok (.if_icmp .eq 30, 3) := by decide +kernel
theorem dX11_meet_90 : decode cX11_meet 90 = .ok (.iload 4, 2) := by decide +kernel
theorem dX11_meet_92 : decode cX11_meet 92 = .ok (.iconst (-1), 1) := by decide +kernel
theorem dX11_meet_93 : decode cX11_meet 93 = .ok (.if_icmp .eq 13, 3) := by decide +kernel
theorem dX11_meet_96 : decode cX11_meet 96 = .ok (.iload 7, 2) := by decide +kernel
theorem dX11_meet_98 : decode cX11_meet 98 = .ok (.iload 8, 2) := by decide +kernel
theorem dX11_meet_100 : decode cX11_meet 100 = .ok (.iadd, 1) := by decide +kernel
theorem dX11_meet_101 : decode cX11_meet 101 = .ok (.iload 5, 2) := by decide +kernel
theorem dX11_meet_103 : decode cX11_meet 103 = .ok (.if_icmp .ge 14, 3) := by decide +kernel
theorem dX11_meet_106 : decode cX11_meet 106 = .ok (.iload 6, 2) := by decide +kernel
theorem dX11_meet_108 : decode cX11_meet 108 = .ok (.istore 4, 2) := by decide +kernel
theorem dX11_meet_110 : decode cX11_meet 110 = .ok (.iload 7, 2) := by decide +kernel
theorem dX11_meet_112 : decode cX11_meet 112 = .ok (.iload 8, 2) := by decide +kernel
theorem dX11_meet_114 : decode cX11_meet 114 = .ok (.iadd, 1) := by decide +kernel
theorem dX11_meet_115 : decode cX11_meet 115 = .ok (.istore 5, 2) := by decide +kernel
theorem dX11_meet_117 : decode cX11_meet 117 = .ok (.iinc 6 1, 3) := by decide +kernel
theorem dX11_meet_120 : decode cX11_meet 120 = .ok (.goto (-94), 3) := by decide +kernel
theorem dX11_meet_123 : decode cX11_meet 123 = .ok (.iload_n 3, 1) := by decide +kernel
theorem dX11_meet_124 : decode cX11_meet 124 = .ok (.ifCond .ne 8, 3) := by decide +kernel
theorem dX11_meet_127 : decode cX11_meet 127 = .ok (.iload 4, 2) := by decide +kernel
theorem dX11_meet_129 : decode cX11_meet 129 = .ok (.goto 5, 3) := by decide +kernel
theorem dX11_meet_132 : decode cX11_meet 132 = .ok (.iload 5, 2) := by decide +kernel
theorem dX11_meet_134 : decode cX11_meet 134 = .ok (.ireturn, 1) := by decide +kernel
theorem dX11_rightBeliefs_0 : decode cX11_rightBeliefs 0 = .ok (.iconst 0, 1) := by decide +kernel
theorem dX11_rightBeliefs_1 : decode cX11_rightBeliefs 1 = .ok (.istore_n 2, 1) := by decide +kernel
theorem dX11_rightBeliefs_2 : decode cX11_rightBeliefs 2 = .ok (.iconst 0, 1) := by decide +kernel
theorem dX11_rightBeliefs_3 : decode cX11_rightBeliefs 3 = .ok (.istore_n 3, 1) := by decide +kernel
theorem dX11_rightBeliefs_4 : decode cX11_rightBeliefs 4 = .ok (.iload_n 3, 1) := by decide +kernel
theorem dX11_rightBeliefs_5 : decode cX11_rightBeliefs 5 = .ok (.aload_n 0, 1) := by decide +kernel
theorem dX11_rightBeliefs_6 : decode cX11_rightBeliefs 6 = .ok (.getfield 19, 3) := by decide +kernel
theorem dX11_rightBeliefs_9 : decode cX11_rightBeliefs 9 = .ok (.getfield 137, 3) := by decide +kernel
theorem dX11_rightBeliefs_12 : decode cX11_rightBeliefs 12 = .ok (.if_icmp .ge 46, 3) := by decide +kernel
theorem dX11_rightBeliefs_15 : decode cX11_rightBeliefs 15 = .ok (.aload_n 0, 1) := by decide +kernel
theorem dX11_rightBeliefs_16 : decode cX11_rightBeliefs 16 = .ok (.getfield 49, 3) := by decide +kernel
theorem dX11_rightBeliefs_19 : decode cX11_rightBeliefs 19 = .ok (.iload_n 1, 1) := by decide +kernel
theorem dX11_rightBeliefs_20 : decode cX11_rightBeliefs 20 = .ok (.iload_n 3, 1) := by decide +kernel
theorem dX11_rightBeliefs_21 : decode cX11_rightBeliefs 21 = .ok (.invokevirtual 261, 3) := by decide +kernel
theorem dX11_rightBeliefs_24 : decode cX11_rightBeliefs 24 = .ok (.istore 4, 2) := by decide +kernel
theorem dX11_rightBeliefs_26 : decode cX11_rightBeliefs 26 = .ok (.iload 4, 2) := by decide +kernel
theorem dX11_rightBeliefs_28 : decode cX11_rightBeliefs 28 = .ok (.iconst (-1), 1) := by decide +kernel
theorem dX11_rightBeliefs_29 : decode cX11_rightBeliefs 29 = .ok (.if_icmp .eq 23, 3) := by decide +kernel
theorem dX11_rightBeliefs_32 : decode cX11_rightBeliefs 32 = .ok (.iload 4, 2) := by decide +kernel
theorem dX11_rightBeliefs_34 : decode cX11_rightBeliefs 34 = .ok (.aload_n 0, 1) := by decide +kernel
theorem dX11_rightBeliefs_35 : decode cX11_rightBeliefs 35 = .ok (.getfield 72, 3) := by decide +kernel
theorem dX11_rightBeliefs_38 : decode cX11_rightBeliefs 38 = .ok (.aload_n 0, 1) := by decide +kernel
theorem dX11_rightBeliefs_39 : decode cX11_rightBeliefs 39 = .ok (.getfield 49, 3) := by decide +kernel
theorem dX11_rightBeliefs_42 : decode cX11_rightBeliefs 42 = .ok (.iload_n 3, 1) := by decide +kernel
theorem dX11_rightBeliefs_43 : decode cX11_rightBeliefs 43 = .ok (.invokevirtual 224, 3) := by decide +kernel
theorem dX11_rightBeliefs_46 : decode cX11_rightBeliefs 46 = .ok (.if_icmp .ne 6, 3) := by decide +kernel
theorem dX11_rightBeliefs_49 : decode cX11_rightBeliefs 49 = .ok (.iinc 2 1, 3) := by decide +kernel
theorem dX11_rightBeliefs_52 : decode cX11_rightBeliefs 52 = .ok (.iinc 3 1, 3) := by decide +kernel
theorem dX11_rightBeliefs_55 : decode cX11_rightBeliefs 55 = .ok (.goto (-51), 3) := by decide +kernel
theorem dX11_rightBeliefs_58 : decode cX11_rightBeliefs 58 = .ok (.iload_n 2, 1) := by decide +kernel
theorem dX11_rightBeliefs_59 : decode cX11_rightBeliefs 59 = .ok (.ireturn, 1) := by decide +kernel
theorem dX11_person_0 : decode cX11_person 0 = .ok (.aload_n 0, 1) := by decide +kernel
theorem dX11_person_1 : decode cX11_person 1 = .ok (.iload_n 1, 1) := by decide +kernel
theorem dX11_person_2 : decode cX11_person 2 = .ok (.invokevirtual 246, 3) := by decide +kernel
theorem dX11_person_5 : decode cX11_person 5 = .ok (.aload_n 0, 1) := by decide +kernel
theorem dX11_person_6 : decode cX11_person 6 = .ok (.iload_n 2, 1) := by decide +kernel
theorem dX11_person_7 : decode cX11_person 7 = .ok (.iconst 0, 1) := by decide +kernel
theorem dX11_person_8 : decode cX11_person 8 = .ok (.iconst 3, 1) := by decide +kernel
theorem dX11_person_9 : decode cX11_person 9 = .ok (.invokevirtual 176, 3) := by decide +kernel
theorem dX11_person_12 : decode cX11_person 12 = .ok (.iload_n 2, 1) := by decide +kernel
theorem dX11_person_13 : decode cX11_person 13 = .ok (.tableswitch 56 0 2 #[27, 37, 47], 27) := by decide +kernel
theorem dX11_person_40 : decode cX11_person 40 = .ok (.aload_n 0, 1) := by decide +kernel
theorem dX11_person_41 : decode cX11_person 41 = .ok (.getfield 49, 3) := by decide +kernel
theorem dX11_person_44 : decode cX11_person 44 = .ok (.getfield 249, 3) := by decide +kernel
theorem dX11_person_47 : decode cX11_person 47 = .ok (.iload_n 1, 1) := by decide +kernel
theorem dX11_person_48 : decode cX11_person 48 = .ok (.iaload, 1) := by decide +kernel
theorem dX11_person_49 : decode cX11_person 49 = .ok (.ireturn, 1) := by decide +kernel
theorem dX11_person_50 : decode cX11_person 50 = .ok (.aload_n 0, 1) := by decide +kernel
theorem dX11_person_51 : decode cX11_person 51 = .ok (.getfield 49, 3) := by decide +kernel
theorem dX11_person_54 : decode cX11_person 54 = .ok (.getfield 252, 3) := by decide +kernel
theorem dX11_person_57 : decode cX11_person 57 = .ok (.iload_n 1, 1) := by decide +kernel
theorem dX11_person_58 : decode cX11_person 58 = .ok (.iaload, 1) := by decide +kernel
theorem dX11_person_59 : decode cX11_person 59 = .ok (.ireturn, 1) := by decide +kernel
theorem dX11_person_60 : decode cX11_person 60 = .ok (.aload_n 0, 1) := by decide +kernel
theorem dX11_person_61 : decode cX11_person 61 = .ok (.getfield 49, 3) := by decide +kernel
theorem dX11_person_64 : decode cX11_person 64 = .ok (.iload_n 1, 1) := by decide +kernel
theorem dX11_person_65 : decode cX11_person 65 = .ok (.invokevirtual 255, 3) := by decide +kernel
theorem dX11_person_68 : decode cX11_person 68 = .ok (.ireturn, 1) := by decide +kernel
theorem dX11_person_69 : decode cX11_person 69 = .ok (.aload_n 0, 1) := by decide +kernel
theorem dX11_person_70 : decode cX11_person 70 = .ok (.iload_n 1, 1) := by decide +kernel
theorem dX11_person_71 : decode cX11_person 71 = .ok (.invokevirtual 258, 3) := by decide +kernel
theorem dX11_person_74 : decode cX11_person 74 = .ok (.ireturn, 1) := by decide +kernel
theorem dX11_place_0 : decode cX11_place 0 = .ok (.aload_n 0, 1) := by decide +kernel
theorem dX11_place_1 : decode cX11_place 1 = .ok (.iload_n 1, 1) := by decide +kernel
theorem dX11_place_2 : decode cX11_place 2 = .ok (.invokevirtual 211, 3) := by decide +kernel
theorem dX11_place_5 : decode cX11_place 5 = .ok (.aload_n 0, 1) := by decide +kernel
theorem dX11_place_6 : decode cX11_place 6 = .ok (.iload_n 2, 1) := by decide +kernel
theorem dX11_place_7 : decode cX11_place 7 = .ok (.iconst 0, 1) := by decide +kernel
theorem dX11_place_8 : decode cX11_place 8 = .ok (.iconst 4, 1) := by decide +kernel
theorem dX11_place_9 : decode cX11_place 9 = .ok (.invokevirtual 176, 3) := by decide +kernel
theorem dX11_place_12 : decode cX11_place 12 = .ok (.iload_n 2, 1) := by decide +kernel
theorem dX11_place_13 : decode cX11_place 13 = .ok (.tableswitch 73 0 3 #[31, 41, 51, 60], 31) := by decide +kernel
theorem dX11_place_44 : decode cX11_place 44 = .ok (.aload_n 0, 1) := by decide +kernel
theorem dX11_place_45 : decode cX11_place 45 = .ok (.getfield 19, 3) := by decide +kernel
theorem dX11_place_48 : decode cX11_place 48 = .ok (.getfield 214, 3) := by decide +kernel
theorem dX11_place_51 : decode cX11_place 51 = .ok (.iload_n 1, 1) := by decide +kernel
theorem dX11_place_52 : decode cX11_place 52 = .ok (.iaload, 1) := by decide +kernel
theorem dX11_place_53 : decode cX11_place 53 = .ok (.ireturn, 1) := by decide +kernel
theorem dX11_place_54 : decode cX11_place 54 = .ok (.aload_n 0, 1) := by decide +kernel
theorem dX11_place_55 : decode cX11_place 55 = .ok (.getfield 19, 3) := by decide +kernel
theorem dX11_place_58 : decode cX11_place 58 = .ok (.getfield 218, 3) := by decide +kernel
theorem dX11_place_61 : decode cX11_place 61 = .ok (.iload_n 1, 1) := by decide +kernel
theorem dX11_place_62 : decode cX11_place 62 = .ok (.iaload, 1) := by decide +kernel
theorem dX11_place_63 : decode cX11_place 63 = .ok (.ireturn, 1) := by decide +kernel
theorem dX11_place_64 : decode cX11_place 64 = .ok (.aload_n 0, 1) := by decide +kernel
theorem dX11_place_65 : decode cX11_place 65 = .ok (.getfield 49, 3) := by decide +kernel
theorem dX11_place_68 : decode cX11_place 68 = .ok (.iload_n 1, 1) := by decide +kernel
theorem dX11_place_69 : decode cX11_place 69 = .ok (.invokevirtual 221, 3) := by decide +kernel
theorem dX11_place_72 : decode cX11_place 72 = .ok (.ireturn, 1) := by decide +kernel
theorem dX11_place_73 : decode cX11_place 73 = .ok (.aload_n 0, 1) := by decide +kernel
theorem dX11_place_74 : decode cX11_place 74 = .ok (.getfield 72, 3) := by decide +kernel
theorem dX11_place_77 : decode cX11_place 77 = .ok (.aload_n 0, 1) := by decide +kernel
theorem dX11_place_78 : decode cX11_place 78 = .ok (.getfield 49, 3) := by decide +kernel
theorem dX11_place_81 : decode cX11_place 81 = .ok (.iload_n 1, 1) := by decide +kernel
theorem dX11_place_82 : decode cX11_place 82 = .ok (.invokevirtual 224, 3) := by decide +kernel
theorem dX11_place_85 : decode cX11_place 85 = .ok (.ireturn, 1) := by decide +kernel
theorem dX11_place_86 : decode cX11_place 86 = .ok (.aload_n 0, 1) := by decide +kernel
theorem dX11_place_87 : decode cX11_place 87 = .ok (.getfield 72, 3) := by decide +kernel
theorem dX11_place_90 : decode cX11_place 90 = .ok (.aload_n 0, 1) := by decide +kernel
theorem dX11_place_91 : decode cX11_place 91 = .ok (.getfield 49, 3) := by decide +kernel
theorem dX11_place_94 : decode cX11_place 94 = .ok (.invokevirtual 199, 3) := by decide +kernel
theorem dX11_place_97 : decode cX11_place 97 = .ok (.aload_n 0, 1) := by decide +kernel
theorem dX11_place_98 : decode cX11_place 98 = .ok (.getfield 72, 3) := by decide +kernel
theorem dX11_place_101 : decode cX11_place 101 = .ok (.iload_n 1, 1) := by decide +kernel
theorem dX11_place_102 : decode cX11_place 102 = .ok (.invokevirtual 228, 3) := by decide +kernel
theorem dX11_place_105 : decode cX11_place 105 = .ok (.ireturn, 1) := by decide +kernel
theorem dX11_power_0 : decode cX11_power 0 = .ok (.lconst 1, 1) := by decide +kernel
theorem dX11_power_1 : decode cX11_power 1 = .ok (.lstore_n 3, 1) := by decide +kernel
theorem dX11_power_2 : decode cX11_power 2 = .ok (.iconst 0, 1) := by decide +kernel
theorem dX11_power_3 : decode cX11_power 3 = .ok (.istore 5, 2) := by decide +kernel
theorem dX11_power_5 : decode cX11_power 5 = .ok (.iload 5, 2) := by decide +kernel
theorem dX11_power_7 : decode cX11_power 7 = .ok (.iload_n 2, 1) := by decide +kernel
theorem dX11_power_8 : decode cX11_power 8 = .ok (.if_icmp .ge 13, 3) := by decide +kernel
theorem dX11_power_11 : decode cX11_power 11 = .ok (.lload_n 3, 1) := by decide +kernel
theorem dX11_power_12 : decode cX11_power 12 = .ok (.lload_n 0, 1) := by decide +kernel
theorem dX11_power_13 : decode cX11_power 13 = .ok (.lmul, 1) := by decide +kernel
theorem dX11_power_14 : decode cX11_power 14 = .ok (.lstore_n 3, 1) := by decide +kernel
theorem dX11_power_15 : decode cX11_power 15 = .ok (.iinc 5 1, 3) := by decide +kernel
theorem dX11_power_18 : decode cX11_power 18 = .ok (.goto (-13), 3) := by decide +kernel
theorem dX11_power_21 : decode cX11_power 21 = .ok (.lload_n 3, 1) := by decide +kernel
theorem dX11_power_22 : decode cX11_power 22 = .ok (.lreturn, 1) := by decide +kernel
theorem dX11_pull_0 : decode cX11_pull 0 = .ok (.aload_n 0, 1) := by decide +kernel
theorem dX11_pull_1 : decode cX11_pull 1 = .ok (.iload_n 1, 1) := by decide +kernel
theorem dX11_pull_2 : decode cX11_pull 2 = .ok (.invokevirtual 211, 3) := by decide +kernel
theorem dX11_pull_5 : decode cX11_pull 5 = .ok (.aload_n 0, 1) := by decide +kernel
theorem dX11_pull_6 : decode cX11_pull 6 = .ok (.iload_n 2, 1) := by decide +kernel
theorem dX11_pull_7 : decode cX11_pull 7 = .ok (.invokevirtual 211, 3) := by decide +kernel
theorem dX11_pull_10 : decode cX11_pull 10 = .ok (.aload_n 0, 1) := by decide +kernel
theorem dX11_pull_11 : decode cX11_pull 11 = .ok (.getfield 19, 3) := by decide +kernel
theorem dX11_pull_14 : decode cX11_pull 14 = .ok (.iload_n 1, 1) := by decide +kernel
theorem dX11_pull_15 : decode cX11_pull 15 = .ok (.iload_n 2, 1) := by decide +kernel
theorem dX11_pull_16 : decode cX11_pull 16 = .ok (.invokevirtual 265, 3) := by decide +kernel
theorem dX11_pull_19 : decode cX11_pull 19 = .ok (.iconst (-1), 1) := by decide +kernel
theorem dX11_pull_20 : decode cX11_pull 20 = .ok (.if_icmp .ne 8, 3) := by decide +kernel
theorem dX11_pull_23 : decode cX11_pull 23 = .ok (.bipush (-100), 2) := by decide +kernel
theorem dX11_pull_25 : decode cX11_pull 25 = .ok (.goto 16, 3) := by decide +kernel
theorem dX11_pull_28 : decode cX11_pull 28 = .ok (.aload_n 0, 1) := by decide +kernel
theorem dX11_pull_29 : decode cX11_pull 29 = .ok (.getfield 72, 3) := by decide +kernel
theorem dX11_pull_32 : decode cX11_pull 32 = .ok (.aload_n 0, 1) := by decide +kernel
theorem dX11_pull_33 : decode cX11_pull 33 = .ok (.getfield 49, 3) := by decide +kernel
theorem dX11_pull_36 : decode cX11_pull 36 = .ok (.iload_n 1, 1) := by decide +kernel
theorem dX11_pull_37 : decode cX11_pull 37 = .ok (.iload_n 2, 1) := by decide +kernel
theorem dX11_pull_38 : decode cX11_pull 38 = .ok (.invokevirtual 268, 3) := by decide +kernel
theorem dX11_pull_41 : decode cX11_pull 41 = .ok (.ireturn, 1) := by decide +kernel
theorem dX11_right_0 : decode cX11_right 0 = .ok (.aload_n 0, 1) := by decide +kernel
theorem dX11_right_1 : decode cX11_right 1 = .ok (.iload_n 1, 1) := by decide +kernel
theorem dX11_right_2 : decode cX11_right 2 = .ok (.invokevirtual 211, 3) := by decide +kernel
theorem dX11_right_5 : decode cX11_right 5 = .ok (.aload_n 0, 1) := by decide +kernel
theorem dX11_right_6 : decode cX11_right 6 = .ok (.iload_n 2, 1) := by decide +kernel
theorem dX11_right_7 : decode cX11_right 7 = .ok (.iconst 0, 1) := by decide +kernel
theorem dX11_right_8 : decode cX11_right 8 = .ok (.iconst 1, 1) := by decide +kernel
theorem dX11_right_9 : decode cX11_right 9 = .ok (.invokevirtual 176, 3) := by decide +kernel
theorem dX11_right_12 : decode cX11_right 12 = .ok (.aload_n 0, 1) := by decide +kernel
theorem dX11_right_13 : decode cX11_right 13 = .ok (.getfield 72, 3) := by decide +kernel
theorem dX11_right_16 : decode cX11_right 16 = .ok (.aload_n 0, 1) := by decide +kernel
theorem dX11_right_17 : decode cX11_right 17 = .ok (.getfield 49, 3) := by decide +kernel
theorem dX11_right_20 : decode cX11_right 20 = .ok (.iload_n 1, 1) := by decide +kernel
theorem dX11_right_21 : decode cX11_right 21 = .ok (.invokevirtual 224, 3) := by decide +kernel
theorem dX11_right_24 : decode cX11_right 24 = .ok (.istore_n 3, 1) := by decide +kernel
theorem dX11_right_25 : decode cX11_right 25 = .ok (.iconst 0, 1) := by decide +kernel
theorem dX11_right_26 : decode cX11_right 26 = .ok (.istore 4, 2) := by decide +kernel
theorem dX11_right_28 : decode cX11_right 28 = .ok (.iconst 0, 1) := by decide +kernel
theorem dX11_right_29 : decode cX11_right 29 = .ok (.istore 5, 2) := by decide +kernel
theorem dX11_right_31 : decode cX11_right 31 = .ok (.iconst 0, 1) := by decide +kernel
theorem dX11_right_32 : decode cX11_right 32 = .ok (.istore 6, 2) := by decide +kernel
theorem dX11_right_34 : decode cX11_right 34 = .ok (.iload 6, 2) := by decide +kernel
theorem dX11_right_36 : decode cX11_right 36 = .ok (.aload_n 0, 1) := by decide +kernel
theorem dX11_right_37 : decode cX11_right 37 = .ok (.getfield 19, 3) := by decide +kernel
theorem dX11_right_40 : decode cX11_right 40 = .ok (.getfield 183, 3) := by decide +kernel
theorem dX11_right_43 : decode cX11_right 43 = .ok (.if_icmp .ge 60, 3) := by decide +kernel
theorem dX11_right_46 : decode cX11_right 46 = .ok (.aload_n 0, 1) := by decide +kernel
theorem dX11_right_47 : decode cX11_right 47 = .ok (.getfield 49, 3) := by decide +kernel
theorem dX11_right_50 : decode cX11_right 50 = .ok (.iload 6, 2) := by decide +kernel
theorem dX11_right_52 : decode cX11_right 52 = .ok (.iload_n 1, 1) := by decide +kernel
theorem dX11_right_53 : decode cX11_right 53 = .ok (.invokevirtual 261, 3) := by decide +kernel
theorem dX11_right_56 : decode cX11_right 56 = .ok (.istore 7, 2) := by decide +kernel
theorem dX11_right_58 : decode cX11_right 58 = .ok (.iload 7, 2) := by decide +kernel
theorem dX11_right_60 : decode cX11_right 60 = .ok (.iconst (-1), 1) := by decide +kernel
theorem dX11_right_61 : decode cX11_right 61 = .ok (.if_icmp .eq 21, 3) := by decide +kernel
theorem dX11_right_64 : decode cX11_right 64 = .ok (.iload 7, 2) := by decide +kernel
theorem dX11_right_66 : decode cX11_right 66 = .ok (.iload_n 3, 1) := by decide +kernel
theorem dX11_right_67 : decode cX11_right 67 = .ok (.if_icmp .ne 15, 3) := by decide +kernel
theorem dX11_right_70 : decode cX11_right 70 = .ok (.iload 4, 2) := by decide +kernel
theorem dX11_right_72 : decode cX11_right 72 = .ok (.iconst 1, 1) := by decide +kernel
theorem dX11_right_73 : decode cX11_right 73 = .ok (.iload 6, 2) := by decide +kernel
theorem dX11_right_75 : decode cX11_right 75 = .ok (.ishl, 1) := by decide +kernel
theorem dX11_right_76 : decode cX11_right 76 = .ok (.ior, 1) := by decide +kernel
theorem dX11_right_77 : decode cX11_right 77 = .ok (.istore 4, 2) := by decide +kernel
theorem dX11_right_79 : decode cX11_right 79 = .ok (.goto 18, 3) := by decide +kernel
theorem dX11_right_82 : decode cX11_right 82 = .ok (.iload 7, 2) := by decide +kernel
theorem dX11_right_84 : decode cX11_right 84 = .ok (.iconst (-1), 1) := by decide +kernel
theorem dX11_right_85 : decode cX11_right 85 = .ok (.if_icmp .eq 12, 3) := by decide +kernel
theorem dX11_right_88 : decode cX11_right 88 = .ok (.iload 5, 2) := by decide +kernel
theorem dX11_right_90 : decode cX11_right 90 = .ok (.iconst 1, 1) := by decide +kernel
theorem dX11_right_91 : decode cX11_right 91 = .ok (.iload 6, 2) := by decide +kernel
theorem dX11_right_93 : decode cX11_right 93 = .ok (.ishl, 1) := by decide +kernel
theorem dX11_right_94 : decode cX11_right 94 = .ok (.ior, 1) := by decide +kernel
theorem dX11_right_95 : decode cX11_right 95 = .ok (.istore 5, 2) := by decide +kernel
theorem dX11_right_97 : decode cX11_right 97 = .ok (.iinc 6 1, 3) := by decide +kernel
theorem dX11_right_100 : decode cX11_right 100 = .ok (.goto (-66), 3) := by decide +kernel
theorem dX11_right_103 : decode cX11_right 103 = .ok (.iload_n 2, 1) := by decide +kernel
theorem dX11_right_104 : decode cX11_right 104 = .ok (.ifCond .ne 8, 3) := by decide +kernel
theorem dX11_right_107 : decode cX11_right 107 = .ok (.iload 4, 2) := by decide +kernel
theorem dX11_right_109 : decode cX11_right 109 = .ok (.goto 5, 3) := by decide +kernel
theorem dX11_right_112 : decode cX11_right 112 = .ok (.iload 5, 2) := by decide +kernel
theorem dX11_right_114 : decode cX11_right 114 = .ok (.ireturn, 1) := by decide +kernel
theorem dX11_seen_0 : decode cX11_seen 0 = .ok (.aload_n 0, 1) := by decide +kernel
theorem dX11_seen_1 : decode cX11_seen 1 = .ok (.iload_n 1, 1) := by decide +kernel
theorem dX11_seen_2 : decode cX11_seen 2 = .ok (.iconst 0, 1) := by decide +kernel
theorem dX11_seen_3 : decode cX11_seen 3 = .ok (.bipush 12, 2) := by decide +kernel
theorem dX11_seen_5 : decode cX11_seen 5 = .ok (.invokevirtual 176, 3) := by decide +kernel
theorem dX11_seen_8 : decode cX11_seen 8 = .ok (.aload_n 0, 1) := by decide +kernel
theorem dX11_seen_9 : decode cX11_seen 9 = .ok (.iload_n 2, 1) := by decide +kernel
theorem dX11_seen_10 : decode cX11_seen 10 = .ok (.iconst 0, 1) := by decide +kernel
theorem dX11_seen_11 : decode cX11_seen 11 = .ok (.bipush 16, 2) := by decide +kernel
theorem dX11_seen_13 : decode cX11_seen 13 = .ok (.invokevirtual 176, 3) := by decide +kernel
theorem dX11_seen_16 : decode cX11_seen 16 = .ok (.aload_n 0, 1) := by decide +kernel
theorem dX11_seen_17 : decode cX11_seen 17 = .ok (.iload_n 3, 1) := by decide +kernel
theorem dX11_seen_18 : decode cX11_seen 18 = .ok (.iconst 0, 1) := by decide +kernel
theorem dX11_seen_19 : decode cX11_seen 19 = .ok (.iconst 1, 1) := by decide +kernel
theorem dX11_seen_20 : decode cX11_seen 20 = .ok (.invokevirtual 176, 3) := by decide +kernel
theorem dX11_seen_23 : decode cX11_seen 23 = .ok (.ldc2_w 342, 3) := by decide +kernel
theorem dX11_seen_26 : decode cX11_seen 26 = .ok (.iload_n 1, 1) := by decide +kernel
theorem dX11_seen_27 : decode cX11_seen 27 = .ok (.invokestatic 344, 3) := by decide +kernel
theorem dX11_seen_30 : decode cX11_seen 30 = .ok (.lstore 4, 2) := by decide +kernel
theorem dX11_seen_32 : decode cX11_seen 32 = .ok (.iload_n 1, 1) := by decide +kernel
theorem dX11_seen_33 : decode cX11_seen 33 = .ok (.ifCond .ne 7, 3) := by decide +kernel
theorem dX11_seen_36 : decode cX11_seen 36 = .ok (.lconst 0, 1) := by decide +kernel
theorem dX11_seen_37 : decode cX11_seen 37 = .ok (.goto 19, 3) := by decide +kernel
theorem dX11_seen_40 : decode cX11_seen 40 = .ok (.iload_n 1, 1) := by decide +kernel
theorem dX11_seen_41 : decode cX11_seen 41 = .ok (.iload_n 2, 1) := by decide +kernel
theorem dX11_seen_42 : decode cX11_seen 42 = .ok (.imul, 1) := by decide +kernel
theorem dX11_seen_43 : decode cX11_seen 43 = .ok (.i2l, 1) := by decide +kernel
theorem dX11_seen_44 : decode cX11_seen 44 = .ok (.bipush 16, 2) := by decide +kernel
theorem dX11_seen_46 : decode cX11_seen 46 = .ok (.iload_n 2, 1) := by decide +kernel
theorem dX11_seen_47 : decode cX11_seen 47 = .ok (.isub, 1) := by decide +kernel
theorem dX11_seen_48 : decode cX11_seen 48 = .ok (.i2l, 1) := by decide +kernel
theorem dX11_seen_49 : decode cX11_seen 49 = .ok (.iload_n 1, 1) := by decide +kernel
theorem dX11_seen_50 : decode cX11_seen 50 = .ok (.iconst 1, 1) := by decide +kernel
theorem dX11_seen_51 : decode cX11_seen 51 = .ok (.isub, 1) := by decide +kernel
theorem dX11_seen_52 : decode cX11_seen 52 = .ok (.invokestatic 344, 3) := by decide +kernel
theorem dX11_seen_55 : decode cX11_seen 55 = .ok (.lmul, 1) := by decide +kernel
theorem dX11_seen_56 : decode cX11_seen 56 = .ok (.lstore 6, 2) := by decide +kernel
theorem dX11_seen_58 : decode cX11_seen 58 = .ok (.lload 4, 2) := by decide +kernel
theorem dX11_seen_60 : decode cX11_seen 60 = .ok (.bipush 16, 2) := by decide +kernel
theorem dX11_seen_62 : decode cX11_seen 62 = .ok (.iload_n 2, 1) := by decide +kernel
theorem dX11_seen_63 : decode cX11_seen 63 = .ok (.isub, 1) := by decide +kernel
theorem dX11_seen_64 : decode cX11_seen 64 = .ok (.i2l, 1) := by decide +kernel
theorem dX11_seen_65 : decode cX11_seen 65 = .ok (.iload_n 1, 1) := by decide +kernel
theorem dX11_seen_66 : decode cX11_seen 66 = .ok (.invokestatic 344, 3) := by decide +kernel
theorem dX11_seen_69 : decode cX11_seen 69 = .ok (.lsub, 1) := by decide +kernel
theorem dX11_seen_70 : decode cX11_seen 70 = .ok (.lload 6, 2) := by decide +kernel
theorem dX11_seen_72 : decode cX11_seen 72 = .ok (.lsub, 1) := by decide +kernel
theorem dX11_seen_73 : decode cX11_seen 73 = .ok (.lstore 8, 2) := by decide +kernel
theorem dX11_seen_75 : decode cX11_seen 75 = .ok (.iconst 0, 1) := by decide +kernel
theorem dX11_seen_76 : decode cX11_seen 76 = .ok (.istore 10, 2) := by decide +kernel
theorem dX11_seen_78 : decode cX11_seen 78 = .ok (.iload 10, 2) := by decide +kernel
theorem dX11_seen_80 : decode cX11_seen 80 = .ok (.bipush 48, 2) := by decide +kernel
theorem dX11_seen_82 : decode cX11_seen 82 = .ok (.if_icmp .ge 47, 3) := by decide +kernel
theorem dX11_seen_85 : decode cX11_seen 85 = .ok (.lload 8, 2) := by decide +kernel
theorem dX11_seen_87 : decode cX11_seen 87 = .ok (.ldc2_w 348, 3) := by decide +kernel
theorem dX11_seen_90 : decode cX11_seen 90 = .ok (.lrem, 1) := by decide +kernel
theorem dX11_seen_91 : decode cX11_seen 91 = .ok (.lconst 0, 1) := by decide +kernel
theorem dX11_seen_92 : decode cX11_seen 92 = .ok (.lcmp, 1) := by decide +kernel
theorem dX11_seen_93 : decode cX11_seen 93 = .ok (.ifCond .ne 36, 3) := by decide +kernel
theorem dX11_seen_96 : decode cX11_seen 96 = .ok (.lload 4, 2) := by decide +kernel
theorem dX11_seen_98 : decode cX11_seen 98 = .ok (.ldc2_w 348, 3) := by decide +kernel
theorem dX11_seen_101 : decode cX11_seen 101 = .ok (.lrem, 1) := by decide +kernel
theorem dX11_seen_102 : decode cX11_seen 102 = .ok (.lconst 0, 1) := by decide +kernel
theorem dX11_seen_103 : decode cX11_seen 103 = .ok (.lcmp, 1) := by decide +kernel
theorem dX11_seen_104 : decode cX11_seen 104 = .ok (.ifCond .ne 25, 3) := by decide +kernel
theorem dX11_seen_107 : decode cX11_seen 107 = .ok (.lload 8, 2) := by decide +kernel
theorem dX11_seen_109 : decode cX11_seen 109 = .ok (.ldc2_w 348, 3) := by decide +kernel
theorem dX11_seen_112 : decode cX11_seen 112 = .ok (.ldiv, 1) := by decide +kernel
theorem dX11_seen_113 : decode cX11_seen 113 = .ok (.lstore 8, 2) := by decide +kernel
theorem dX11_seen_115 : decode cX11_seen 115 = .ok (.lload 4, 2) := by decide +kernel
theorem dX11_seen_117 : decode cX11_seen 117 = .ok (.ldc2_w 348, 3) := by decide +kernel
theorem dX11_seen_120 : decode cX11_seen 120 = .ok (.ldiv, 1) := by decide +kernel
theorem dX11_seen_121 : decode cX11_seen 121 = .ok (.lstore 4, 2) := by decide +kernel
theorem dX11_seen_123 : decode cX11_seen 123 = .ok (.iinc 10 1, 3) := by decide +kernel
theorem dX11_seen_126 : decode cX11_seen 126 = .ok (.goto (-48), 3) := by decide +kernel
theorem dX11_seen_129 : decode cX11_seen 129 = .ok (.iload_n 3, 1) := by decide +kernel
theorem dX11_seen_130 : decode cX11_seen 130 = .ok (.ifCond .ne 8, 3) := by decide +kernel
theorem dX11_seen_133 : decode cX11_seen 133 = .ok (.lload 8, 2) := by decide +kernel
theorem dX11_seen_135 : decode cX11_seen 135 = .ok (.goto 5, 3) := by decide +kernel
theorem dX11_seen_138 : decode cX11_seen 138 = .ok (.lload 4, 2) := by decide +kernel
theorem dX11_seen_140 : decode cX11_seen 140 = .ok (.lreturn, 1) := by decide +kernel
theorem dX11_share_0 : decode cX11_share 0 = .ok (.aload_n 0, 1) := by decide +kernel
theorem dX11_share_1 : decode cX11_share 1 = .ok (.iload_n 1, 1) := by decide +kernel
theorem dX11_share_2 : decode cX11_share 2 = .ok (.invokevirtual 246, 3) := by decide +kernel
theorem dX11_share_5 : decode cX11_share 5 = .ok (.aload_n 0, 1) := by decide +kernel
theorem dX11_share_6 : decode cX11_share 6 = .ok (.iload_n 3, 1) := by decide +kernel
theorem dX11_share_7 : decode cX11_share 7 = .ok (.iconst 0, 1) := by decide +kernel
theorem dX11_share_8 : decode cX11_share 8 = .ok (.bipush 99, 2) := by decide +kernel
theorem dX11_share_10 : decode cX11_share 10 = .ok (.invokevirtual 176, 3) := by decide +kernel
theorem dX11_share_13 : decode cX11_share 13 = .ok (.aload_n 0, 1) := by decide +kernel
theorem dX11_share_14 : decode cX11_share 14 = .ok (.iload_n 2, 1) := by decide +kernel
theorem dX11_share_15 : decode cX11_share 15 = .ok (.iconst 0, 1) := by decide +kernel
theorem dX11_share_16 : decode cX11_share 16 = .ok (.iconst 1, 1) := by decide +kernel
theorem dX11_share_17 : decode cX11_share 17 = .ok (.aload_n 0, 1) := by decide +kernel
theorem dX11_share_18 : decode cX11_share 18 = .ok (.getfield 19, 3) := by decide +kernel
theorem dX11_share_21 : decode cX11_share 21 = .ok (.getfield 183, 3) := by decide +kernel
theorem dX11_share_24 : decode cX11_share 24 = .ok (.ishl, 1) := by decide +kernel
theorem dX11_share_25 : decode cX11_share 25 = .ok (.iconst 1, 1) := by decide +kernel
theorem dX11_share_26 : decode cX11_share 26 = .ok (.isub, 1) := by decide +kernel
theorem dX11_share_27 : decode cX11_share 27 = .ok (.invokevirtual 176, 3) := by decide +kernel
theorem dX11_share_30 : decode cX11_share 30 = .ok (.iload_n 2, 1) := by decide +kernel
theorem dX11_share_31 : decode cX11_share 31 = .ok (.iload_n 1, 1) := by decide +kernel
theorem dX11_share_32 : decode cX11_share 32 = .ok (.ishr, 1) := by decide +kernel
theorem dX11_share_33 : decode cX11_share 33 = .ok (.iconst 1, 1) := by decide +kernel
theorem dX11_share_34 : decode cX11_share 34 = .ok (.iand, 1) := by decide +kernel
theorem dX11_share_35 : decode cX11_share 35 = .ok (.ifCond .ne 5, 3) := by decide +kernel
theorem dX11_share_38 : decode cX11_share 38 = .ok (.iconst 0, 1) := by decide +kernel
theorem dX11_share_39 : decode cX11_share 39 = .ok (.ireturn, 1) := by decide +kernel
theorem dX11_share_40 : decode cX11_share 40 = .ok (.bipush 9, 2) := by decide +kernel
theorem dX11_share_42 : decode cX11_share 42 = .ok (.istore 4, 2) := by decide +kernel
theorem dX11_share_44 : decode cX11_share 44 = .ok (.iload 4, 2) := by decide +kernel
theorem dX11_share_46 : decode cX11_share 46 = .ok (.ifCond .le 20, 3) := by decide +kernel
theorem dX11_share_49 : decode cX11_share 49 = .ok (.aload_n 0, 1) := by decide +kernel
theorem dX11_share_50 : decode cX11_share 50 = .ok (.iload 4, 2) := by decide +kernel
theorem dX11_share_52 : decode cX11_share 52 = .ok (.iload_n 2, 1) := by decide +kernel
theorem dX11_share_53 : decode cX11_share 53 = .ok (.invokevirtual 362, 3) := by decide +kernel
theorem dX11_share_56 : decode cX11_share 56 = .ok (.iload_n 3, 1) := by decide +kernel
theorem dX11_share_57 : decode cX11_share 57 = .ok (.if_icmp .le 9, 3) := by decide +kernel
theorem dX11_share_60 : decode cX11_share 60 = .ok (.iinc 4 (-1), 3) := by decide +kernel
theorem dX11_share_63 : decode cX11_share 63 = .ok (.goto (-19), 3) := by decide +kernel
theorem dX11_share_66 : decode cX11_share 66 = .ok (.iload 4, 2) := by decide +kernel
theorem dX11_share_68 : decode cX11_share 68 = .ok (.aload_n 0, 1) := by decide +kernel
theorem dX11_share_69 : decode cX11_share 69 = .ok (.getfield 49, 3) := by decide +kernel
theorem dX11_share_72 : decode cX11_share 72 = .ok (.getfield 249, 3) := by decide +kernel
theorem dX11_share_75 : decode cX11_share 75 = .ok (.iload_n 1, 1) := by decide +kernel
theorem dX11_share_76 : decode cX11_share 76 = .ok (.iaload, 1) := by decide +kernel
theorem dX11_share_77 : decode cX11_share 77 = .ok (.invokestatic 365, 3) := by decide +kernel
theorem dX11_share_80 : decode cX11_share 80 = .ok (.ireturn, 1) := by decide +kernel
theorem dX11_sight_0 : decode cX11_sight 0 = .ok (.aload_n 0, 1) := by decide +kernel
theorem dX11_sight_1 : decode cX11_sight 1 = .ok (.getfield 72, 3) := by decide +kernel
theorem dX11_sight_4 : decode cX11_sight 4 = .ok (.aload_n 0, 1) := by decide +kernel
theorem dX11_sight_5 : decode cX11_sight 5 = .ok (.getfield 49, 3) := by decide +kernel
theorem dX11_sight_8 : decode cX11_sight 8 = .ok (.invokevirtual 199, 3) := by decide +kernel
theorem dX11_sight_11 : decode cX11_sight 11 = .ok (.iconst (-1), 1) := by decide +kernel
theorem dX11_sight_12 : decode cX11_sight 12 = .ok (.istore_n 1, 1) := by decide +kernel
theorem dX11_sight_13 : decode cX11_sight 13 = .ok (.aload_n 0, 1) := by decide +kernel
theorem dX11_sight_14 : decode cX11_sight 14 = .ok (.getfield 19, 3) := by decide +kernel
theorem dX11_sight_17 : decode cX11_sight 17 = .ok (.getfield 137, 3) := by decide +kernel
theorem dX11_sight_20 : decode cX11_sight 20 = .ok (.iconst 1, 1) := by decide +kernel
theorem dX11_sight_21 : decode cX11_sight 21 = .ok (.iadd, 1) := by decide +kernel
theorem dX11_sight_22 : decode cX11_sight 22 = .ok (.istore_n 2, 1) := by decide +kernel
theorem dX11_sight_23 : decode cX11_sight 23 = .ok (.iconst 0, 1) := by decide +kernel
theorem dX11_sight_24 : decode cX11_sight 24 = .ok (.istore_n 3, 1) := by decide +kernel
theorem dX11_sight_25 : decode cX11_sight 25 = .ok (.iload_n 3, 1) := by decide +kernel
theorem dX11_sight_26 : decode cX11_sight 26 = .ok (.iconst 1, 1) := by decide +kernel
theorem dX11_sight_27 : decode cX11_sight 27 = .ok (.aload_n 0, 1) := by decide +kernel
theorem dX11_sight_28 : decode cX11_sight 28 = .ok (.getfield 19, 3) := by decide +kernel
theorem dX11_sight_31 : decode cX11_sight 31 = .ok (.getfield 137, 3) := by decide +kernel
theorem dX11_sight_34 : decode cX11_sight 34 = .ok (.ishl, 1) := by decide +kernel
theorem dX11_sight_35 : decode cX11_sight 35 = .ok (.if_icmp .ge 49, 3) := by decide +kernel
theorem dX11_sight_38 : decode cX11_sight 38 = .ok (.iload_n 3, 1) := by decide +kernel
theorem dX11_sight_39 : decode cX11_sight 39 = .ok (.invokestatic 334, 3) := by decide +kernel
theorem dX11_sight_42 : decode cX11_sight 42 = .ok (.istore 4, 2) := by decide +kernel
theorem dX11_sight_44 : decode cX11_sight 44 = .ok (.iload 4, 2) := by decide +kernel
theorem dX11_sight_46 : decode cX11_sight 46 = .ok (.iload_n 2, 1) := by decide +kernel
theorem dX11_sight_47 : decode cX11_sight 47 = .ok (.if_icmp .ge 31, 3) := by decide +kernel
theorem dX11_sight_50 : decode cX11_sight 50 = .ok (.aload_n 0, 1) := by decide +kernel
theorem dX11_sight_51 : decode cX11_sight 51 = .ok (.getfield 72, 3) := by decide +kernel
theorem dX11_sight_54 : decode cX11_sight 54 = .ok (.getfield 205, 3) := by decide +kernel
theorem dX11_sight_57 : decode cX11_sight 57 = .ok (.iload_n 3, 1) := by decide +kernel
theorem dX11_sight_58 : decode cX11_sight 58 = .ok (.aload_n 0, 1) := by decide +kernel
theorem dX11_sight_59 : decode cX11_sight 59 = .ok (.getfield 19, 3) := by decide +kernel
theorem dX11_sight_62 : decode cX11_sight 62 = .ok (.iload_n 3, 1) := by decide +kernel
theorem dX11_sight_63 : decode cX11_sight 63 = .ok (.invokevirtual 339, 3) := by decide +kernel
theorem dX11_sight_66 : decode cX11_sight 66 = .ok (.ior, 1) := by decide +kernel
theorem dX11_sight_67 : decode cX11_sight 67 = .ok (.iconst (-1), 1) := by decide +kernel
theorem dX11_sight_68 : decode cX11_sight 68 = .ok (.ixor, 1) := by decide +kernel
theorem dX11_sight_69 : decode cX11_sight 69 = .ok (.iand, 1) := by decide +kernel
theorem dX11_sight_70 : decode cX11_sight 70 = .ok (.ifCond .ne 8, 3) := by decide +kernel
theorem dX11_sight_73 : decode cX11_sight 73 = .ok (.iload_n 3, 1) := by decide +kernel
theorem dX11_sight_74 : decode cX11_sight 74 = .ok (.istore_n 1, 1) := by decide +kernel
theorem dX11_sight_75 : decode cX11_sight 75 = .ok (.iload 4, 2) := by decide +kernel
theorem dX11_sight_77 : decode cX11_sight 77 = .ok (.istore_n 2, 1) := by decide +kernel
theorem dX11_sight_78 : decode cX11_sight 78 = .ok (.iinc 3 1, 3) := by decide +kernel
theorem dX11_sight_81 : decode cX11_sight 81 = .ok (.goto (-56), 3) := by decide +kernel
theorem dX11_sight_84 : decode cX11_sight 84 = .ok (.iload_n 1, 1) := by decide +kernel
theorem dX11_sight_85 : decode cX11_sight 85 = .ok (.ireturn, 1) := by decide +kernel
theorem dX11_silence_0 : decode cX11_silence 0 = .ok (.aload_n 0, 1) := by decide +kernel
theorem dX11_silence_1 : decode cX11_silence 1 = .ok (.iload_n 1, 1) := by decide +kernel
theorem dX11_silence_2 : decode cX11_silence 2 = .ok (.invokevirtual 211, 3) := by decide +kernel
theorem dX11_silence_5 : decode cX11_silence 5 = .ok (.aload_n 0, 1) := by decide +kernel
theorem dX11_silence_6 : decode cX11_silence 6 = .ok (.getfield 90, 3) := by decide +kernel
theorem dX11_silence_9 : decode cX11_silence 9 = .ok (.aload_n 0, 1) := by decide +kernel
theorem dX11_silence_10 : decode cX11_silence 10 = .ok (.getfield 49, 3) := by decide +kernel
theorem dX11_silence_13 : decode cX11_silence 13 = .ok (.iload_n 1, 1) := by decide +kernel
theorem dX11_silence_14 : decode cX11_silence 14 = .ok (.invokevirtual 303, 3) := by decide +kernel
theorem dX11_silence_17 : decode cX11_silence 17 = .ok (.ireturn, 1) := by decide +kernel
theorem dX11_span_0 : decode cX11_span 0 = .ok (.aload_n 0, 1) := by decide +kernel
theorem dX11_span_1 : decode cX11_span 1 = .ok (.iload_n 2, 1) := by decide +kernel
theorem dX11_span_2 : decode cX11_span 2 = .ok (.iconst 1, 1) := by decide +kernel
theorem dX11_span_3 : decode cX11_span 3 = .ok (.bipush 20, 2) := by decide +kernel
theorem dX11_span_5 : decode cX11_span 5 = .ok (.invokevirtual 176, 3) := by decide +kernel
theorem dX11_span_8 : decode cX11_span 8 = .ok (.aload_n 0, 1) := by decide +kernel
theorem dX11_span_9 : decode cX11_span 9 = .ok (.iload_n 3, 1) := by decide +kernel
theorem dX11_span_10 : decode cX11_span 10 = .ok (.iconst 1, 1) := by decide +kernel
theorem dX11_span_11 : decode cX11_span 11 = .ok (.bipush 96, 2) := by decide +kernel
theorem dX11_span_13 : decode cX11_span 13 = .ok (.invokevirtual 176, 3) := by decide +kernel
theorem dX11_span_16 : decode cX11_span 16 = .ok (.aload_n 0, 1) := by decide +kernel
theorem dX11_span_17 : decode cX11_span 17 = .ok (.iload 4, 2) := by decide +kernel
theorem dX11_span_19 : decode cX11_span 19 = .ok (.iconst 0, 1) := by decide +kernel
theorem dX11_span_20 : decode cX11_span 20 = .ok (.bipush 16, 2) := by decide +kernel
theorem dX11_span_22 : decode cX11_span 22 = .ok (.invokevirtual 176, 3) := by decide +kernel
theorem dX11_span_25 : decode cX11_span 25 = .ok (.aload_n 0, 1) := by decide +kernel
theorem dX11_span_26 : decode cX11_span 26 = .ok (.iload 5, 2) := by decide +kernel
theorem dX11_span_28 : decode cX11_span 28 = .ok (.iconst 0, 1) := by decide +kernel
theorem dX11_span_29 : decode cX11_span 29 = .ok (.iconst 2, 1) := by decide +kernel
theorem dX11_span_30 : decode cX11_span 30 = .ok (.invokevirtual 176, 3) := by decide +kernel
theorem dX11_span_33 : decode cX11_span 33 = .ok (.aload_n 0, 1) := by decide +kernel
theorem dX11_span_34 : decode cX11_span 34 = .ok (.iload 6, 2) := by decide +kernel
theorem dX11_span_36 : decode cX11_span 36 = .ok (.iconst 0, 1) := by decide +kernel
theorem dX11_span_37 : decode cX11_span 37 = .ok (.aload_n 0, 1) := by decide +kernel
theorem dX11_span_38 : decode cX11_span 38 = .ok (.getfield 19, 3) := by decide +kernel
theorem dX11_span_41 : decode cX11_span 41 = .ok (.getfield 137, 3) := by decide +kernel
theorem dX11_span_44 : decode cX11_span 44 = .ok (.iconst 1, 1) := by decide +kernel
theorem dX11_span_45 : decode cX11_span 45 = .ok (.isub, 1) := by decide +kernel
theorem dX11_span_46 : decode cX11_span 46 = .ok (.invokevirtual 176, 3) := by decide +kernel
theorem dX11_span_49 : decode cX11_span 49 = .ok (.bipush 12, 2) := by decide +kernel
theorem dX11_span_51 : decode cX11_span 51 = .ok (.istore 7, 2) := by decide +kernel
theorem dX11_span_53 : decode cX11_span 53 = .ok (.iconst 0, 1) := by decide +kernel
theorem dX11_span_54 : decode cX11_span 54 = .ok (.istore 8, 2) := by decide +kernel
theorem dX11_span_56 : decode cX11_span 56 = .ok (.iconst 0, 1) := by decide +kernel
theorem dX11_span_57 : decode cX11_span 57 = .ok (.istore 9, 2) := by decide +kernel
theorem dX11_span_59 : decode cX11_span 59 = .ok (.iconst 0, 1) := by decide +kernel
theorem dX11_span_60 : decode cX11_span 60 = .ok (.istore 10, 2) := by decide +kernel
theorem dX11_span_62 : decode cX11_span 62 = .ok (.iload 10, 2) := by decide +kernel
theorem dX11_span_64 : decode cX11_span 64 = .ok (.iload_n 2, 1) := by decide +kernel
theorem dX11_span_65 : decode cX11_span 65 = .ok (.if_icmp .ge 72, 3) := by decide +kernel
theorem dX11_span_68 : decode cX11_span 68 = .ok (.aload_n 0, 1) := by decide +kernel
theorem dX11_span_69 : decode cX11_span 69 = .ok (.getfield 97, 3) := by decide +kernel
theorem dX11_span_72 : decode cX11_span 72 = .ok (.aload_n 0, 1) := by decide +kernel
theorem dX11_span_73 : decode cX11_span 73 = .ok (.getfield 49, 3) := by decide +kernel
theorem dX11_span_76 : decode cX11_span 76 = .ok (.iload_n 1, 1) := by decide +kernel
theorem dX11_span_77 : decode cX11_span 77 = .ok (.iload 10, 2) := by decide +kernel
theorem dX11_span_79 : decode cX11_span 79 = .ok (.iadd, 1) := by decide +kernel
theorem dX11_span_80 : decode cX11_span 80 = .ok (.iload_n 3, 1) := by decide +kernel
theorem dX11_span_81 : decode cX11_span 81 = .ok (.iload 4, 2) := by decide +kernel
theorem dX11_span_83 : decode cX11_span 83 = .ok (.invokevirtual 370, 3) := by decide +kernel
theorem dX11_span_86 : decode cX11_span 86 = .ok (.iload 7, 2) := by decide +kernel
theorem dX11_span_88 : decode cX11_span 88 = .ok (.aload_n 0, 1) := by decide +kernel
theorem dX11_span_89 : decode cX11_span 89 = .ok (.getfield 72, 3) := by decide +kernel
theorem dX11_span_92 : decode cX11_span 92 = .ok (.getfield 202, 3) := by decide +kernel
theorem dX11_span_95 : decode cX11_span 95 = .ok (.invokestatic 365, 3) := by decide +kernel
theorem dX11_span_98 : decode cX11_span 98 = .ok (.istore 7, 2) := by decide +kernel
theorem dX11_span_100 : decode cX11_span 100 = .ok (.iload 8, 2) := by decide +kernel
theorem dX11_span_102 : decode cX11_span 102 = .ok (.aload_n 0, 1) := by decide +kernel
theorem dX11_span_103 : decode cX11_span 103 = .ok (.getfield 72, 3) := by decide +kernel
theorem dX11_span_106 : decode cX11_span 106 = .ok (.getfield 202, 3) := by decide +kernel
theorem dX11_span_109 : decode cX11_span 109 = .ok (.invokestatic 380, 3) := by decide +kernel
theorem dX11_span_112 : decode cX11_span 112 = .ok (.istore 8, 2) := by decide +kernel
theorem dX11_span_114 : decode cX11_span 114 = .ok (.iload 9, 2) := by decide +kernel
theorem dX11_span_116 : decode cX11_span 116 = .ok (.aload_n 0, 1) := by decide +kernel
theorem dX11_span_117 : decode cX11_span 117 = .ok (.getfield 72, 3) := by decide +kernel
theorem dX11_span_120 : decode cX11_span 120 = .ok (.getfield 205, 3) := by decide +kernel
theorem dX11_span_123 : decode cX11_span 123 = .ok (.iload 6, 2) := by decide +kernel
theorem dX11_span_125 : decode cX11_span 125 = .ok (.ishr, 1) := by decide +kernel
theorem dX11_span_126 : decode cX11_span 126 = .ok (.iconst 1, 1) := by decide +kernel
theorem dX11_span_127 : decode cX11_span 127 = .ok (.iand, 1) := by decide +kernel
theorem dX11_span_128 : decode cX11_span 128 = .ok (.iadd, 1) := by decide +kernel
theorem dX11_span_129 : decode cX11_span 129 = .ok (.istore 9, 2) := by decide +kernel
theorem dX11_span_131 : decode cX11_span 131 = .ok (.iinc 10 1, 3) := by decide +kernel
theorem dX11_span_134 : decode cX11_span 134 = .ok (.goto (-72), 3) := by decide +kernel
theorem dX11_span_137 : decode cX11_span 137 = .ok (.iload 5, 2) := by decide +kernel
theorem dX11_span_139 : decode cX11_span 139 = .ok (.lookupswitch 31 #[(0, 25), (1, 28)], 25) := by decide +kernel
theorem dX11_span_164 : decode cX11_span 164 = .ok (.iload 7, 2) := by decide +kernel
theorem dX11_span_166 : decode cX11_span 166 = .ok (.ireturn, 1) := by decide +kernel
theorem dX11_span_167 : decode cX11_span 167 = .ok (.iload 8, 2) := by decide +kernel
theorem dX11_span_169 : decode cX11_span 169 = .ok (.ireturn, 1) := by decide +kernel
theorem dX11_span_170 : decode cX11_span 170 = .ok (.iload 9, 2) := by decide +kernel
theorem dX11_span_172 : decode cX11_span 172 = .ok (.ireturn, 1) := by decide +kernel
theorem dX11_status_0 : decode cX11_status 0 = .ok (.iload_n 1, 1) := by decide +kernel
theorem dX11_status_1 : decode cX11_status 1 = .ok (.lookupswitch 37 #[(0, 27), (1, 32)], 27) := by decide +kernel
theorem dX11_status_28 : decode cX11_status 28 = .ok (.aload_n 0, 1) := by decide +kernel
theorem dX11_status_29 : decode cX11_status 29 = .ok (.getfield 391, 3) := by decide +kernel
theorem dX11_status_32 : decode cX11_status 32 = .ok (.ireturn, 1) := by decide +kernel
theorem dX11_status_33 : decode cX11_status 33 = .ok (.aload_n 0, 1) := by decide +kernel
theorem dX11_status_34 : decode cX11_status 34 = .ok (.getfield 394, 3) := by decide +kernel
theorem dX11_status_37 : decode cX11_status 37 = .ok (.ireturn, 1) := by decide +kernel
theorem dX11_status_38 : decode cX11_status 38 = .ok (.iconst (-1), 1) := by decide +kernel
theorem dX11_status_39 : decode cX11_status 39 = .ok (.ireturn, 1) := by decide +kernel
theorem dX11_stays_0 : decode cX11_stays 0 = .ok (.aload_n 0, 1) := by decide +kernel
theorem dX11_stays_1 : decode cX11_stays 1 = .ok (.getfield 90, 3) := by decide +kernel
theorem dX11_stays_4 : decode cX11_stays 4 = .ok (.aload_n 0, 1) := by decide +kernel
theorem dX11_stays_5 : decode cX11_stays 5 = .ok (.getfield 49, 3) := by decide +kernel
theorem dX11_stays_8 : decode cX11_stays 8 = .ok (.invokevirtual 289, 3) := by decide +kernel
theorem dX11_stays_11 : decode cX11_stays 11 = .ok (.ireturn, 1) := by decide +kernel
theorem dX11_tellings_0 : decode cX11_tellings 0 = .ok (.aload_n 0, 1) := by decide +kernel
theorem dX11_tellings_1 : decode cX11_tellings 1 = .ok (.iload_n 1, 1) := by decide +kernel
theorem dX11_tellings_2 : decode cX11_tellings 2 = .ok (.invokevirtual 246, 3) := by decide +kernel
theorem dX11_tellings_5 : decode cX11_tellings 5 = .ok (.aload_n 0, 1) := by decide +kernel
theorem dX11_tellings_6 : decode cX11_tellings 6 = .ok (.iload_n 2, 1) := by decide +kernel
theorem dX11_tellings_7 : decode cX11_tellings 7 = .ok (.invokevirtual 211, 3) := by decide +kernel
theorem dX11_tellings_10 : decode cX11_tellings 10 = .ok (.aload_n 0, 1) := by decide +kernel
theorem dX11_tellings_11 : decode cX11_tellings 11 = .ok (.iload_n 3, 1) := by decide +kernel
theorem dX11_tellings_12 : decode cX11_tellings 12 = .ok (.iconst 0, 1) := by decide +kernel
theorem dX11_tellings_13 : decode cX11_tellings 13 = .ok (.iconst 1, 1) := by decide +kernel
theorem dX11_tellings_14 : decode cX11_tellings 14 = .ok (.invokevirtual 176, 3) := by decide +kernel
theorem dX11_tellings_17 : decode cX11_tellings 17 = .ok (.aload_n 0, 1) := by decide +kernel
theorem dX11_tellings_18 : decode cX11_tellings 18 = .ok (.getfield 90, 3) := by decide +kernel
theorem dX11_tellings_21 : decode cX11_tellings 21 = .ok (.aload_n 0, 1) := by decide +kernel
theorem dX11_tellings_22 : decode cX11_tellings 22 = .ok (.getfield 49, 3) := by decide +kernel
theorem dX11_tellings_25 : decode cX11_tellings 25 = .ok (.iload_n 1, 1) := by decide +kernel
theorem dX11_tellings_26 : decode cX11_tellings 26 = .ok (.iload_n 2, 1) := by decide +kernel
theorem dX11_tellings_27 : decode cX11_tellings 27 = .ok (.invokevirtual 293, 3) := by decide +kernel
theorem dX11_tellings_30 : decode cX11_tellings 30 = .ok (.iload_n 3, 1) := by decide +kernel
theorem dX11_tellings_31 : decode cX11_tellings 31 = .ok (.ifCond .ne 13, 3) := by decide +kernel
theorem dX11_tellings_34 : decode cX11_tellings 34 = .ok (.aload_n 0, 1) := by decide +kernel
theorem dX11_tellings_35 : decode cX11_tellings 35 = .ok (.getfield 90, 3) := by decide +kernel
theorem dX11_tellings_38 : decode cX11_tellings 38 = .ok (.getfield 297, 3) := by decide +kernel
theorem dX11_tellings_41 : decode cX11_tellings 41 = .ok (.goto 10, 3) := by decide +kernel
theorem dX11_tellings_44 : decode cX11_tellings 44 = .ok (.aload_n 0, 1) := by decide +kernel
theorem dX11_tellings_45 : decode cX11_tellings 45 = .ok (.getfield 90, 3) := by decide +kernel
theorem dX11_tellings_48 : decode cX11_tellings 48 = .ok (.getfield 300, 3) := by decide +kernel
theorem dX11_tellings_51 : decode cX11_tellings 51 = .ok (.ireturn, 1) := by decide +kernel
theorem dX11_toldOfCourse_0 : decode cX11_toldOfCourse 0 = .ok (.aload_n 0, 1) := by decide +kernel
theorem dX11_toldOfCourse_1 : decode cX11_toldOfCourse 1 = .ok (.getfield 72, 3) := by decide +kernel
theorem dX11_toldOfCourse_4 : decode cX11_toldOfCourse 4 = .ok (.aload_n 0, 1) := by decide +kernel
theorem dX11_toldOfCourse_5 : decode cX11_toldOfCourse 5 = .ok (.getfield 49, 3) := by decide +kernel
theorem dX11_toldOfCourse_8 : decode cX11_toldOfCourse 8 = .ok (.invokevirtual 199, 3) := by decide +kernel
theorem dX11_toldOfCourse_11 : decode cX11_toldOfCourse 11 = .ok (.iload_n 1, 1) := by decide +kernel
theorem dX11_toldOfCourse_12 : decode cX11_toldOfCourse 12 = .ok (.lookupswitch 44 #[(5, 28), (6, 36)], 28) := by decide +kernel
theorem dX11_toldOfCourse_40 : decode cX11_toldOfCourse 40 = .ok (.aload_n 0, 1) := by decide +kernel
theorem dX11_toldOfCourse_41 : decode cX11_toldOfCourse 41 = .ok (.getfield 72, 3) := by decide +kernel
theorem dX11_toldOfCourse_44 : decode cX11_toldOfCourse 44 = .ok (.getfield 202, 3) := by decide +kernel
theorem dX11_toldOfCourse_47 : decode cX11_toldOfCourse 47 = .ok (.ireturn, 1) := by decide +kernel
theorem dX11_toldOfCourse_48 : decode cX11_toldOfCourse 48 = .ok (.aload_n 0, 1) := by decide +kernel
theorem dX11_toldOfCourse_49 : decode cX11_toldOfCourse 49 = .ok (.getfield 72, 3) := by decide +kernel
theorem dX11_toldOfCourse_52 : decode cX11_toldOfCourse 52 = .ok (.getfield 205, 3) := by decide +kernel
theorem dX11_toldOfCourse_55 : decode cX11_toldOfCourse 55 = .ok (.ireturn, 1) := by decide +kernel
theorem dX11_toldOfCourse_56 : decode cX11_toldOfCourse 56 = .ok (.aload_n 0, 1) := by decide +kernel
theorem dX11_toldOfCourse_57 : decode cX11_toldOfCourse 57 = .ok (.getfield 72, 3) := by decide +kernel
theorem dX11_toldOfCourse_60 : decode cX11_toldOfCourse 60 = .ok (.invokevirtual 208, 3) := by decide +kernel
theorem dX11_toldOfCourse_63 : decode cX11_toldOfCourse 63 = .ok (.ireturn, 1) := by decide +kernel
theorem dX11_told_0 : decode cX11_told 0 = .ok (.aload_n 0, 1) := by decide +kernel
theorem dX11_told_1 : decode cX11_told 1 = .ok (.iload_n 1, 1) := by decide +kernel
theorem dX11_told_2 : decode cX11_told 2 = .ok (.iconst 0, 1) := by decide +kernel
theorem dX11_told_3 : decode cX11_told 3 = .ok (.bipush 10, 2) := by decide +kernel
theorem dX11_told_5 : decode cX11_told 5 = .ok (.invokevirtual 176, 3) := by decide +kernel
theorem dX11_told_8 : decode cX11_told 8 = .ok (.iload_n 1, 1) := by decide +kernel
theorem dX11_told_9 : decode cX11_told 9 = .ok (.tableswitch 120 0 10 #[59, 67, 75, 83, 91, 120, 120, 120, 99, 107, 115], 59) := by decide +kernel
theorem dX11_told_68 : decode cX11_told 68 = .ok (.aload_n 0, 1) := by decide +kernel
theorem dX11_told_69 : decode cX11_told 69 = .ok (.getfield 19, 3) := by decide +kernel
theorem dX11_told_72 : decode cX11_told 72 = .ok (.getfield 137, 3) := by decide +kernel
theorem dX11_told_75 : decode cX11_told 75 = .ok (.ireturn, 1) := by decide +kernel
theorem dX11_told_76 : decode cX11_told 76 = .ok (.aload_n 0, 1) := by decide +kernel
theorem dX11_told_77 : decode cX11_told 77 = .ok (.getfield 19, 3) := by decide +kernel
theorem dX11_told_80 : decode cX11_told 80 = .ok (.getfield 180, 3) := by decide +kernel
theorem dX11_told_83 : decode cX11_told 83 = .ok (.ireturn, 1) := by decide +kernel
theorem dX11_told_84 : decode cX11_told 84 = .ok (.aload_n 0, 1) := by decide +kernel
theorem dX11_told_85 : decode cX11_told 85 = .ok (.getfield 19, 3) := by decide +kernel
theorem dX11_told_88 : decode cX11_told 88 = .ok (.getfield 183, 3) := by decide +kernel
theorem dX11_told_91 : decode cX11_told 91 = .ok (.ireturn, 1) := by decide +kernel
theorem dX11_told_92 : decode cX11_told 92 = .ok (.aload_n 0, 1) := by decide +kernel
theorem dX11_told_93 : decode cX11_told 93 = .ok (.getfield 49, 3) := by decide +kernel
theorem dX11_told_96 : decode cX11_told 96 = .ok (.getfield 186, 3) := by decide +kernel
theorem dX11_told_99 : decode cX11_told 99 = .ok (.ireturn, 1) := by decide +kernel
theorem dX11_told_100 : decode cX11_told 100 = .ok (.aload_n 0, 1) := by decide +kernel
theorem dX11_told_101 : decode cX11_told 101 = .ok (.getfield 19, 3) := by decide +kernel
theorem dX11_told_104 : decode cX11_told 104 = .ok (.getfield 189, 3) := by decide +kernel
theorem dX11_told_107 : decode cX11_told 107 = .ok (.ireturn, 1) := by decide +kernel
theorem dX11_told_108 : decode cX11_told 108 = .ok (.aload_n 0, 1) := by decide +kernel
theorem dX11_told_109 : decode cX11_told 109 = .ok (.getfield 49, 3) := by decide +kernel
theorem dX11_told_112 : decode cX11_told 112 = .ok (.invokevirtual 192, 3) := by decide +kernel
theorem dX11_told_115 : decode cX11_told 115 = .ok (.ireturn, 1) := by decide +kernel
theorem dX11_told_116 : decode cX11_told 116 = .ok (.aload_n 0, 1) := by decide +kernel
theorem dX11_told_117 : decode cX11_told 117 = .ok (.getfield 39, 3) := by decide +kernel
theorem dX11_told_120 : decode cX11_told 120 = .ok (.getfield 167, 3) := by decide +kernel
theorem dX11_told_123 : decode cX11_told 123 = .ok (.ireturn, 1) := by decide +kernel
theorem dX11_told_124 : decode cX11_told 124 = .ok (.aload_n 0, 1) := by decide +kernel
theorem dX11_told_125 : decode cX11_told 125 = .ok (.getfield 134, 3) := by decide +kernel
theorem dX11_told_128 : decode cX11_told 128 = .ok (.ireturn, 1) := by decide +kernel
theorem dX11_told_129 : decode cX11_told 129 = .ok (.aload_n 0, 1) := by decide +kernel
theorem dX11_told_130 : decode cX11_told 130 = .ok (.iload_n 1, 1) := by decide +kernel
theorem dX11_told_131 : decode cX11_told 131 = .ok (.invokevirtual 195, 3) := by decide +kernel
theorem dX11_told_134 : decode cX11_told 134 = .ok (.ireturn, 1) := by decide +kernel
theorem dX11_undo_0 : decode cX11_undo 0 = .ok (.aload_n 0, 1) := by decide +kernel
theorem dX11_undo_1 : decode cX11_undo 1 = .ok (.getfield 56, 3) := by decide +kernel
theorem dX11_undo_4 : decode cX11_undo 4 = .ok (.getfield 144, 3) := by decide +kernel
theorem dX11_undo_7 : decode cX11_undo 7 = .ok (.ifCond .ne 5, 3) := by decide +kernel
theorem dX11_undo_10 : decode cX11_undo 10 = .ok (.iconst (-1), 1) := by decide +kernel
theorem dX11_undo_11 : decode cX11_undo 11 = .ok (.ireturn, 1) := by decide +kernel
theorem dX11_undo_12 : decode cX11_undo 12 = .ok (.aload_n 0, 1) := by decide +kernel
theorem dX11_undo_13 : decode cX11_undo 13 = .ok (.getfield 56, 3) := by decide +kernel
theorem dX11_undo_16 : decode cX11_undo 16 = .ok (.aload_n 0, 1) := by decide +kernel
theorem dX11_undo_17 : decode cX11_undo 17 = .ok (.getfield 49, 3) := by decide +kernel
theorem dX11_undo_20 : decode cX11_undo 20 = .ok (.invokevirtual 173, 3) := by decide +kernel
theorem dX11_undo_23 : decode cX11_undo 23 = .ok (.aload_n 0, 1) := by decide +kernel
theorem dX11_undo_24 : decode cX11_undo 24 = .ok (.iconst 0, 1) := by decide +kernel
theorem dX11_undo_25 : decode cX11_undo 25 = .ok (.putfield 134, 3) := by decide +kernel
theorem dX11_undo_28 : decode cX11_undo 28 = .ok (.aload_n 0, 1) := by decide +kernel
theorem dX11_undo_29 : decode cX11_undo 29 = .ok (.getfield 56, 3) := by decide +kernel
theorem dX11_undo_32 : decode cX11_undo 32 = .ok (.getfield 144, 3) := by decide +kernel
theorem dX11_undo_35 : decode cX11_undo 35 = .ok (.ireturn, 1) := by decide +kernel
theorem dX11_uphill_0 : decode cX11_uphill 0 = .ok (.iconst 0, 1) := by decide +kernel
theorem dX11_uphill_1 : decode cX11_uphill 1 = .ok (.istore_n 1, 1) := by decide +kernel
theorem dX11_uphill_2 : decode cX11_uphill 2 = .ok (.iconst 0, 1) := by decide +kernel
theorem dX11_uphill_3 : decode cX11_uphill 3 = .ok (.istore_n 2, 1) := by decide +kernel
theorem dX11_uphill_4 : decode cX11_uphill 4 = .ok (.iload_n 2, 1) := by decide +kernel
theorem dX11_uphill_5 : decode cX11_uphill 5 = .ok (.aload_n 0, 1) := by decide +kernel
theorem dX11_uphill_6 : decode cX11_uphill 6 = .ok (.getfield 19, 3) := by decide +kernel
theorem dX11_uphill_9 : decode cX11_uphill 9 = .ok (.getfield 137, 3) := by decide +kernel
theorem dX11_uphill_12 : decode cX11_uphill 12 = .ok (.if_icmp .ge 54, 3) := by decide +kernel
theorem dX11_uphill_15 : decode cX11_uphill 15 = .ok (.aload_n 0, 1) := by decide +kernel
theorem dX11_uphill_16 : decode cX11_uphill 16 = .ok (.getfield 72, 3) := by decide +kernel
theorem dX11_uphill_19 : decode cX11_uphill 19 = .ok (.aload_n 0, 1) := by decide +kernel
theorem dX11_uphill_20 : decode cX11_uphill 20 = .ok (.getfield 49, 3) := by decide +kernel
theorem dX11_uphill_23 : decode cX11_uphill 23 = .ok (.iload_n 2, 1) := by decide +kernel
theorem dX11_uphill_24 : decode cX11_uphill 24 = .ok (.invokevirtual 224, 3) := by decide +kernel
theorem dX11_uphill_27 : decode cX11_uphill 27 = .ok (.istore_n 3, 1) := by decide +kernel
theorem dX11_uphill_28 : decode cX11_uphill 28 = .ok (.iload_n 3, 1) := by decide +kernel
theorem dX11_uphill_29 : decode cX11_uphill 29 = .ok (.iconst (-1), 1) := by decide +kernel
theorem dX11_uphill_30 : decode cX11_uphill 30 = .ok (.if_icmp .eq 30, 3) := by decide +kernel
theorem dX11_uphill_33 : decode cX11_uphill 33 = .ok (.aload_n 0, 1) := by decide +kernel
theorem dX11_uphill_34 : decode cX11_uphill 34 = .ok (.getfield 19, 3) := by decide +kernel
theorem dX11_uphill_37 : decode cX11_uphill 37 = .ok (.getfield 214, 3) := by decide +kernel
theorem dX11_uphill_40 : decode cX11_uphill 40 = .ok (.iload_n 3, 1) := by decide +kernel
theorem dX11_uphill_41 : decode cX11_uphill 41 = .ok (.iaload, 1) := by decide +kernel
theorem dX11_uphill_42 : decode cX11_uphill 42 = .ok (.aload_n 0, 1) := by decide +kernel
theorem dX11_uphill_43 : decode cX11_uphill 43 = .ok (.getfield 19, 3) := by decide +kernel
theorem dX11_uphill_46 : decode cX11_uphill 46 = .ok (.getfield 214, 3) := by decide +kernel
theorem dX11_uphill_49 : decode cX11_uphill 49 = .ok (.iload_n 2, 1) := by decide +kernel
theorem dX11_uphill_50 : decode cX11_uphill 50 = .ok (.iaload, 1) := by decide +kernel
theorem dX11_uphill_51 : decode cX11_uphill 51 = .ok (.if_icmp .le 9, 3) := by decide +kernel
theorem dX11_uphill_54 : decode cX11_uphill 54 = .ok (.iload_n 1, 1) := by decide +kernel
theorem dX11_uphill_55 : decode cX11_uphill 55 = .ok (.iconst 1, 1) := by decide +kernel
theorem dX11_uphill_56 : decode cX11_uphill 56 = .ok (.iload_n 2, 1) := by decide +kernel
theorem dX11_uphill_57 : decode cX11_uphill 57 = .ok (.ishl, 1) := by decide +kernel
theorem dX11_uphill_58 : decode cX11_uphill 58 = .ok (.ior, 1) := by decide +kernel
theorem dX11_uphill_59 : decode cX11_uphill 59 = .ok (.istore_n 1, 1) := by decide +kernel
theorem dX11_uphill_60 : decode cX11_uphill 60 = .ok (.iinc 2 1, 3) := by decide +kernel
theorem dX11_uphill_63 : decode cX11_uphill 63 = .ok (.goto (-59), 3) := by decide +kernel
theorem dX11_uphill_66 : decode cX11_uphill 66 = .ok (.iload_n 1, 1) := by decide +kernel
theorem dX11_uphill_67 : decode cX11_uphill 67 = .ok (.ireturn, 1) := by decide +kernel
theorem dX11_way_0 : decode cX11_way 0 = .ok (.aload_n 0, 1) := by decide +kernel
theorem dX11_way_1 : decode cX11_way 1 = .ok (.iload_n 1, 1) := by decide +kernel
theorem dX11_way_2 : decode cX11_way 2 = .ok (.invokevirtual 211, 3) := by decide +kernel
theorem dX11_way_5 : decode cX11_way 5 = .ok (.aload_n 0, 1) := by decide +kernel
theorem dX11_way_6 : decode cX11_way 6 = .ok (.iload_n 2, 1) := by decide +kernel
theorem dX11_way_7 : decode cX11_way 7 = .ok (.invokevirtual 211, 3) := by decide +kernel
theorem dX11_way_10 : decode cX11_way 10 = .ok (.aload_n 0, 1) := by decide +kernel
theorem dX11_way_11 : decode cX11_way 11 = .ok (.getfield 19, 3) := by decide +kernel
theorem dX11_way_14 : decode cX11_way 14 = .ok (.iload_n 1, 1) := by decide +kernel
theorem dX11_way_15 : decode cX11_way 15 = .ok (.iload_n 2, 1) := by decide +kernel
theorem dX11_way_16 : decode cX11_way 16 = .ok (.invokevirtual 331, 3) := by decide +kernel
theorem dX11_way_19 : decode cX11_way 19 = .ok (.ireturn, 1) := by decide +kernel
theorem dX11_who_0 : decode cX11_who 0 = .ok (.aload_n 0, 1) := by decide +kernel
theorem dX11_who_1 : decode cX11_who 1 = .ok (.iload_n 1, 1) := by decide +kernel
theorem dX11_who_2 : decode cX11_who 2 = .ok (.iconst 0, 1) := by decide +kernel
theorem dX11_who_3 : decode cX11_who 3 = .ok (.iconst 2, 1) := by decide +kernel
theorem dX11_who_4 : decode cX11_who 4 = .ok (.invokevirtual 176, 3) := by decide +kernel
theorem dX11_who_7 : decode cX11_who 7 = .ok (.aload_n 0, 1) := by decide +kernel
theorem dX11_who_8 : decode cX11_who 8 = .ok (.getfield 90, 3) := by decide +kernel
theorem dX11_who_11 : decode cX11_who 11 = .ok (.aload_n 0, 1) := by decide +kernel
theorem dX11_who_12 : decode cX11_who 12 = .ok (.getfield 49, 3) := by decide +kernel
theorem dX11_who_15 : decode cX11_who 15 = .ok (.aload_n 0, 1) := by decide +kernel
theorem dX11_who_16 : decode cX11_who 16 = .ok (.getfield 39, 3) := by decide +kernel
theorem dX11_who_19 : decode cX11_who 19 = .ok (.invokevirtual 306, 3) := by decide +kernel
theorem dX11_who_22 : decode cX11_who 22 = .ok (.iload_n 1, 1) := by decide +kernel
theorem dX11_who_23 : decode cX11_who 23 = .ok (.lookupswitch 41 #[(0, 25), (1, 33)], 25) := by decide +kernel
theorem dX11_who_48 : decode cX11_who 48 = .ok (.aload_n 0, 1) := by decide +kernel
theorem dX11_who_49 : decode cX11_who 49 = .ok (.getfield 90, 3) := by decide +kernel
theorem dX11_who_52 : decode cX11_who 52 = .ok (.getfield 310, 3) := by decide +kernel
theorem dX11_who_55 : decode cX11_who 55 = .ok (.ireturn, 1) := by decide +kernel
theorem dX11_who_56 : decode cX11_who 56 = .ok (.aload_n 0, 1) := by decide +kernel
theorem dX11_who_57 : decode cX11_who 57 = .ok (.getfield 90, 3) := by decide +kernel
theorem dX11_who_60 : decode cX11_who 60 = .ok (.getfield 313, 3) := by decide +kernel
theorem dX11_who_63 : decode cX11_who 63 = .ok (.ireturn, 1) := by decide +kernel
theorem dX11_who_64 : decode cX11_who 64 = .ok (.aload_n 0, 1) := by decide +kernel
theorem dX11_who_65 : decode cX11_who 65 = .ok (.getfield 90, 3) := by decide +kernel
theorem dX11_who_68 : decode cX11_who 68 = .ok (.getfield 316, 3) := by decide +kernel
theorem dX11_who_71 : decode cX11_who 71 = .ok (.ireturn, 1) := by decide +kernel
theorem dX11_would_0 : decode cX11_would 0 = .ok (.aload_n 0, 1) := by decide +kernel
theorem dX11_would_1 : decode cX11_would 1 = .ok (.iload_n 1, 1) := by decide +kernel
theorem dX11_would_2 : decode cX11_would 2 = .ok (.bipush (-60), 2) := by decide +kernel
theorem dX11_would_4 : decode cX11_would 4 = .ok (.bipush 60, 2) := by decide +kernel
theorem dX11_would_6 : decode cX11_would 6 = .ok (.invokevirtual 176, 3) := by decide +kernel
theorem dX11_would_9 : decode cX11_would 9 = .ok (.aload_n 0, 1) := by decide +kernel
theorem dX11_would_10 : decode cX11_would 10 = .ok (.iload_n 2, 1) := by decide +kernel
theorem dX11_would_11 : decode cX11_would 11 = .ok (.iconst 0, 1) := by decide +kernel
theorem dX11_would_12 : decode cX11_would 12 = .ok (.bipush 54, 2) := by decide +kernel
theorem dX11_would_14 : decode cX11_would 14 = .ok (.invokevirtual 176, 3) := by decide +kernel
theorem dX11_would_17 : decode cX11_would 17 = .ok (.aload_n 0, 1) := by decide +kernel
theorem dX11_would_18 : decode cX11_would 18 = .ok (.iload_n 3, 1) := by decide +kernel
theorem dX11_would_19 : decode cX11_would 19 = .ok (.iconst 0, 1) := by decide +kernel
theorem dX11_would_20 : decode cX11_would 20 = .ok (.bipush 54, 2) := by decide +kernel
theorem dX11_would_22 : decode cX11_would 22 = .ok (.invokevirtual 176, 3) := by decide +kernel
theorem dX11_would_25 : decode cX11_would 25 = .ok (.aload_n 0, 1) := by decide +kernel
theorem dX11_would_26 : decode cX11_would 26 = .ok (.iload 4, 2) := by decide +kernel
theorem dX11_would_28 : decode cX11_would 28 = .ok (.iconst 0, 1) := by decide +kernel
theorem dX11_would_29 : decode cX11_would 29 = .ok (.bipush 6, 2) := by decide +kernel
theorem dX11_would_31 : decode cX11_would 31 = .ok (.invokevirtual 176, 3) := by decide +kernel
theorem dX11_would_34 : decode cX11_would 34 = .ok (.aload_n 0, 1) := by decide +kernel
theorem dX11_would_35 : decode cX11_would 35 = .ok (.iload 5, 2) := by decide +kernel
theorem dX11_would_37 : decode cX11_would 37 = .ok (.iconst 0, 1) := by decide +kernel
theorem dX11_would_38 : decode cX11_would 38 = .ok (.bipush 9, 2) := by decide +kernel
theorem dX11_would_40 : decode cX11_would 40 = .ok (.invokevirtual 176, 3) := by decide +kernel
theorem dX11_would_43 : decode cX11_would 43 = .ok (.aload_n 0, 1) := by decide +kernel
theorem dX11_would_44 : decode cX11_would 44 = .ok (.iload 6, 2) := by decide +kernel
theorem dX11_would_46 : decode cX11_would 46 = .ok (.iconst 0, 1) := by decide +kernel
theorem dX11_would_47 : decode cX11_would 47 = .ok (.sipush 999, 3) := by decide +kernel
theorem dX11_would_50 : decode cX11_would 50 = .ok (.invokevirtual 176, 3) := by decide +kernel
theorem dX11_would_53 : decode cX11_would 53 = .ok (.aload_n 0, 1) := by decide +kernel
theorem dX11_would_54 : decode cX11_would 54 = .ok (.iload 7, 2) := by decide +kernel
theorem dX11_would_56 : decode cX11_would 56 = .ok (.iconst 0, 1) := by decide +kernel
theorem dX11_would_57 : decode cX11_would 57 = .ok (.sipush 500, 3) := by decide +kernel
theorem dX11_would_60 : decode cX11_would 60 = .ok (.invokevirtual 176, 3) := by decide +kernel
theorem dX11_would_63 : decode cX11_would 63 = .ok (.aload_n 0, 1) := by decide +kernel
theorem dX11_would_64 : decode cX11_would 64 = .ok (.iload 8, 2) := by decide +kernel
theorem dX11_would_66 : decode cX11_would 66 = .ok (.iconst 0, 1) := by decide +kernel
theorem dX11_would_67 : decode cX11_would 67 = .ok (.bipush 11, 2) := by decide +kernel
theorem dX11_would_69 : decode cX11_would 69 = .ok (.invokevirtual 176, 3) := by decide +kernel
theorem dX11_would_72 : decode cX11_would 72 = .ok (.aload_n 0, 1) := by decide +kernel
theorem dX11_would_73 : decode cX11_would 73 = .ok (.iload 9, 2) := by decide +kernel
theorem dX11_would_75 : decode cX11_would 75 = .ok (.iconst 0, 1) := by decide +kernel
theorem dX11_would_76 : decode cX11_would 76 = .ok (.bipush 11, 2) := by decide +kernel
theorem dX11_would_78 : decode cX11_would 78 = .ok (.invokevirtual 176, 3) := by decide +kernel
theorem dX11_would_81 : decode cX11_would 81 = .ok (.aload_n 0, 1) := by decide +kernel
theorem dX11_would_82 : decode cX11_would 82 = .ok (.getfield 29, 3) := by decide +kernel
theorem dX11_would_85 : decode cX11_would 85 = .ok (.getfield 272, 3) := by decide +kernel
theorem dX11_would_88 : decode cX11_would 88 = .ok (.astore 10, 2) := by decide +kernel
theorem dX11_would_90 : decode cX11_would 90 = .ok (.aload 10, 2) := by decide +kernel
theorem dX11_would_92 : decode cX11_would 92 = .ok (.iconst 0, 1) := by decide +kernel
theorem dX11_would_93 : decode cX11_would 93 = .ok (.iload_n 1, 1) := by decide +kernel
theorem dX11_would_94 : decode cX11_would 94 = .ok (.iastore, 1) := by decide +kernel
theorem dX11_would_95 : decode cX11_would 95 = .ok (.aload 10, 2) := by decide +kernel
theorem dX11_would_97 : decode cX11_would 97 = .ok (.iconst 1, 1) := by decide +kernel
theorem dX11_would_98 : decode cX11_would 98 = .ok (.iload_n 2, 1) := by decide +kernel
theorem dX11_would_99 : decode cX11_would 99 = .ok (.iastore, 1) := by decide +kernel
theorem dX11_would_100 : decode cX11_would 100 = .ok (.aload 10, 2) := by decide +kernel
theorem dX11_would_102 : decode cX11_would 102 = .ok (.iconst 2, 1) := by decide +kernel
theorem dX11_would_103 : decode cX11_would 103 = .ok (.iload_n 3, 1) := by decide +kernel
theorem dX11_would_104 : decode cX11_would 104 = .ok (.iastore, 1) := by decide +kernel
theorem dX11_would_105 : decode cX11_would 105 = .ok (.aload 10, 2) := by decide +kernel
theorem dX11_would_107 : decode cX11_would 107 = .ok (.iconst 3, 1) := by decide +kernel
theorem dX11_would_108 : decode cX11_would 108 = .ok (.iload 4, 2) := by decide +kernel
theorem dX11_would_110 : decode cX11_would 110 = .ok (.iastore, 1) := by decide +kernel
theorem dX11_would_111 : decode cX11_would 111 = .ok (.aload 10, 2) := by decide +kernel
theorem dX11_would_113 : decode cX11_would 113 = .ok (.iconst 4, 1) := by decide +kernel
theorem dX11_would_114 : decode cX11_would 114 = .ok (.iload 5, 2) := by decide +kernel
theorem dX11_would_116 : decode cX11_would 116 = .ok (.iastore, 1) := by decide +kernel
theorem dX11_would_117 : decode cX11_would 117 = .ok (.aload 10, 2) := by decide +kernel
theorem dX11_would_119 : decode cX11_would 119 = .ok (.iconst 5, 1) := by decide +kernel
theorem dX11_would_120 : decode cX11_would 120 = .ok (.iload 6, 2) := by decide +kernel
theorem dX11_would_122 : decode cX11_would 122 = .ok (.iastore, 1) := by decide +kernel
theorem dX11_would_123 : decode cX11_would 123 = .ok (.aload 10, 2) := by decide +kernel
theorem dX11_would_125 : decode cX11_would 125 = .ok (.bipush 6, 2) := by decide +kernel
theorem dX11_would_127 : decode cX11_would 127 = .ok (.iload 7, 2) := by decide +kernel
theorem dX11_would_129 : decode cX11_would 129 = .ok (.iastore, 1) := by decide +kernel
theorem dX11_would_130 : decode cX11_would 130 = .ok (.aload 10, 2) := by decide +kernel
theorem dX11_would_132 : decode cX11_would 132 = .ok (.bipush 7, 2) := by decide +kernel
theorem dX11_would_134 : decode cX11_would 134 = .ok (.iload 8, 2) := by decide +kernel
theorem dX11_would_136 : decode cX11_would 136 = .ok (.iastore, 1) := by decide +kernel
theorem dX11_would_137 : decode cX11_would 137 = .ok (.aload 10, 2) := by decide +kernel
theorem dX11_would_139 : decode cX11_would 139 = .ok (.bipush 8, 2) := by decide +kernel
theorem dX11_would_141 : decode cX11_would 141 = .ok (.iload 9, 2) := by decide +kernel
theorem dX11_would_143 : decode cX11_would 143 = .ok (.iastore, 1) := by decide +kernel
theorem dX11_would_144 : decode cX11_would 144 = .ok (.aload_n 0, 1) := by decide +kernel
theorem dX11_would_145 : decode cX11_would 145 = .ok (.getfield 29, 3) := by decide +kernel
theorem dX11_would_148 : decode cX11_would 148 = .ok (.invokevirtual 275, 3) := by decide +kernel
theorem dX11_would_151 : decode cX11_would 151 = .ok (.ireturn, 1) := by decide +kernel
theorem dX11_year_0 : decode cX11_year 0 = .ok (.aload_n 0, 1) := by decide +kernel
theorem dX11_year_1 : decode cX11_year 1 = .ok (.iload_n 2, 1) := by decide +kernel
theorem dX11_year_2 : decode cX11_year 2 = .ok (.iconst 1, 1) := by decide +kernel
theorem dX11_year_3 : decode cX11_year 3 = .ok (.bipush 96, 2) := by decide +kernel
theorem dX11_year_5 : decode cX11_year 5 = .ok (.invokevirtual 176, 3) := by decide +kernel
theorem dX11_year_8 : decode cX11_year 8 = .ok (.aload_n 0, 1) := by decide +kernel
theorem dX11_year_9 : decode cX11_year 9 = .ok (.iload_n 3, 1) := by decide +kernel
theorem dX11_year_10 : decode cX11_year 10 = .ok (.iconst 0, 1) := by decide +kernel
theorem dX11_year_11 : decode cX11_year 11 = .ok (.bipush 16, 2) := by decide +kernel
theorem dX11_year_13 : decode cX11_year 13 = .ok (.invokevirtual 176, 3) := by decide +kernel
theorem dX11_year_16 : decode cX11_year 16 = .ok (.aload_n 0, 1) := by decide +kernel
theorem dX11_year_17 : decode cX11_year 17 = .ok (.iload 4, 2) := by decide +kernel
theorem dX11_year_19 : decode cX11_year 19 = .ok (.iconst 0, 1) := by decide +kernel
theorem dX11_year_20 : decode cX11_year 20 = .ok (.iconst 3, 1) := by decide +kernel
theorem dX11_year_21 : decode cX11_year 21 = .ok (.invokevirtual 176, 3) := by decide +kernel
theorem dX11_year_24 : decode cX11_year 24 = .ok (.aload_n 0, 1) := by decide +kernel
theorem dX11_year_25 : decode cX11_year 25 = .ok (.getfield 97, 3) := by decide +kernel
theorem dX11_year_28 : decode cX11_year 28 = .ok (.aload_n 0, 1) := by decide +kernel
theorem dX11_year_29 : decode cX11_year 29 = .ok (.getfield 49, 3) := by decide +kernel
theorem dX11_year_32 : decode cX11_year 32 = .ok (.iload_n 1, 1) := by decide +kernel
theorem dX11_year_33 : decode cX11_year 33 = .ok (.iload_n 2, 1) := by decide +kernel
theorem dX11_year_34 : decode cX11_year 34 = .ok (.iload_n 3, 1) := by decide +kernel
theorem dX11_year_35 : decode cX11_year 35 = .ok (.invokevirtual 370, 3) := by decide +kernel
theorem dX11_year_38 : decode cX11_year 38 = .ok (.iload 4, 2) := by decide +kernel
theorem dX11_year_40 : decode cX11_year 40 = .ok (.tableswitch 55 0 2 #[28, 36, 47], 28) := by decide +kernel
theorem dX11_year_68 : decode cX11_year 68 = .ok (.aload_n 0, 1) := by decide +kernel
theorem dX11_year_69 : decode cX11_year 69 = .ok (.getfield 72, 3) := by decide +kernel
theorem dX11_year_72 : decode cX11_year 72 = .ok (.invokevirtual 208, 3) := by decide +kernel
theorem dX11_year_75 : decode cX11_year 75 = .ok (.ireturn, 1) := by decide +kernel
theorem dX11_year_76 : decode cX11_year 76 = .ok (.aload_n 0, 1) := by decide +kernel
theorem dX11_year_77 : decode cX11_year 77 = .ok (.getfield 97, 3) := by decide +kernel
theorem dX11_year_80 : decode cX11_year 80 = .ok (.getfield 374, 3) := by decide +kernel
theorem dX11_year_83 : decode cX11_year 83 = .ok (.invokevirtual 192, 3) := by decide +kernel
theorem dX11_year_86 : decode cX11_year 86 = .ok (.ireturn, 1) := by decide +kernel
theorem dX11_year_87 : decode cX11_year 87 = .ok (.aload_n 0, 1) := by decide +kernel
theorem dX11_year_88 : decode cX11_year 88 = .ok (.getfield 97, 3) := by decide +kernel
theorem dX11_year_91 : decode cX11_year 91 = .ok (.getfield 377, 3) := by decide +kernel
theorem dX11_year_94 : decode cX11_year 94 = .ok (.ireturn, 1) := by decide +kernel
theorem dX11_year_95 : decode cX11_year 95 = .ok (.aload_n 0, 1) := by decide +kernel
theorem dX11_year_96 : decode cX11_year 96 = .ok (.getfield 72, 3) := by decide +kernel
theorem dX11_year_99 : decode cX11_year 99 = .ok (.getfield 205, 3) := by decide +kernel
theorem dX11_year_102 : decode cX11_year 102 = .ok (.ireturn, 1) := by decide +kernel
noncomputable def r_X5_popInto (i0 : Nat) (i1 : Nat) (m : Mem) : Option Mem :=
  if (m 5 i0 0) ≤ 0 then (some m) else (if inb ((m 5 i0 0) - 1) 16 = true then (if (m 46 i0 (((m 5 i0 0) - 1).toNatClampNeg)) = 0 then (some m) else (if (m 46 i0 (((m 5 i0 0) - 1).toNatClampNeg)) = 0 then (none) else (bd1 (r_X7_copyFrom i1 (3 + 16 * i0 + (((m 5 i0 0) - 1).toNatClampNeg)) (wr m 5 i0 0 ((m 5 i0 0) - 1))) fun m6 => (some m6)))) else none)
set_option maxHeartbeats 4000000 in
set_option maxRecDepth 20000 in
theorem ok_X5_popInto (i0 : Nat) (i1 : Nat) (m : Mem) {m' : Mem} (h : r_X5_popInto i0 i1 m = some m') : Mt yX5_popInto cX5_popInto 2 none 2 109 0 0 [vR 5 i0, vR 7 i1] m oV m' := by
  refine Mt.of (by decide) (Nat.le_of_ble_eq_true rfl) (by decide +kernel) (hhF_ne (by decide)) ?_
  show Xj RX5 cX5_popInto 2 none 2 109 0 0 0 0 0 [(0, vR 5 i0), (1, vR 7 i1)] [] m oV m'
  unfold r_X5_popInto at h
  refine xj_aload_n 0 dX5_popInto_0 rfl ?_
  refine xg_getI (x := (m 5 i0 0)) dX5_popInto_1 fl_X5_17 rfl rfl ?_
  refine xj_if_le (tgt := 44) dX5_popInto_4 (by decide) (fun c1 => ?_) (fun c1 => ?_)
  · rw [if_pos c1] at h
    cases h
    exact xj_return dX5_popInto_44 (by decide) (by decide)
  · rw [if_neg c1] at h
    refine xj_aload_n 0 dX5_popInto_7 rfl ?_
    refine xg_getR (k' := 46) (i' := i0) dX5_popInto_8 fl_X5_11 rfl ?_
    refine xj_aload_n 0 dX5_popInto_11 rfl ?_
    refine xg_getI (x := (m 5 i0 0)) dX5_popInto_12 fl_X5_17 rfl rfl ?_
    refine xj_iconst (z := 1) dX5_popInto_15 (by decide) ?_
    refine xj_isub dX5_popInto_16 ?_
    by_cases c2 : inb ((m 5 i0 0) - 1) 16 = true
    case neg => rw [if_neg c2] at h; cases h
    rw [if_pos c2] at h
    refine xg_aaldN (k' := 7) (i' := 3 + 16 * i0 + (((m 5 i0 0) - 1).toNatClampNeg)) (n := ((m 5 i0 0) - 1).toNatClampNeg) (z := (m 46 i0 (((m 5 i0 0) - 1).toNatClampNeg))) dX5_popInto_17 (by decide) (by decide) (inb_in c2) rfl rfl rfl (fun c3 => ?_) (fun c3 => ?_)
    · rw [if_pos c3] at h
      refine xj_ifnullN (tgt := 44) dX5_popInto_18 (by decide) ?_
      cases h
      exact xj_return dX5_popInto_44 (by decide) (by decide)
    · rw [if_neg c3] at h
      refine xj_ifnull dX5_popInto_18 ?_
      refine xj_aload_n 0 dX5_popInto_21 rfl ?_
      refine xj_dup dX5_popInto_22 rfl ?_
      refine xg_getI (x := (m 5 i0 0)) dX5_popInto_23 fl_X5_17 rfl rfl ?_
      refine xj_iconst (z := 1) dX5_popInto_26 (by decide) ?_
      refine xj_isub dX5_popInto_27 ?_
      refine xj_putI dX5_popInto_28 fw_X5_17 rfl ?_
      refine xj_aload_n 1 dX5_popInto_31 rfl ?_
      refine xj_aload_n 0 dX5_popInto_32 rfl ?_
      refine xg_getR (k' := 46) (i' := i0) dX5_popInto_33 fl_X5_11 rfl ?_
      refine xj_aload_n 0 dX5_popInto_36 rfl ?_
      refine xg_getI (x := ((m 5 i0 0) - 1)) dX5_popInto_37 fl_X5_17 rfl (by first | rfl | simp [wr]) ?_
      refine xg_aaldN (k' := 7) (i' := 3 + 16 * i0 + (((m 5 i0 0) - 1).toNatClampNeg)) (n := ((m 5 i0 0) - 1).toNatClampNeg) (z := (m 46 i0 (((m 5 i0 0) - 1).toNatClampNeg))) dX5_popInto_40 (by decide) (by decide) (inb_in c2) rfl rfl rfl (fun c4 => ?_) (fun c4 => ?_)
      · rw [if_pos c4] at h
        cases h
      · rw [if_neg c4] at h
        obtain ⟨m6, e5, h⟩ := bd1_some h
        refine xc_Vv0 (st := []) (ok_X7_copyFrom i1 (3 + 16 * i0 + (((m 5 i0 0) - 1).toNatClampNeg)) (wr m 5 i0 0 ((m 5 i0 0) - 1)) e5) dX5_popInto_41 cv_X5_26 rfl rfl (Nat.le_of_ble_eq_true rfl) (by decide) (by decide) (by decide) (by decide) ?_
        cases h
        exact xj_return dX5_popInto_44 (by decide) (by decide)
noncomputable def r_X5_clear (i0 : Nat) (m : Mem) : Option Mem :=
  some (wr m 5 i0 0 0)
set_option maxHeartbeats 4000000 in
set_option maxRecDepth 20000 in
theorem ok_X5_clear (i0 : Nat) (m : Mem) {m' : Mem} (h : r_X5_clear i0 m = some m') : Mt yX5_clear cX5_clear 1 none 1 0 0 0 [vR 5 i0] m oV m' := by
  refine Mt.of (by decide) (Nat.le_of_ble_eq_true rfl) (by decide +kernel) (hhF_ne (by decide)) ?_
  show Xj RX5 cX5_clear 1 none 1 0 0 0 0 0 0 [(0, vR 5 i0)] [] m oV m'
  unfold r_X5_clear at h
  refine xj_aload_n 0 dX5_clear_0 rfl ?_
  refine xj_iconst (z := 0) dX5_clear_1 (by decide) ?_
  refine xj_putI dX5_clear_2 fw_X5_17 rfl ?_
  cases h
  exact xj_return dX5_clear_5 (by decide) (by decide)
noncomputable def r_X2_clear (m : Mem) : Option Mem :=
  some (wr m 2 0 0 0)
set_option maxHeartbeats 4000000 in
set_option maxRecDepth 20000 in
theorem ok_X2_clear (m : Mem) {m' : Mem} (h : r_X2_clear m = some m') : Mt yX2_clear cX2_clear 1 none 1 0 0 0 [vR 2 0] m oV m' := by
  refine Mt.of (by decide) (Nat.le_of_ble_eq_true rfl) (by decide +kernel) (hhF_ne (by decide)) ?_
  show Xj RX2 cX2_clear 1 none 1 0 0 0 0 0 0 [(0, vR 2 0)] [] m oV m'
  unfold r_X2_clear at h
  refine xj_aload_n 0 dX2_clear_0 rfl ?_
  refine xj_iconst (z := 0) dX2_clear_1 (by decide) ?_
  refine xj_putI dX2_clear_2 fw_X2_23 rfl ?_
  cases h
  exact xj_return dX2_clear_5 (by decide) (by decide)
noncomputable def r_X11_need (x1 : Int32) (m : Mem) : Option ((Unit ⊕ Nat) × Mem) :=
  if x1 = 0 then (some (Sum.inr 1, (wr m 11 0 16 ((m 11 0 16) + 1)))) else (some (Sum.inl (), m))
set_option maxHeartbeats 4000000 in
set_option maxRecDepth 20000 in
theorem ok_X11_need (x1 : Int32) (m : Mem) {z : (Unit ⊕ Nat)} {m' : Mem} (h : r_X11_need x1 m = some (z, m')) : Mt yX11_need cX11_need 2 none 6 90 1 6 [vR 11 0, vI x1] m (oX (fun _ => oV) z) m' := by
  refine Mt.of (by decide) (Nat.le_of_ble_eq_true rfl) (by decide +kernel) (hhF_ne (by decide)) ?_
  show Xj RX11 cX11_need 2 none 6 90 1 6 0 0 0 [(0, vR 11 0), (1, vI x1)] [] m (oX (fun _ => oV) z) m'
  unfold r_X11_need at h
  refine xj_iload_n 1 dX11_need_0 rfl ?_
  refine xj_if_ne (tgt := 25) dX11_need_1 (by decide) (fun c1 => ?_) (fun c1 => ?_)
  · rw [if_neg c1] at h
    cases h
    exact xj_return dX11_need_25 (by decide) (by decide)
  · rw [if_pos c1] at h
    refine xj_aload_n 0 dX11_need_4 rfl ?_
    refine xj_dup dX11_need_5 rfl ?_
    refine xg_getI (x := (m 11 0 16)) dX11_need_6 fl_X11_394 rfl rfl ?_
    refine xj_iconst (z := 1) dX11_need_9 (by decide) ?_
    refine xj_iadd dX11_need_10 ?_
    refine xj_putI dX11_need_11 fw_X11_394 rfl ?_
    cases h
    exact xj_throw (n := 0) dX11_need_14 dX11_need_17 dX11_need_18 dX11_need_21 dX11_need_24 th_1 (by decide) (Nat.le_of_ble_eq_true rfl) (by decide) (by decide) (by decide)
noncomputable def r_X11_needRange (x1 : Int32) (x2 : Int32) (x3 : Int32) (m : Mem) : Option ((Unit ⊕ Nat) × Mem) :=
  if x1 < x2 then (thr (r_X11_need 0 m) fun z2 m3 => (some (Sum.inl (), m3))) else (if x3 < x1 then (thr (r_X11_need 0 m) fun z6 m7 => (some (Sum.inl (), m7))) else (thr (r_X11_need 1 m) fun z9 m10 => (some (Sum.inl (), m10))))
set_option maxHeartbeats 4000000 in
set_option maxRecDepth 20000 in
theorem ok_X11_needRange (x1 : Int32) (x2 : Int32) (x3 : Int32) (m : Mem) {z : (Unit ⊕ Nat)} {m' : Mem} (h : r_X11_needRange x1 x2 x3 m = some (z, m')) : Mt yX11_needRange cX11_needRange 4 none 7 111 1 6 [vR 11 0, vI x1, vI x2, vI x3] m (oX (fun _ => oV) z) m' := by
  refine Mt.of (by decide) (Nat.le_of_ble_eq_true rfl) (by decide +kernel) (hhF_ne (by decide)) ?_
  show Xj RX11 cX11_needRange 4 none 7 111 1 6 0 0 0 [(0, vR 11 0), (1, vI x1), (2, vI x2), (3, vI x3)] [] m (oX (fun _ => oV) z) m'
  unfold r_X11_needRange at h
  refine xj_aload_n 0 dX11_needRange_0 rfl ?_
  refine xj_iload_n 1 dX11_needRange_1 rfl ?_
  refine xj_iload_n 2 dX11_needRange_2 rfl ?_
  refine xj_icmp_lt (tgt := 15) dX11_needRange_3 (by decide) (fun c1 => ?_) (fun c1 => ?_)
  · rw [if_pos c1] at h
    refine xj_iconst (z := 0) dX11_needRange_15 (by decide) ?_
    rcases thr_some h with ⟨z2, m3, e4, h⟩ | ⟨ex, e4, rfl⟩
    case inr => exact xj_callVx (st := []) (ok_X11_need 0 m e4) dX11_needRange_16 cv_X11_278 rfl rfl (Nat.le_of_ble_eq_true rfl) (by decide) (by decide) (by decide) (by decide) (by decide)
    refine xc_Vv (st := []) (ok_X11_need 0 m e4) dX11_needRange_16 cv_X11_278 rfl rfl (Nat.le_of_ble_eq_true rfl) (by decide) (by decide) (by decide) (by decide) ?_
    cases h
    exact xj_return dX11_needRange_19 (by decide) (by decide)
  · rw [if_neg c1] at h
    refine xj_iload_n 1 dX11_needRange_6 rfl ?_
    refine xj_iload_n 3 dX11_needRange_7 rfl ?_
    refine xj_icmp_gt (tgt := 15) dX11_needRange_8 (by decide) (fun c5 => ?_) (fun c5 => ?_)
    · rw [if_pos c5] at h
      refine xj_iconst (z := 0) dX11_needRange_15 (by decide) ?_
      rcases thr_some h with ⟨z6, m7, e8, h⟩ | ⟨ex, e8, rfl⟩
      case inr => exact xj_callVx (st := []) (ok_X11_need 0 m e8) dX11_needRange_16 cv_X11_278 rfl rfl (Nat.le_of_ble_eq_true rfl) (by decide) (by decide) (by decide) (by decide) (by decide)
      refine xc_Vv (st := []) (ok_X11_need 0 m e8) dX11_needRange_16 cv_X11_278 rfl rfl (Nat.le_of_ble_eq_true rfl) (by decide) (by decide) (by decide) (by decide) ?_
      cases h
      exact xj_return dX11_needRange_19 (by decide) (by decide)
    · rw [if_neg c5] at h
      refine xj_iconst (z := 1) dX11_needRange_11 (by decide) ?_
      refine xj_goto (tgt := 16) dX11_needRange_12 (by decide) ?_
      rcases thr_some h with ⟨z9, m10, e11, h⟩ | ⟨ex, e11, rfl⟩
      case inr => exact xj_callVx (st := []) (ok_X11_need 1 m e11) dX11_needRange_16 cv_X11_278 rfl rfl (Nat.le_of_ble_eq_true rfl) (by decide) (by decide) (by decide) (by decide) (by decide)
      refine xc_Vv (st := []) (ok_X11_need 1 m e11) dX11_needRange_16 cv_X11_278 rfl rfl (Nat.le_of_ble_eq_true rfl) (by decide) (by decide) (by decide) (by decide) ?_
      cases h
      exact xj_return dX11_needRange_19 (by decide) (by decide)
noncomputable def r_X11_ahead (x1 : Int32) (x2 : Int32) (m : Mem) : Option ((Int32 ⊕ Nat) × Mem) :=
  thr (r_X11_needRange x1 0 99 m) fun z1 m2 => (thr (r_X11_needRange x2 0 1 m2) fun z4 m5 => (bd1 (r_X0_traceAhead 0 x1 m5) fun m8 => (if x2 = 0 then (some (Sum.inl (m8 6 0 4), m8)) else (bd1 (r_X6_end m8) fun z11 => (some (Sum.inl z11, m8))))))
set_option maxHeartbeats 4000000 in
set_option maxRecDepth 20000 in
theorem ok_X11_ahead (x1 : Int32) (x2 : Int32) (m : Mem) {z : (Int32 ⊕ Nat)} {m' : Mem} (h : r_X11_ahead x1 x2 m = some (z, m')) : Mt yX11_ahead cX11_ahead 3 (some .int) 8 134 2 12 [vR 11 0, vI x1, vI x2] m (oX oI z) m' := by
  refine Mt.of (by decide) (Nat.le_of_ble_eq_true rfl) (by decide +kernel) (hhF_ne (by decide)) ?_
  show Xj RX11 cX11_ahead 3 (some .int) 8 134 2 12 0 0 0 [(0, vR 11 0), (1, vI x1), (2, vI x2)] [] m (oX oI z) m'
  unfold r_X11_ahead at h
  refine xj_aload_n 0 dX11_ahead_0 rfl ?_
  refine xj_iload_n 1 dX11_ahead_1 rfl ?_
  refine xj_iconst (z := 0) dX11_ahead_2 (by decide) ?_
  refine xj_bipush (z := 99) dX11_ahead_3 (by decide) ?_
  rcases thr_some h with ⟨z1, m2, e3, h⟩ | ⟨ex, e3, rfl⟩
  case inr => exact xj_callVx (st := []) (ok_X11_needRange x1 0 99 m e3) dX11_ahead_5 cv_X11_176 rfl rfl (Nat.le_of_ble_eq_true rfl) (by decide) (by decide) (by decide) (by decide) (by decide)
  refine xc_Vv (st := []) (ok_X11_needRange x1 0 99 m e3) dX11_ahead_5 cv_X11_176 rfl rfl (Nat.le_of_ble_eq_true rfl) (by decide) (by decide) (by decide) (by decide) ?_
  refine xj_aload_n 0 dX11_ahead_8 rfl ?_
  refine xj_iload_n 2 dX11_ahead_9 rfl ?_
  refine xj_iconst (z := 0) dX11_ahead_10 (by decide) ?_
  refine xj_iconst (z := 1) dX11_ahead_11 (by decide) ?_
  rcases thr_some h with ⟨z4, m5, e6, h⟩ | ⟨ex, e6, rfl⟩
  case inr => exact xj_callVx (st := []) (ok_X11_needRange x2 0 1 m2 e6) dX11_ahead_12 cv_X11_176 rfl rfl (Nat.le_of_ble_eq_true rfl) (by decide) (by decide) (by decide) (by decide) (by decide)
  refine xc_Vv (st := []) (ok_X11_needRange x2 0 1 m2 e6) dX11_ahead_12 cv_X11_176 rfl rfl (Nat.le_of_ble_eq_true rfl) (by decide) (by decide) (by decide) (by decide) ?_
  refine xj_aload_n 0 dX11_ahead_15 rfl ?_
  refine xg_getR (k' := 0) (i' := 0) dX11_ahead_16 fl_X11_90 rfl ?_
  refine xj_aload_n 0 dX11_ahead_19 rfl ?_
  refine xg_getR (k' := 7) (i' := 0) dX11_ahead_20 fl_X11_49 rfl ?_
  refine xj_iload_n 1 dX11_ahead_23 rfl ?_
  obtain ⟨m8, e7, h⟩ := bd1_some h
  refine xc_Vv0 (st := []) (ok_X0_traceAhead 0 x1 m5 e7) dX11_ahead_24 cv_X11_285 rfl rfl (Nat.le_of_ble_eq_true rfl) (by decide) (by decide) (by decide) (by decide) ?_
  refine xj_iload_n 2 dX11_ahead_27 rfl ?_
  refine xj_if_ne (tgt := 41) dX11_ahead_28 (by decide) (fun c9 => ?_) (fun c9 => ?_)
  · rw [if_neg c9] at h
    refine xj_aload_n 0 dX11_ahead_41 rfl ?_
    refine xg_getR (k' := 6) (i' := 0) dX11_ahead_42 fl_X11_72 rfl ?_
    obtain ⟨z11, e10, h⟩ := bd1_some h
    refine xc_Vi0 (st := []) (ok_X6_end m8 e10) dX11_ahead_45 cv_X11_208 rfl rfl (Nat.le_of_ble_eq_true rfl) (by decide) (by decide) (by decide) (by decide) ?_
    cases h
    exact xj_ireturn dX11_ahead_48 rfl (by decide) (by decide)
  · rw [if_pos c9] at h
    refine xj_aload_n 0 dX11_ahead_31 rfl ?_
    refine xg_getR (k' := 6) (i' := 0) dX11_ahead_32 fl_X11_72 rfl ?_
    refine xg_getI (x := (m8 6 0 4)) dX11_ahead_35 fl_X11_205 rfl rfl ?_
    refine xj_goto (tgt := 48) dX11_ahead_38 (by decide) ?_
    cases h
    exact xj_ireturn dX11_ahead_48 rfl (by decide) (by decide)
noncomputable def r_X11_needMember_j9 (m : Mem) : Option ((Unit ⊕ Nat) × Mem) :=
  some (Sum.inr 0, (wr m 11 0 15 ((m 11 0 15) + 1)))
set_option maxHeartbeats 4000000 in
set_option maxRecDepth 20000 in
theorem ok_X11_needMember_j9 (m : Mem) {z : (Unit ⊕ Nat)} {m' : Mem} (h : r_X11_needMember_j9 m = some (z, m')) : Xj RX11 cX11_needMember 3 none 6 90 1 6 0 0 9 [(0, vR 11 0)] [] m (oX (fun _ => oV) z) m' := by
  unfold r_X11_needMember_j9 at h
  refine xj_aload_n 0 dX11_needMember_9 rfl ?_
  refine xj_dup dX11_needMember_10 rfl ?_
  refine xg_getI (x := (m 11 0 15)) dX11_needMember_11 fl_X11_391 rfl rfl ?_
  refine xj_iconst (z := 1) dX11_needMember_14 (by decide) ?_
  refine xj_iadd dX11_needMember_15 ?_
  refine xj_putI dX11_needMember_16 fw_X11_391 rfl ?_
  cases h
  exact xj_throw (n := 23) dX11_needMember_19 dX11_needMember_22 dX11_needMember_23 dX11_needMember_26 dX11_needMember_29 th_0 (by decide) (Nat.le_of_ble_eq_true rfl) (by decide) (by decide) (by decide)
noncomputable def r_X11_needMember (x1 : Int32) (x2 : Int32) (m : Mem) : Option ((Unit ⊕ Nat) × Mem) :=
  if x1 < 0 then (r_X11_needMember_j9 m) else (if x1 < x2 then (some (Sum.inl (), m)) else (r_X11_needMember_j9 m))
set_option maxHeartbeats 4000000 in
set_option maxRecDepth 20000 in
theorem ok_X11_needMember (x1 : Int32) (x2 : Int32) (m : Mem) {z : (Unit ⊕ Nat)} {m' : Mem} (h : r_X11_needMember x1 x2 m = some (z, m')) : Mt yX11_needMember cX11_needMember 3 none 6 90 1 6 [vR 11 0, vI x1, vI x2] m (oX (fun _ => oV) z) m' := by
  refine Mt.of (by decide) (Nat.le_of_ble_eq_true rfl) (by decide +kernel) (hhF_ne (by decide)) ?_
  show Xj RX11 cX11_needMember 3 none 6 90 1 6 0 0 0 [(0, vR 11 0), (1, vI x1), (2, vI x2)] [] m (oX (fun _ => oV) z) m'
  unfold r_X11_needMember at h
  refine xj_iload_n 1 dX11_needMember_0 rfl ?_
  refine xj_if_lt (tgt := 9) dX11_needMember_1 (by decide) (fun c1 => ?_) (fun c1 => ?_)
  · rw [if_pos c1] at h
    refine xj_pick (ls' := [(0, vR 11 0)]) [0] rfl ?_
    exact ok_X11_needMember_j9 m h 
  · rw [if_neg c1] at h
    refine xj_iload_n 1 dX11_needMember_4 rfl ?_
    refine xj_iload_n 2 dX11_needMember_5 rfl ?_
    refine xj_icmp_lt (tgt := 30) dX11_needMember_6 (by decide) (fun c2 => ?_) (fun c2 => ?_)
    · rw [if_pos c2] at h
      cases h
      exact xj_return dX11_needMember_30 (by decide) (by decide)
    · rw [if_neg c2] at h
      refine xj_pick (ls' := [(0, vR 11 0)]) [0] rfl ?_
      exact ok_X11_needMember_j9 m h 
noncomputable def r_X11_needPerson (x1 : Int32) (m : Mem) : Option ((Unit ⊕ Nat) × Mem) :=
  thr (r_X11_needMember x1 (m 3 0 2) m) fun z1 m2 => (some (Sum.inl (), m2))
set_option maxHeartbeats 4000000 in
set_option maxRecDepth 20000 in
theorem ok_X11_needPerson (x1 : Int32) (m : Mem) {z : (Unit ⊕ Nat)} {m' : Mem} (h : r_X11_needPerson x1 m = some (z, m')) : Mt yX11_needPerson cX11_needPerson 2 none 7 112 1 6 [vR 11 0, vI x1] m (oX (fun _ => oV) z) m' := by
  refine Mt.of (by decide) (Nat.le_of_ble_eq_true rfl) (by decide +kernel) (hhF_ne (by decide)) ?_
  show Xj RX11 cX11_needPerson 2 none 7 112 1 6 0 0 0 [(0, vR 11 0), (1, vI x1)] [] m (oX (fun _ => oV) z) m'
  unfold r_X11_needPerson at h
  refine xj_aload_n 0 dX11_needPerson_0 rfl ?_
  refine xj_iload_n 1 dX11_needPerson_1 rfl ?_
  refine xj_aload_n 0 dX11_needPerson_2 rfl ?_
  refine xg_getR (k' := 3) (i' := 0) dX11_needPerson_3 fl_X11_19 rfl ?_
  refine xg_getI (x := (m 3 0 2)) dX11_needPerson_6 fl_X11_183 rfl rfl ?_
  rcases thr_some h with ⟨z1, m2, e3, h⟩ | ⟨ex, e3, rfl⟩
  case inr => exact xj_callVx (st := []) (ok_X11_needMember x1 (m 3 0 2) m e3) dX11_needPerson_9 cv_X11_231 rfl rfl (Nat.le_of_ble_eq_true rfl) (by decide) (by decide) (by decide) (by decide) (by decide)
  refine xc_Vv (st := []) (ok_X11_needMember x1 (m 3 0 2) m e3) dX11_needPerson_9 cv_X11_231 rfl rfl (Nat.le_of_ble_eq_true rfl) (by decide) (by decide) (by decide) (by decide) ?_
  cases h
  exact xj_return dX11_needPerson_12 (by decide) (by decide)
noncomputable def r_X11_needPlace (x1 : Int32) (m : Mem) : Option ((Unit ⊕ Nat) × Mem) :=
  thr (r_X11_needMember x1 (m 3 0 0) m) fun z1 m2 => (some (Sum.inl (), m2))
set_option maxHeartbeats 4000000 in
set_option maxRecDepth 20000 in
theorem ok_X11_needPlace (x1 : Int32) (m : Mem) {z : (Unit ⊕ Nat)} {m' : Mem} (h : r_X11_needPlace x1 m = some (z, m')) : Mt yX11_needPlace cX11_needPlace 2 none 7 112 1 6 [vR 11 0, vI x1] m (oX (fun _ => oV) z) m' := by
  refine Mt.of (by decide) (Nat.le_of_ble_eq_true rfl) (by decide +kernel) (hhF_ne (by decide)) ?_
  show Xj RX11 cX11_needPlace 2 none 7 112 1 6 0 0 0 [(0, vR 11 0), (1, vI x1)] [] m (oX (fun _ => oV) z) m'
  unfold r_X11_needPlace at h
  refine xj_aload_n 0 dX11_needPlace_0 rfl ?_
  refine xj_iload_n 1 dX11_needPlace_1 rfl ?_
  refine xj_aload_n 0 dX11_needPlace_2 rfl ?_
  refine xg_getR (k' := 3) (i' := 0) dX11_needPlace_3 fl_X11_19 rfl ?_
  refine xg_getI (x := (m 3 0 0)) dX11_needPlace_6 fl_X11_137 rfl rfl ?_
  rcases thr_some h with ⟨z1, m2, e3, h⟩ | ⟨ex, e3, rfl⟩
  case inr => exact xj_callVx (st := []) (ok_X11_needMember x1 (m 3 0 0) m e3) dX11_needPlace_9 cv_X11_231 rfl rfl (Nat.le_of_ble_eq_true rfl) (by decide) (by decide) (by decide) (by decide) (by decide)
  refine xc_Vv (st := []) (ok_X11_needMember x1 (m 3 0 0) m e3) dX11_needPlace_9 cv_X11_231 rfl rfl (Nat.le_of_ble_eq_true rfl) (by decide) (by decide) (by decide) (by decide) ?_
  cases h
  exact xj_return dX11_needPlace_12 (by decide) (by decide)
noncomputable def r_X11_belief (x1 : Int32) (x2 : Int32) (m : Mem) : Option ((Int32 ⊕ Nat) × Mem) :=
  thr (r_X11_needPerson x1 m) fun z1 m2 => (thr (r_X11_needPlace x2 m2) fun z4 m5 => (bd1 (r_X7_believes 0 x1 x2 m5) fun z8 => (some (Sum.inl z8, m5))))
set_option maxHeartbeats 4000000 in
set_option maxRecDepth 20000 in
theorem ok_X11_belief (x1 : Int32) (x2 : Int32) (m : Mem) {z : (Int32 ⊕ Nat)} {m' : Mem} (h : r_X11_belief x1 x2 m = some (z, m')) : Mt yX11_belief cX11_belief 3 (some .int) 8 133 2 12 [vR 11 0, vI x1, vI x2] m (oX oI z) m' := by
  refine Mt.of (by decide) (Nat.le_of_ble_eq_true rfl) (by decide +kernel) (hhF_ne (by decide)) ?_
  show Xj RX11 cX11_belief 3 (some .int) 8 133 2 12 0 0 0 [(0, vR 11 0), (1, vI x1), (2, vI x2)] [] m (oX oI z) m'
  unfold r_X11_belief at h
  refine xj_aload_n 0 dX11_belief_0 rfl ?_
  refine xj_iload_n 1 dX11_belief_1 rfl ?_
  rcases thr_some h with ⟨z1, m2, e3, h⟩ | ⟨ex, e3, rfl⟩
  case inr => exact xj_callVx (st := []) (ok_X11_needPerson x1 m e3) dX11_belief_2 cv_X11_246 rfl rfl (Nat.le_of_ble_eq_true rfl) (by decide) (by decide) (by decide) (by decide) (by decide)
  refine xc_Vv (st := []) (ok_X11_needPerson x1 m e3) dX11_belief_2 cv_X11_246 rfl rfl (Nat.le_of_ble_eq_true rfl) (by decide) (by decide) (by decide) (by decide) ?_
  refine xj_aload_n 0 dX11_belief_5 rfl ?_
  refine xj_iload_n 2 dX11_belief_6 rfl ?_
  rcases thr_some h with ⟨z4, m5, e6, h⟩ | ⟨ex, e6, rfl⟩
  case inr => exact xj_callVx (st := []) (ok_X11_needPlace x2 m2 e6) dX11_belief_7 cv_X11_211 rfl rfl (Nat.le_of_ble_eq_true rfl) (by decide) (by decide) (by decide) (by decide) (by decide)
  refine xc_Vv (st := []) (ok_X11_needPlace x2 m2 e6) dX11_belief_7 cv_X11_211 rfl rfl (Nat.le_of_ble_eq_true rfl) (by decide) (by decide) (by decide) (by decide) ?_
  refine xj_aload_n 0 dX11_belief_10 rfl ?_
  refine xg_getR (k' := 7) (i' := 0) dX11_belief_11 fl_X11_49 rfl ?_
  refine xj_iload_n 1 dX11_belief_14 rfl ?_
  refine xj_iload_n 2 dX11_belief_15 rfl ?_
  obtain ⟨z8, e7, h⟩ := bd1_some h
  refine xc_Vi0 (st := []) (ok_X7_believes 0 x1 x2 m5 e7) dX11_belief_16 cv_X11_261 rfl rfl (Nat.le_of_ble_eq_true rfl) (by decide) (by decide) (by decide) (by decide) ?_
  cases h
  exact xj_ireturn dX11_belief_19 rfl (by decide) (by decide)
noncomputable def r_X11_blank_j66_1_c14 (x1 : Int32) (x2 : Int32) (x3 : Int32) (x4 : Int32) (m : Mem) : Option ((Int32 × Int32 × Int32) ⊕ (Int32 × Int32)) :=
  some (Sum.inl (x2, x3, x4 + 1))
set_option maxHeartbeats 4000000 in
set_option maxRecDepth 20000 in
theorem ok_X11_blank_j66_1_c14 (x1 : Int32) (x2 : Int32) (x3 : Int32) (x4 : Int32) (m : Mem) {r : (Int32 × Int32 × Int32) ⊕ (Int32 × Int32)} (h : r_X11_blank_j66_1_c14 x1 x2 x3 x4 m = some r) {o : Ou} {M' : Mem} (kb : ∀ (x2' : Int32) (x3' : Int32) (x4' : Int32), r = Sum.inl (x2', x3', x4') → Xj RX11 cX11_blank 5 (some .int) 8 134 1 6 1 6 14 [(0, vR 11 0), (1, vI x1), (2, vI x2'), (3, vI x3'), (4, vI x4')] [] m o M') (ke : ∀ (x2' : Int32) (x3' : Int32), r = Sum.inr (x2', x3') → Xj RX11 cX11_blank 5 (some .int) 8 134 1 6 1 6 72 [(1, vI x1), (2, vI x2'), (3, vI x3')] [] m o M') : Xj RX11 cX11_blank 5 (some .int) 8 134 1 6 1 6 66 [(0, vR 11 0), (1, vI x1), (2, vI x2), (3, vI x3), (4, vI x4)] [] m o M' := by
  unfold r_X11_blank_j66_1_c14 at h
  refine xj_iinc (z := x4 + 1) (ls' := [(4, vI (x4 + 1)), (0, vR 11 0), (1, vI x1), (2, vI x2), (3, vI x3)]) 4 dX11_blank_66 rfl rfl (by decide) rfl ?_
  refine xj_goto (tgt := 14) dX11_blank_69 (by decide) ?_
  cases h
  refine xj_pick (ls' := [(0, vR 11 0), (1, vI x1), (2, vI x2), (3, vI x3), (4, vI (x4 + 1))]) [1, 2, 3, 4, 0] rfl ?_
  exact kb x2 x3 (x4 + 1) rfl
noncomputable def r_X11_blank_b14 (x1 : Int32) (m : Mem) (x2 : Int32) (x3 : Int32) (x4 : Int32) : Option ((Int32 × Int32 × Int32) ⊕ (Int32 × Int32)) :=
  if (m 3 0 2) ≤ x4 then (some (Sum.inr (x2, x3))) else (bd1 (r_X7_believedBy 0 x4 m) fun z6 => (if z6 = 0 then (if inb x4 8 = true then (if (m 20 0 x4.toNatClampNeg) ≤ x3 then (r_X11_blank_j66_1_c14 x1 x2 x3 x4 m) else (r_X11_blank_j66_1_c14 x1 x4 (m 20 0 x4.toNatClampNeg) x4 m)) else none) else (r_X11_blank_j66_1_c14 x1 x2 x3 x4 m)))
set_option maxHeartbeats 4000000 in
set_option maxRecDepth 20000 in
theorem ok_X11_blank_b14 (x1 : Int32) (m : Mem) (x2 : Int32) (x3 : Int32) (x4 : Int32) {r : (Int32 × Int32 × Int32) ⊕ (Int32 × Int32)} (h : r_X11_blank_b14 x1 m x2 x3 x4 = some r) {o : Ou} {M' : Mem} (kb : ∀ (x2' : Int32) (x3' : Int32) (x4' : Int32), r = Sum.inl (x2', x3', x4') → Xj RX11 cX11_blank 5 (some .int) 8 134 1 6 1 6 14 [(0, vR 11 0), (1, vI x1), (2, vI x2'), (3, vI x3'), (4, vI x4')] [] m o M') (ke : ∀ (x2' : Int32) (x3' : Int32), r = Sum.inr (x2', x3') → Xj RX11 cX11_blank 5 (some .int) 8 134 1 6 1 6 72 [(1, vI x1), (2, vI x2'), (3, vI x3')] [] m o M') : Xj RX11 cX11_blank 5 (some .int) 8 134 1 6 1 6 14 [(0, vR 11 0), (1, vI x1), (2, vI x2), (3, vI x3), (4, vI x4)] [] m o M' := by
  unfold r_X11_blank_b14 at h
  refine xj_iload 4 dX11_blank_14 rfl ?_
  refine xj_aload_n 0 dX11_blank_16 rfl ?_
  refine xg_getR (k' := 3) (i' := 0) dX11_blank_17 fl_X11_19 rfl ?_
  refine xg_getI (x := (m 3 0 2)) dX11_blank_20 fl_X11_183 rfl rfl ?_
  refine xj_icmp_ge (tgt := 72) dX11_blank_23 (by decide) (fun c4 => ?_) (fun c4 => ?_)
  · rw [if_pos c4] at h
    cases h
    refine xj_pick (ls' := [(1, vI x1), (2, vI x2), (3, vI x3)]) [1, 2, 3] rfl ?_
    exact ke x2 x3 rfl
  · rw [if_neg c4] at h
    refine xj_aload_n 0 dX11_blank_26 rfl ?_
    refine xg_getR (k' := 7) (i' := 0) dX11_blank_27 fl_X11_49 rfl ?_
    refine xj_iload 4 dX11_blank_30 rfl ?_
    obtain ⟨z6, e5, h⟩ := bd1_some h
    refine xc_Vi0 (st := []) (ok_X7_believedBy 0 x4 m e5) dX11_blank_32 cv_X11_255 rfl rfl (Nat.le_of_ble_eq_true rfl) (by decide) (by decide) (by decide) (by decide) ?_
    refine xj_if_ne (tgt := 66) dX11_blank_35 (by decide) (fun c7 => ?_) (fun c7 => ?_)
    · rw [if_neg c7] at h
      exact ok_X11_blank_j66_1_c14 x1 x2 x3 x4 m h kb ke
    · rw [if_pos c7] at h
      refine xj_aload_n 0 dX11_blank_38 rfl ?_
      refine xg_getR (k' := 7) (i' := 0) dX11_blank_39 fl_X11_49 rfl ?_
      refine xg_getR (k' := 20) (i' := 0) dX11_blank_42 fl_X11_249 rfl ?_
      refine xj_iload 4 dX11_blank_45 rfl ?_
      by_cases c8 : inb x4 8 = true
      case neg => rw [if_neg c8] at h; cases h
      rw [if_pos c8] at h
      refine xg_iald (z := (m 20 0 x4.toNatClampNeg)) (n := x4.toNatClampNeg) dX11_blank_47 rfl (by decide) (inb_in c8) rfl rfl ?_
      refine xj_iload_n 3 dX11_blank_48 rfl ?_
      refine xj_icmp_le (tgt := 66) dX11_blank_49 (by decide) (fun c9 => ?_) (fun c9 => ?_)
      · rw [if_pos c9] at h
        exact ok_X11_blank_j66_1_c14 x1 x2 x3 x4 m h kb ke
      · rw [if_neg c9] at h
        refine xj_iload 4 dX11_blank_52 rfl ?_
        refine xj_istore_n (ls' := [(2, vI x4), (0, vR 11 0), (1, vI x1), (3, vI x3), (4, vI x4)]) dX11_blank_54 rfl (by decide) rfl ?_
        refine xj_aload_n 1 dX11_blank_55 rfl ?_
        refine xg_getR (k' := 7) (i' := 0) dX11_blank_56 fl_X11_49 rfl ?_
        refine xg_getR (k' := 20) (i' := 0) dX11_blank_59 fl_X11_249 rfl ?_
        refine xj_iload 4 dX11_blank_62 rfl ?_
        refine xg_iald (z := (m 20 0 x4.toNatClampNeg)) (n := x4.toNatClampNeg) dX11_blank_64 rfl (by decide) (inb_in c8) rfl rfl ?_
        refine xj_istore_n (ls' := [(3, vI (m 20 0 x4.toNatClampNeg)), (2, vI x4), (0, vR 11 0), (1, vI x1), (4, vI x4)]) dX11_blank_65 rfl (by decide) rfl ?_
        refine xj_pick (ls' := [(0, vR 11 0), (1, vI x1), (2, vI x4), (3, vI (m 20 0 x4.toNatClampNeg)), (4, vI x4)]) [2, 3, 1, 0, 4] rfl ?_
        exact ok_X11_blank_j66_1_c14 x1 x4 (m 20 0 x4.toNatClampNeg) x4 m h kb ke
noncomputable def r_X11_blank_e72_h14 (x1 : Int32) (x2 : Int32) (x3 : Int32) (m : Mem) : Option ((Int32 ⊕ Nat) × Mem) :=
  if x1 = 0 then (some (Sum.inl x2, m)) else (some (Sum.inl x3, m))
set_option maxHeartbeats 4000000 in
set_option maxRecDepth 20000 in
theorem ok_X11_blank_e72_h14 (x1 : Int32) (x2 : Int32) (x3 : Int32) (m : Mem) {z : (Int32 ⊕ Nat)} {m' : Mem} (h : r_X11_blank_e72_h14 x1 x2 x3 m = some (z, m')) : Xj RX11 cX11_blank 5 (some .int) 8 134 1 6 1 6 72 [(1, vI x1), (2, vI x2), (3, vI x3)] [] m (oX oI z) m' := by
  unfold r_X11_blank_e72_h14 at h
  refine xj_iload_n 0 dX11_blank_72 rfl ?_
  refine xj_if_ne (tgt := 80) dX11_blank_73 (by decide) (fun c10 => ?_) (fun c10 => ?_)
  · rw [if_neg c10] at h
    refine xj_iload_n 2 dX11_blank_80 rfl ?_
    cases h
    exact xj_ireturn dX11_blank_81 rfl (by decide) (by decide)
  · rw [if_pos c10] at h
    refine xj_iload_n 1 dX11_blank_76 rfl ?_
    refine xj_goto (tgt := 81) dX11_blank_77 (by decide) ?_
    cases h
    exact xj_ireturn dX11_blank_81 rfl (by decide) (by decide)
noncomputable def r_X11_blank_l14 (x1 : Int32) (x2 : Int32) (x3 : Int32) (x4 : Int32) (m : Mem) : Option ((Int32 ⊕ Nat) × Mem) :=
  bd1 (loopO (fun s => r_X11_blank_b14 x1 m s.1 s.2.1 s.2.2) (x2, x3, x4)) (fun e => r_X11_blank_e72_h14 x1 e.1 e.2 m)
set_option maxHeartbeats 4000000 in
set_option maxRecDepth 20000 in
theorem ok_X11_blank_l14 (x1 : Int32) (x2 : Int32) (x3 : Int32) (x4 : Int32) (m : Mem) {z : (Int32 ⊕ Nat)} {m' : Mem} (h : r_X11_blank_l14 x1 x2 x3 x4 m = some (z, m')) : Xj RX11 cX11_blank 5 (some .int) 8 134 1 6 1 6 14 [(0, vR 11 0), (1, vI x1), (2, vI x2), (3, vI x3), (4, vI x4)] [] m (oX oI z) m' := by
  unfold r_X11_blank_l14 at h
  obtain ⟨e, e1, h⟩ := bd1_some h
  refine loopO_ok (P := fun s : (Int32 × Int32 × Int32) => Xj RX11 cX11_blank 5 (some .int) 8 134 1 6 1 6 14 [(0, vR 11 0), (1, vI x1), (2, vI s.1), (3, vI s.2.1), (4, vI s.2.2)] [] m (oX oI z) m') (Q := fun e : (Int32 × Int32) => Xj RX11 cX11_blank 5 (some .int) 8 134 1 6 1 6 72 [(1, vI x1), (2, vI e.1), (3, vI e.2)] [] m (oX oI z) m') ?_ _ _ e1 ?_
  · intro s r9 h9 hi hx
    exact ok_X11_blank_b14 x1 m s.1 s.2.1 s.2.2 h9 (by rintro _ _ _ rfl; exact hi _ rfl) (by rintro _ _ rfl; exact hx _ rfl)
  · exact ok_X11_blank_e72_h14 x1 e.1 e.2 m h 
noncomputable def r_X11_blank (x1 : Int32) (m : Mem) : Option ((Int32 ⊕ Nat) × Mem) :=
  thr (r_X11_needRange x1 0 1 m) fun z1 m2 => (r_X11_blank_l14 x1 (-1) (-1) 0 m2)
set_option maxHeartbeats 4000000 in
set_option maxRecDepth 20000 in
theorem ok_X11_blank (x1 : Int32) (m : Mem) {z : (Int32 ⊕ Nat)} {m' : Mem} (h : r_X11_blank x1 m = some (z, m')) : Mt yX11_blank cX11_blank 5 (some .int) 8 134 1 6 [vR 11 0, vI x1] m (oX oI z) m' := by
  refine Mt.of (by decide) (Nat.le_of_ble_eq_true rfl) (by decide +kernel) (hhF_ne (by decide)) ?_
  show Xj RX11 cX11_blank 5 (some .int) 8 134 1 6 0 0 0 [(0, vR 11 0), (1, vI x1)] [] m (oX oI z) m'
  unfold r_X11_blank at h
  refine xj_aload_n 0 dX11_blank_0 rfl ?_
  refine xj_iload_n 1 dX11_blank_1 rfl ?_
  refine xj_iconst (z := 0) dX11_blank_2 (by decide) ?_
  refine xj_iconst (z := 1) dX11_blank_3 (by decide) ?_
  rcases thr_some h with ⟨z1, m2, e3, h⟩ | ⟨ex, e3, rfl⟩
  case inr => exact xj_callVx (st := []) (ok_X11_needRange x1 0 1 m e3) dX11_blank_4 cv_X11_176 rfl rfl (Nat.le_of_ble_eq_true rfl) (by decide) (by decide) (by decide) (by decide) (by decide)
  refine xc_Vv (st := []) (ok_X11_needRange x1 0 1 m e3) dX11_blank_4 cv_X11_176 rfl rfl (Nat.le_of_ble_eq_true rfl) (by decide) (by decide) (by decide) (by decide) ?_
  refine xj_iconst (z := (-1)) dX11_blank_7 (by decide) ?_
  refine xj_istore_n (ls' := [(2, vI (-1)), (0, vR 11 0), (1, vI x1)]) dX11_blank_8 rfl (by decide) rfl ?_
  refine xj_iconst (z := (-1)) dX11_blank_9 (by decide) ?_
  refine xj_istore_n (ls' := [(3, vI (-1)), (2, vI (-1)), (0, vR 11 0), (1, vI x1)]) dX11_blank_10 rfl (by decide) rfl ?_
  refine xj_iconst (z := 0) dX11_blank_11 (by decide) ?_
  refine xj_istore (ls' := [(4, vI 0), (3, vI (-1)), (2, vI (-1)), (0, vR 11 0), (1, vI x1)]) dX11_blank_12 (by decide) rfl ?_
  refine xj_pick (ls' := [(0, vR 11 0), (1, vI x1), (2, vI (-1)), (3, vI (-1)), (4, vI 0)]) [3, 4, 2, 1, 0] rfl ?_
  exact ok_X11_blank_l14 x1 (-1) (-1) 0 m2 h 
noncomputable def r_X11_openText (x1 : Int32) (x2 : Int32) (m : Mem) : Option ((Unit ⊕ Nat) × Mem) :=
  thr (r_X11_needRange x1 0 (imin x2 (m 8 0 1)) m) fun z1 m2 => (bd1 (r_X8_open x1 m2) fun m5 => (some (Sum.inl (), m5)))
set_option maxHeartbeats 4000000 in
set_option maxRecDepth 20000 in
theorem ok_X11_openText (x1 : Int32) (x2 : Int32) (m : Mem) {z : (Unit ⊕ Nat)} {m' : Mem} (h : r_X11_openText x1 x2 m = some (z, m')) : Mt yX11_openText cX11_openText 3 none 8 134 1 6 [vR 11 0, vI x1, vI x2] m (oX (fun _ => oV) z) m' := by
  refine Mt.of (by decide) (Nat.le_of_ble_eq_true rfl) (by decide +kernel) (hhF_ne (by decide)) ?_
  show Xj RX11 cX11_openText 3 none 8 134 1 6 0 0 0 [(0, vR 11 0), (1, vI x1), (2, vI x2)] [] m (oX (fun _ => oV) z) m'
  unfold r_X11_openText at h
  refine xj_aload_n 0 dX11_openText_0 rfl ?_
  refine xj_iload_n 1 dX11_openText_1 rfl ?_
  refine xj_iconst (z := 0) dX11_openText_2 (by decide) ?_
  refine xj_iload_n 2 dX11_openText_3 rfl ?_
  refine xj_aload_n 0 dX11_openText_4 rfl ?_
  refine xg_getR (k' := 8) (i' := 0) dX11_openText_5 fl_X11_10 rfl ?_
  refine xg_getI (x := (m 8 0 1)) dX11_openText_8 fl_X11_101 rfl rfl ?_
  refine xj_min dX11_openText_11 cm_X11_365 (by decide) (Nat.le_of_ble_eq_true rfl) (by decide) (by decide) ?_
  rcases thr_some h with ⟨z1, m2, e3, h⟩ | ⟨ex, e3, rfl⟩
  case inr => exact xj_callVx (st := []) (ok_X11_needRange x1 0 (imin x2 (m 8 0 1)) m e3) dX11_openText_14 cv_X11_176 rfl rfl (Nat.le_of_ble_eq_true rfl) (by decide) (by decide) (by decide) (by decide) (by decide)
  refine xc_Vv (st := []) (ok_X11_needRange x1 0 (imin x2 (m 8 0 1)) m e3) dX11_openText_14 cv_X11_176 rfl rfl (Nat.le_of_ble_eq_true rfl) (by decide) (by decide) (by decide) (by decide) ?_
  refine xj_aload_n 0 dX11_openText_17 rfl ?_
  refine xg_getR (k' := 8) (i' := 0) dX11_openText_18 fl_X11_10 rfl ?_
  refine xj_iload_n 1 dX11_openText_21 rfl ?_
  obtain ⟨m5, e4, h⟩ := bd1_some h
  refine xc_Vv0 (st := []) (ok_X8_open x1 m2 e4) dX11_openText_22 cv_X11_397 rfl rfl (Nat.le_of_ble_eq_true rfl) (by decide) (by decide) (by decide) (by decide) ?_
  cases h
  exact xj_return dX11_openText_25 (by decide) (by decide)
noncomputable def r_X11_book (x1 : Int32) (m : Mem) : Option ((Int32 ⊕ Nat) × Mem) :=
  thr (r_X11_openText x1 60 m) fun z1 m2 => (bd2 (r_X1_readFrom 1 0 m2) fun z6 m5 => (if z6 = true then (bd1 (r_X1_copyFrom 0 1 m5) fun m9 => (some (Sum.inl (m9 1 0 0), m9))) else (some (Sum.inl (r_X8_faultAnswer m5), m5))))
set_option maxHeartbeats 4000000 in
set_option maxRecDepth 20000 in
theorem ok_X11_book (x1 : Int32) (m : Mem) {z : (Int32 ⊕ Nat)} {m' : Mem} (h : r_X11_book x1 m = some (z, m')) : Mt yX11_book cX11_book 2 (some .int) 9 156 1 6 [vR 11 0, vI x1] m (oX oI z) m' := by
  refine Mt.of (by decide) (Nat.le_of_ble_eq_true rfl) (by decide +kernel) (hhF_ne (by decide)) ?_
  show Xj RX11 cX11_book 2 (some .int) 9 156 1 6 0 0 0 [(0, vR 11 0), (1, vI x1)] [] m (oX oI z) m'
  unfold r_X11_book at h
  refine xj_aload_n 0 dX11_book_0 rfl ?_
  refine xj_iload_n 1 dX11_book_1 rfl ?_
  refine xj_bipush (z := 60) dX11_book_2 (by decide) ?_
  rcases thr_some h with ⟨z1, m2, e3, h⟩ | ⟨ex, e3, rfl⟩
  case inr => exact xj_callVx (st := []) (ok_X11_openText x1 60 m e3) dX11_book_4 cv_X11_109 rfl rfl (Nat.le_of_ble_eq_true rfl) (by decide) (by decide) (by decide) (by decide) (by decide)
  refine xc_Vv (st := []) (ok_X11_openText x1 60 m e3) dX11_book_4 cv_X11_109 rfl rfl (Nat.le_of_ble_eq_true rfl) (by decide) (by decide) (by decide) (by decide) ?_
  refine xj_aload_n 0 dX11_book_7 rfl ?_
  refine xg_getR (k' := 1) (i' := 1) dX11_book_8 fl_X11_43 rfl ?_
  refine xj_aload_n 0 dX11_book_11 rfl ?_
  refine xg_getR (k' := 8) (i' := 0) dX11_book_12 fl_X11_10 rfl ?_
  refine xj_aload_n 0 dX11_book_15 rfl ?_
  refine xg_getR (k' := 3) (i' := 0) dX11_book_16 fl_X11_19 rfl ?_
  obtain ⟨z6, m5, e4, h⟩ := bd2_some h
  refine xc_Vb0 (st := []) (ok_X1_readFrom 1 0 m2 e4) dX11_book_19 cv_X11_161 rfl rfl (Nat.le_of_ble_eq_true rfl) (by decide) (by decide) (by decide) (by decide) ?_
  refine xj_if_ne (tgt := 33) dX11_book_22 (by decide) (fun c7 => ?_) (fun c7 => ?_)
  · rw [if_pos (b2i_t c7)] at h
    refine xj_aload_n 0 dX11_book_33 rfl ?_
    refine xg_getR (k' := 1) (i' := 0) dX11_book_34 fl_X11_39 rfl ?_
    refine xj_aload_n 0 dX11_book_37 rfl ?_
    refine xg_getR (k' := 1) (i' := 1) dX11_book_38 fl_X11_43 rfl ?_
    obtain ⟨m9, e8, h⟩ := bd1_some h
    refine xc_Vv0 (st := []) (ok_X1_copyFrom 0 1 m5 e8) dX11_book_41 cv_X11_164 rfl rfl (Nat.le_of_ble_eq_true rfl) (by decide) (by decide) (by decide) (by decide) ?_
    refine xj_aload_n 0 dX11_book_44 rfl ?_
    refine xg_getR (k' := 1) (i' := 0) dX11_book_45 fl_X11_39 rfl ?_
    refine xg_getI (x := (m9 1 0 0)) dX11_book_48 fl_X11_167 rfl rfl ?_
    cases h
    exact xj_ireturn dX11_book_51 rfl (by decide) (by decide)
  · rw [if_neg (b2i_f c7)] at h
    refine xj_aload_n 0 dX11_book_25 rfl ?_
    refine xg_getR (k' := 8) (i' := 0) dX11_book_26 fl_X11_10 rfl ?_
    refine xc_Vi0 (st := []) (ok_X8_faultAnswer m5 rfl) dX11_book_29 cv_X11_117 rfl rfl (Nat.le_of_ble_eq_true rfl) (by decide) (by decide) (by decide) (by decide) ?_
    cases h
    exact xj_ireturn dX11_book_32 rfl (by decide) (by decide)
noncomputable def r_X11_count (x1 : Int32) (m : Mem) : Int32 :=
  if x1 = 0 then ((m 2 0 0)) else if x1 = 1 then ((m 8 0 1)) else if x1 = 2 then ((m 5 0 0)) else ((-1))
set_option maxHeartbeats 4000000 in
set_option maxRecDepth 20000 in
theorem ok_X11_count (x1 : Int32) (m : Mem) {z : Int32} (h : r_X11_count x1 m = z) : Mt yX11_count cX11_count 2 (some .int) 1 0 0 0 [vR 11 0, vI x1] m (oI z) m := by
  refine Mt.of (by decide) (Nat.le_of_ble_eq_true rfl) (by decide +kernel) (hhF_ne (by decide)) ?_
  show Xj RX11 cX11_count 2 (some .int) 1 0 0 0 0 0 0 [(0, vR 11 0), (1, vI x1)] [] m (oI z) m
  unfold r_X11_count at h
  refine xj_iload_n 1 dX11_count_0 rfl ?_
  by_cases c1 : x1 = 0
  · rw [if_pos c1] at h
    refine xj_tableIn (off := 27) (tgt := 28) dX11_count_1 (by rw [c1]; decide) (by rw [c1]; decide) (by rw [c1]; decide) (by decide) ?_
    refine xj_aload_n 0 dX11_count_28 rfl ?_
    refine xg_getR (k' := 2) (i' := 0) dX11_count_29 fl_X11_63 rfl ?_
    refine xg_getI (x := (m 2 0 0)) dX11_count_32 fl_X11_387 rfl rfl ?_
    subst h
    exact xj_ireturn dX11_count_35 rfl (by decide) (by decide)
  rw [if_neg c1] at h
  by_cases c2 : x1 = 1
  · rw [if_pos c2] at h
    refine xj_tableIn (off := 35) (tgt := 36) dX11_count_1 (by rw [c2]; decide) (by rw [c2]; decide) (by rw [c2]; decide) (by decide) ?_
    refine xj_aload_n 0 dX11_count_36 rfl ?_
    refine xg_getR (k' := 8) (i' := 0) dX11_count_37 fl_X11_10 rfl ?_
    refine xg_getI (x := (m 8 0 1)) dX11_count_40 fl_X11_101 rfl rfl ?_
    subst h
    exact xj_ireturn dX11_count_43 rfl (by decide) (by decide)
  rw [if_neg c2] at h
  by_cases c3 : x1 = 2
  · rw [if_pos c3] at h
    refine xj_tableIn (off := 43) (tgt := 44) dX11_count_1 (by rw [c3]; decide) (by rw [c3]; decide) (by rw [c3]; decide) (by decide) ?_
    refine xj_aload_n 0 dX11_count_44 rfl ?_
    refine xg_getR (k' := 5) (i' := 0) dX11_count_45 fl_X11_56 rfl ?_
    refine xg_getI (x := (m 5 0 0)) dX11_count_48 fl_X11_144 rfl rfl ?_
    subst h
    exact xj_ireturn dX11_count_51 rfl (by decide) (by decide)
  rw [if_neg c3] at h
  refine xj_tableOut (tgt := 52) dX11_count_1 ?_ (by decide) ?_
  · have nc1 := lv_neT c1 (show (0 : Int32).toInt = 0 by decide)
    have nc2 := lv_neT c2 (show (1 : Int32).toInt = 1 by decide)
    have nc3 := lv_neT c3 (show (2 : Int32).toInt = 2 by decide)
    omega
  refine xj_iconst (z := (-1)) dX11_count_52 (by decide) ?_
  subst h
  exact xj_ireturn dX11_count_53 rfl (by decide) (by decide)
noncomputable def r_X11_course_j10 (x1 : Int32) (s0 : Int32) (m : Mem) : Option ((Int32 ⊕ Nat) × Mem) :=
  thr (r_X11_need s0 m) fun z2 m3 => (bd1 (r_X6_trace 0 m3) fun m6 => (if (m6 6 0 3) ≤ x1 then (some (Sum.inl (-1), m6)) else (if inb x1 12 = true then (some (Sum.inl (m6 38 0 x1.toNatClampNeg), m6)) else none)))
set_option maxHeartbeats 4000000 in
set_option maxRecDepth 20000 in
theorem ok_X11_course_j10 (x1 : Int32) (s0 : Int32) (m : Mem) {z : (Int32 ⊕ Nat)} {m' : Mem} (h : r_X11_course_j10 x1 s0 m = some (z, m')) : Xj RX11 cX11_course 2 (some .int) 7 111 1 6 0 0 10 [(0, vR 11 0), (1, vI x1)] [vI s0, vR 11 0] m (oX oI z) m' := by
  unfold r_X11_course_j10 at h
  rcases thr_some h with ⟨z2, m3, e4, h⟩ | ⟨ex, e4, rfl⟩
  case inr => exact xj_callVx (st := []) (ok_X11_need s0 m e4) dX11_course_10 cv_X11_278 rfl rfl (Nat.le_of_ble_eq_true rfl) (by decide) (by decide) (by decide) (by decide) (by decide)
  refine xc_Vv (st := []) (ok_X11_need s0 m e4) dX11_course_10 cv_X11_278 rfl rfl (Nat.le_of_ble_eq_true rfl) (by decide) (by decide) (by decide) (by decide) ?_
  refine xj_aload_n 0 dX11_course_13 rfl ?_
  refine xg_getR (k' := 6) (i' := 0) dX11_course_14 fl_X11_72 rfl ?_
  refine xj_aload_n 0 dX11_course_17 rfl ?_
  refine xg_getR (k' := 7) (i' := 0) dX11_course_18 fl_X11_49 rfl ?_
  obtain ⟨m6, e5, h⟩ := bd1_some h
  refine xc_Vv0 (st := []) (ok_X6_trace 0 m3 e5) dX11_course_21 cv_X11_199 rfl rfl (Nat.le_of_ble_eq_true rfl) (by decide) (by decide) (by decide) (by decide) ?_
  refine xj_iload_n 1 dX11_course_24 rfl ?_
  refine xj_aload_n 0 dX11_course_25 rfl ?_
  refine xg_getR (k' := 6) (i' := 0) dX11_course_26 fl_X11_72 rfl ?_
  refine xg_getI (x := (m6 6 0 3)) dX11_course_29 fl_X11_202 rfl rfl ?_
  refine xj_icmp_ge (tgt := 47) dX11_course_32 (by decide) (fun c7 => ?_) (fun c7 => ?_)
  · rw [if_pos c7] at h
    refine xj_iconst (z := (-1)) dX11_course_47 (by decide) ?_
    cases h
    exact xj_ireturn dX11_course_48 rfl (by decide) (by decide)
  · rw [if_neg c7] at h
    refine xj_aload_n 0 dX11_course_35 rfl ?_
    refine xg_getR (k' := 6) (i' := 0) dX11_course_36 fl_X11_72 rfl ?_
    refine xg_getR (k' := 38) (i' := 0) dX11_course_39 fl_X11_282 rfl ?_
    refine xj_iload_n 1 dX11_course_42 rfl ?_
    by_cases c8 : inb x1 12 = true
    case neg => rw [if_neg c8] at h; cases h
    rw [if_pos c8] at h
    refine xg_iald (z := (m6 38 0 x1.toNatClampNeg)) (n := x1.toNatClampNeg) dX11_course_43 rfl (by decide) (inb_in c8) rfl rfl ?_
    refine xj_goto (tgt := 48) dX11_course_44 (by decide) ?_
    cases h
    exact xj_ireturn dX11_course_48 rfl (by decide) (by decide)
noncomputable def r_X11_course (x1 : Int32) (m : Mem) : Option ((Int32 ⊕ Nat) × Mem) :=
  if x1 < 0 then (r_X11_course_j10 x1 0 m) else (r_X11_course_j10 x1 1 m)
set_option maxHeartbeats 4000000 in
set_option maxRecDepth 20000 in
theorem ok_X11_course (x1 : Int32) (m : Mem) {z : (Int32 ⊕ Nat)} {m' : Mem} (h : r_X11_course x1 m = some (z, m')) : Mt yX11_course cX11_course 2 (some .int) 7 111 1 6 [vR 11 0, vI x1] m (oX oI z) m' := by
  refine Mt.of (by decide) (Nat.le_of_ble_eq_true rfl) (by decide +kernel) (hhF_ne (by decide)) ?_
  show Xj RX11 cX11_course 2 (some .int) 7 111 1 6 0 0 0 [(0, vR 11 0), (1, vI x1)] [] m (oX oI z) m'
  unfold r_X11_course at h
  refine xj_aload_n 0 dX11_course_0 rfl ?_
  refine xj_iload_n 1 dX11_course_1 rfl ?_
  refine xj_if_lt (tgt := 9) dX11_course_2 (by decide) (fun c1 => ?_) (fun c1 => ?_)
  · rw [if_pos c1] at h
    refine xj_iconst (z := 0) dX11_course_9 (by decide) ?_
    exact ok_X11_course_j10 x1 0 m h 
  · rw [if_neg c1] at h
    refine xj_iconst (z := 1) dX11_course_5 (by decide) ?_
    refine xj_goto (tgt := 10) dX11_course_6 (by decide) ?_
    exact ok_X11_course_j10 x1 1 m h 
noncomputable def r_X11_digs (x1 : Int32) (x2 : Int32) (m : Mem) : Option ((Int32 ⊕ Nat) × Mem) :=
  thr (r_X11_needPlace x1 m) fun z1 m2 => (thr (r_X11_needPlace x2 m2) fun z4 m5 => (bd2 (r_X0_findDigs 0 x1 x2 m5) fun z9 m8 => (some (Sum.inl z9, m8))))
set_option maxHeartbeats 4000000 in
set_option maxRecDepth 20000 in
theorem ok_X11_digs (x1 : Int32) (x2 : Int32) (m : Mem) {z : (Int32 ⊕ Nat)} {m' : Mem} (h : r_X11_digs x1 x2 m = some (z, m')) : Mt yX11_digs cX11_digs 3 (some .int) 8 134 2 12 [vR 11 0, vI x1, vI x2] m (oX oI z) m' := by
  refine Mt.of (by decide) (Nat.le_of_ble_eq_true rfl) (by decide +kernel) (hhF_ne (by decide)) ?_
  show Xj RX11 cX11_digs 3 (some .int) 8 134 2 12 0 0 0 [(0, vR 11 0), (1, vI x1), (2, vI x2)] [] m (oX oI z) m'
  unfold r_X11_digs at h
  refine xj_aload_n 0 dX11_digs_0 rfl ?_
  refine xj_iload_n 1 dX11_digs_1 rfl ?_
  rcases thr_some h with ⟨z1, m2, e3, h⟩ | ⟨ex, e3, rfl⟩
  case inr => exact xj_callVx (st := []) (ok_X11_needPlace x1 m e3) dX11_digs_2 cv_X11_211 rfl rfl (Nat.le_of_ble_eq_true rfl) (by decide) (by decide) (by decide) (by decide) (by decide)
  refine xc_Vv (st := []) (ok_X11_needPlace x1 m e3) dX11_digs_2 cv_X11_211 rfl rfl (Nat.le_of_ble_eq_true rfl) (by decide) (by decide) (by decide) (by decide) ?_
  refine xj_aload_n 0 dX11_digs_5 rfl ?_
  refine xj_iload_n 2 dX11_digs_6 rfl ?_
  rcases thr_some h with ⟨z4, m5, e6, h⟩ | ⟨ex, e6, rfl⟩
  case inr => exact xj_callVx (st := []) (ok_X11_needPlace x2 m2 e6) dX11_digs_7 cv_X11_211 rfl rfl (Nat.le_of_ble_eq_true rfl) (by decide) (by decide) (by decide) (by decide) (by decide)
  refine xc_Vv (st := []) (ok_X11_needPlace x2 m2 e6) dX11_digs_7 cv_X11_211 rfl rfl (Nat.le_of_ble_eq_true rfl) (by decide) (by decide) (by decide) (by decide) ?_
  refine xj_aload_n 0 dX11_digs_10 rfl ?_
  refine xg_getR (k' := 0) (i' := 0) dX11_digs_11 fl_X11_90 rfl ?_
  refine xj_aload_n 0 dX11_digs_14 rfl ?_
  refine xg_getR (k' := 7) (i' := 0) dX11_digs_15 fl_X11_49 rfl ?_
  refine xj_iload_n 1 dX11_digs_18 rfl ?_
  refine xj_iload_n 2 dX11_digs_19 rfl ?_
  obtain ⟨z9, m8, e7, h⟩ := bd2_some h
  refine xc_Vi0 (st := []) (ok_X0_findDigs 0 x1 x2 m5 e7) dX11_digs_20 cv_X11_328 rfl rfl (Nat.le_of_ble_eq_true rfl) (by decide) (by decide) (by decide) (by decide) ?_
  cases h
  exact xj_ireturn dX11_digs_23 rfl (by decide) (by decide)
noncomputable def r_X11_ditch (x1 : Int32) (x2 : Int32) (m : Mem) : Option ((Int32 ⊕ Nat) × Mem) :=
  thr (r_X11_needMember x1 (m 3 0 1) m) fun z1 m2 => (thr (r_X11_needRange x2 0 3 m2) fun z4 m5 => (if x2 = 0 then (if inb x1 16 = true then (some (Sum.inl (m5 27 0 x1.toNatClampNeg), m5)) else none) else if x2 = 1 then (if inb x1 16 = true then (some (Sum.inl (m5 28 0 x1.toNatClampNeg), m5)) else none) else if x2 = 2 then (if inb x1 16 = true then (some (Sum.inl (m5 23 0 x1.toNatClampNeg), m5)) else none) else (if inb x1 16 = true then (some (Sum.inl (m5 24 0 x1.toNatClampNeg), m5)) else none)))
set_option maxHeartbeats 4000000 in
set_option maxRecDepth 20000 in
theorem ok_X11_ditch (x1 : Int32) (x2 : Int32) (m : Mem) {z : (Int32 ⊕ Nat)} {m' : Mem} (h : r_X11_ditch x1 x2 m = some (z, m')) : Mt yX11_ditch cX11_ditch 3 (some .int) 8 134 2 12 [vR 11 0, vI x1, vI x2] m (oX oI z) m' := by
  refine Mt.of (by decide) (Nat.le_of_ble_eq_true rfl) (by decide +kernel) (hhF_ne (by decide)) ?_
  show Xj RX11 cX11_ditch 3 (some .int) 8 134 2 12 0 0 0 [(0, vR 11 0), (1, vI x1), (2, vI x2)] [] m (oX oI z) m'
  unfold r_X11_ditch at h
  refine xj_aload_n 0 dX11_ditch_0 rfl ?_
  refine xj_iload_n 1 dX11_ditch_1 rfl ?_
  refine xj_aload_n 0 dX11_ditch_2 rfl ?_
  refine xg_getR (k' := 3) (i' := 0) dX11_ditch_3 fl_X11_19 rfl ?_
  refine xg_getI (x := (m 3 0 1)) dX11_ditch_6 fl_X11_180 rfl rfl ?_
  rcases thr_some h with ⟨z1, m2, e3, h⟩ | ⟨ex, e3, rfl⟩
  case inr => exact xj_callVx (st := []) (ok_X11_needMember x1 (m 3 0 1) m e3) dX11_ditch_9 cv_X11_231 rfl rfl (Nat.le_of_ble_eq_true rfl) (by decide) (by decide) (by decide) (by decide) (by decide)
  refine xc_Vv (st := []) (ok_X11_needMember x1 (m 3 0 1) m e3) dX11_ditch_9 cv_X11_231 rfl rfl (Nat.le_of_ble_eq_true rfl) (by decide) (by decide) (by decide) (by decide) ?_
  refine xj_aload_n 0 dX11_ditch_12 rfl ?_
  refine xj_iload_n 2 dX11_ditch_13 rfl ?_
  refine xj_iconst (z := 0) dX11_ditch_14 (by decide) ?_
  refine xj_iconst (z := 3) dX11_ditch_15 (by decide) ?_
  rcases thr_some h with ⟨z4, m5, e6, h⟩ | ⟨ex, e6, rfl⟩
  case inr => exact xj_callVx (st := []) (ok_X11_needRange x2 0 3 m2 e6) dX11_ditch_16 cv_X11_176 rfl rfl (Nat.le_of_ble_eq_true rfl) (by decide) (by decide) (by decide) (by decide) (by decide)
  refine xc_Vv (st := []) (ok_X11_needRange x2 0 3 m2 e6) dX11_ditch_16 cv_X11_176 rfl rfl (Nat.le_of_ble_eq_true rfl) (by decide) (by decide) (by decide) (by decide) ?_
  refine xj_iload_n 2 dX11_ditch_19 rfl ?_
  by_cases c7 : x2 = 0
  · rw [if_pos c7] at h
    refine xj_tableIn (off := 28) (tgt := 48) dX11_ditch_20 (by rw [c7]; decide) (by rw [c7]; decide) (by rw [c7]; decide) (by decide) ?_
    refine xj_aload_n 0 dX11_ditch_48 rfl ?_
    refine xg_getR (k' := 3) (i' := 0) dX11_ditch_49 fl_X11_19 rfl ?_
    refine xg_getR (k' := 27) (i' := 0) dX11_ditch_52 fl_X11_234 rfl ?_
    refine xj_iload_n 1 dX11_ditch_55 rfl ?_
    by_cases c8 : inb x1 16 = true
    case neg => rw [if_neg c8] at h; cases h
    rw [if_pos c8] at h
    refine xg_iald (z := (m5 27 0 x1.toNatClampNeg)) (n := x1.toNatClampNeg) dX11_ditch_56 rfl (by decide) (inb_in c8) rfl rfl ?_
    cases h
    exact xj_ireturn dX11_ditch_57 rfl (by decide) (by decide)
  rw [if_neg c7] at h
  by_cases c9 : x2 = 1
  · rw [if_pos c9] at h
    refine xj_tableIn (off := 38) (tgt := 58) dX11_ditch_20 (by rw [c9]; decide) (by rw [c9]; decide) (by rw [c9]; decide) (by decide) ?_
    refine xj_aload_n 0 dX11_ditch_58 rfl ?_
    refine xg_getR (k' := 3) (i' := 0) dX11_ditch_59 fl_X11_19 rfl ?_
    refine xg_getR (k' := 28) (i' := 0) dX11_ditch_62 fl_X11_237 rfl ?_
    refine xj_iload_n 1 dX11_ditch_65 rfl ?_
    by_cases c10 : inb x1 16 = true
    case neg => rw [if_neg c10] at h; cases h
    rw [if_pos c10] at h
    refine xg_iald (z := (m5 28 0 x1.toNatClampNeg)) (n := x1.toNatClampNeg) dX11_ditch_66 rfl (by decide) (inb_in c10) rfl rfl ?_
    cases h
    exact xj_ireturn dX11_ditch_67 rfl (by decide) (by decide)
  rw [if_neg c9] at h
  by_cases c11 : x2 = 2
  · rw [if_pos c11] at h
    refine xj_tableIn (off := 48) (tgt := 68) dX11_ditch_20 (by rw [c11]; decide) (by rw [c11]; decide) (by rw [c11]; decide) (by decide) ?_
    refine xj_aload_n 0 dX11_ditch_68 rfl ?_
    refine xg_getR (k' := 7) (i' := 0) dX11_ditch_69 fl_X11_49 rfl ?_
    refine xg_getR (k' := 23) (i' := 0) dX11_ditch_72 fl_X11_240 rfl ?_
    refine xj_iload_n 1 dX11_ditch_75 rfl ?_
    by_cases c12 : inb x1 16 = true
    case neg => rw [if_neg c12] at h; cases h
    rw [if_pos c12] at h
    refine xg_iald (z := (m5 23 0 x1.toNatClampNeg)) (n := x1.toNatClampNeg) dX11_ditch_76 rfl (by decide) (inb_in c12) rfl rfl ?_
    cases h
    exact xj_ireturn dX11_ditch_77 rfl (by decide) (by decide)
  rw [if_neg c11] at h
  refine xj_tableOut (tgt := 78) dX11_ditch_20 ?_ (by decide) ?_
  · have nc7 := lv_neT c7 (show (0 : Int32).toInt = 0 by decide)
    have nc9 := lv_neT c9 (show (1 : Int32).toInt = 1 by decide)
    have nc11 := lv_neT c11 (show (2 : Int32).toInt = 2 by decide)
    omega
  refine xj_aload_n 0 dX11_ditch_78 rfl ?_
  refine xg_getR (k' := 7) (i' := 0) dX11_ditch_79 fl_X11_49 rfl ?_
  refine xg_getR (k' := 24) (i' := 0) dX11_ditch_82 fl_X11_243 rfl ?_
  refine xj_iload_n 1 dX11_ditch_85 rfl ?_
  by_cases c13 : inb x1 16 = true
  case neg => rw [if_neg c13] at h; cases h
  rw [if_pos c13] at h
  refine xg_iald (z := (m5 24 0 x1.toNatClampNeg)) (n := x1.toNatClampNeg) dX11_ditch_86 rfl (by decide) (inb_in c13) rfl rfl ?_
  cases h
  exact xj_ireturn dX11_ditch_87 rfl (by decide) (by decide)
noncomputable def r_X11_fault (m : Mem) : Int32 :=
  (m 8 0 3)
set_option maxHeartbeats 4000000 in
set_option maxRecDepth 20000 in
theorem ok_X11_fault (m : Mem) {z : Int32} (h : r_X11_fault m = z) : Mt yX11_fault cX11_fault 1 (some .int) 1 0 0 0 [vR 11 0] m (oI z) m := by
  refine Mt.of (by decide) (Nat.le_of_ble_eq_true rfl) (by decide +kernel) (hhF_ne (by decide)) ?_
  show Xj RX11 cX11_fault 1 (some .int) 1 0 0 0 0 0 0 [(0, vR 11 0)] [] m (oI z) m
  unfold r_X11_fault at h
  refine xj_aload_n 0 dX11_fault_0 rfl ?_
  refine xg_getR (k' := 8) (i' := 0) dX11_fault_1 fl_X11_10 rfl ?_
  refine xg_getI (x := (m 8 0 3)) dX11_fault_4 fl_X11_170 rfl rfl ?_
  subst h
  exact xj_ireturn dX11_fault_7 rfl (by decide) (by decide)
noncomputable def r_X11_feed (x1 : Int32) (x2 : Int32) (x3 : Int32) (x4 : Int32) (x5 : Int32) (m : Mem) : Option (Int32 × Mem) :=
  if ((m 8 0 1) + 20) ≤ 600 then (bd1 (r_X8_append x1 m) fun m3 => (bd1 (r_X8_append x2 m3) fun m5 => (bd1 (r_X8_append x3 m5) fun m7 => (bd1 (r_X8_append x4 m7) fun m9 => (bd1 (r_X8_append x5 m9) fun m11 => (some ((m11 8 0 1), m11))))))) else (some ((-1), m))
set_option maxHeartbeats 4000000 in
set_option maxRecDepth 20000 in
theorem ok_X11_feed (x1 : Int32) (x2 : Int32) (x3 : Int32) (x4 : Int32) (x5 : Int32) (m : Mem) {z : Int32} {m' : Mem} (h : r_X11_feed x1 x2 x3 x4 x5 m = some (z, m')) : Mt yX11_feed cX11_feed 6 (some .int) 2 22 0 0 [vR 11 0, vI x1, vI x2, vI x3, vI x4, vI x5] m (oI z) m' := by
  refine Mt.of (by decide) (Nat.le_of_ble_eq_true rfl) (by decide +kernel) (hhF_ne (by decide)) ?_
  show Xj RX11 cX11_feed 6 (some .int) 2 22 0 0 0 0 0 [(0, vR 11 0), (1, vI x1), (2, vI x2), (3, vI x3), (4, vI x4), (5, vI x5)] [] m (oI z) m'
  unfold r_X11_feed at h
  refine xj_aload_n 0 dX11_feed_0 rfl ?_
  refine xg_getR (k' := 8) (i' := 0) dX11_feed_1 fl_X11_10 rfl ?_
  refine xg_getI (x := (m 8 0 1)) dX11_feed_4 fl_X11_101 rfl rfl ?_
  refine xj_bipush (z := 20) dX11_feed_7 (by decide) ?_
  refine xj_iadd dX11_feed_9 ?_
  refine xj_sipush (z := 600) dX11_feed_10 (by decide) ?_
  refine xj_icmp_le (tgt := 18) dX11_feed_13 (by decide) (fun c1 => ?_) (fun c1 => ?_)
  · rw [if_pos c1] at h
    refine xj_aload_n 0 dX11_feed_18 rfl ?_
    refine xg_getR (k' := 8) (i' := 0) dX11_feed_19 fl_X11_10 rfl ?_
    refine xj_iload_n 1 dX11_feed_22 rfl ?_
    obtain ⟨m3, e2, h⟩ := bd1_some h
    refine xc_Vv0 (st := []) (ok_X8_append x1 m e2) dX11_feed_23 cv_X11_105 rfl rfl (Nat.le_of_ble_eq_true rfl) (by decide) (by decide) (by decide) (by decide) ?_
    refine xj_aload_n 0 dX11_feed_26 rfl ?_
    refine xg_getR (k' := 8) (i' := 0) dX11_feed_27 fl_X11_10 rfl ?_
    refine xj_iload_n 2 dX11_feed_30 rfl ?_
    obtain ⟨m5, e4, h⟩ := bd1_some h
    refine xc_Vv0 (st := []) (ok_X8_append x2 m3 e4) dX11_feed_31 cv_X11_105 rfl rfl (Nat.le_of_ble_eq_true rfl) (by decide) (by decide) (by decide) (by decide) ?_
    refine xj_aload_n 0 dX11_feed_34 rfl ?_
    refine xg_getR (k' := 8) (i' := 0) dX11_feed_35 fl_X11_10 rfl ?_
    refine xj_iload_n 3 dX11_feed_38 rfl ?_
    obtain ⟨m7, e6, h⟩ := bd1_some h
    refine xc_Vv0 (st := []) (ok_X8_append x3 m5 e6) dX11_feed_39 cv_X11_105 rfl rfl (Nat.le_of_ble_eq_true rfl) (by decide) (by decide) (by decide) (by decide) ?_
    refine xj_aload_n 0 dX11_feed_42 rfl ?_
    refine xg_getR (k' := 8) (i' := 0) dX11_feed_43 fl_X11_10 rfl ?_
    refine xj_iload 4 dX11_feed_46 rfl ?_
    obtain ⟨m9, e8, h⟩ := bd1_some h
    refine xc_Vv0 (st := []) (ok_X8_append x4 m7 e8) dX11_feed_48 cv_X11_105 rfl rfl (Nat.le_of_ble_eq_true rfl) (by decide) (by decide) (by decide) (by decide) ?_
    refine xj_aload_n 0 dX11_feed_51 rfl ?_
    refine xg_getR (k' := 8) (i' := 0) dX11_feed_52 fl_X11_10 rfl ?_
    refine xj_iload 5 dX11_feed_55 rfl ?_
    obtain ⟨m11, e10, h⟩ := bd1_some h
    refine xc_Vv0 (st := []) (ok_X8_append x5 m9 e10) dX11_feed_57 cv_X11_105 rfl rfl (Nat.le_of_ble_eq_true rfl) (by decide) (by decide) (by decide) (by decide) ?_
    refine xj_aload_n 0 dX11_feed_60 rfl ?_
    refine xg_getR (k' := 8) (i' := 0) dX11_feed_61 fl_X11_10 rfl ?_
    refine xg_getI (x := (m11 8 0 1)) dX11_feed_64 fl_X11_101 rfl rfl ?_
    cases h
    exact xj_ireturn dX11_feed_67 rfl (by decide) (by decide)
  · rw [if_neg c1] at h
    refine xj_iconst (z := (-1)) dX11_feed_16 (by decide) ?_
    cases h
    exact xj_ireturn dX11_feed_17 rfl (by decide) (by decide)
noncomputable def r_X11_givenBy_j43_c5 (x1 : Int32) (x2 : Int32) (x3 : Int32) (x4 : Int32) (m : Mem) : Option ((Int32 × Int32) ⊕ (Int32)) :=
  some (Sum.inl (x3, x4 + 1))
set_option maxHeartbeats 4000000 in
set_option maxRecDepth 20000 in
theorem ok_X11_givenBy_j43_c5 (x1 : Int32) (x2 : Int32) (x3 : Int32) (x4 : Int32) (m : Mem) {r : (Int32 × Int32) ⊕ (Int32)} (h : r_X11_givenBy_j43_c5 x1 x2 x3 x4 m = some r) {o : Ou} {M' : Mem} (kb : ∀ (x3' : Int32) (x4' : Int32), r = Sum.inl (x3', x4') → Xj RX11 cX11_givenBy 5 (some .int) 1 21 0 0 0 0 5 [(0, vR 11 0), (1, vI x1), (2, vI x2), (3, vI x3'), (4, vI x4')] [] m o M') (ke : ∀ (x3' : Int32), r = Sum.inr x3' → Xj RX11 cX11_givenBy 5 (some .int) 1 21 0 0 0 0 49 [(3, vI x3')] [] m o M') : Xj RX11 cX11_givenBy 5 (some .int) 1 21 0 0 0 0 43 [(0, vR 11 0), (1, vI x1), (2, vI x2), (3, vI x3), (4, vI x4)] [] m o M' := by
  unfold r_X11_givenBy_j43_c5 at h
  refine xj_iinc (z := x4 + 1) (ls' := [(4, vI (x4 + 1)), (0, vR 11 0), (1, vI x1), (2, vI x2), (3, vI x3)]) 4 dX11_givenBy_43 rfl rfl (by decide) rfl ?_
  refine xj_goto (tgt := 5) dX11_givenBy_46 (by decide) ?_
  cases h
  refine xj_pick (ls' := [(0, vR 11 0), (1, vI x1), (2, vI x2), (3, vI x3), (4, vI (x4 + 1))]) [1, 2, 3, 4, 0] rfl ?_
  exact kb x3 (x4 + 1) rfl
noncomputable def r_X11_givenBy_b5 (x1 : Int32) (x2 : Int32) (m : Mem) (x3 : Int32) (x4 : Int32) : Option ((Int32 × Int32) ⊕ (Int32)) :=
  if (m 3 0 2) ≤ x4 then (some (Sum.inr x3)) else (if ((x2 >>> (x4 &&& 31)) &&& 1) = 0 then (r_X11_givenBy_j43_c5 x1 x2 x3 x4 m) else (if inb x4 8 = true then (r_X11_givenBy_j43_c5 x1 x2 (x3 + (imin x1 (m 20 0 x4.toNatClampNeg))) x4 m) else none))
set_option maxHeartbeats 4000000 in
set_option maxRecDepth 20000 in
theorem ok_X11_givenBy_b5 (x1 : Int32) (x2 : Int32) (m : Mem) (x3 : Int32) (x4 : Int32) {r : (Int32 × Int32) ⊕ (Int32)} (h : r_X11_givenBy_b5 x1 x2 m x3 x4 = some r) {o : Ou} {M' : Mem} (kb : ∀ (x3' : Int32) (x4' : Int32), r = Sum.inl (x3', x4') → Xj RX11 cX11_givenBy 5 (some .int) 1 21 0 0 0 0 5 [(0, vR 11 0), (1, vI x1), (2, vI x2), (3, vI x3'), (4, vI x4')] [] m o M') (ke : ∀ (x3' : Int32), r = Sum.inr x3' → Xj RX11 cX11_givenBy 5 (some .int) 1 21 0 0 0 0 49 [(3, vI x3')] [] m o M') : Xj RX11 cX11_givenBy 5 (some .int) 1 21 0 0 0 0 5 [(0, vR 11 0), (1, vI x1), (2, vI x2), (3, vI x3), (4, vI x4)] [] m o M' := by
  unfold r_X11_givenBy_b5 at h
  refine xj_iload 4 dX11_givenBy_5 rfl ?_
  refine xj_aload_n 0 dX11_givenBy_7 rfl ?_
  refine xg_getR (k' := 3) (i' := 0) dX11_givenBy_8 fl_X11_19 rfl ?_
  refine xg_getI (x := (m 3 0 2)) dX11_givenBy_11 fl_X11_183 rfl rfl ?_
  refine xj_icmp_ge (tgt := 49) dX11_givenBy_14 (by decide) (fun c1 => ?_) (fun c1 => ?_)
  · rw [if_pos c1] at h
    cases h
    refine xj_pick (ls' := [(3, vI x3)]) [3] rfl ?_
    exact ke x3 rfl
  · rw [if_neg c1] at h
    refine xj_iload_n 2 dX11_givenBy_17 rfl ?_
    refine xj_iload 4 dX11_givenBy_18 rfl ?_
    refine xj_ishr dX11_givenBy_20 ?_
    refine xj_iconst (z := 1) dX11_givenBy_21 (by decide) ?_
    refine xj_iand dX11_givenBy_22 ?_
    refine xj_if_eq (tgt := 43) dX11_givenBy_23 (by decide) (fun c2 => ?_) (fun c2 => ?_)
    · rw [if_pos c2] at h
      exact ok_X11_givenBy_j43_c5 x1 x2 x3 x4 m h kb ke
    · rw [if_neg c2] at h
      refine xj_iload_n 3 dX11_givenBy_26 rfl ?_
      refine xj_iload_n 1 dX11_givenBy_27 rfl ?_
      refine xj_aload_n 0 dX11_givenBy_28 rfl ?_
      refine xg_getR (k' := 7) (i' := 0) dX11_givenBy_29 fl_X11_49 rfl ?_
      refine xg_getR (k' := 20) (i' := 0) dX11_givenBy_32 fl_X11_249 rfl ?_
      refine xj_iload 4 dX11_givenBy_35 rfl ?_
      by_cases c3 : inb x4 8 = true
      case neg => rw [if_neg c3] at h; cases h
      rw [if_pos c3] at h
      refine xg_iald (z := (m 20 0 x4.toNatClampNeg)) (n := x4.toNatClampNeg) dX11_givenBy_37 rfl (by decide) (inb_in c3) rfl rfl ?_
      refine xj_min dX11_givenBy_38 cm_X11_365 (by decide) (Nat.le_of_ble_eq_true rfl) (by decide) (by decide) ?_
      refine xj_iadd dX11_givenBy_41 ?_
      refine xj_istore_n (ls' := [(3, vI (x3 + (imin x1 (m 20 0 x4.toNatClampNeg)))), (0, vR 11 0), (1, vI x1), (2, vI x2), (4, vI x4)]) dX11_givenBy_42 rfl (by decide) rfl ?_
      refine xj_pick (ls' := [(0, vR 11 0), (1, vI x1), (2, vI x2), (3, vI (x3 + (imin x1 (m 20 0 x4.toNatClampNeg)))), (4, vI x4)]) [1, 2, 3, 0, 4] rfl ?_
      exact ok_X11_givenBy_j43_c5 x1 x2 (x3 + (imin x1 (m 20 0 x4.toNatClampNeg))) x4 m h kb ke
noncomputable def r_X11_givenBy_e49_h5 (x3 : Int32) (m : Mem) : Option Int32 :=
  some x3
set_option maxHeartbeats 4000000 in
set_option maxRecDepth 20000 in
theorem ok_X11_givenBy_e49_h5 (x3 : Int32) (m : Mem) {z : Int32} (h : r_X11_givenBy_e49_h5 x3 m = some z) : Xj RX11 cX11_givenBy 5 (some .int) 1 21 0 0 0 0 49 [(3, vI x3)] [] m (oI z) m := by
  unfold r_X11_givenBy_e49_h5 at h
  refine xj_iload_n 0 dX11_givenBy_49 rfl ?_
  cases h
  exact xj_ireturn dX11_givenBy_50 rfl (by decide) (by decide)
noncomputable def r_X11_givenBy_l5 (x1 : Int32) (x2 : Int32) (x3 : Int32) (x4 : Int32) (m : Mem) : Option Int32 :=
  bd1 (loopO (fun s => r_X11_givenBy_b5 x1 x2 m s.1 s.2) (x3, x4)) (fun e => r_X11_givenBy_e49_h5 e m)
set_option maxHeartbeats 4000000 in
set_option maxRecDepth 20000 in
theorem ok_X11_givenBy_l5 (x1 : Int32) (x2 : Int32) (x3 : Int32) (x4 : Int32) (m : Mem) {z : Int32} (h : r_X11_givenBy_l5 x1 x2 x3 x4 m = some z) : Xj RX11 cX11_givenBy 5 (some .int) 1 21 0 0 0 0 5 [(0, vR 11 0), (1, vI x1), (2, vI x2), (3, vI x3), (4, vI x4)] [] m (oI z) m := by
  unfold r_X11_givenBy_l5 at h
  obtain ⟨e, e1, h⟩ := bd1_some h
  refine loopO_ok (P := fun s : (Int32 × Int32) => Xj RX11 cX11_givenBy 5 (some .int) 1 21 0 0 0 0 5 [(0, vR 11 0), (1, vI x1), (2, vI x2), (3, vI s.1), (4, vI s.2)] [] m (oI z) m) (Q := fun e : (Int32) => Xj RX11 cX11_givenBy 5 (some .int) 1 21 0 0 0 0 49 [(3, vI e)] [] m (oI z) m) ?_ _ _ e1 ?_
  · intro s r9 h9 hi hx
    exact ok_X11_givenBy_b5 x1 x2 m s.1 s.2 h9 (by rintro _ _ rfl; exact hi _ rfl) (by rintro _ rfl; exact hx _ rfl)
  · exact ok_X11_givenBy_e49_h5 e m h 
noncomputable def r_X11_givenBy (x1 : Int32) (x2 : Int32) (m : Mem) : Option Int32 :=
  r_X11_givenBy_l5 x1 x2 0 0 m
set_option maxHeartbeats 4000000 in
set_option maxRecDepth 20000 in
theorem ok_X11_givenBy (x1 : Int32) (x2 : Int32) (m : Mem) {z : Int32} (h : r_X11_givenBy x1 x2 m = some z) : Mt yX11_givenBy cX11_givenBy 5 (some .int) 1 21 0 0 [vR 11 0, vI x1, vI x2] m (oI z) m := by
  refine Mt.of (by decide) (Nat.le_of_ble_eq_true rfl) (by decide +kernel) (hhF_ne (by decide)) ?_
  show Xj RX11 cX11_givenBy 5 (some .int) 1 21 0 0 0 0 0 [(0, vR 11 0), (1, vI x1), (2, vI x2)] [] m (oI z) m
  unfold r_X11_givenBy at h
  refine xj_iconst (z := 0) dX11_givenBy_0 (by decide) ?_
  refine xj_istore_n (ls' := [(3, vI 0), (0, vR 11 0), (1, vI x1), (2, vI x2)]) dX11_givenBy_1 rfl (by decide) rfl ?_
  refine xj_iconst (z := 0) dX11_givenBy_2 (by decide) ?_
  refine xj_istore (ls' := [(4, vI 0), (3, vI 0), (0, vR 11 0), (1, vI x1), (2, vI x2)]) dX11_givenBy_3 (by decide) rfl ?_
  refine xj_pick (ls' := [(0, vR 11 0), (1, vI x1), (2, vI x2), (3, vI 0), (4, vI 0)]) [2, 3, 4, 1, 0] rfl ?_
  exact ok_X11_givenBy_l5 x1 x2 0 0 m h 
noncomputable def r_X11_land (x1 : Int32) (m : Mem) : Option ((Int32 ⊕ Nat) × Mem) :=
  thr (r_X11_openText x1 600 m) fun z1 m2 => (bd2 (r_X3_readFrom 1 m2) fun z6 m5 => (if z6 = true then (bd1 (r_X3_copyFrom 0 1 m5) fun m9 => (bd1 (r_X4_clear 0 m9) fun m11 => (bd1 (r_X1_clear 0 m11) fun m13 => (bd1 (r_X7_begin 0 0 m13) fun m15 => (bd1 (r_X5_clear 0 m15) fun m17 => (bd1 (r_X2_clear m17) fun m19 => (some (Sum.inl (m19 3 0 0), (wr m19 11 0 14 0))))))))) else (some (Sum.inl (r_X8_faultAnswer m5), m5))))
set_option maxHeartbeats 4000000 in
set_option maxRecDepth 20000 in
theorem ok_X11_land (x1 : Int32) (m : Mem) {z : (Int32 ⊕ Nat)} {m' : Mem} (h : r_X11_land x1 m = some (z, m')) : Mt yX11_land cX11_land 2 (some .int) 9 173 1 6 [vR 11 0, vI x1] m (oX oI z) m' := by
  refine Mt.of (by decide) (Nat.le_of_ble_eq_true rfl) (by decide +kernel) (hhF_ne (by decide)) ?_
  show Xj RX11 cX11_land 2 (some .int) 9 173 1 6 0 0 0 [(0, vR 11 0), (1, vI x1)] [] m (oX oI z) m'
  unfold r_X11_land at h
  refine xj_aload_n 0 dX11_land_0 rfl ?_
  refine xj_iload_n 1 dX11_land_1 rfl ?_
  refine xj_sipush (z := 600) dX11_land_2 (by decide) ?_
  rcases thr_some h with ⟨z1, m2, e3, h⟩ | ⟨ex, e3, rfl⟩
  case inr => exact xj_callVx (st := []) (ok_X11_openText x1 600 m e3) dX11_land_5 cv_X11_109 rfl rfl (Nat.le_of_ble_eq_true rfl) (by decide) (by decide) (by decide) (by decide) (by decide)
  refine xc_Vv (st := []) (ok_X11_openText x1 600 m e3) dX11_land_5 cv_X11_109 rfl rfl (Nat.le_of_ble_eq_true rfl) (by decide) (by decide) (by decide) (by decide) ?_
  refine xj_aload_n 0 dX11_land_8 rfl ?_
  refine xg_getR (k' := 3) (i' := 1) dX11_land_9 fl_X11_23 rfl ?_
  refine xj_aload_n 0 dX11_land_12 rfl ?_
  refine xg_getR (k' := 8) (i' := 0) dX11_land_13 fl_X11_10 rfl ?_
  obtain ⟨z6, m5, e4, h⟩ := bd2_some h
  refine xc_Vb0 (st := []) (ok_X3_readFrom 1 m2 e4) dX11_land_16 cv_X11_113 rfl rfl (Nat.le_of_ble_eq_true rfl) (by decide) (by decide) (by decide) (by decide) ?_
  refine xj_if_ne (tgt := 30) dX11_land_19 (by decide) (fun c7 => ?_) (fun c7 => ?_)
  · rw [if_pos (b2i_t c7)] at h
    refine xj_aload_n 0 dX11_land_30 rfl ?_
    refine xg_getR (k' := 3) (i' := 0) dX11_land_31 fl_X11_19 rfl ?_
    refine xj_aload_n 0 dX11_land_34 rfl ?_
    refine xg_getR (k' := 3) (i' := 1) dX11_land_35 fl_X11_23 rfl ?_
    obtain ⟨m9, e8, h⟩ := bd1_some h
    refine xc_Vv0 (st := []) (ok_X3_copyFrom 0 1 m5 e8) dX11_land_38 cv_X11_121 rfl rfl (Nat.le_of_ble_eq_true rfl) (by decide) (by decide) (by decide) (by decide) ?_
    refine xj_aload_n 0 dX11_land_41 rfl ?_
    refine xg_getR (k' := 4) (i' := 0) dX11_land_42 fl_X11_29 rfl ?_
    obtain ⟨m11, e10, h⟩ := bd1_some h
    refine xc_Vv0 (st := []) (ok_X4_clear 0 m9 e10) dX11_land_45 cv_X11_125 rfl rfl (Nat.le_of_ble_eq_true rfl) (by decide) (by decide) (by decide) (by decide) ?_
    refine xj_aload_n 0 dX11_land_48 rfl ?_
    refine xg_getR (k' := 1) (i' := 0) dX11_land_49 fl_X11_39 rfl ?_
    obtain ⟨m13, e12, h⟩ := bd1_some h
    refine xc_Vv0 (st := []) (ok_X1_clear 0 m11 e12) dX11_land_52 cv_X11_128 rfl rfl (Nat.le_of_ble_eq_true rfl) (by decide) (by decide) (by decide) (by decide) ?_
    refine xj_aload_n 0 dX11_land_55 rfl ?_
    refine xg_getR (k' := 7) (i' := 0) dX11_land_56 fl_X11_49 rfl ?_
    refine xj_aload_n 0 dX11_land_59 rfl ?_
    refine xg_getR (k' := 3) (i' := 0) dX11_land_60 fl_X11_19 rfl ?_
    obtain ⟨m15, e14, h⟩ := bd1_some h
    refine xc_Vv0 (st := []) (ok_X7_begin 0 0 m13 e14) dX11_land_63 cv_X11_129 rfl rfl (Nat.le_of_ble_eq_true rfl) (by decide) (by decide) (by decide) (by decide) ?_
    refine xj_aload_n 0 dX11_land_66 rfl ?_
    refine xg_getR (k' := 5) (i' := 0) dX11_land_67 fl_X11_56 rfl ?_
    obtain ⟨m17, e16, h⟩ := bd1_some h
    refine xc_Vv0 (st := []) (ok_X5_clear 0 m15 e16) dX11_land_70 cv_X11_132 rfl rfl (Nat.le_of_ble_eq_true rfl) (by decide) (by decide) (by decide) (by decide) ?_
    refine xj_aload_n 0 dX11_land_73 rfl ?_
    refine xg_getR (k' := 2) (i' := 0) dX11_land_74 fl_X11_63 rfl ?_
    obtain ⟨m19, e18, h⟩ := bd1_some h
    refine xc_Vv0 (st := []) (ok_X2_clear m17 e18) dX11_land_77 cv_X11_133 rfl rfl (Nat.le_of_ble_eq_true rfl) (by decide) (by decide) (by decide) (by decide) ?_
    refine xj_aload_n 0 dX11_land_80 rfl ?_
    refine xj_iconst (z := 0) dX11_land_81 (by decide) ?_
    refine xj_putI dX11_land_82 fw_X11_134 rfl ?_
    refine xj_aload_n 0 dX11_land_85 rfl ?_
    refine xg_getR (k' := 3) (i' := 0) dX11_land_86 fl_X11_19 rfl ?_
    refine xg_getI (x := (m19 3 0 0)) dX11_land_89 fl_X11_137 rfl rfl ?_
    cases h
    exact xj_ireturn dX11_land_92 rfl (by decide) (by decide)
  · rw [if_neg (b2i_f c7)] at h
    refine xj_aload_n 0 dX11_land_22 rfl ?_
    refine xg_getR (k' := 8) (i' := 0) dX11_land_23 fl_X11_10 rfl ?_
    refine xc_Vi0 (st := []) (ok_X8_faultAnswer m5 rfl) dX11_land_26 cv_X11_117 rfl rfl (Nat.le_of_ble_eq_true rfl) (by decide) (by decide) (by decide) (by decide) ?_
    cases h
    exact xj_ireturn dX11_land_29 rfl (by decide) (by decide)
noncomputable def r_X11_law (x1 : Int32) (m : Mem) : Option ((Int32 ⊕ Nat) × Mem) :=
  thr (r_X11_openText x1 150 m) fun z1 m2 => (bd2 (r_X4_readFrom 1 m2) fun z6 m5 => (if z6 = true then (bd1 (r_X4_copyFrom 0 1 m5) fun m9 => (some (Sum.inl 1, m9))) else (some (Sum.inl (r_X8_faultAnswer m5), m5))))
set_option maxHeartbeats 4000000 in
set_option maxRecDepth 20000 in
theorem ok_X11_law (x1 : Int32) (m : Mem) {z : (Int32 ⊕ Nat)} {m' : Mem} (h : r_X11_law x1 m = some (z, m')) : Mt yX11_law cX11_law 2 (some .int) 41 941 1 6 [vR 11 0, vI x1] m (oX oI z) m' := by
  refine Mt.of (by decide) (Nat.le_of_ble_eq_true rfl) (by decide +kernel) (hhF_ne (by decide)) ?_
  show Xj RX11 cX11_law 2 (some .int) 41 941 1 6 0 0 0 [(0, vR 11 0), (1, vI x1)] [] m (oX oI z) m'
  unfold r_X11_law at h
  refine xj_aload_n 0 dX11_law_0 rfl ?_
  refine xj_iload_n 1 dX11_law_1 rfl ?_
  refine xj_sipush (z := 150) dX11_law_2 (by decide) ?_
  rcases thr_some h with ⟨z1, m2, e3, h⟩ | ⟨ex, e3, rfl⟩
  case inr => exact xj_callVx (st := []) (ok_X11_openText x1 150 m e3) dX11_law_5 cv_X11_109 rfl rfl (Nat.le_of_ble_eq_true rfl) (by decide) (by decide) (by decide) (by decide) (by decide)
  refine xc_Vv (st := []) (ok_X11_openText x1 150 m e3) dX11_law_5 cv_X11_109 rfl rfl (Nat.le_of_ble_eq_true rfl) (by decide) (by decide) (by decide) (by decide) ?_
  refine xj_aload_n 0 dX11_law_8 rfl ?_
  refine xg_getR (k' := 4) (i' := 1) dX11_law_9 fl_X11_33 rfl ?_
  refine xj_aload_n 0 dX11_law_12 rfl ?_
  refine xg_getR (k' := 8) (i' := 0) dX11_law_13 fl_X11_10 rfl ?_
  obtain ⟨z6, m5, e4, h⟩ := bd2_some h
  refine xc_Vb0 (st := []) (ok_X4_readFrom 1 m2 e4) dX11_law_16 cv_X11_140 rfl rfl (Nat.le_of_ble_eq_true rfl) (by decide) (by decide) (by decide) (by decide) ?_
  refine xj_if_ne (tgt := 30) dX11_law_19 (by decide) (fun c7 => ?_) (fun c7 => ?_)
  · rw [if_pos (b2i_t c7)] at h
    refine xj_aload_n 0 dX11_law_30 rfl ?_
    refine xg_getR (k' := 4) (i' := 0) dX11_law_31 fl_X11_29 rfl ?_
    refine xj_aload_n 0 dX11_law_34 rfl ?_
    refine xg_getR (k' := 4) (i' := 1) dX11_law_35 fl_X11_33 rfl ?_
    obtain ⟨m9, e8, h⟩ := bd1_some h
    refine xc_Vv0 (st := []) (ok_X4_copyFrom 0 1 m5 e8) dX11_law_38 cv_X11_141 rfl rfl (Nat.le_of_ble_eq_true rfl) (by decide) (by decide) (by decide) (by decide) ?_
    refine xj_iconst (z := 1) dX11_law_41 (by decide) ?_
    cases h
    exact xj_ireturn dX11_law_42 rfl (by decide) (by decide)
  · rw [if_neg (b2i_f c7)] at h
    refine xj_aload_n 0 dX11_law_22 rfl ?_
    refine xg_getR (k' := 8) (i' := 0) dX11_law_23 fl_X11_10 rfl ?_
    refine xc_Vi0 (st := []) (ok_X8_faultAnswer m5 rfl) dX11_law_26 cv_X11_117 rfl rfl (Nat.le_of_ble_eq_true rfl) (by decide) (by decide) (by decide) (by decide) ?_
    cases h
    exact xj_ireturn dX11_law_29 rfl (by decide) (by decide)
noncomputable def r_X11_leaders (x1 : Int32) (x2 : Int32) (m : Mem) : Option ((Int32 ⊕ Nat) × Mem) :=
  thr (r_X11_needRange x1 0 30 m) fun z1 m2 => (thr (r_X11_needRange x2 0 2 m2) fun z4 m5 => (bd1 (r_X0_findRests 0 x1 m5) fun m8 => (if x2 = 0 then (some (Sum.inl (m8 0 0 7), m8)) else if x2 = 1 then (some (Sum.inl (m8 0 0 8), m8)) else (some (Sum.inl (m8 0 0 9), m8)))))
set_option maxHeartbeats 4000000 in
set_option maxRecDepth 20000 in
theorem ok_X11_leaders (x1 : Int32) (x2 : Int32) (m : Mem) {z : (Int32 ⊕ Nat)} {m' : Mem} (h : r_X11_leaders x1 x2 m = some (z, m')) : Mt yX11_leaders cX11_leaders 3 (some .int) 8 157 2 12 [vR 11 0, vI x1, vI x2] m (oX oI z) m' := by
  refine Mt.of (by decide) (Nat.le_of_ble_eq_true rfl) (by decide +kernel) (hhF_ne (by decide)) ?_
  show Xj RX11 cX11_leaders 3 (some .int) 8 157 2 12 0 0 0 [(0, vR 11 0), (1, vI x1), (2, vI x2)] [] m (oX oI z) m'
  unfold r_X11_leaders at h
  refine xj_aload_n 0 dX11_leaders_0 rfl ?_
  refine xj_iload_n 1 dX11_leaders_1 rfl ?_
  refine xj_iconst (z := 0) dX11_leaders_2 (by decide) ?_
  refine xj_bipush (z := 30) dX11_leaders_3 (by decide) ?_
  rcases thr_some h with ⟨z1, m2, e3, h⟩ | ⟨ex, e3, rfl⟩
  case inr => exact xj_callVx (st := []) (ok_X11_needRange x1 0 30 m e3) dX11_leaders_5 cv_X11_176 rfl rfl (Nat.le_of_ble_eq_true rfl) (by decide) (by decide) (by decide) (by decide) (by decide)
  refine xc_Vv (st := []) (ok_X11_needRange x1 0 30 m e3) dX11_leaders_5 cv_X11_176 rfl rfl (Nat.le_of_ble_eq_true rfl) (by decide) (by decide) (by decide) (by decide) ?_
  refine xj_aload_n 0 dX11_leaders_8 rfl ?_
  refine xj_iload_n 2 dX11_leaders_9 rfl ?_
  refine xj_iconst (z := 0) dX11_leaders_10 (by decide) ?_
  refine xj_iconst (z := 2) dX11_leaders_11 (by decide) ?_
  rcases thr_some h with ⟨z4, m5, e6, h⟩ | ⟨ex, e6, rfl⟩
  case inr => exact xj_callVx (st := []) (ok_X11_needRange x2 0 2 m2 e6) dX11_leaders_12 cv_X11_176 rfl rfl (Nat.le_of_ble_eq_true rfl) (by decide) (by decide) (by decide) (by decide) (by decide)
  refine xc_Vv (st := []) (ok_X11_needRange x2 0 2 m2 e6) dX11_leaders_12 cv_X11_176 rfl rfl (Nat.le_of_ble_eq_true rfl) (by decide) (by decide) (by decide) (by decide) ?_
  refine xj_aload_n 0 dX11_leaders_15 rfl ?_
  refine xg_getR (k' := 0) (i' := 0) dX11_leaders_16 fl_X11_90 rfl ?_
  refine xj_aload_n 0 dX11_leaders_19 rfl ?_
  refine xg_getR (k' := 7) (i' := 0) dX11_leaders_20 fl_X11_49 rfl ?_
  refine xj_iload_n 1 dX11_leaders_23 rfl ?_
  obtain ⟨m8, e7, h⟩ := bd1_some h
  refine xc_Vv0 (st := []) (ok_X0_findRests 0 x1 m5 e7) dX11_leaders_24 cv_X11_350 rfl rfl (Nat.le_of_ble_eq_true rfl) (by decide) (by decide) (by decide) (by decide) ?_
  refine xj_iload_n 2 dX11_leaders_27 rfl ?_
  by_cases c9 : x2 = 0
  · rw [if_pos c9] at h
    refine xj_lookup (off := 28) (tgt := 56) dX11_leaders_28 (by decide) (by rw [c9]; decide) (by decide) ?_
    refine xj_aload_n 0 dX11_leaders_56 rfl ?_
    refine xg_getR (k' := 0) (i' := 0) dX11_leaders_57 fl_X11_90 rfl ?_
    refine xg_getI (x := (m8 0 0 7)) dX11_leaders_60 fl_X11_353 rfl rfl ?_
    cases h
    exact xj_ireturn dX11_leaders_63 rfl (by decide) (by decide)
  rw [if_neg c9] at h
  by_cases c10 : x2 = 1
  · rw [if_pos c10] at h
    refine xj_lookup (off := 36) (tgt := 64) dX11_leaders_28 (by decide) (by rw [c10]; decide) (by decide) ?_
    refine xj_aload_n 0 dX11_leaders_64 rfl ?_
    refine xg_getR (k' := 0) (i' := 0) dX11_leaders_65 fl_X11_90 rfl ?_
    refine xg_getI (x := (m8 0 0 8)) dX11_leaders_68 fl_X11_356 rfl rfl ?_
    cases h
    exact xj_ireturn dX11_leaders_71 rfl (by decide) (by decide)
  rw [if_neg c10] at h
  refine xj_lookup (off := 44) (tgt := 72) dX11_leaders_28 (by decide) ?_ (by decide) ?_
  · show Op.lookupswitch.offset [(0, 28), (1, 36)] _ _ = _
    rw [lv_osw c9 (show (0 : Int32).toInt = _ by rfl), lv_osw c10 (show (1 : Int32).toInt = _ by rfl)]
    rfl
  refine xj_aload_n 0 dX11_leaders_72 rfl ?_
  refine xg_getR (k' := 0) (i' := 0) dX11_leaders_73 fl_X11_90 rfl ?_
  refine xg_getI (x := (m8 0 0 9)) dX11_leaders_76 fl_X11_359 rfl rfl ?_
  cases h
  exact xj_ireturn dX11_leaders_79 rfl (by decide) (by decide)
noncomputable def r_X11_look (x1 : Int32) (m : Mem) : Option ((Int32 ⊕ Nat) × Mem) :=
  thr (r_X11_needRange x1 0 1 m) fun z1 m2 => (bd1 (r_X0_findLook 0 0 m2) fun m5 => (if x1 = 0 then (some (Sum.inl (m5 0 0 5), m5)) else (some (Sum.inl (m5 0 0 6), m5))))
set_option maxHeartbeats 4000000 in
set_option maxRecDepth 20000 in
theorem ok_X11_look (x1 : Int32) (m : Mem) {z : (Int32 ⊕ Nat)} {m' : Mem} (h : r_X11_look x1 m = some (z, m')) : Mt yX11_look cX11_look 2 (some .int) 8 155 1 6 [vR 11 0, vI x1] m (oX oI z) m' := by
  refine Mt.of (by decide) (Nat.le_of_ble_eq_true rfl) (by decide +kernel) (hhF_ne (by decide)) ?_
  show Xj RX11 cX11_look 2 (some .int) 8 155 1 6 0 0 0 [(0, vR 11 0), (1, vI x1)] [] m (oX oI z) m'
  unfold r_X11_look at h
  refine xj_aload_n 0 dX11_look_0 rfl ?_
  refine xj_iload_n 1 dX11_look_1 rfl ?_
  refine xj_iconst (z := 0) dX11_look_2 (by decide) ?_
  refine xj_iconst (z := 1) dX11_look_3 (by decide) ?_
  rcases thr_some h with ⟨z1, m2, e3, h⟩ | ⟨ex, e3, rfl⟩
  case inr => exact xj_callVx (st := []) (ok_X11_needRange x1 0 1 m e3) dX11_look_4 cv_X11_176 rfl rfl (Nat.le_of_ble_eq_true rfl) (by decide) (by decide) (by decide) (by decide) (by decide)
  refine xc_Vv (st := []) (ok_X11_needRange x1 0 1 m e3) dX11_look_4 cv_X11_176 rfl rfl (Nat.le_of_ble_eq_true rfl) (by decide) (by decide) (by decide) (by decide) ?_
  refine xj_aload_n 0 dX11_look_7 rfl ?_
  refine xg_getR (k' := 0) (i' := 0) dX11_look_8 fl_X11_90 rfl ?_
  refine xj_aload_n 0 dX11_look_11 rfl ?_
  refine xg_getR (k' := 7) (i' := 0) dX11_look_12 fl_X11_49 rfl ?_
  refine xj_aload_n 0 dX11_look_15 rfl ?_
  refine xg_getR (k' := 1) (i' := 0) dX11_look_16 fl_X11_39 rfl ?_
  obtain ⟨m5, e4, h⟩ := bd1_some h
  refine xc_Vv0 (st := []) (ok_X0_findLook 0 0 m2 e4) dX11_look_19 cv_X11_319 rfl rfl (Nat.le_of_ble_eq_true rfl) (by decide) (by decide) (by decide) (by decide) ?_
  refine xj_iload_n 1 dX11_look_22 rfl ?_
  refine xj_if_ne (tgt := 36) dX11_look_23 (by decide) (fun c6 => ?_) (fun c6 => ?_)
  · rw [if_neg c6] at h
    refine xj_aload_n 0 dX11_look_36 rfl ?_
    refine xg_getR (k' := 0) (i' := 0) dX11_look_37 fl_X11_90 rfl ?_
    refine xg_getI (x := (m5 0 0 6)) dX11_look_40 fl_X11_325 rfl rfl ?_
    cases h
    exact xj_ireturn dX11_look_43 rfl (by decide) (by decide)
  · rw [if_pos c6] at h
    refine xj_aload_n 0 dX11_look_26 rfl ?_
    refine xg_getR (k' := 0) (i' := 0) dX11_look_27 fl_X11_90 rfl ?_
    refine xg_getI (x := (m5 0 0 5)) dX11_look_30 fl_X11_322 rfl rfl ?_
    refine xj_goto (tgt := 43) dX11_look_33 (by decide) ?_
    cases h
    exact xj_ireturn dX11_look_43 rfl (by decide) (by decide)
noncomputable def r_X11_meet_j117_3_c26 (x1 : Int32) (x2 : Int32) (x3 : Int32) (x4 : Int32) (x5 : Int32) (x6 : Int32) (m : Mem) : Option ((Int32 × Int32 × Int32) ⊕ (Int32 × Int32)) :=
  some (Sum.inl (x4, x5, x6 + 1))
set_option maxHeartbeats 4000000 in
set_option maxRecDepth 20000 in
theorem ok_X11_meet_j117_3_c26 (x1 : Int32) (x2 : Int32) (x3 : Int32) (x4 : Int32) (x5 : Int32) (x6 : Int32) (m : Mem) {r : (Int32 × Int32 × Int32) ⊕ (Int32 × Int32)} (h : r_X11_meet_j117_3_c26 x1 x2 x3 x4 x5 x6 m = some r) {o : Ou} {M' : Mem} (kb : ∀ (x4' : Int32) (x5' : Int32) (x6' : Int32), r = Sum.inl (x4', x5', x6') → Xj RX11 cX11_meet 9 (some .int) 8 134 3 18 3 18 26 [(0, vR 11 0), (1, vI x1), (2, vI x2), (3, vI x3), (4, vI x4'), (5, vI x5'), (6, vI x6')] [] m o M') (ke : ∀ (x4' : Int32) (x5' : Int32), r = Sum.inr (x4', x5') → Xj RX11 cX11_meet 9 (some .int) 8 134 3 18 3 18 123 [(3, vI x3), (4, vI x4'), (5, vI x5')] [] m o M') : Xj RX11 cX11_meet 9 (some .int) 8 134 3 18 3 18 117 [(0, vR 11 0), (1, vI x1), (2, vI x2), (3, vI x3), (4, vI x4), (5, vI x5), (6, vI x6)] [] m o M' := by
  unfold r_X11_meet_j117_3_c26 at h
  refine xj_iinc (z := x6 + 1) (ls' := [(6, vI (x6 + 1)), (0, vR 11 0), (1, vI x1), (2, vI x2), (3, vI x3), (4, vI x4), (5, vI x5)]) 6 dX11_meet_117 rfl rfl (by decide) rfl ?_
  refine xj_goto (tgt := 26) dX11_meet_120 (by decide) ?_
  cases h
  refine xj_pick (ls' := [(0, vR 11 0), (1, vI x1), (2, vI x2), (3, vI x3), (4, vI x4), (5, vI x5), (6, vI (x6 + 1))]) [1, 2, 3, 4, 5, 6, 0] rfl ?_
  exact kb x4 x5 (x6 + 1) rfl
noncomputable def r_X11_meet_j106_3_c26 (x1 : Int32) (x2 : Int32) (x3 : Int32) (x6 : Int32) (x7 : Int32) (x8 : Int32) (m : Mem) : Option ((Int32 × Int32 × Int32) ⊕ (Int32 × Int32)) :=
  r_X11_meet_j117_3_c26 x1 x2 x3 x6 (x7 + x8) x6 m
set_option maxHeartbeats 4000000 in
set_option maxRecDepth 20000 in
theorem ok_X11_meet_j106_3_c26 (x1 : Int32) (x2 : Int32) (x3 : Int32) (x6 : Int32) (x7 : Int32) (x8 : Int32) (m : Mem) {r : (Int32 × Int32 × Int32) ⊕ (Int32 × Int32)} (h : r_X11_meet_j106_3_c26 x1 x2 x3 x6 x7 x8 m = some r) {o : Ou} {M' : Mem} (kb : ∀ (x4' : Int32) (x5' : Int32) (x6' : Int32), r = Sum.inl (x4', x5', x6') → Xj RX11 cX11_meet 9 (some .int) 8 134 3 18 3 18 26 [(0, vR 11 0), (1, vI x1), (2, vI x2), (3, vI x3), (4, vI x4'), (5, vI x5'), (6, vI x6')] [] m o M') (ke : ∀ (x4' : Int32) (x5' : Int32), r = Sum.inr (x4', x5') → Xj RX11 cX11_meet 9 (some .int) 8 134 3 18 3 18 123 [(3, vI x3), (4, vI x4'), (5, vI x5')] [] m o M') : Xj RX11 cX11_meet 9 (some .int) 8 134 3 18 3 18 106 [(0, vR 11 0), (1, vI x1), (2, vI x2), (3, vI x3), (6, vI x6), (7, vI x7), (8, vI x8)] [] m o M' := by
  unfold r_X11_meet_j106_3_c26 at h
  refine xj_iload 4 dX11_meet_106 rfl ?_
  refine xj_istore (ls' := [(4, vI x6), (0, vR 11 0), (1, vI x1), (2, vI x2), (3, vI x3), (6, vI x6), (7, vI x7), (8, vI x8)]) dX11_meet_108 (by decide) rfl ?_
  refine xj_iload 6 dX11_meet_110 rfl ?_
  refine xj_iload 7 dX11_meet_112 rfl ?_
  refine xj_iadd dX11_meet_114 ?_
  refine xj_istore (ls' := [(5, vI (x7 + x8)), (4, vI x6), (0, vR 11 0), (1, vI x1), (2, vI x2), (3, vI x3), (6, vI x6), (7, vI x7), (8, vI x8)]) dX11_meet_115 (by decide) rfl ?_
  refine xj_pick (ls' := [(0, vR 11 0), (1, vI x1), (2, vI x2), (3, vI x3), (4, vI x6), (5, vI (x7 + x8)), (6, vI x6)]) [2, 3, 4, 5, 1, 0, 6] rfl ?_
  exact ok_X11_meet_j117_3_c26 x1 x2 x3 x6 (x7 + x8) x6 m h kb ke
noncomputable def r_X11_meet_b26 (x1 : Int32) (x2 : Int32) (x3 : Int32) (m : Mem) (x4 : Int32) (x5 : Int32) (x6 : Int32) : Option ((Int32 × Int32 × Int32) ⊕ (Int32 × Int32)) :=
  if (m 3 0 0) ≤ x6 then (some (Sum.inr (x4, x5))) else (if inb x1 8 = true then (bd1 (r_X3_wayLength 0 (m 21 0 x1.toNatClampNeg) x6 m) fun z13 => (if inb x2 8 = true then (bd1 (r_X3_wayLength 0 (m 21 0 x2.toNatClampNeg) x6 m) fun z16 => (if z13 = (-1) then (r_X11_meet_j117_3_c26 x1 x2 x3 x4 x5 x6 m) else (if z16 = (-1) then (r_X11_meet_j117_3_c26 x1 x2 x3 x4 x5 x6 m) else (if x4 = (-1) then (r_X11_meet_j106_3_c26 x1 x2 x3 x6 z13 z16 m) else (if x5 ≤ (z13 + z16) then (r_X11_meet_j117_3_c26 x1 x2 x3 x4 x5 x6 m) else (r_X11_meet_j106_3_c26 x1 x2 x3 x6 z13 z16 m)))))) else none)) else none)
set_option maxHeartbeats 4000000 in
set_option maxRecDepth 20000 in
theorem ok_X11_meet_b26 (x1 : Int32) (x2 : Int32) (x3 : Int32) (m : Mem) (x4 : Int32) (x5 : Int32) (x6 : Int32) {r : (Int32 × Int32 × Int32) ⊕ (Int32 × Int32)} (h : r_X11_meet_b26 x1 x2 x3 m x4 x5 x6 = some r) {o : Ou} {M' : Mem} (kb : ∀ (x4' : Int32) (x5' : Int32) (x6' : Int32), r = Sum.inl (x4', x5', x6') → Xj RX11 cX11_meet 9 (some .int) 8 134 3 18 3 18 26 [(0, vR 11 0), (1, vI x1), (2, vI x2), (3, vI x3), (4, vI x4'), (5, vI x5'), (6, vI x6')] [] m o M') (ke : ∀ (x4' : Int32) (x5' : Int32), r = Sum.inr (x4', x5') → Xj RX11 cX11_meet 9 (some .int) 8 134 3 18 3 18 123 [(3, vI x3), (4, vI x4'), (5, vI x5')] [] m o M') : Xj RX11 cX11_meet 9 (some .int) 8 134 3 18 3 18 26 [(0, vR 11 0), (1, vI x1), (2, vI x2), (3, vI x3), (4, vI x4), (5, vI x5), (6, vI x6)] [] m o M' := by
  unfold r_X11_meet_b26 at h
  refine xj_iload 6 dX11_meet_26 rfl ?_
  refine xj_aload_n 0 dX11_meet_28 rfl ?_
  refine xg_getR (k' := 3) (i' := 0) dX11_meet_29 fl_X11_19 rfl ?_
  refine xg_getI (x := (m 3 0 0)) dX11_meet_32 fl_X11_137 rfl rfl ?_
  refine xj_icmp_ge (tgt := 123) dX11_meet_35 (by decide) (fun c10 => ?_) (fun c10 => ?_)
  · rw [if_pos c10] at h
    cases h
    refine xj_pick (ls' := [(3, vI x3), (4, vI x4), (5, vI x5)]) [3, 4, 5] rfl ?_
    exact ke x4 x5 rfl
  · rw [if_neg c10] at h
    refine xj_aload_n 0 dX11_meet_38 rfl ?_
    refine xg_getR (k' := 3) (i' := 0) dX11_meet_39 fl_X11_19 rfl ?_
    refine xj_aload_n 0 dX11_meet_42 rfl ?_
    refine xg_getR (k' := 7) (i' := 0) dX11_meet_43 fl_X11_49 rfl ?_
    refine xg_getR (k' := 21) (i' := 0) dX11_meet_46 fl_X11_252 rfl ?_
    refine xj_iload_n 1 dX11_meet_49 rfl ?_
    by_cases c11 : inb x1 8 = true
    case neg => rw [if_neg c11] at h; cases h
    rw [if_pos c11] at h
    refine xg_iald (z := (m 21 0 x1.toNatClampNeg)) (n := x1.toNatClampNeg) dX11_meet_50 rfl (by decide) (inb_in c11) rfl rfl ?_
    refine xj_iload 6 dX11_meet_51 rfl ?_
    obtain ⟨z13, e12, h⟩ := bd1_some h
    refine xc_Vi0 (st := []) (ok_X3_wayLength 0 (m 21 0 x1.toNatClampNeg) x6 m e12) dX11_meet_53 cv_X11_331 rfl rfl (Nat.le_of_ble_eq_true rfl) (by decide) (by decide) (by decide) (by decide) ?_
    refine xj_istore (ls' := [(7, vI z13), (0, vR 11 0), (1, vI x1), (2, vI x2), (3, vI x3), (4, vI x4), (5, vI x5), (6, vI x6)]) dX11_meet_56 (by decide) rfl ?_
    refine xj_aload_n 1 dX11_meet_58 rfl ?_
    refine xg_getR (k' := 3) (i' := 0) dX11_meet_59 fl_X11_19 rfl ?_
    refine xj_aload_n 1 dX11_meet_62 rfl ?_
    refine xg_getR (k' := 7) (i' := 0) dX11_meet_63 fl_X11_49 rfl ?_
    refine xg_getR (k' := 21) (i' := 0) dX11_meet_66 fl_X11_252 rfl ?_
    refine xj_iload_n 3 dX11_meet_69 rfl ?_
    by_cases c14 : inb x2 8 = true
    case neg => rw [if_neg c14] at h; cases h
    rw [if_pos c14] at h
    refine xg_iald (z := (m 21 0 x2.toNatClampNeg)) (n := x2.toNatClampNeg) dX11_meet_70 rfl (by decide) (inb_in c14) rfl rfl ?_
    refine xj_iload 7 dX11_meet_71 rfl ?_
    obtain ⟨z16, e15, h⟩ := bd1_some h
    refine xc_Vi0 (st := []) (ok_X3_wayLength 0 (m 21 0 x2.toNatClampNeg) x6 m e15) dX11_meet_73 cv_X11_331 rfl rfl (Nat.le_of_ble_eq_true rfl) (by decide) (by decide) (by decide) (by decide) ?_
    refine xj_istore (ls' := [(8, vI z16), (7, vI z13), (0, vR 11 0), (1, vI x1), (2, vI x2), (3, vI x3), (4, vI x4), (5, vI x5), (6, vI x6)]) dX11_meet_76 (by decide) rfl ?_
    refine xj_iload 1 dX11_meet_78 rfl ?_
    refine xj_iconst (z := (-1)) dX11_meet_80 (by decide) ?_
    refine xj_icmp_eq (tgt := 117) dX11_meet_81 (by decide) (fun c17 => ?_) (fun c17 => ?_)
    · rw [if_pos c17] at h
      refine xj_pick (ls' := [(0, vR 11 0), (1, vI x1), (2, vI x2), (3, vI x3), (4, vI x4), (5, vI x5), (6, vI x6)]) [2, 3, 4, 5, 6, 7, 8] rfl ?_
      exact ok_X11_meet_j117_3_c26 x1 x2 x3 x4 x5 x6 m h kb ke
    · rw [if_neg c17] at h
      refine xj_iload 0 dX11_meet_84 rfl ?_
      refine xj_iconst (z := (-1)) dX11_meet_86 (by decide) ?_
      refine xj_icmp_eq (tgt := 117) dX11_meet_87 (by decide) (fun c18 => ?_) (fun c18 => ?_)
      · rw [if_pos c18] at h
        refine xj_pick (ls' := [(0, vR 11 0), (1, vI x1), (2, vI x2), (3, vI x3), (4, vI x4), (5, vI x5), (6, vI x6)]) [2, 3, 4, 5, 6, 7, 8] rfl ?_
        exact ok_X11_meet_j117_3_c26 x1 x2 x3 x4 x5 x6 m h kb ke
      · rw [if_neg c18] at h
        refine xj_iload 6 dX11_meet_90 rfl ?_
        refine xj_iconst (z := (-1)) dX11_meet_92 (by decide) ?_
        refine xj_icmp_eq (tgt := 106) dX11_meet_93 (by decide) (fun c19 => ?_) (fun c19 => ?_)
        · rw [if_pos c19] at h
          refine xj_pick (ls' := [(0, vR 11 0), (1, vI x1), (2, vI x2), (3, vI x3), (6, vI x6), (7, vI z13), (8, vI z16)]) [2, 3, 4, 5, 8, 1, 0] rfl ?_
          exact ok_X11_meet_j106_3_c26 x1 x2 x3 x6 z13 z16 m h kb ke
        · rw [if_neg c19] at h
          refine xj_iload 1 dX11_meet_96 rfl ?_
          refine xj_iload 0 dX11_meet_98 rfl ?_
          refine xj_iadd dX11_meet_100 ?_
          refine xj_iload 7 dX11_meet_101 rfl ?_
          refine xj_icmp_ge (tgt := 117) dX11_meet_103 (by decide) (fun c20 => ?_) (fun c20 => ?_)
          · rw [if_pos c20] at h
            refine xj_pick (ls' := [(0, vR 11 0), (1, vI x1), (2, vI x2), (3, vI x3), (4, vI x4), (5, vI x5), (6, vI x6)]) [2, 3, 4, 5, 6, 7, 8] rfl ?_
            exact ok_X11_meet_j117_3_c26 x1 x2 x3 x4 x5 x6 m h kb ke
          · rw [if_neg c20] at h
            refine xj_pick (ls' := [(0, vR 11 0), (1, vI x1), (2, vI x2), (3, vI x3), (6, vI x6), (7, vI z13), (8, vI z16)]) [2, 3, 4, 5, 8, 1, 0] rfl ?_
            exact ok_X11_meet_j106_3_c26 x1 x2 x3 x6 z13 z16 m h kb ke
noncomputable def r_X11_meet_e123_h26 (x3 : Int32) (x4 : Int32) (x5 : Int32) (m : Mem) : Option ((Int32 ⊕ Nat) × Mem) :=
  if x3 = 0 then (some (Sum.inl x4, m)) else (some (Sum.inl x5, m))
set_option maxHeartbeats 4000000 in
set_option maxRecDepth 20000 in
theorem ok_X11_meet_e123_h26 (x3 : Int32) (x4 : Int32) (x5 : Int32) (m : Mem) {z : (Int32 ⊕ Nat)} {m' : Mem} (h : r_X11_meet_e123_h26 x3 x4 x5 m = some (z, m')) : Xj RX11 cX11_meet 9 (some .int) 8 134 3 18 3 18 123 [(3, vI x3), (4, vI x4), (5, vI x5)] [] m (oX oI z) m' := by
  unfold r_X11_meet_e123_h26 at h
  refine xj_iload_n 0 dX11_meet_123 rfl ?_
  refine xj_if_ne (tgt := 132) dX11_meet_124 (by decide) (fun c21 => ?_) (fun c21 => ?_)
  · rw [if_neg c21] at h
    refine xj_iload 2 dX11_meet_132 rfl ?_
    cases h
    exact xj_ireturn dX11_meet_134 rfl (by decide) (by decide)
  · rw [if_pos c21] at h
    refine xj_iload 1 dX11_meet_127 rfl ?_
    refine xj_goto (tgt := 134) dX11_meet_129 (by decide) ?_
    cases h
    exact xj_ireturn dX11_meet_134 rfl (by decide) (by decide)
noncomputable def r_X11_meet_l26 (x1 : Int32) (x2 : Int32) (x3 : Int32) (x4 : Int32) (x5 : Int32) (x6 : Int32) (m : Mem) : Option ((Int32 ⊕ Nat) × Mem) :=
  bd1 (loopO (fun s => r_X11_meet_b26 x1 x2 x3 m s.1 s.2.1 s.2.2) (x4, x5, x6)) (fun e => r_X11_meet_e123_h26 x3 e.1 e.2 m)
set_option maxHeartbeats 4000000 in
set_option maxRecDepth 20000 in
theorem ok_X11_meet_l26 (x1 : Int32) (x2 : Int32) (x3 : Int32) (x4 : Int32) (x5 : Int32) (x6 : Int32) (m : Mem) {z : (Int32 ⊕ Nat)} {m' : Mem} (h : r_X11_meet_l26 x1 x2 x3 x4 x5 x6 m = some (z, m')) : Xj RX11 cX11_meet 9 (some .int) 8 134 3 18 3 18 26 [(0, vR 11 0), (1, vI x1), (2, vI x2), (3, vI x3), (4, vI x4), (5, vI x5), (6, vI x6)] [] m (oX oI z) m' := by
  unfold r_X11_meet_l26 at h
  obtain ⟨e, e1, h⟩ := bd1_some h
  refine loopO_ok (P := fun s : (Int32 × Int32 × Int32) => Xj RX11 cX11_meet 9 (some .int) 8 134 3 18 3 18 26 [(0, vR 11 0), (1, vI x1), (2, vI x2), (3, vI x3), (4, vI s.1), (5, vI s.2.1), (6, vI s.2.2)] [] m (oX oI z) m') (Q := fun e : (Int32 × Int32) => Xj RX11 cX11_meet 9 (some .int) 8 134 3 18 3 18 123 [(3, vI x3), (4, vI e.1), (5, vI e.2)] [] m (oX oI z) m') ?_ _ _ e1 ?_
  · intro s r9 h9 hi hx
    exact ok_X11_meet_b26 x1 x2 x3 m s.1 s.2.1 s.2.2 h9 (by rintro _ _ _ rfl; exact hi _ rfl) (by rintro _ _ rfl; exact hx _ rfl)
  · exact ok_X11_meet_e123_h26 x3 e.1 e.2 m h 
noncomputable def r_X11_meet (x1 : Int32) (x2 : Int32) (x3 : Int32) (m : Mem) : Option ((Int32 ⊕ Nat) × Mem) :=
  thr (r_X11_needPerson x1 m) fun z1 m2 => (thr (r_X11_needPerson x2 m2) fun z4 m5 => (thr (r_X11_needRange x3 0 1 m5) fun z7 m8 => (r_X11_meet_l26 x1 x2 x3 (-1) (-1) 0 m8)))
set_option maxHeartbeats 4000000 in
set_option maxRecDepth 20000 in
theorem ok_X11_meet (x1 : Int32) (x2 : Int32) (x3 : Int32) (m : Mem) {z : (Int32 ⊕ Nat)} {m' : Mem} (h : r_X11_meet x1 x2 x3 m = some (z, m')) : Mt yX11_meet cX11_meet 9 (some .int) 8 134 3 18 [vR 11 0, vI x1, vI x2, vI x3] m (oX oI z) m' := by
  refine Mt.of (by decide) (Nat.le_of_ble_eq_true rfl) (by decide +kernel) (hhF_ne (by decide)) ?_
  show Xj RX11 cX11_meet 9 (some .int) 8 134 3 18 0 0 0 [(0, vR 11 0), (1, vI x1), (2, vI x2), (3, vI x3)] [] m (oX oI z) m'
  unfold r_X11_meet at h
  refine xj_aload_n 0 dX11_meet_0 rfl ?_
  refine xj_iload_n 1 dX11_meet_1 rfl ?_
  rcases thr_some h with ⟨z1, m2, e3, h⟩ | ⟨ex, e3, rfl⟩
  case inr => exact xj_callVx (st := []) (ok_X11_needPerson x1 m e3) dX11_meet_2 cv_X11_246 rfl rfl (Nat.le_of_ble_eq_true rfl) (by decide) (by decide) (by decide) (by decide) (by decide)
  refine xc_Vv (st := []) (ok_X11_needPerson x1 m e3) dX11_meet_2 cv_X11_246 rfl rfl (Nat.le_of_ble_eq_true rfl) (by decide) (by decide) (by decide) (by decide) ?_
  refine xj_aload_n 0 dX11_meet_5 rfl ?_
  refine xj_iload_n 2 dX11_meet_6 rfl ?_
  rcases thr_some h with ⟨z4, m5, e6, h⟩ | ⟨ex, e6, rfl⟩
  case inr => exact xj_callVx (st := []) (ok_X11_needPerson x2 m2 e6) dX11_meet_7 cv_X11_246 rfl rfl (Nat.le_of_ble_eq_true rfl) (by decide) (by decide) (by decide) (by decide) (by decide)
  refine xc_Vv (st := []) (ok_X11_needPerson x2 m2 e6) dX11_meet_7 cv_X11_246 rfl rfl (Nat.le_of_ble_eq_true rfl) (by decide) (by decide) (by decide) (by decide) ?_
  refine xj_aload_n 0 dX11_meet_10 rfl ?_
  refine xj_iload_n 3 dX11_meet_11 rfl ?_
  refine xj_iconst (z := 0) dX11_meet_12 (by decide) ?_
  refine xj_iconst (z := 1) dX11_meet_13 (by decide) ?_
  rcases thr_some h with ⟨z7, m8, e9, h⟩ | ⟨ex, e9, rfl⟩
  case inr => exact xj_callVx (st := []) (ok_X11_needRange x3 0 1 m5 e9) dX11_meet_14 cv_X11_176 rfl rfl (Nat.le_of_ble_eq_true rfl) (by decide) (by decide) (by decide) (by decide) (by decide)
  refine xc_Vv (st := []) (ok_X11_needRange x3 0 1 m5 e9) dX11_meet_14 cv_X11_176 rfl rfl (Nat.le_of_ble_eq_true rfl) (by decide) (by decide) (by decide) (by decide) ?_
  refine xj_iconst (z := (-1)) dX11_meet_17 (by decide) ?_
  refine xj_istore (ls' := [(4, vI (-1)), (0, vR 11 0), (1, vI x1), (2, vI x2), (3, vI x3)]) dX11_meet_18 (by decide) rfl ?_
  refine xj_iconst (z := (-1)) dX11_meet_20 (by decide) ?_
  refine xj_istore (ls' := [(5, vI (-1)), (4, vI (-1)), (0, vR 11 0), (1, vI x1), (2, vI x2), (3, vI x3)]) dX11_meet_21 (by decide) rfl ?_
  refine xj_iconst (z := 0) dX11_meet_23 (by decide) ?_
  refine xj_istore (ls' := [(6, vI 0), (5, vI (-1)), (4, vI (-1)), (0, vR 11 0), (1, vI x1), (2, vI x2), (3, vI x3)]) dX11_meet_24 (by decide) rfl ?_
  refine xj_pick (ls' := [(0, vR 11 0), (1, vI x1), (2, vI x2), (3, vI x3), (4, vI (-1)), (5, vI (-1)), (6, vI 0)]) [3, 4, 5, 6, 2, 1, 0] rfl ?_
  exact ok_X11_meet_l26 x1 x2 x3 (-1) (-1) 0 m8 h 
noncomputable def r_X11_rightBeliefs_j52_c4 (x1 : Int32) (x2 : Int32) (x3 : Int32) (m : Mem) : Option ((Int32 × Int32 × Mem) ⊕ (Int32 × Mem)) :=
  some (Sum.inl (x2, x3 + 1, m))
set_option maxHeartbeats 4000000 in
set_option maxRecDepth 20000 in
theorem ok_X11_rightBeliefs_j52_c4 (x1 : Int32) (x2 : Int32) (x3 : Int32) (m : Mem) {r : (Int32 × Int32 × Mem) ⊕ (Int32 × Mem)} (h : r_X11_rightBeliefs_j52_c4 x1 x2 x3 m = some r) {o : Ou} {M' : Mem} (kb : ∀ (x2' : Int32) (x3' : Int32) (m'' : Mem), r = Sum.inl (x2', x3', m'') → Xj RX11 cX11_rightBeliefs 5 (some .int) 4 79 0 0 0 0 4 [(0, vR 11 0), (1, vI x1), (2, vI x2'), (3, vI x3')] [] m'' o M') (ke : ∀ (x2' : Int32) (m'' : Mem), r = Sum.inr (x2', m'') → Xj RX11 cX11_rightBeliefs 5 (some .int) 4 79 0 0 0 0 58 [(2, vI x2')] [] m'' o M') : Xj RX11 cX11_rightBeliefs 5 (some .int) 4 79 0 0 0 0 52 [(0, vR 11 0), (1, vI x1), (2, vI x2), (3, vI x3)] [] m o M' := by
  unfold r_X11_rightBeliefs_j52_c4 at h
  refine xj_iinc (z := x3 + 1) (ls' := [(3, vI (x3 + 1)), (0, vR 11 0), (1, vI x1), (2, vI x2)]) 3 dX11_rightBeliefs_52 rfl rfl (by decide) rfl ?_
  refine xj_goto (tgt := 4) dX11_rightBeliefs_55 (by decide) ?_
  cases h
  refine xj_pick (ls' := [(0, vR 11 0), (1, vI x1), (2, vI x2), (3, vI (x3 + 1))]) [1, 2, 3, 0] rfl ?_
  exact kb x2 (x3 + 1) m rfl
noncomputable def r_X11_rightBeliefs_b4 (x1 : Int32) (x2 : Int32) (x3 : Int32) (m : Mem) : Option ((Int32 × Int32 × Mem) ⊕ (Int32 × Mem)) :=
  if (m 3 0 0) ≤ x3 then (some (Sum.inr (x2, m))) else (bd1 (r_X7_believes 0 x1 x3 m) fun z3 => (if z3 = (-1) then (r_X11_rightBeliefs_j52_c4 x1 x2 x3 m) else (bd2 (r_X6_goesOn 0 x3 m) fun z7 m6 => (if z3 = z7 then (r_X11_rightBeliefs_j52_c4 x1 (x2 + 1) x3 m6) else (r_X11_rightBeliefs_j52_c4 x1 x2 x3 m6)))))
set_option maxHeartbeats 4000000 in
set_option maxRecDepth 20000 in
theorem ok_X11_rightBeliefs_b4 (x1 : Int32) (x2 : Int32) (x3 : Int32) (m : Mem) {r : (Int32 × Int32 × Mem) ⊕ (Int32 × Mem)} (h : r_X11_rightBeliefs_b4 x1 x2 x3 m = some r) {o : Ou} {M' : Mem} (kb : ∀ (x2' : Int32) (x3' : Int32) (m'' : Mem), r = Sum.inl (x2', x3', m'') → Xj RX11 cX11_rightBeliefs 5 (some .int) 4 79 0 0 0 0 4 [(0, vR 11 0), (1, vI x1), (2, vI x2'), (3, vI x3')] [] m'' o M') (ke : ∀ (x2' : Int32) (m'' : Mem), r = Sum.inr (x2', m'') → Xj RX11 cX11_rightBeliefs 5 (some .int) 4 79 0 0 0 0 58 [(2, vI x2')] [] m'' o M') : Xj RX11 cX11_rightBeliefs 5 (some .int) 4 79 0 0 0 0 4 [(0, vR 11 0), (1, vI x1), (2, vI x2), (3, vI x3)] [] m o M' := by
  unfold r_X11_rightBeliefs_b4 at h
  refine xj_iload_n 3 dX11_rightBeliefs_4 rfl ?_
  refine xj_aload_n 0 dX11_rightBeliefs_5 rfl ?_
  refine xg_getR (k' := 3) (i' := 0) dX11_rightBeliefs_6 fl_X11_19 rfl ?_
  refine xg_getI (x := (m 3 0 0)) dX11_rightBeliefs_9 fl_X11_137 rfl rfl ?_
  refine xj_icmp_ge (tgt := 58) dX11_rightBeliefs_12 (by decide) (fun c1 => ?_) (fun c1 => ?_)
  · rw [if_pos c1] at h
    cases h
    refine xj_pick (ls' := [(2, vI x2)]) [2] rfl ?_
    exact ke x2 m rfl
  · rw [if_neg c1] at h
    refine xj_aload_n 0 dX11_rightBeliefs_15 rfl ?_
    refine xg_getR (k' := 7) (i' := 0) dX11_rightBeliefs_16 fl_X11_49 rfl ?_
    refine xj_iload_n 1 dX11_rightBeliefs_19 rfl ?_
    refine xj_iload_n 3 dX11_rightBeliefs_20 rfl ?_
    obtain ⟨z3, e2, h⟩ := bd1_some h
    refine xc_Vi0 (st := []) (ok_X7_believes 0 x1 x3 m e2) dX11_rightBeliefs_21 cv_X11_261 rfl rfl (Nat.le_of_ble_eq_true rfl) (by decide) (by decide) (by decide) (by decide) ?_
    refine xj_istore (ls' := [(4, vI z3), (0, vR 11 0), (1, vI x1), (2, vI x2), (3, vI x3)]) dX11_rightBeliefs_24 (by decide) rfl ?_
    refine xj_iload 0 dX11_rightBeliefs_26 rfl ?_
    refine xj_iconst (z := (-1)) dX11_rightBeliefs_28 (by decide) ?_
    refine xj_icmp_eq (tgt := 52) dX11_rightBeliefs_29 (by decide) (fun c4 => ?_) (fun c4 => ?_)
    · rw [if_pos c4] at h
      refine xj_pick (ls' := [(0, vR 11 0), (1, vI x1), (2, vI x2), (3, vI x3)]) [1, 2, 3, 4] rfl ?_
      exact ok_X11_rightBeliefs_j52_c4 x1 x2 x3 m h kb ke
    · rw [if_neg c4] at h
      refine xj_iload 0 dX11_rightBeliefs_32 rfl ?_
      refine xj_aload_n 1 dX11_rightBeliefs_34 rfl ?_
      refine xg_getR (k' := 6) (i' := 0) dX11_rightBeliefs_35 fl_X11_72 rfl ?_
      refine xj_aload_n 1 dX11_rightBeliefs_38 rfl ?_
      refine xg_getR (k' := 7) (i' := 0) dX11_rightBeliefs_39 fl_X11_49 rfl ?_
      refine xj_iload_n 4 dX11_rightBeliefs_42 rfl ?_
      obtain ⟨z7, m6, e5, h⟩ := bd2_some h
      refine xc_Vi0 (st := [vI z3]) (ok_X6_goesOn 0 x3 m e5) dX11_rightBeliefs_43 cv_X11_224 rfl rfl (Nat.le_of_ble_eq_true rfl) (by decide) (by decide) (by decide) (by decide) ?_
      refine xj_icmp_ne (tgt := 52) dX11_rightBeliefs_46 (by decide) (fun c8 => ?_) (fun c8 => ?_)
      · rw [if_neg c8] at h
        refine xj_pick (ls' := [(0, vR 11 0), (1, vI x1), (2, vI x2), (3, vI x3)]) [1, 2, 3, 4] rfl ?_
        exact ok_X11_rightBeliefs_j52_c4 x1 x2 x3 m6 h kb ke
      · rw [if_pos c8] at h
        refine xj_iinc (z := x2 + 1) (ls' := [(2, vI (x2 + 1)), (4, vI z3), (0, vR 11 0), (1, vI x1), (3, vI x3)]) 3 dX11_rightBeliefs_49 rfl rfl (by decide) rfl ?_
        refine xj_pick (ls' := [(0, vR 11 0), (1, vI x1), (2, vI (x2 + 1)), (3, vI x3)]) [2, 3, 0, 4] rfl ?_
        exact ok_X11_rightBeliefs_j52_c4 x1 (x2 + 1) x3 m6 h kb ke
noncomputable def r_X11_rightBeliefs_e58_h4 (x2 : Int32) (m : Mem) : Option (Int32 × Mem) :=
  some (x2, m)
set_option maxHeartbeats 4000000 in
set_option maxRecDepth 20000 in
theorem ok_X11_rightBeliefs_e58_h4 (x2 : Int32) (m : Mem) {z : Int32} {m' : Mem} (h : r_X11_rightBeliefs_e58_h4 x2 m = some (z, m')) : Xj RX11 cX11_rightBeliefs 5 (some .int) 4 79 0 0 0 0 58 [(2, vI x2)] [] m (oI z) m' := by
  unfold r_X11_rightBeliefs_e58_h4 at h
  refine xj_iload_n 0 dX11_rightBeliefs_58 rfl ?_
  cases h
  exact xj_ireturn dX11_rightBeliefs_59 rfl (by decide) (by decide)
noncomputable def r_X11_rightBeliefs_l4 (x1 : Int32) (x2 : Int32) (x3 : Int32) (m : Mem) : Option (Int32 × Mem) :=
  bd1 (loopO (fun s => r_X11_rightBeliefs_b4 x1 s.1 s.2.1 s.2.2) (x2, x3, m)) (fun e => r_X11_rightBeliefs_e58_h4 e.1 e.2)
set_option maxHeartbeats 4000000 in
set_option maxRecDepth 20000 in
theorem ok_X11_rightBeliefs_l4 (x1 : Int32) (x2 : Int32) (x3 : Int32) (m : Mem) {z : Int32} {m' : Mem} (h : r_X11_rightBeliefs_l4 x1 x2 x3 m = some (z, m')) : Xj RX11 cX11_rightBeliefs 5 (some .int) 4 79 0 0 0 0 4 [(0, vR 11 0), (1, vI x1), (2, vI x2), (3, vI x3)] [] m (oI z) m' := by
  unfold r_X11_rightBeliefs_l4 at h
  obtain ⟨e, e1, h⟩ := bd1_some h
  refine loopO_ok (P := fun s : (Int32 × Int32 × Mem) => Xj RX11 cX11_rightBeliefs 5 (some .int) 4 79 0 0 0 0 4 [(0, vR 11 0), (1, vI x1), (2, vI s.1), (3, vI s.2.1)] [] s.2.2 (oI z) m') (Q := fun e : (Int32 × Mem) => Xj RX11 cX11_rightBeliefs 5 (some .int) 4 79 0 0 0 0 58 [(2, vI e.1)] [] e.2 (oI z) m') ?_ _ _ e1 ?_
  · intro s r9 h9 hi hx
    exact ok_X11_rightBeliefs_b4 x1 s.1 s.2.1 s.2.2 h9 (by rintro _ _ _ rfl; exact hi _ rfl) (by rintro _ _ rfl; exact hx _ rfl)
  · exact ok_X11_rightBeliefs_e58_h4 e.1 e.2 h 
noncomputable def r_X11_rightBeliefs (x1 : Int32) (m : Mem) : Option (Int32 × Mem) :=
  r_X11_rightBeliefs_l4 x1 0 0 m
set_option maxHeartbeats 4000000 in
set_option maxRecDepth 20000 in
theorem ok_X11_rightBeliefs (x1 : Int32) (m : Mem) {z : Int32} {m' : Mem} (h : r_X11_rightBeliefs x1 m = some (z, m')) : Mt yX11_rightBeliefs cX11_rightBeliefs 5 (some .int) 4 79 0 0 [vR 11 0, vI x1] m (oI z) m' := by
  refine Mt.of (by decide) (Nat.le_of_ble_eq_true rfl) (by decide +kernel) (hhF_ne (by decide)) ?_
  show Xj RX11 cX11_rightBeliefs 5 (some .int) 4 79 0 0 0 0 0 [(0, vR 11 0), (1, vI x1)] [] m (oI z) m'
  unfold r_X11_rightBeliefs at h
  refine xj_iconst (z := 0) dX11_rightBeliefs_0 (by decide) ?_
  refine xj_istore_n (ls' := [(2, vI 0), (0, vR 11 0), (1, vI x1)]) dX11_rightBeliefs_1 rfl (by decide) rfl ?_
  refine xj_iconst (z := 0) dX11_rightBeliefs_2 (by decide) ?_
  refine xj_istore_n (ls' := [(3, vI 0), (2, vI 0), (0, vR 11 0), (1, vI x1)]) dX11_rightBeliefs_3 rfl (by decide) rfl ?_
  refine xj_pick (ls' := [(0, vR 11 0), (1, vI x1), (2, vI 0), (3, vI 0)]) [2, 3, 1, 0] rfl ?_
  exact ok_X11_rightBeliefs_l4 x1 0 0 m h 
noncomputable def r_X11_person (x1 : Int32) (x2 : Int32) (m : Mem) : Option ((Int32 ⊕ Nat) × Mem) :=
  thr (r_X11_needPerson x1 m) fun z1 m2 => (thr (r_X11_needRange x2 0 3 m2) fun z4 m5 => (if x2 = 0 then (if inb x1 8 = true then (some (Sum.inl (m5 20 0 x1.toNatClampNeg), m5)) else none) else if x2 = 1 then (if inb x1 8 = true then (some (Sum.inl (m5 21 0 x1.toNatClampNeg), m5)) else none) else if x2 = 2 then (bd1 (r_X7_believedBy 0 x1 m5) fun z13 => (some (Sum.inl z13, m5))) else (bd2 (r_X11_rightBeliefs x1 m5) fun z16 m15 => (some (Sum.inl z16, m15)))))
set_option maxHeartbeats 4000000 in
set_option maxRecDepth 20000 in
theorem ok_X11_person (x1 : Int32) (x2 : Int32) (m : Mem) {z : (Int32 ⊕ Nat)} {m' : Mem} (h : r_X11_person x1 x2 m = some (z, m')) : Mt yX11_person cX11_person 3 (some .int) 8 134 2 12 [vR 11 0, vI x1, vI x2] m (oX oI z) m' := by
  refine Mt.of (by decide) (Nat.le_of_ble_eq_true rfl) (by decide +kernel) (hhF_ne (by decide)) ?_
  show Xj RX11 cX11_person 3 (some .int) 8 134 2 12 0 0 0 [(0, vR 11 0), (1, vI x1), (2, vI x2)] [] m (oX oI z) m'
  unfold r_X11_person at h
  refine xj_aload_n 0 dX11_person_0 rfl ?_
  refine xj_iload_n 1 dX11_person_1 rfl ?_
  rcases thr_some h with ⟨z1, m2, e3, h⟩ | ⟨ex, e3, rfl⟩
  case inr => exact xj_callVx (st := []) (ok_X11_needPerson x1 m e3) dX11_person_2 cv_X11_246 rfl rfl (Nat.le_of_ble_eq_true rfl) (by decide) (by decide) (by decide) (by decide) (by decide)
  refine xc_Vv (st := []) (ok_X11_needPerson x1 m e3) dX11_person_2 cv_X11_246 rfl rfl (Nat.le_of_ble_eq_true rfl) (by decide) (by decide) (by decide) (by decide) ?_
  refine xj_aload_n 0 dX11_person_5 rfl ?_
  refine xj_iload_n 2 dX11_person_6 rfl ?_
  refine xj_iconst (z := 0) dX11_person_7 (by decide) ?_
  refine xj_iconst (z := 3) dX11_person_8 (by decide) ?_
  rcases thr_some h with ⟨z4, m5, e6, h⟩ | ⟨ex, e6, rfl⟩
  case inr => exact xj_callVx (st := []) (ok_X11_needRange x2 0 3 m2 e6) dX11_person_9 cv_X11_176 rfl rfl (Nat.le_of_ble_eq_true rfl) (by decide) (by decide) (by decide) (by decide) (by decide)
  refine xc_Vv (st := []) (ok_X11_needRange x2 0 3 m2 e6) dX11_person_9 cv_X11_176 rfl rfl (Nat.le_of_ble_eq_true rfl) (by decide) (by decide) (by decide) (by decide) ?_
  refine xj_iload_n 2 dX11_person_12 rfl ?_
  by_cases c7 : x2 = 0
  · rw [if_pos c7] at h
    refine xj_tableIn (off := 27) (tgt := 40) dX11_person_13 (by rw [c7]; decide) (by rw [c7]; decide) (by rw [c7]; decide) (by decide) ?_
    refine xj_aload_n 0 dX11_person_40 rfl ?_
    refine xg_getR (k' := 7) (i' := 0) dX11_person_41 fl_X11_49 rfl ?_
    refine xg_getR (k' := 20) (i' := 0) dX11_person_44 fl_X11_249 rfl ?_
    refine xj_iload_n 1 dX11_person_47 rfl ?_
    by_cases c8 : inb x1 8 = true
    case neg => rw [if_neg c8] at h; cases h
    rw [if_pos c8] at h
    refine xg_iald (z := (m5 20 0 x1.toNatClampNeg)) (n := x1.toNatClampNeg) dX11_person_48 rfl (by decide) (inb_in c8) rfl rfl ?_
    cases h
    exact xj_ireturn dX11_person_49 rfl (by decide) (by decide)
  rw [if_neg c7] at h
  by_cases c9 : x2 = 1
  · rw [if_pos c9] at h
    refine xj_tableIn (off := 37) (tgt := 50) dX11_person_13 (by rw [c9]; decide) (by rw [c9]; decide) (by rw [c9]; decide) (by decide) ?_
    refine xj_aload_n 0 dX11_person_50 rfl ?_
    refine xg_getR (k' := 7) (i' := 0) dX11_person_51 fl_X11_49 rfl ?_
    refine xg_getR (k' := 21) (i' := 0) dX11_person_54 fl_X11_252 rfl ?_
    refine xj_iload_n 1 dX11_person_57 rfl ?_
    by_cases c10 : inb x1 8 = true
    case neg => rw [if_neg c10] at h; cases h
    rw [if_pos c10] at h
    refine xg_iald (z := (m5 21 0 x1.toNatClampNeg)) (n := x1.toNatClampNeg) dX11_person_58 rfl (by decide) (inb_in c10) rfl rfl ?_
    cases h
    exact xj_ireturn dX11_person_59 rfl (by decide) (by decide)
  rw [if_neg c9] at h
  by_cases c11 : x2 = 2
  · rw [if_pos c11] at h
    refine xj_tableIn (off := 47) (tgt := 60) dX11_person_13 (by rw [c11]; decide) (by rw [c11]; decide) (by rw [c11]; decide) (by decide) ?_
    refine xj_aload_n 0 dX11_person_60 rfl ?_
    refine xg_getR (k' := 7) (i' := 0) dX11_person_61 fl_X11_49 rfl ?_
    refine xj_iload_n 1 dX11_person_64 rfl ?_
    obtain ⟨z13, e12, h⟩ := bd1_some h
    refine xc_Vi0 (st := []) (ok_X7_believedBy 0 x1 m5 e12) dX11_person_65 cv_X11_255 rfl rfl (Nat.le_of_ble_eq_true rfl) (by decide) (by decide) (by decide) (by decide) ?_
    cases h
    exact xj_ireturn dX11_person_68 rfl (by decide) (by decide)
  rw [if_neg c11] at h
  refine xj_tableOut (tgt := 69) dX11_person_13 ?_ (by decide) ?_
  · have nc7 := lv_neT c7 (show (0 : Int32).toInt = 0 by decide)
    have nc9 := lv_neT c9 (show (1 : Int32).toInt = 1 by decide)
    have nc11 := lv_neT c11 (show (2 : Int32).toInt = 2 by decide)
    omega
  refine xj_aload_n 0 dX11_person_69 rfl ?_
  refine xj_iload_n 1 dX11_person_70 rfl ?_
  obtain ⟨z16, m15, e14, h⟩ := bd2_some h
  refine xc_Vi0 (st := []) (ok_X11_rightBeliefs x1 m5 e14) dX11_person_71 cv_X11_258 rfl rfl (Nat.le_of_ble_eq_true rfl) (by decide) (by decide) (by decide) (by decide) ?_
  cases h
  exact xj_ireturn dX11_person_74 rfl (by decide) (by decide)
noncomputable def r_X11_place (x1 : Int32) (x2 : Int32) (m : Mem) : Option ((Int32 ⊕ Nat) × Mem) :=
  thr (r_X11_needPlace x1 m) fun z1 m2 => (thr (r_X11_needRange x2 0 4 m2) fun z4 m5 => (if x2 = 0 then (if inb x1 12 = true then (some (Sum.inl (m5 25 0 x1.toNatClampNeg), m5)) else none) else if x2 = 1 then (if inb x1 12 = true then (some (Sum.inl (m5 26 0 x1.toNatClampNeg), m5)) else none) else if x2 = 2 then (bd1 (r_X7_personsIn 0 x1 m5) fun z13 => (some (Sum.inl z13, m5))) else if x2 = 3 then (bd2 (r_X6_goesOn 0 x1 m5) fun z17 m16 => (some (Sum.inl z17, m16))) else (bd1 (r_X6_trace 0 m5) fun m19 => (bd1 (r_X6_rank x1 m19) fun z21 => (some (Sum.inl z21, m19))))))
set_option maxHeartbeats 4000000 in
set_option maxRecDepth 20000 in
theorem ok_X11_place (x1 : Int32) (x2 : Int32) (m : Mem) {z : (Int32 ⊕ Nat)} {m' : Mem} (h : r_X11_place x1 x2 m = some (z, m')) : Mt yX11_place cX11_place 3 (some .int) 8 134 2 12 [vR 11 0, vI x1, vI x2] m (oX oI z) m' := by
  refine Mt.of (by decide) (Nat.le_of_ble_eq_true rfl) (by decide +kernel) (hhF_ne (by decide)) ?_
  show Xj RX11 cX11_place 3 (some .int) 8 134 2 12 0 0 0 [(0, vR 11 0), (1, vI x1), (2, vI x2)] [] m (oX oI z) m'
  unfold r_X11_place at h
  refine xj_aload_n 0 dX11_place_0 rfl ?_
  refine xj_iload_n 1 dX11_place_1 rfl ?_
  rcases thr_some h with ⟨z1, m2, e3, h⟩ | ⟨ex, e3, rfl⟩
  case inr => exact xj_callVx (st := []) (ok_X11_needPlace x1 m e3) dX11_place_2 cv_X11_211 rfl rfl (Nat.le_of_ble_eq_true rfl) (by decide) (by decide) (by decide) (by decide) (by decide)
  refine xc_Vv (st := []) (ok_X11_needPlace x1 m e3) dX11_place_2 cv_X11_211 rfl rfl (Nat.le_of_ble_eq_true rfl) (by decide) (by decide) (by decide) (by decide) ?_
  refine xj_aload_n 0 dX11_place_5 rfl ?_
  refine xj_iload_n 2 dX11_place_6 rfl ?_
  refine xj_iconst (z := 0) dX11_place_7 (by decide) ?_
  refine xj_iconst (z := 4) dX11_place_8 (by decide) ?_
  rcases thr_some h with ⟨z4, m5, e6, h⟩ | ⟨ex, e6, rfl⟩
  case inr => exact xj_callVx (st := []) (ok_X11_needRange x2 0 4 m2 e6) dX11_place_9 cv_X11_176 rfl rfl (Nat.le_of_ble_eq_true rfl) (by decide) (by decide) (by decide) (by decide) (by decide)
  refine xc_Vv (st := []) (ok_X11_needRange x2 0 4 m2 e6) dX11_place_9 cv_X11_176 rfl rfl (Nat.le_of_ble_eq_true rfl) (by decide) (by decide) (by decide) (by decide) ?_
  refine xj_iload_n 2 dX11_place_12 rfl ?_
  by_cases c7 : x2 = 0
  · rw [if_pos c7] at h
    refine xj_tableIn (off := 31) (tgt := 44) dX11_place_13 (by rw [c7]; decide) (by rw [c7]; decide) (by rw [c7]; decide) (by decide) ?_
    refine xj_aload_n 0 dX11_place_44 rfl ?_
    refine xg_getR (k' := 3) (i' := 0) dX11_place_45 fl_X11_19 rfl ?_
    refine xg_getR (k' := 25) (i' := 0) dX11_place_48 fl_X11_214 rfl ?_
    refine xj_iload_n 1 dX11_place_51 rfl ?_
    by_cases c8 : inb x1 12 = true
    case neg => rw [if_neg c8] at h; cases h
    rw [if_pos c8] at h
    refine xg_iald (z := (m5 25 0 x1.toNatClampNeg)) (n := x1.toNatClampNeg) dX11_place_52 rfl (by decide) (inb_in c8) rfl rfl ?_
    cases h
    exact xj_ireturn dX11_place_53 rfl (by decide) (by decide)
  rw [if_neg c7] at h
  by_cases c9 : x2 = 1
  · rw [if_pos c9] at h
    refine xj_tableIn (off := 41) (tgt := 54) dX11_place_13 (by rw [c9]; decide) (by rw [c9]; decide) (by rw [c9]; decide) (by decide) ?_
    refine xj_aload_n 0 dX11_place_54 rfl ?_
    refine xg_getR (k' := 3) (i' := 0) dX11_place_55 fl_X11_19 rfl ?_
    refine xg_getR (k' := 26) (i' := 0) dX11_place_58 fl_X11_218 rfl ?_
    refine xj_iload_n 1 dX11_place_61 rfl ?_
    by_cases c10 : inb x1 12 = true
    case neg => rw [if_neg c10] at h; cases h
    rw [if_pos c10] at h
    refine xg_iald (z := (m5 26 0 x1.toNatClampNeg)) (n := x1.toNatClampNeg) dX11_place_62 rfl (by decide) (inb_in c10) rfl rfl ?_
    cases h
    exact xj_ireturn dX11_place_63 rfl (by decide) (by decide)
  rw [if_neg c9] at h
  by_cases c11 : x2 = 2
  · rw [if_pos c11] at h
    refine xj_tableIn (off := 51) (tgt := 64) dX11_place_13 (by rw [c11]; decide) (by rw [c11]; decide) (by rw [c11]; decide) (by decide) ?_
    refine xj_aload_n 0 dX11_place_64 rfl ?_
    refine xg_getR (k' := 7) (i' := 0) dX11_place_65 fl_X11_49 rfl ?_
    refine xj_iload_n 1 dX11_place_68 rfl ?_
    obtain ⟨z13, e12, h⟩ := bd1_some h
    refine xc_Vi0 (st := []) (ok_X7_personsIn 0 x1 m5 e12) dX11_place_69 cv_X11_221 rfl rfl (Nat.le_of_ble_eq_true rfl) (by decide) (by decide) (by decide) (by decide) ?_
    cases h
    exact xj_ireturn dX11_place_72 rfl (by decide) (by decide)
  rw [if_neg c11] at h
  by_cases c14 : x2 = 3
  · rw [if_pos c14] at h
    refine xj_tableIn (off := 60) (tgt := 73) dX11_place_13 (by rw [c14]; decide) (by rw [c14]; decide) (by rw [c14]; decide) (by decide) ?_
    refine xj_aload_n 0 dX11_place_73 rfl ?_
    refine xg_getR (k' := 6) (i' := 0) dX11_place_74 fl_X11_72 rfl ?_
    refine xj_aload_n 0 dX11_place_77 rfl ?_
    refine xg_getR (k' := 7) (i' := 0) dX11_place_78 fl_X11_49 rfl ?_
    refine xj_iload_n 1 dX11_place_81 rfl ?_
    obtain ⟨z17, m16, e15, h⟩ := bd2_some h
    refine xc_Vi0 (st := []) (ok_X6_goesOn 0 x1 m5 e15) dX11_place_82 cv_X11_224 rfl rfl (Nat.le_of_ble_eq_true rfl) (by decide) (by decide) (by decide) (by decide) ?_
    cases h
    exact xj_ireturn dX11_place_85 rfl (by decide) (by decide)
  rw [if_neg c14] at h
  refine xj_tableOut (tgt := 86) dX11_place_13 ?_ (by decide) ?_
  · have nc7 := lv_neT c7 (show (0 : Int32).toInt = 0 by decide)
    have nc9 := lv_neT c9 (show (1 : Int32).toInt = 1 by decide)
    have nc11 := lv_neT c11 (show (2 : Int32).toInt = 2 by decide)
    have nc14 := lv_neT c14 (show (3 : Int32).toInt = 3 by decide)
    omega
  refine xj_aload_n 0 dX11_place_86 rfl ?_
  refine xg_getR (k' := 6) (i' := 0) dX11_place_87 fl_X11_72 rfl ?_
  refine xj_aload_n 0 dX11_place_90 rfl ?_
  refine xg_getR (k' := 7) (i' := 0) dX11_place_91 fl_X11_49 rfl ?_
  obtain ⟨m19, e18, h⟩ := bd1_some h
  refine xc_Vv0 (st := []) (ok_X6_trace 0 m5 e18) dX11_place_94 cv_X11_199 rfl rfl (Nat.le_of_ble_eq_true rfl) (by decide) (by decide) (by decide) (by decide) ?_
  refine xj_aload_n 0 dX11_place_97 rfl ?_
  refine xg_getR (k' := 6) (i' := 0) dX11_place_98 fl_X11_72 rfl ?_
  refine xj_iload_n 1 dX11_place_101 rfl ?_
  obtain ⟨z21, e20, h⟩ := bd1_some h
  refine xc_Vi0 (st := []) (ok_X6_rank x1 m19 e20) dX11_place_102 cv_X11_228 rfl rfl (Nat.le_of_ble_eq_true rfl) (by decide) (by decide) (by decide) (by decide) ?_
  cases h
  exact xj_ireturn dX11_place_105 rfl (by decide) (by decide)
noncomputable def r_X11_power_b5 (y0 : Int64) (x2 : Int32) (y3 : Int64) (x5 : Int32) : Option ((Int64 × Int32) ⊕ (Int64)) :=
  if x2 ≤ x5 then (some (Sum.inr y3)) else (some (Sum.inl ((y3 * y0), x5 + 1)))
set_option maxHeartbeats 4000000 in
set_option maxRecDepth 20000 in
theorem ok_X11_power_b5 (y0 : Int64) (x2 : Int32) (y3 : Int64) (x5 : Int32) (m : Mem) {r : (Int64 × Int32) ⊕ (Int64)} (h : r_X11_power_b5 y0 x2 y3 x5 = some r) {o : Ou} {M' : Mem} (kb : ∀ (y3' : Int64) (x5' : Int32), r = Sum.inl (y3', x5') → Xj RX11 cX11_power 6 (some .long) 1 0 0 0 0 0 5 [(0, vL y0), (2, vI x2), (3, vL y3'), (5, vI x5')] [] m o M') (ke : ∀ (y3' : Int64), r = Sum.inr y3' → Xj RX11 cX11_power 6 (some .long) 1 0 0 0 0 0 21 [(3, vL y3')] [] m o M') : Xj RX11 cX11_power 6 (some .long) 1 0 0 0 0 0 5 [(0, vL y0), (2, vI x2), (3, vL y3), (5, vI x5)] [] m o M' := by
  unfold r_X11_power_b5 at h
  refine xj_iload 3 dX11_power_5 rfl ?_
  refine xj_iload_n 1 dX11_power_7 rfl ?_
  refine xj_icmp_ge (tgt := 21) dX11_power_8 (by decide) (fun c1 => ?_) (fun c1 => ?_)
  · rw [if_pos c1] at h
    cases h
    refine xj_pick (ls' := [(3, vL y3)]) [2] rfl ?_
    exact ke y3 rfl
  · rw [if_neg c1] at h
    refine xj_lload_n 2 dX11_power_11 rfl ?_
    refine xj_lload_n 0 dX11_power_12 rfl ?_
    refine xj_lmul dX11_power_13 ?_
    refine xj_lstore_n (ls' := [(3, vL (y3 * y0)), (0, vL y0), (2, vI x2), (5, vI x5)]) dX11_power_14 rfl (by decide) rfl ?_
    refine xj_iinc (z := x5 + 1) (ls' := [(5, vI (x5 + 1)), (3, vL (y3 * y0)), (0, vL y0), (2, vI x2)]) 3 dX11_power_15 rfl rfl (by decide) rfl ?_
    refine xj_goto (tgt := 5) dX11_power_18 (by decide) ?_
    cases h
    refine xj_pick (ls' := [(0, vL y0), (2, vI x2), (3, vL (y3 * y0)), (5, vI (x5 + 1))]) [2, 3, 1, 0] rfl ?_
    exact kb (y3 * y0) (x5 + 1) rfl
noncomputable def r_X11_power_e21_h5 (y3 : Int64) : Option Int64 :=
  some y3
set_option maxHeartbeats 4000000 in
set_option maxRecDepth 20000 in
theorem ok_X11_power_e21_h5 (y3 : Int64) (m : Mem) {z : Int64} (h : r_X11_power_e21_h5 y3 = some z) : Xj RX11 cX11_power 6 (some .long) 1 0 0 0 0 0 21 [(3, vL y3)] [] m (oL z) m := by
  unfold r_X11_power_e21_h5 at h
  refine xj_lload_n 0 dX11_power_21 rfl ?_
  cases h
  exact xj_lreturn dX11_power_22 (by decide) (by decide)
noncomputable def r_X11_power_l5 (y0 : Int64) (x2 : Int32) (y3 : Int64) (x5 : Int32) : Option Int64 :=
  bd1 (loopO (fun s => r_X11_power_b5 y0 x2 s.1 s.2) (y3, x5)) (fun e => r_X11_power_e21_h5 e)
set_option maxHeartbeats 4000000 in
set_option maxRecDepth 20000 in
theorem ok_X11_power_l5 (y0 : Int64) (x2 : Int32) (y3 : Int64) (x5 : Int32) (m : Mem) {z : Int64} (h : r_X11_power_l5 y0 x2 y3 x5 = some z) : Xj RX11 cX11_power 6 (some .long) 1 0 0 0 0 0 5 [(0, vL y0), (2, vI x2), (3, vL y3), (5, vI x5)] [] m (oL z) m := by
  unfold r_X11_power_l5 at h
  obtain ⟨e, e1, h⟩ := bd1_some h
  refine loopO_ok (P := fun s : (Int64 × Int32) => Xj RX11 cX11_power 6 (some .long) 1 0 0 0 0 0 5 [(0, vL y0), (2, vI x2), (3, vL s.1), (5, vI s.2)] [] m (oL z) m) (Q := fun e : (Int64) => Xj RX11 cX11_power 6 (some .long) 1 0 0 0 0 0 21 [(3, vL e)] [] m (oL z) m) ?_ _ _ e1 ?_
  · intro s r9 h9 hi hx
    exact ok_X11_power_b5 y0 x2 s.1 s.2 m h9 (by rintro _ _ rfl; exact hi _ rfl) (by rintro _ rfl; exact hx _ rfl)
  · exact ok_X11_power_e21_h5 e m h 
noncomputable def r_X11_power (y0 : Int64) (x2 : Int32) : Option Int64 :=
  r_X11_power_l5 y0 x2 1 0
set_option maxHeartbeats 4000000 in
set_option maxRecDepth 20000 in
theorem ok_X11_power (y0 : Int64) (x2 : Int32) (m : Mem) {z : Int64} (h : r_X11_power y0 x2 = some z) : Mt yX11_power cX11_power 6 (some .long) 1 0 0 0 [vL y0, vI x2] m (oL z) m := by
  refine Mt.of (by decide) (Nat.le_of_ble_eq_true rfl) (by decide +kernel) (hhF_ne (by decide)) ?_
  show Xj RX11 cX11_power 6 (some .long) 1 0 0 0 0 0 0 [(0, vL y0), (2, vI x2)] [] m (oL z) m
  unfold r_X11_power at h
  refine xj_lconst (z := 1) dX11_power_0 (by decide) ?_
  refine xj_lstore_n (ls' := [(3, vL 1), (0, vL y0), (2, vI x2)]) dX11_power_1 rfl (by decide) rfl ?_
  refine xj_iconst (z := 0) dX11_power_2 (by decide) ?_
  refine xj_istore (ls' := [(5, vI 0), (3, vL 1), (0, vL y0), (2, vI x2)]) dX11_power_3 (by decide) rfl ?_
  refine xj_pick (ls' := [(0, vL y0), (2, vI x2), (3, vL 1), (5, vI 0)]) [2, 3, 1, 0] rfl ?_
  exact ok_X11_power_l5 y0 x2 1 0 m h 
noncomputable def r_X11_pull (x1 : Int32) (x2 : Int32) (m : Mem) : Option ((Int32 ⊕ Nat) × Mem) :=
  thr (r_X11_needPlace x1 m) fun z1 m2 => (thr (r_X11_needPlace x2 m2) fun z4 m5 => (bd1 (r_X3_between 0 x1 x2 m5) fun z8 => (if z8 = (-1) then (some (Sum.inl (-100), m5)) else (bd2 (r_X6_draw 0 x1 x2 m5) fun z12 m11 => (some (Sum.inl z12, m11))))))
set_option maxHeartbeats 4000000 in
set_option maxRecDepth 20000 in
theorem ok_X11_pull (x1 : Int32) (x2 : Int32) (m : Mem) {z : (Int32 ⊕ Nat)} {m' : Mem} (h : r_X11_pull x1 x2 m = some (z, m')) : Mt yX11_pull cX11_pull 3 (some .int) 8 133 2 12 [vR 11 0, vI x1, vI x2] m (oX oI z) m' := by
  refine Mt.of (by decide) (Nat.le_of_ble_eq_true rfl) (by decide +kernel) (hhF_ne (by decide)) ?_
  show Xj RX11 cX11_pull 3 (some .int) 8 133 2 12 0 0 0 [(0, vR 11 0), (1, vI x1), (2, vI x2)] [] m (oX oI z) m'
  unfold r_X11_pull at h
  refine xj_aload_n 0 dX11_pull_0 rfl ?_
  refine xj_iload_n 1 dX11_pull_1 rfl ?_
  rcases thr_some h with ⟨z1, m2, e3, h⟩ | ⟨ex, e3, rfl⟩
  case inr => exact xj_callVx (st := []) (ok_X11_needPlace x1 m e3) dX11_pull_2 cv_X11_211 rfl rfl (Nat.le_of_ble_eq_true rfl) (by decide) (by decide) (by decide) (by decide) (by decide)
  refine xc_Vv (st := []) (ok_X11_needPlace x1 m e3) dX11_pull_2 cv_X11_211 rfl rfl (Nat.le_of_ble_eq_true rfl) (by decide) (by decide) (by decide) (by decide) ?_
  refine xj_aload_n 0 dX11_pull_5 rfl ?_
  refine xj_iload_n 2 dX11_pull_6 rfl ?_
  rcases thr_some h with ⟨z4, m5, e6, h⟩ | ⟨ex, e6, rfl⟩
  case inr => exact xj_callVx (st := []) (ok_X11_needPlace x2 m2 e6) dX11_pull_7 cv_X11_211 rfl rfl (Nat.le_of_ble_eq_true rfl) (by decide) (by decide) (by decide) (by decide) (by decide)
  refine xc_Vv (st := []) (ok_X11_needPlace x2 m2 e6) dX11_pull_7 cv_X11_211 rfl rfl (Nat.le_of_ble_eq_true rfl) (by decide) (by decide) (by decide) (by decide) ?_
  refine xj_aload_n 0 dX11_pull_10 rfl ?_
  refine xg_getR (k' := 3) (i' := 0) dX11_pull_11 fl_X11_19 rfl ?_
  refine xj_iload_n 1 dX11_pull_14 rfl ?_
  refine xj_iload_n 2 dX11_pull_15 rfl ?_
  obtain ⟨z8, e7, h⟩ := bd1_some h
  refine xc_Vi0 (st := []) (ok_X3_between 0 x1 x2 m5 e7) dX11_pull_16 cv_X11_265 rfl rfl (Nat.le_of_ble_eq_true rfl) (by decide) (by decide) (by decide) (by decide) ?_
  refine xj_iconst (z := (-1)) dX11_pull_19 (by decide) ?_
  refine xj_icmp_ne (tgt := 28) dX11_pull_20 (by decide) (fun c9 => ?_) (fun c9 => ?_)
  · rw [if_neg c9] at h
    refine xj_aload_n 0 dX11_pull_28 rfl ?_
    refine xg_getR (k' := 6) (i' := 0) dX11_pull_29 fl_X11_72 rfl ?_
    refine xj_aload_n 0 dX11_pull_32 rfl ?_
    refine xg_getR (k' := 7) (i' := 0) dX11_pull_33 fl_X11_49 rfl ?_
    refine xj_iload_n 1 dX11_pull_36 rfl ?_
    refine xj_iload_n 2 dX11_pull_37 rfl ?_
    obtain ⟨z12, m11, e10, h⟩ := bd2_some h
    refine xc_Vi0 (st := []) (ok_X6_draw 0 x1 x2 m5 e10) dX11_pull_38 cv_X11_268 rfl rfl (Nat.le_of_ble_eq_true rfl) (by decide) (by decide) (by decide) (by decide) ?_
    cases h
    exact xj_ireturn dX11_pull_41 rfl (by decide) (by decide)
  · rw [if_pos c9] at h
    refine xj_bipush (z := (-100)) dX11_pull_23 (by decide) ?_
    refine xj_goto (tgt := 41) dX11_pull_25 (by decide) ?_
    cases h
    exact xj_ireturn dX11_pull_41 rfl (by decide) (by decide)
noncomputable def r_X11_right_j97_2_c34 (x1 : Int32) (x2 : Int32) (x3 : Int32) (x4 : Int32) (x5 : Int32) (x6 : Int32) (m : Mem) : Option ((Int32 × Int32 × Int32) ⊕ (Int32 × Int32)) :=
  some (Sum.inl (x4, x5, x6 + 1))
set_option maxHeartbeats 4000000 in
set_option maxRecDepth 20000 in
theorem ok_X11_right_j97_2_c34 (x1 : Int32) (x2 : Int32) (x3 : Int32) (x4 : Int32) (x5 : Int32) (x6 : Int32) (m : Mem) {r : (Int32 × Int32 × Int32) ⊕ (Int32 × Int32)} (h : r_X11_right_j97_2_c34 x1 x2 x3 x4 x5 x6 m = some r) {o : Ou} {M' : Mem} (kb : ∀ (x4' : Int32) (x5' : Int32) (x6' : Int32), r = Sum.inl (x4', x5', x6') → Xj RX11 cX11_right 8 (some .int) 8 134 2 12 2 12 34 [(0, vR 11 0), (1, vI x1), (2, vI x2), (3, vI x3), (4, vI x4'), (5, vI x5'), (6, vI x6')] [] m o M') (ke : ∀ (x4' : Int32) (x5' : Int32), r = Sum.inr (x4', x5') → Xj RX11 cX11_right 8 (some .int) 8 134 2 12 2 12 103 [(2, vI x2), (4, vI x4'), (5, vI x5')] [] m o M') : Xj RX11 cX11_right 8 (some .int) 8 134 2 12 2 12 97 [(0, vR 11 0), (1, vI x1), (2, vI x2), (3, vI x3), (4, vI x4), (5, vI x5), (6, vI x6)] [] m o M' := by
  unfold r_X11_right_j97_2_c34 at h
  refine xj_iinc (z := x6 + 1) (ls' := [(6, vI (x6 + 1)), (0, vR 11 0), (1, vI x1), (2, vI x2), (3, vI x3), (4, vI x4), (5, vI x5)]) 6 dX11_right_97 rfl rfl (by decide) rfl ?_
  refine xj_goto (tgt := 34) dX11_right_100 (by decide) ?_
  cases h
  refine xj_pick (ls' := [(0, vR 11 0), (1, vI x1), (2, vI x2), (3, vI x3), (4, vI x4), (5, vI x5), (6, vI (x6 + 1))]) [1, 2, 3, 4, 5, 6, 0] rfl ?_
  exact kb x4 x5 (x6 + 1) rfl
noncomputable def r_X11_right_j82_2_c34 (x1 : Int32) (x2 : Int32) (x3 : Int32) (x4 : Int32) (x5 : Int32) (x6 : Int32) (x7 : Int32) (m : Mem) : Option ((Int32 × Int32 × Int32) ⊕ (Int32 × Int32)) :=
  if x7 = (-1) then (r_X11_right_j97_2_c34 x1 x2 x3 x4 x5 x6 m) else (r_X11_right_j97_2_c34 x1 x2 x3 x4 (x5 ||| (1 <<< (x6 &&& 31))) x6 m)
set_option maxHeartbeats 4000000 in
set_option maxRecDepth 20000 in
theorem ok_X11_right_j82_2_c34 (x1 : Int32) (x2 : Int32) (x3 : Int32) (x4 : Int32) (x5 : Int32) (x6 : Int32) (x7 : Int32) (m : Mem) {r : (Int32 × Int32 × Int32) ⊕ (Int32 × Int32)} (h : r_X11_right_j82_2_c34 x1 x2 x3 x4 x5 x6 x7 m = some r) {o : Ou} {M' : Mem} (kb : ∀ (x4' : Int32) (x5' : Int32) (x6' : Int32), r = Sum.inl (x4', x5', x6') → Xj RX11 cX11_right 8 (some .int) 8 134 2 12 2 12 34 [(0, vR 11 0), (1, vI x1), (2, vI x2), (3, vI x3), (4, vI x4'), (5, vI x5'), (6, vI x6')] [] m o M') (ke : ∀ (x4' : Int32) (x5' : Int32), r = Sum.inr (x4', x5') → Xj RX11 cX11_right 8 (some .int) 8 134 2 12 2 12 103 [(2, vI x2), (4, vI x4'), (5, vI x5')] [] m o M') : Xj RX11 cX11_right 8 (some .int) 8 134 2 12 2 12 82 [(0, vR 11 0), (1, vI x1), (2, vI x2), (3, vI x3), (4, vI x4), (5, vI x5), (6, vI x6), (7, vI x7)] [] m o M' := by
  unfold r_X11_right_j82_2_c34 at h
  refine xj_iload 7 dX11_right_82 rfl ?_
  refine xj_iconst (z := (-1)) dX11_right_84 (by decide) ?_
  refine xj_icmp_eq (tgt := 97) dX11_right_85 (by decide) (fun c14 => ?_) (fun c14 => ?_)
  · rw [if_pos c14] at h
    refine xj_pick (ls' := [(0, vR 11 0), (1, vI x1), (2, vI x2), (3, vI x3), (4, vI x4), (5, vI x5), (6, vI x6)]) [0, 1, 2, 3, 4, 5, 6] rfl ?_
    exact ok_X11_right_j97_2_c34 x1 x2 x3 x4 x5 x6 m h kb ke
  · rw [if_neg c14] at h
    refine xj_iload 5 dX11_right_88 rfl ?_
    refine xj_iconst (z := 1) dX11_right_90 (by decide) ?_
    refine xj_iload 6 dX11_right_91 rfl ?_
    refine xj_ishl dX11_right_93 ?_
    refine xj_ior dX11_right_94 ?_
    refine xj_istore (ls' := [(5, vI (x5 ||| (1 <<< (x6 &&& 31)))), (0, vR 11 0), (1, vI x1), (2, vI x2), (3, vI x3), (4, vI x4), (6, vI x6), (7, vI x7)]) dX11_right_95 (by decide) rfl ?_
    refine xj_pick (ls' := [(0, vR 11 0), (1, vI x1), (2, vI x2), (3, vI x3), (4, vI x4), (5, vI (x5 ||| (1 <<< (x6 &&& 31)))), (6, vI x6)]) [1, 2, 3, 4, 5, 0, 6] rfl ?_
    exact ok_X11_right_j97_2_c34 x1 x2 x3 x4 (x5 ||| (1 <<< (x6 &&& 31))) x6 m h kb ke
noncomputable def r_X11_right_b34 (x1 : Int32) (x2 : Int32) (x3 : Int32) (m : Mem) (x4 : Int32) (x5 : Int32) (x6 : Int32) : Option ((Int32 × Int32 × Int32) ⊕ (Int32 × Int32)) :=
  if (m 3 0 2) ≤ x6 then (some (Sum.inr (x4, x5))) else (bd1 (r_X7_believes 0 x6 x1 m) fun z12 => (if z12 = (-1) then (r_X11_right_j82_2_c34 x1 x2 x3 x4 x5 x6 z12 m) else (if z12 = x3 then (r_X11_right_j97_2_c34 x1 x2 x3 (x4 ||| (1 <<< (x6 &&& 31))) x5 x6 m) else (r_X11_right_j82_2_c34 x1 x2 x3 x4 x5 x6 z12 m))))
set_option maxHeartbeats 4000000 in
set_option maxRecDepth 20000 in
theorem ok_X11_right_b34 (x1 : Int32) (x2 : Int32) (x3 : Int32) (m : Mem) (x4 : Int32) (x5 : Int32) (x6 : Int32) {r : (Int32 × Int32 × Int32) ⊕ (Int32 × Int32)} (h : r_X11_right_b34 x1 x2 x3 m x4 x5 x6 = some r) {o : Ou} {M' : Mem} (kb : ∀ (x4' : Int32) (x5' : Int32) (x6' : Int32), r = Sum.inl (x4', x5', x6') → Xj RX11 cX11_right 8 (some .int) 8 134 2 12 2 12 34 [(0, vR 11 0), (1, vI x1), (2, vI x2), (3, vI x3), (4, vI x4'), (5, vI x5'), (6, vI x6')] [] m o M') (ke : ∀ (x4' : Int32) (x5' : Int32), r = Sum.inr (x4', x5') → Xj RX11 cX11_right 8 (some .int) 8 134 2 12 2 12 103 [(2, vI x2), (4, vI x4'), (5, vI x5')] [] m o M') : Xj RX11 cX11_right 8 (some .int) 8 134 2 12 2 12 34 [(0, vR 11 0), (1, vI x1), (2, vI x2), (3, vI x3), (4, vI x4), (5, vI x5), (6, vI x6)] [] m o M' := by
  unfold r_X11_right_b34 at h
  refine xj_iload 6 dX11_right_34 rfl ?_
  refine xj_aload_n 0 dX11_right_36 rfl ?_
  refine xg_getR (k' := 3) (i' := 0) dX11_right_37 fl_X11_19 rfl ?_
  refine xg_getI (x := (m 3 0 2)) dX11_right_40 fl_X11_183 rfl rfl ?_
  refine xj_icmp_ge (tgt := 103) dX11_right_43 (by decide) (fun c10 => ?_) (fun c10 => ?_)
  · rw [if_pos c10] at h
    cases h
    refine xj_pick (ls' := [(2, vI x2), (4, vI x4), (5, vI x5)]) [2, 4, 5] rfl ?_
    exact ke x4 x5 rfl
  · rw [if_neg c10] at h
    refine xj_aload_n 0 dX11_right_46 rfl ?_
    refine xg_getR (k' := 7) (i' := 0) dX11_right_47 fl_X11_49 rfl ?_
    refine xj_iload 6 dX11_right_50 rfl ?_
    refine xj_iload_n 1 dX11_right_52 rfl ?_
    obtain ⟨z12, e11, h⟩ := bd1_some h
    refine xc_Vi0 (st := []) (ok_X7_believes 0 x6 x1 m e11) dX11_right_53 cv_X11_261 rfl rfl (Nat.le_of_ble_eq_true rfl) (by decide) (by decide) (by decide) (by decide) ?_
    refine xj_istore (ls' := [(7, vI z12), (0, vR 11 0), (1, vI x1), (2, vI x2), (3, vI x3), (4, vI x4), (5, vI x5), (6, vI x6)]) dX11_right_56 (by decide) rfl ?_
    refine xj_iload 0 dX11_right_58 rfl ?_
    refine xj_iconst (z := (-1)) dX11_right_60 (by decide) ?_
    refine xj_icmp_eq (tgt := 82) dX11_right_61 (by decide) (fun c13 => ?_) (fun c13 => ?_)
    · rw [if_pos c13] at h
      refine xj_pick (ls' := [(0, vR 11 0), (1, vI x1), (2, vI x2), (3, vI x3), (4, vI x4), (5, vI x5), (6, vI x6), (7, vI z12)]) [1, 2, 3, 4, 5, 6, 7, 0] rfl ?_
      exact ok_X11_right_j82_2_c34 x1 x2 x3 x4 x5 x6 z12 m h kb ke
    · rw [if_neg c13] at h
      refine xj_iload 0 dX11_right_64 rfl ?_
      refine xj_iload_n 4 dX11_right_66 rfl ?_
      refine xj_icmp_ne (tgt := 82) dX11_right_67 (by decide) (fun c15 => ?_) (fun c15 => ?_)
      · rw [if_neg c15] at h
        refine xj_pick (ls' := [(0, vR 11 0), (1, vI x1), (2, vI x2), (3, vI x3), (4, vI x4), (5, vI x5), (6, vI x6), (7, vI z12)]) [1, 2, 3, 4, 5, 6, 7, 0] rfl ?_
        exact ok_X11_right_j82_2_c34 x1 x2 x3 x4 x5 x6 z12 m h kb ke
      · rw [if_pos c15] at h
        refine xj_iload 5 dX11_right_70 rfl ?_
        refine xj_iconst (z := 1) dX11_right_72 (by decide) ?_
        refine xj_iload 7 dX11_right_73 rfl ?_
        refine xj_ishl dX11_right_75 ?_
        refine xj_ior dX11_right_76 ?_
        refine xj_istore (ls' := [(4, vI (x4 ||| (1 <<< (x6 &&& 31)))), (7, vI z12), (0, vR 11 0), (1, vI x1), (2, vI x2), (3, vI x3), (5, vI x5), (6, vI x6)]) dX11_right_77 (by decide) rfl ?_
        refine xj_goto (tgt := 97) dX11_right_79 (by decide) ?_
        refine xj_pick (ls' := [(0, vR 11 0), (1, vI x1), (2, vI x2), (3, vI x3), (4, vI (x4 ||| (1 <<< (x6 &&& 31)))), (5, vI x5), (6, vI x6)]) [2, 3, 4, 5, 0, 6, 7] rfl ?_
        exact ok_X11_right_j97_2_c34 x1 x2 x3 (x4 ||| (1 <<< (x6 &&& 31))) x5 x6 m h kb ke
noncomputable def r_X11_right_e103_h34 (x2 : Int32) (x4 : Int32) (x5 : Int32) (m : Mem) : Option ((Int32 ⊕ Nat) × Mem) :=
  if x2 = 0 then (some (Sum.inl x4, m)) else (some (Sum.inl x5, m))
set_option maxHeartbeats 4000000 in
set_option maxRecDepth 20000 in
theorem ok_X11_right_e103_h34 (x2 : Int32) (x4 : Int32) (x5 : Int32) (m : Mem) {z : (Int32 ⊕ Nat)} {m' : Mem} (h : r_X11_right_e103_h34 x2 x4 x5 m = some (z, m')) : Xj RX11 cX11_right 8 (some .int) 8 134 2 12 2 12 103 [(2, vI x2), (4, vI x4), (5, vI x5)] [] m (oX oI z) m' := by
  unfold r_X11_right_e103_h34 at h
  refine xj_iload_n 0 dX11_right_103 rfl ?_
  refine xj_if_ne (tgt := 112) dX11_right_104 (by decide) (fun c16 => ?_) (fun c16 => ?_)
  · rw [if_neg c16] at h
    refine xj_iload 2 dX11_right_112 rfl ?_
    cases h
    exact xj_ireturn dX11_right_114 rfl (by decide) (by decide)
  · rw [if_pos c16] at h
    refine xj_iload 1 dX11_right_107 rfl ?_
    refine xj_goto (tgt := 114) dX11_right_109 (by decide) ?_
    cases h
    exact xj_ireturn dX11_right_114 rfl (by decide) (by decide)
noncomputable def r_X11_right_l34 (x1 : Int32) (x2 : Int32) (x3 : Int32) (x4 : Int32) (x5 : Int32) (x6 : Int32) (m : Mem) : Option ((Int32 ⊕ Nat) × Mem) :=
  bd1 (loopO (fun s => r_X11_right_b34 x1 x2 x3 m s.1 s.2.1 s.2.2) (x4, x5, x6)) (fun e => r_X11_right_e103_h34 x2 e.1 e.2 m)
set_option maxHeartbeats 4000000 in
set_option maxRecDepth 20000 in
theorem ok_X11_right_l34 (x1 : Int32) (x2 : Int32) (x3 : Int32) (x4 : Int32) (x5 : Int32) (x6 : Int32) (m : Mem) {z : (Int32 ⊕ Nat)} {m' : Mem} (h : r_X11_right_l34 x1 x2 x3 x4 x5 x6 m = some (z, m')) : Xj RX11 cX11_right 8 (some .int) 8 134 2 12 2 12 34 [(0, vR 11 0), (1, vI x1), (2, vI x2), (3, vI x3), (4, vI x4), (5, vI x5), (6, vI x6)] [] m (oX oI z) m' := by
  unfold r_X11_right_l34 at h
  obtain ⟨e, e1, h⟩ := bd1_some h
  refine loopO_ok (P := fun s : (Int32 × Int32 × Int32) => Xj RX11 cX11_right 8 (some .int) 8 134 2 12 2 12 34 [(0, vR 11 0), (1, vI x1), (2, vI x2), (3, vI x3), (4, vI s.1), (5, vI s.2.1), (6, vI s.2.2)] [] m (oX oI z) m') (Q := fun e : (Int32 × Int32) => Xj RX11 cX11_right 8 (some .int) 8 134 2 12 2 12 103 [(2, vI x2), (4, vI e.1), (5, vI e.2)] [] m (oX oI z) m') ?_ _ _ e1 ?_
  · intro s r9 h9 hi hx
    exact ok_X11_right_b34 x1 x2 x3 m s.1 s.2.1 s.2.2 h9 (by rintro _ _ _ rfl; exact hi _ rfl) (by rintro _ _ rfl; exact hx _ rfl)
  · exact ok_X11_right_e103_h34 x2 e.1 e.2 m h 
noncomputable def r_X11_right (x1 : Int32) (x2 : Int32) (m : Mem) : Option ((Int32 ⊕ Nat) × Mem) :=
  thr (r_X11_needPlace x1 m) fun z1 m2 => (thr (r_X11_needRange x2 0 1 m2) fun z4 m5 => (bd2 (r_X6_goesOn 0 x1 m5) fun z9 m8 => (r_X11_right_l34 x1 x2 z9 0 0 0 m8)))
set_option maxHeartbeats 4000000 in
set_option maxRecDepth 20000 in
theorem ok_X11_right (x1 : Int32) (x2 : Int32) (m : Mem) {z : (Int32 ⊕ Nat)} {m' : Mem} (h : r_X11_right x1 x2 m = some (z, m')) : Mt yX11_right cX11_right 8 (some .int) 8 134 2 12 [vR 11 0, vI x1, vI x2] m (oX oI z) m' := by
  refine Mt.of (by decide) (Nat.le_of_ble_eq_true rfl) (by decide +kernel) (hhF_ne (by decide)) ?_
  show Xj RX11 cX11_right 8 (some .int) 8 134 2 12 0 0 0 [(0, vR 11 0), (1, vI x1), (2, vI x2)] [] m (oX oI z) m'
  unfold r_X11_right at h
  refine xj_aload_n 0 dX11_right_0 rfl ?_
  refine xj_iload_n 1 dX11_right_1 rfl ?_
  rcases thr_some h with ⟨z1, m2, e3, h⟩ | ⟨ex, e3, rfl⟩
  case inr => exact xj_callVx (st := []) (ok_X11_needPlace x1 m e3) dX11_right_2 cv_X11_211 rfl rfl (Nat.le_of_ble_eq_true rfl) (by decide) (by decide) (by decide) (by decide) (by decide)
  refine xc_Vv (st := []) (ok_X11_needPlace x1 m e3) dX11_right_2 cv_X11_211 rfl rfl (Nat.le_of_ble_eq_true rfl) (by decide) (by decide) (by decide) (by decide) ?_
  refine xj_aload_n 0 dX11_right_5 rfl ?_
  refine xj_iload_n 2 dX11_right_6 rfl ?_
  refine xj_iconst (z := 0) dX11_right_7 (by decide) ?_
  refine xj_iconst (z := 1) dX11_right_8 (by decide) ?_
  rcases thr_some h with ⟨z4, m5, e6, h⟩ | ⟨ex, e6, rfl⟩
  case inr => exact xj_callVx (st := []) (ok_X11_needRange x2 0 1 m2 e6) dX11_right_9 cv_X11_176 rfl rfl (Nat.le_of_ble_eq_true rfl) (by decide) (by decide) (by decide) (by decide) (by decide)
  refine xc_Vv (st := []) (ok_X11_needRange x2 0 1 m2 e6) dX11_right_9 cv_X11_176 rfl rfl (Nat.le_of_ble_eq_true rfl) (by decide) (by decide) (by decide) (by decide) ?_
  refine xj_aload_n 0 dX11_right_12 rfl ?_
  refine xg_getR (k' := 6) (i' := 0) dX11_right_13 fl_X11_72 rfl ?_
  refine xj_aload_n 0 dX11_right_16 rfl ?_
  refine xg_getR (k' := 7) (i' := 0) dX11_right_17 fl_X11_49 rfl ?_
  refine xj_iload_n 1 dX11_right_20 rfl ?_
  obtain ⟨z9, m8, e7, h⟩ := bd2_some h
  refine xc_Vi0 (st := []) (ok_X6_goesOn 0 x1 m5 e7) dX11_right_21 cv_X11_224 rfl rfl (Nat.le_of_ble_eq_true rfl) (by decide) (by decide) (by decide) (by decide) ?_
  refine xj_istore_n (ls' := [(3, vI z9), (0, vR 11 0), (1, vI x1), (2, vI x2)]) dX11_right_24 rfl (by decide) rfl ?_
  refine xj_iconst (z := 0) dX11_right_25 (by decide) ?_
  refine xj_istore (ls' := [(4, vI 0), (3, vI z9), (0, vR 11 0), (1, vI x1), (2, vI x2)]) dX11_right_26 (by decide) rfl ?_
  refine xj_iconst (z := 0) dX11_right_28 (by decide) ?_
  refine xj_istore (ls' := [(5, vI 0), (4, vI 0), (3, vI z9), (0, vR 11 0), (1, vI x1), (2, vI x2)]) dX11_right_29 (by decide) rfl ?_
  refine xj_iconst (z := 0) dX11_right_31 (by decide) ?_
  refine xj_istore (ls' := [(6, vI 0), (5, vI 0), (4, vI 0), (3, vI z9), (0, vR 11 0), (1, vI x1), (2, vI x2)]) dX11_right_32 (by decide) rfl ?_
  refine xj_pick (ls' := [(0, vR 11 0), (1, vI x1), (2, vI x2), (3, vI z9), (4, vI 0), (5, vI 0), (6, vI 0)]) [4, 5, 6, 3, 2, 1, 0] rfl ?_
  exact ok_X11_right_l34 x1 x2 z9 0 0 0 m8 h 
noncomputable def r_X11_seen_b78 (x3 : Int32) (m : Mem) (y4 : Int64) (y8 : Int64) (x10 : Int32) : Option ((Int64 × Int64 × Int32) ⊕ (Int64 × Int64)) :=
  if 48 ≤ x10 then (some (Sum.inr (y4, y8))) else (if (lg_cmp (remL y8 2) 0) = 0 then (if (lg_cmp (remL y4 2) 0) = 0 then (some (Sum.inl ((y4 / 2), (y8 / 2), x10 + 1))) else (some (Sum.inr (y4, y8)))) else (some (Sum.inr (y4, y8))))
set_option maxHeartbeats 4000000 in
set_option maxRecDepth 20000 in
theorem ok_X11_seen_b78 (x3 : Int32) (m : Mem) (y4 : Int64) (y8 : Int64) (x10 : Int32) {r : (Int64 × Int64 × Int32) ⊕ (Int64 × Int64)} (h : r_X11_seen_b78 x3 m y4 y8 x10 = some r) {o : Ou} {M' : Mem} (kb : ∀ (y4' : Int64) (y8' : Int64) (x10' : Int32), r = Sum.inl (y4', y8', x10') → Xj RX11 cX11_seen 11 (some .long) 8 134 3 18 3 18 78 [(3, vI x3), (4, vL y4'), (8, vL y8'), (10, vI x10')] [] m o M') (ke : ∀ (y4' : Int64) (y8' : Int64), r = Sum.inr (y4', y8') → Xj RX11 cX11_seen 11 (some .long) 8 134 3 18 3 18 129 [(3, vI x3), (4, vL y4'), (8, vL y8')] [] m o M') : Xj RX11 cX11_seen 11 (some .long) 8 134 3 18 3 18 78 [(3, vI x3), (4, vL y4), (8, vL y8), (10, vI x10)] [] m o M' := by
  unfold r_X11_seen_b78 at h
  refine xj_iload 3 dX11_seen_78 rfl ?_
  refine xj_bipush (z := 48) dX11_seen_80 (by decide) ?_
  refine xj_icmp_ge (tgt := 129) dX11_seen_82 (by decide) (fun c15 => ?_) (fun c15 => ?_)
  · rw [if_pos c15] at h
    cases h
    refine xj_pick (ls' := [(3, vI x3), (4, vL y4), (8, vL y8)]) [0, 1, 2] rfl ?_
    exact ke y4 y8 rfl
  · rw [if_neg c15] at h
    refine xj_lload 2 dX11_seen_85 rfl ?_
    refine xj_ldc2 (z := 2) dX11_seen_87 wt_1302 ?_
    refine xg_lrem dX11_seen_90 (by decide) ?_
    refine xj_lconst (z := 0) dX11_seen_91 (by decide) ?_
    refine xj_lcmp dX11_seen_92 ?_
    refine xj_if_ne (tgt := 129) dX11_seen_93 (by decide) (fun c16 => ?_) (fun c16 => ?_)
    · rw [if_neg c16] at h
      cases h
      refine xj_pick (ls' := [(3, vI x3), (4, vL y4), (8, vL y8)]) [0, 1, 2] rfl ?_
      exact ke y4 y8 rfl
    · rw [if_pos c16] at h
      refine xj_lload 1 dX11_seen_96 rfl ?_
      refine xj_ldc2 (z := 2) dX11_seen_98 wt_1302 ?_
      refine xg_lrem dX11_seen_101 (by decide) ?_
      refine xj_lconst (z := 0) dX11_seen_102 (by decide) ?_
      refine xj_lcmp dX11_seen_103 ?_
      refine xj_if_ne (tgt := 129) dX11_seen_104 (by decide) (fun c17 => ?_) (fun c17 => ?_)
      · rw [if_neg c17] at h
        cases h
        refine xj_pick (ls' := [(3, vI x3), (4, vL y4), (8, vL y8)]) [0, 1, 2] rfl ?_
        exact ke y4 y8 rfl
      · rw [if_pos c17] at h
        refine xj_lload 2 dX11_seen_107 rfl ?_
        refine xj_ldc2 (z := 2) dX11_seen_109 wt_1302 ?_
        refine xj_ldiv dX11_seen_112 (by decide) ?_
        refine xj_lstore (ls' := [(8, vL (y8 / 2)), (3, vI x3), (4, vL y4), (10, vI x10)]) dX11_seen_113 (by decide) rfl ?_
        refine xj_lload 2 dX11_seen_115 rfl ?_
        refine xj_ldc2 (z := 2) dX11_seen_117 wt_1302 ?_
        refine xj_ldiv dX11_seen_120 (by decide) ?_
        refine xj_lstore (ls' := [(4, vL (y4 / 2)), (8, vL (y8 / 2)), (3, vI x3), (10, vI x10)]) dX11_seen_121 (by decide) rfl ?_
        refine xj_iinc (z := x10 + 1) (ls' := [(10, vI (x10 + 1)), (4, vL (y4 / 2)), (8, vL (y8 / 2)), (3, vI x3)]) 3 dX11_seen_123 rfl rfl (by decide) rfl ?_
        refine xj_goto (tgt := 78) dX11_seen_126 (by decide) ?_
        cases h
        refine xj_pick (ls' := [(3, vI x3), (4, vL (y4 / 2)), (8, vL (y8 / 2)), (10, vI (x10 + 1))]) [3, 1, 2, 0] rfl ?_
        exact kb (y4 / 2) (y8 / 2) (x10 + 1) rfl
noncomputable def r_X11_seen_j129_3 (x3 : Int32) (y4 : Int64) (y8 : Int64) (m : Mem) : Option ((Int64 ⊕ Nat) × Mem) :=
  if x3 = 0 then (some (Sum.inl y8, m)) else (some (Sum.inl y4, m))
set_option maxHeartbeats 4000000 in
set_option maxRecDepth 20000 in
theorem ok_X11_seen_j129_3 (x3 : Int32) (y4 : Int64) (y8 : Int64) (m : Mem) {z : (Int64 ⊕ Nat)} {m' : Mem} (h : r_X11_seen_j129_3 x3 y4 y8 m = some (z, m')) : Xj RX11 cX11_seen 11 (some .long) 8 134 3 18 3 18 129 [(3, vI x3), (4, vL y4), (8, vL y8)] [] m (oX oL z) m' := by
  unfold r_X11_seen_j129_3 at h
  refine xj_iload_n 0 dX11_seen_129 rfl ?_
  refine xj_if_ne (tgt := 138) dX11_seen_130 (by decide) (fun c18 => ?_) (fun c18 => ?_)
  · rw [if_neg c18] at h
    refine xj_lload 1 dX11_seen_138 rfl ?_
    cases h
    exact xj_lreturn dX11_seen_140 (by decide) (by decide)
  · rw [if_pos c18] at h
    refine xj_lload 2 dX11_seen_133 rfl ?_
    refine xj_goto (tgt := 140) dX11_seen_135 (by decide) ?_
    cases h
    exact xj_lreturn dX11_seen_140 (by decide) (by decide)
noncomputable def r_X11_seen_e129_h78 (x3 : Int32) (y4 : Int64) (y8 : Int64) (m : Mem) : Option ((Int64 ⊕ Nat) × Mem) :=
  r_X11_seen_j129_3 x3 y4 y8 m
set_option maxHeartbeats 4000000 in
set_option maxRecDepth 20000 in
theorem ok_X11_seen_e129_h78 (x3 : Int32) (y4 : Int64) (y8 : Int64) (m : Mem) {z : (Int64 ⊕ Nat)} {m' : Mem} (h : r_X11_seen_e129_h78 x3 y4 y8 m = some (z, m')) : Xj RX11 cX11_seen 11 (some .long) 8 134 3 18 3 18 129 [(3, vI x3), (4, vL y4), (8, vL y8)] [] m (oX oL z) m' := by
  unfold r_X11_seen_e129_h78 at h
  exact ok_X11_seen_j129_3 x3 y4 y8 m h 
noncomputable def r_X11_seen_l78 (x3 : Int32) (y4 : Int64) (y8 : Int64) (x10 : Int32) (m : Mem) : Option ((Int64 ⊕ Nat) × Mem) :=
  bd1 (loopO (fun s => r_X11_seen_b78 x3 m s.1 s.2.1 s.2.2) (y4, y8, x10)) (fun e => r_X11_seen_e129_h78 x3 e.1 e.2 m)
set_option maxHeartbeats 4000000 in
set_option maxRecDepth 20000 in
theorem ok_X11_seen_l78 (x3 : Int32) (y4 : Int64) (y8 : Int64) (x10 : Int32) (m : Mem) {z : (Int64 ⊕ Nat)} {m' : Mem} (h : r_X11_seen_l78 x3 y4 y8 x10 m = some (z, m')) : Xj RX11 cX11_seen 11 (some .long) 8 134 3 18 3 18 78 [(3, vI x3), (4, vL y4), (8, vL y8), (10, vI x10)] [] m (oX oL z) m' := by
  unfold r_X11_seen_l78 at h
  obtain ⟨e, e1, h⟩ := bd1_some h
  refine loopO_ok (P := fun s : (Int64 × Int64 × Int32) => Xj RX11 cX11_seen 11 (some .long) 8 134 3 18 3 18 78 [(3, vI x3), (4, vL s.1), (8, vL s.2.1), (10, vI s.2.2)] [] m (oX oL z) m') (Q := fun e : (Int64 × Int64) => Xj RX11 cX11_seen 11 (some .long) 8 134 3 18 3 18 129 [(3, vI x3), (4, vL e.1), (8, vL e.2)] [] m (oX oL z) m') ?_ _ _ e1 ?_
  · intro s r9 h9 hi hx
    exact ok_X11_seen_b78 x3 m s.1 s.2.1 s.2.2 h9 (by rintro _ _ _ rfl; exact hi _ rfl) (by rintro _ _ rfl; exact hx _ rfl)
  · exact ok_X11_seen_e129_h78 x3 e.1 e.2 m h 
noncomputable def r_X11_seen_j56_3 (x1 : Int32) (x2 : Int32) (x3 : Int32) (y4 : Int64) (s0 : Int64) (m : Mem) : Option ((Int64 ⊕ Nat) × Mem) :=
  bd1 (r_X11_power ((16 - x2).toInt64) x1) fun z14 => (r_X11_seen_l78 x3 y4 ((y4 - z14) - s0) 0 m)
set_option maxHeartbeats 4000000 in
set_option maxRecDepth 20000 in
theorem ok_X11_seen_j56_3 (x1 : Int32) (x2 : Int32) (x3 : Int32) (y4 : Int64) (s0 : Int64) (m : Mem) {z : (Int64 ⊕ Nat)} {m' : Mem} (h : r_X11_seen_j56_3 x1 x2 x3 y4 s0 m = some (z, m')) : Xj RX11 cX11_seen 11 (some .long) 8 134 3 18 3 18 56 [(1, vI x1), (2, vI x2), (3, vI x3), (4, vL y4)] [vL s0] m (oX oL z) m' := by
  unfold r_X11_seen_j56_3 at h
  refine xj_lstore (ls' := [(6, vL s0), (1, vI x1), (2, vI x2), (3, vI x3), (4, vL y4)]) dX11_seen_56 (by decide) rfl ?_
  refine xj_lload 4 dX11_seen_58 rfl ?_
  refine xj_bipush (z := 16) dX11_seen_60 (by decide) ?_
  refine xj_iload_n 2 dX11_seen_62 rfl ?_
  refine xj_isub dX11_seen_63 ?_
  refine xj_i2l dX11_seen_64 ?_
  refine xj_iload_n 1 dX11_seen_65 rfl ?_
  obtain ⟨z14, e13, h⟩ := bd1_some h
  refine xc_Sl0 (st := [vL y4]) (ok_X11_power ((16 - x2).toInt64) x1 m e13) dX11_seen_66 cs_X11_344 rfl rfl (Nat.le_of_ble_eq_true rfl) (by decide) (by decide) (by decide) (by decide) ?_
  refine xj_lsub dX11_seen_69 ?_
  refine xj_lload 0 dX11_seen_70 rfl ?_
  refine xj_lsub dX11_seen_72 ?_
  refine xj_lstore (ls' := [(8, vL ((y4 - z14) - s0)), (6, vL s0), (1, vI x1), (2, vI x2), (3, vI x3), (4, vL y4)]) dX11_seen_73 (by decide) rfl ?_
  refine xj_iconst (z := 0) dX11_seen_75 (by decide) ?_
  refine xj_istore (ls' := [(10, vI 0), (8, vL ((y4 - z14) - s0)), (6, vL s0), (1, vI x1), (2, vI x2), (3, vI x3), (4, vL y4)]) dX11_seen_76 (by decide) rfl ?_
  refine xj_pick (ls' := [(3, vI x3), (4, vL y4), (8, vL ((y4 - z14) - s0)), (10, vI 0)]) [5, 6, 1, 0] rfl ?_
  exact ok_X11_seen_l78 x3 y4 ((y4 - z14) - s0) 0 m h 
noncomputable def r_X11_seen (x1 : Int32) (x2 : Int32) (x3 : Int32) (m : Mem) : Option ((Int64 ⊕ Nat) × Mem) :=
  thr (r_X11_needRange x1 0 12 m) fun z1 m2 => (thr (r_X11_needRange x2 0 16 m2) fun z4 m5 => (thr (r_X11_needRange x3 0 1 m5) fun z7 m8 => (bd1 (r_X11_power 16 x1) fun z11 => (if x1 = 0 then (r_X11_seen_j56_3 x1 x2 x3 z11 0 m8) else (bd1 (r_X11_power ((16 - x2).toInt64) (x1 - 1)) fun z20 => (r_X11_seen_j56_3 x1 x2 x3 z11 (((x1 * x2).toInt64) * z20) m8))))))
set_option maxHeartbeats 4000000 in
set_option maxRecDepth 20000 in
theorem ok_X11_seen (x1 : Int32) (x2 : Int32) (x3 : Int32) (m : Mem) {z : (Int64 ⊕ Nat)} {m' : Mem} (h : r_X11_seen x1 x2 x3 m = some (z, m')) : Mt yX11_seen cX11_seen 11 (some .long) 8 134 3 18 [vR 11 0, vI x1, vI x2, vI x3] m (oX oL z) m' := by
  refine Mt.of (by decide) (Nat.le_of_ble_eq_true rfl) (by decide +kernel) (hhF_ne (by decide)) ?_
  show Xj RX11 cX11_seen 11 (some .long) 8 134 3 18 0 0 0 [(0, vR 11 0), (1, vI x1), (2, vI x2), (3, vI x3)] [] m (oX oL z) m'
  unfold r_X11_seen at h
  refine xj_aload_n 0 dX11_seen_0 rfl ?_
  refine xj_iload_n 1 dX11_seen_1 rfl ?_
  refine xj_iconst (z := 0) dX11_seen_2 (by decide) ?_
  refine xj_bipush (z := 12) dX11_seen_3 (by decide) ?_
  rcases thr_some h with ⟨z1, m2, e3, h⟩ | ⟨ex, e3, rfl⟩
  case inr => exact xj_callVx (st := []) (ok_X11_needRange x1 0 12 m e3) dX11_seen_5 cv_X11_176 rfl rfl (Nat.le_of_ble_eq_true rfl) (by decide) (by decide) (by decide) (by decide) (by decide)
  refine xc_Vv (st := []) (ok_X11_needRange x1 0 12 m e3) dX11_seen_5 cv_X11_176 rfl rfl (Nat.le_of_ble_eq_true rfl) (by decide) (by decide) (by decide) (by decide) ?_
  refine xj_aload_n 0 dX11_seen_8 rfl ?_
  refine xj_iload_n 2 dX11_seen_9 rfl ?_
  refine xj_iconst (z := 0) dX11_seen_10 (by decide) ?_
  refine xj_bipush (z := 16) dX11_seen_11 (by decide) ?_
  rcases thr_some h with ⟨z4, m5, e6, h⟩ | ⟨ex, e6, rfl⟩
  case inr => exact xj_callVx (st := []) (ok_X11_needRange x2 0 16 m2 e6) dX11_seen_13 cv_X11_176 rfl rfl (Nat.le_of_ble_eq_true rfl) (by decide) (by decide) (by decide) (by decide) (by decide)
  refine xc_Vv (st := []) (ok_X11_needRange x2 0 16 m2 e6) dX11_seen_13 cv_X11_176 rfl rfl (Nat.le_of_ble_eq_true rfl) (by decide) (by decide) (by decide) (by decide) ?_
  refine xj_aload_n 0 dX11_seen_16 rfl ?_
  refine xj_iload_n 3 dX11_seen_17 rfl ?_
  refine xj_iconst (z := 0) dX11_seen_18 (by decide) ?_
  refine xj_iconst (z := 1) dX11_seen_19 (by decide) ?_
  rcases thr_some h with ⟨z7, m8, e9, h⟩ | ⟨ex, e9, rfl⟩
  case inr => exact xj_callVx (st := []) (ok_X11_needRange x3 0 1 m5 e9) dX11_seen_20 cv_X11_176 rfl rfl (Nat.le_of_ble_eq_true rfl) (by decide) (by decide) (by decide) (by decide) (by decide)
  refine xc_Vv (st := []) (ok_X11_needRange x3 0 1 m5 e9) dX11_seen_20 cv_X11_176 rfl rfl (Nat.le_of_ble_eq_true rfl) (by decide) (by decide) (by decide) (by decide) ?_
  refine xj_ldc2 (z := 16) dX11_seen_23 wt_1298 ?_
  refine xj_iload_n 1 dX11_seen_26 rfl ?_
  obtain ⟨z11, e10, h⟩ := bd1_some h
  refine xc_Sl0 (st := []) (ok_X11_power 16 x1 m8 e10) dX11_seen_27 cs_X11_344 rfl rfl (Nat.le_of_ble_eq_true rfl) (by decide) (by decide) (by decide) (by decide) ?_
  refine xj_lstore (ls' := [(4, vL z11), (0, vR 11 0), (1, vI x1), (2, vI x2), (3, vI x3)]) dX11_seen_30 (by decide) rfl ?_
  refine xj_iload_n 2 dX11_seen_32 rfl ?_
  refine xj_if_ne (tgt := 40) dX11_seen_33 (by decide) (fun c12 => ?_) (fun c12 => ?_)
  · rw [if_neg c12] at h
    refine xj_iload_n 2 dX11_seen_40 rfl ?_
    refine xj_iload_n 3 dX11_seen_41 rfl ?_
    refine xj_imul dX11_seen_42 ?_
    refine xj_i2l dX11_seen_43 ?_
    refine xj_bipush (z := 16) dX11_seen_44 (by decide) ?_
    refine xj_iload_n 3 dX11_seen_46 rfl ?_
    refine xj_isub dX11_seen_47 ?_
    refine xj_i2l dX11_seen_48 ?_
    refine xj_iload_n 2 dX11_seen_49 rfl ?_
    refine xj_iconst (z := 1) dX11_seen_50 (by decide) ?_
    refine xj_isub dX11_seen_51 ?_
    obtain ⟨z20, e19, h⟩ := bd1_some h
    refine xc_Sl0 (st := [vL ((x1 * x2).toInt64)]) (ok_X11_power ((16 - x2).toInt64) (x1 - 1) m8 e19) dX11_seen_52 cs_X11_344 rfl rfl (Nat.le_of_ble_eq_true rfl) (by decide) (by decide) (by decide) (by decide) ?_
    refine xj_lmul dX11_seen_55 ?_
    refine xj_pick (ls' := [(1, vI x1), (2, vI x2), (3, vI x3), (4, vL z11)]) [2, 3, 4, 0] rfl ?_
    exact ok_X11_seen_j56_3 x1 x2 x3 z11 (((x1 * x2).toInt64) * z20) m8 h 
  · rw [if_pos c12] at h
    refine xj_lconst (z := 0) dX11_seen_36 (by decide) ?_
    refine xj_goto (tgt := 56) dX11_seen_37 (by decide) ?_
    refine xj_pick (ls' := [(1, vI x1), (2, vI x2), (3, vI x3), (4, vL z11)]) [2, 3, 4, 0] rfl ?_
    exact ok_X11_seen_j56_3 x1 x2 x3 z11 0 m8 h 
noncomputable def r_X11_share_b44 (x1 : Int32) (x2 : Int32) (x3 : Int32) (m : Mem) (x4 : Int32) : Option ((Int32) ⊕ (Int32)) :=
  if x4 ≤ 0 then (some (Sum.inr x4)) else (bd1 (r_X11_givenBy x4 x2 m) fun z13 => (if z13 ≤ x3 then (some (Sum.inr x4)) else (some (Sum.inl (x4 + (-1))))))
set_option maxHeartbeats 4000000 in
set_option maxRecDepth 20000 in
theorem ok_X11_share_b44 (x1 : Int32) (x2 : Int32) (x3 : Int32) (m : Mem) (x4 : Int32) {r : (Int32) ⊕ (Int32)} (h : r_X11_share_b44 x1 x2 x3 m x4 = some r) {o : Ou} {M' : Mem} (kb : ∀ (x4' : Int32), r = Sum.inl x4' → Xj RX11 cX11_share 5 (some .int) 8 134 3 18 3 18 44 [(0, vR 11 0), (1, vI x1), (2, vI x2), (3, vI x3), (4, vI x4')] [] m o M') (ke : ∀ (x4' : Int32), r = Sum.inr x4' → Xj RX11 cX11_share 5 (some .int) 8 134 3 18 3 18 66 [(0, vR 11 0), (1, vI x1), (4, vI x4')] [] m o M') : Xj RX11 cX11_share 5 (some .int) 8 134 3 18 3 18 44 [(0, vR 11 0), (1, vI x1), (2, vI x2), (3, vI x3), (4, vI x4)] [] m o M' := by
  unfold r_X11_share_b44 at h
  refine xj_iload 4 dX11_share_44 rfl ?_
  refine xj_if_le (tgt := 66) dX11_share_46 (by decide) (fun c11 => ?_) (fun c11 => ?_)
  · rw [if_pos c11] at h
    cases h
    refine xj_pick (ls' := [(0, vR 11 0), (1, vI x1), (4, vI x4)]) [0, 1, 4] rfl ?_
    exact ke x4 rfl
  · rw [if_neg c11] at h
    refine xj_aload_n 0 dX11_share_49 rfl ?_
    refine xj_iload 4 dX11_share_50 rfl ?_
    refine xj_iload_n 2 dX11_share_52 rfl ?_
    obtain ⟨z13, e12, h⟩ := bd1_some h
    refine xc_Vi0 (st := []) (ok_X11_givenBy x4 x2 m e12) dX11_share_53 cv_X11_362 rfl rfl (Nat.le_of_ble_eq_true rfl) (by decide) (by decide) (by decide) (by decide) ?_
    refine xj_iload_n 3 dX11_share_56 rfl ?_
    refine xj_icmp_le (tgt := 66) dX11_share_57 (by decide) (fun c14 => ?_) (fun c14 => ?_)
    · rw [if_pos c14] at h
      cases h
      refine xj_pick (ls' := [(0, vR 11 0), (1, vI x1), (4, vI x4)]) [0, 1, 4] rfl ?_
      exact ke x4 rfl
    · rw [if_neg c14] at h
      refine xj_iinc (z := x4 + (-1)) (ls' := [(4, vI (x4 + (-1))), (0, vR 11 0), (1, vI x1), (2, vI x2), (3, vI x3)]) 4 dX11_share_60 rfl rfl (by decide) rfl ?_
      refine xj_goto (tgt := 44) dX11_share_63 (by decide) ?_
      cases h
      refine xj_pick (ls' := [(0, vR 11 0), (1, vI x1), (2, vI x2), (3, vI x3), (4, vI (x4 + (-1)))]) [1, 2, 3, 4, 0] rfl ?_
      exact kb (x4 + (-1)) rfl
noncomputable def r_X11_share_j66_3 (x1 : Int32) (x4 : Int32) (m : Mem) : Option ((Int32 ⊕ Nat) × Mem) :=
  if inb x1 8 = true then (some (Sum.inl (imin x4 (m 20 0 x1.toNatClampNeg)), m)) else none
set_option maxHeartbeats 4000000 in
set_option maxRecDepth 20000 in
theorem ok_X11_share_j66_3 (x1 : Int32) (x4 : Int32) (m : Mem) {z : (Int32 ⊕ Nat)} {m' : Mem} (h : r_X11_share_j66_3 x1 x4 m = some (z, m')) : Xj RX11 cX11_share 5 (some .int) 8 134 3 18 3 18 66 [(0, vR 11 0), (1, vI x1), (4, vI x4)] [] m (oX oI z) m' := by
  unfold r_X11_share_j66_3 at h
  refine xj_iload 2 dX11_share_66 rfl ?_
  refine xj_aload_n 0 dX11_share_68 rfl ?_
  refine xg_getR (k' := 7) (i' := 0) dX11_share_69 fl_X11_49 rfl ?_
  refine xg_getR (k' := 20) (i' := 0) dX11_share_72 fl_X11_249 rfl ?_
  refine xj_iload_n 1 dX11_share_75 rfl ?_
  by_cases c15 : inb x1 8 = true
  case neg => rw [if_neg c15] at h; cases h
  rw [if_pos c15] at h
  refine xg_iald (z := (m 20 0 x1.toNatClampNeg)) (n := x1.toNatClampNeg) dX11_share_76 rfl (by decide) (inb_in c15) rfl rfl ?_
  refine xj_min dX11_share_77 cm_X11_365 (by decide) (Nat.le_of_ble_eq_true rfl) (by decide) (by decide) ?_
  cases h
  exact xj_ireturn dX11_share_80 rfl (by decide) (by decide)
noncomputable def r_X11_share_e66_h44 (x1 : Int32) (x4 : Int32) (m : Mem) : Option ((Int32 ⊕ Nat) × Mem) :=
  r_X11_share_j66_3 x1 x4 m
set_option maxHeartbeats 4000000 in
set_option maxRecDepth 20000 in
theorem ok_X11_share_e66_h44 (x1 : Int32) (x4 : Int32) (m : Mem) {z : (Int32 ⊕ Nat)} {m' : Mem} (h : r_X11_share_e66_h44 x1 x4 m = some (z, m')) : Xj RX11 cX11_share 5 (some .int) 8 134 3 18 3 18 66 [(0, vR 11 0), (1, vI x1), (4, vI x4)] [] m (oX oI z) m' := by
  unfold r_X11_share_e66_h44 at h
  exact ok_X11_share_j66_3 x1 x4 m h 
noncomputable def r_X11_share_l44 (x1 : Int32) (x2 : Int32) (x3 : Int32) (x4 : Int32) (m : Mem) : Option ((Int32 ⊕ Nat) × Mem) :=
  bd1 (loopO (fun s => r_X11_share_b44 x1 x2 x3 m s) x4) (fun e => r_X11_share_e66_h44 x1 e m)
set_option maxHeartbeats 4000000 in
set_option maxRecDepth 20000 in
theorem ok_X11_share_l44 (x1 : Int32) (x2 : Int32) (x3 : Int32) (x4 : Int32) (m : Mem) {z : (Int32 ⊕ Nat)} {m' : Mem} (h : r_X11_share_l44 x1 x2 x3 x4 m = some (z, m')) : Xj RX11 cX11_share 5 (some .int) 8 134 3 18 3 18 44 [(0, vR 11 0), (1, vI x1), (2, vI x2), (3, vI x3), (4, vI x4)] [] m (oX oI z) m' := by
  unfold r_X11_share_l44 at h
  obtain ⟨e, e1, h⟩ := bd1_some h
  refine loopO_ok (P := fun s : (Int32) => Xj RX11 cX11_share 5 (some .int) 8 134 3 18 3 18 44 [(0, vR 11 0), (1, vI x1), (2, vI x2), (3, vI x3), (4, vI s)] [] m (oX oI z) m') (Q := fun e : (Int32) => Xj RX11 cX11_share 5 (some .int) 8 134 3 18 3 18 66 [(0, vR 11 0), (1, vI x1), (4, vI e)] [] m (oX oI z) m') ?_ _ _ e1 ?_
  · intro s r9 h9 hi hx
    exact ok_X11_share_b44 x1 x2 x3 m s h9 (by rintro _ rfl; exact hi _ rfl) (by rintro _ rfl; exact hx _ rfl)
  · exact ok_X11_share_e66_h44 x1 e m h 
noncomputable def r_X11_share (x1 : Int32) (x2 : Int32) (x3 : Int32) (m : Mem) : Option ((Int32 ⊕ Nat) × Mem) :=
  thr (r_X11_needPerson x1 m) fun z1 m2 => (thr (r_X11_needRange x3 0 99 m2) fun z4 m5 => (thr (r_X11_needRange x2 0 ((1 <<< ((m5 3 0 2) &&& 31)) - 1) m5) fun z7 m8 => (if ((x2 >>> (x1 &&& 31)) &&& 1) = 0 then (some (Sum.inl 0, m8)) else (r_X11_share_l44 x1 x2 x3 9 m8))))
set_option maxHeartbeats 4000000 in
set_option maxRecDepth 20000 in
theorem ok_X11_share (x1 : Int32) (x2 : Int32) (x3 : Int32) (m : Mem) {z : (Int32 ⊕ Nat)} {m' : Mem} (h : r_X11_share x1 x2 x3 m = some (z, m')) : Mt yX11_share cX11_share 5 (some .int) 8 134 3 18 [vR 11 0, vI x1, vI x2, vI x3] m (oX oI z) m' := by
  refine Mt.of (by decide) (Nat.le_of_ble_eq_true rfl) (by decide +kernel) (hhF_ne (by decide)) ?_
  show Xj RX11 cX11_share 5 (some .int) 8 134 3 18 0 0 0 [(0, vR 11 0), (1, vI x1), (2, vI x2), (3, vI x3)] [] m (oX oI z) m'
  unfold r_X11_share at h
  refine xj_aload_n 0 dX11_share_0 rfl ?_
  refine xj_iload_n 1 dX11_share_1 rfl ?_
  rcases thr_some h with ⟨z1, m2, e3, h⟩ | ⟨ex, e3, rfl⟩
  case inr => exact xj_callVx (st := []) (ok_X11_needPerson x1 m e3) dX11_share_2 cv_X11_246 rfl rfl (Nat.le_of_ble_eq_true rfl) (by decide) (by decide) (by decide) (by decide) (by decide)
  refine xc_Vv (st := []) (ok_X11_needPerson x1 m e3) dX11_share_2 cv_X11_246 rfl rfl (Nat.le_of_ble_eq_true rfl) (by decide) (by decide) (by decide) (by decide) ?_
  refine xj_aload_n 0 dX11_share_5 rfl ?_
  refine xj_iload_n 3 dX11_share_6 rfl ?_
  refine xj_iconst (z := 0) dX11_share_7 (by decide) ?_
  refine xj_bipush (z := 99) dX11_share_8 (by decide) ?_
  rcases thr_some h with ⟨z4, m5, e6, h⟩ | ⟨ex, e6, rfl⟩
  case inr => exact xj_callVx (st := []) (ok_X11_needRange x3 0 99 m2 e6) dX11_share_10 cv_X11_176 rfl rfl (Nat.le_of_ble_eq_true rfl) (by decide) (by decide) (by decide) (by decide) (by decide)
  refine xc_Vv (st := []) (ok_X11_needRange x3 0 99 m2 e6) dX11_share_10 cv_X11_176 rfl rfl (Nat.le_of_ble_eq_true rfl) (by decide) (by decide) (by decide) (by decide) ?_
  refine xj_aload_n 0 dX11_share_13 rfl ?_
  refine xj_iload_n 2 dX11_share_14 rfl ?_
  refine xj_iconst (z := 0) dX11_share_15 (by decide) ?_
  refine xj_iconst (z := 1) dX11_share_16 (by decide) ?_
  refine xj_aload_n 0 dX11_share_17 rfl ?_
  refine xg_getR (k' := 3) (i' := 0) dX11_share_18 fl_X11_19 rfl ?_
  refine xg_getI (x := (m5 3 0 2)) dX11_share_21 fl_X11_183 rfl rfl ?_
  refine xj_ishl dX11_share_24 ?_
  refine xj_iconst (z := 1) dX11_share_25 (by decide) ?_
  refine xj_isub dX11_share_26 ?_
  rcases thr_some h with ⟨z7, m8, e9, h⟩ | ⟨ex, e9, rfl⟩
  case inr => exact xj_callVx (st := []) (ok_X11_needRange x2 0 ((1 <<< ((m5 3 0 2) &&& 31)) - 1) m5 e9) dX11_share_27 cv_X11_176 rfl rfl (Nat.le_of_ble_eq_true rfl) (by decide) (by decide) (by decide) (by decide) (by decide)
  refine xc_Vv (st := []) (ok_X11_needRange x2 0 ((1 <<< ((m5 3 0 2) &&& 31)) - 1) m5 e9) dX11_share_27 cv_X11_176 rfl rfl (Nat.le_of_ble_eq_true rfl) (by decide) (by decide) (by decide) (by decide) ?_
  refine xj_iload_n 2 dX11_share_30 rfl ?_
  refine xj_iload_n 1 dX11_share_31 rfl ?_
  refine xj_ishr dX11_share_32 ?_
  refine xj_iconst (z := 1) dX11_share_33 (by decide) ?_
  refine xj_iand dX11_share_34 ?_
  refine xj_if_ne (tgt := 40) dX11_share_35 (by decide) (fun c10 => ?_) (fun c10 => ?_)
  · rw [if_neg c10] at h
    refine xj_bipush (z := 9) dX11_share_40 (by decide) ?_
    refine xj_istore (ls' := [(4, vI 9), (0, vR 11 0), (1, vI x1), (2, vI x2), (3, vI x3)]) dX11_share_42 (by decide) rfl ?_
    refine xj_pick (ls' := [(0, vR 11 0), (1, vI x1), (2, vI x2), (3, vI x3), (4, vI 9)]) [1, 2, 3, 4, 0] rfl ?_
    exact ok_X11_share_l44 x1 x2 x3 9 m8 h 
  · rw [if_pos c10] at h
    refine xj_iconst (z := 0) dX11_share_38 (by decide) ?_
    cases h
    exact xj_ireturn dX11_share_39 rfl (by decide) (by decide)
noncomputable def r_X11_sight_j78_c25 (x1 : Int32) (x2 : Int32) (x3 : Int32) (m : Mem) : Option ((Int32 × Int32 × Int32) ⊕ (Int32)) :=
  some (Sum.inl (x1, x2, x3 + 1))
set_option maxHeartbeats 4000000 in
set_option maxRecDepth 20000 in
theorem ok_X11_sight_j78_c25 (x1 : Int32) (x2 : Int32) (x3 : Int32) (m : Mem) {r : (Int32 × Int32 × Int32) ⊕ (Int32)} (h : r_X11_sight_j78_c25 x1 x2 x3 m = some r) {o : Ou} {M' : Mem} (kb : ∀ (x1' : Int32) (x2' : Int32) (x3' : Int32), r = Sum.inl (x1', x2', x3') → Xj RX11 cX11_sight 5 (some .int) 5 102 0 0 0 0 25 [(0, vR 11 0), (1, vI x1'), (2, vI x2'), (3, vI x3')] [] m o M') (ke : ∀ (x1' : Int32), r = Sum.inr x1' → Xj RX11 cX11_sight 5 (some .int) 5 102 0 0 0 0 84 [(1, vI x1')] [] m o M') : Xj RX11 cX11_sight 5 (some .int) 5 102 0 0 0 0 78 [(0, vR 11 0), (1, vI x1), (2, vI x2), (3, vI x3)] [] m o M' := by
  unfold r_X11_sight_j78_c25 at h
  refine xj_iinc (z := x3 + 1) (ls' := [(3, vI (x3 + 1)), (0, vR 11 0), (1, vI x1), (2, vI x2)]) 3 dX11_sight_78 rfl rfl (by decide) rfl ?_
  refine xj_goto (tgt := 25) dX11_sight_81 (by decide) ?_
  cases h
  refine xj_pick (ls' := [(0, vR 11 0), (1, vI x1), (2, vI x2), (3, vI (x3 + 1))]) [1, 2, 3, 0] rfl ?_
  exact kb x1 x2 (x3 + 1) rfl
noncomputable def r_X11_sight_b25 (m : Mem) (x1 : Int32) (x2 : Int32) (x3 : Int32) : Option ((Int32 × Int32 × Int32) ⊕ (Int32)) :=
  if (1 <<< ((m 3 0 0) &&& 31)) ≤ x3 then (some (Sum.inr x1)) else (if x2 ≤ (r_J6_bitCount_0f7a4 x3) then (r_X11_sight_j78_c25 x1 x2 x3 m) else (bd1 (r_X3_linkedTo 0 x3 m) fun z6 => (if ((m 6 0 4) &&& ((x3 ||| z6) ^^^ (-1))) = 0 then (r_X11_sight_j78_c25 x3 (r_J6_bitCount_0f7a4 x3) x3 m) else (r_X11_sight_j78_c25 x1 x2 x3 m))))
set_option maxHeartbeats 4000000 in
set_option maxRecDepth 20000 in
theorem ok_X11_sight_b25 (m : Mem) (x1 : Int32) (x2 : Int32) (x3 : Int32) {r : (Int32 × Int32 × Int32) ⊕ (Int32)} (h : r_X11_sight_b25 m x1 x2 x3 = some r) {o : Ou} {M' : Mem} (kb : ∀ (x1' : Int32) (x2' : Int32) (x3' : Int32), r = Sum.inl (x1', x2', x3') → Xj RX11 cX11_sight 5 (some .int) 5 102 0 0 0 0 25 [(0, vR 11 0), (1, vI x1'), (2, vI x2'), (3, vI x3')] [] m o M') (ke : ∀ (x1' : Int32), r = Sum.inr x1' → Xj RX11 cX11_sight 5 (some .int) 5 102 0 0 0 0 84 [(1, vI x1')] [] m o M') : Xj RX11 cX11_sight 5 (some .int) 5 102 0 0 0 0 25 [(0, vR 11 0), (1, vI x1), (2, vI x2), (3, vI x3)] [] m o M' := by
  unfold r_X11_sight_b25 at h
  refine xj_iload_n 3 dX11_sight_25 rfl ?_
  refine xj_iconst (z := 1) dX11_sight_26 (by decide) ?_
  refine xj_aload_n 0 dX11_sight_27 rfl ?_
  refine xg_getR (k' := 3) (i' := 0) dX11_sight_28 fl_X11_19 rfl ?_
  refine xg_getI (x := (m 3 0 0)) dX11_sight_31 fl_X11_137 rfl rfl ?_
  refine xj_ishl dX11_sight_34 ?_
  refine xj_icmp_ge (tgt := 84) dX11_sight_35 (by decide) (fun c3 => ?_) (fun c3 => ?_)
  · rw [if_pos c3] at h
    cases h
    refine xj_pick (ls' := [(1, vI x1)]) [1] rfl ?_
    exact ke x1 rfl
  · rw [if_neg c3] at h
    refine xj_iload_n 3 dX11_sight_38 rfl ?_
    refine xc_Si0 (st := []) (ok_J6_bitCount_0f7a4 x3 m rfl) dX11_sight_39 cs_X11_334 rfl rfl (Nat.le_of_ble_eq_true rfl) (by decide) (by decide) (by decide) (by decide) ?_
    refine xj_istore (ls' := [(4, vI (r_J6_bitCount_0f7a4 x3)), (0, vR 11 0), (1, vI x1), (2, vI x2), (3, vI x3)]) dX11_sight_42 (by decide) rfl ?_
    refine xj_iload 0 dX11_sight_44 rfl ?_
    refine xj_iload_n 3 dX11_sight_46 rfl ?_
    refine xj_icmp_ge (tgt := 78) dX11_sight_47 (by decide) (fun c4 => ?_) (fun c4 => ?_)
    · rw [if_pos c4] at h
      refine xj_pick (ls' := [(0, vR 11 0), (1, vI x1), (2, vI x2), (3, vI x3)]) [1, 2, 3, 4] rfl ?_
      exact ok_X11_sight_j78_c25 x1 x2 x3 m h kb ke
    · rw [if_neg c4] at h
      refine xj_aload_n 1 dX11_sight_50 rfl ?_
      refine xg_getR (k' := 6) (i' := 0) dX11_sight_51 fl_X11_72 rfl ?_
      refine xg_getI (x := (m 6 0 4)) dX11_sight_54 fl_X11_205 rfl rfl ?_
      refine xj_iload_n 4 dX11_sight_57 rfl ?_
      refine xj_aload_n 1 dX11_sight_58 rfl ?_
      refine xg_getR (k' := 3) (i' := 0) dX11_sight_59 fl_X11_19 rfl ?_
      refine xj_iload_n 4 dX11_sight_62 rfl ?_
      obtain ⟨z6, e5, h⟩ := bd1_some h
      refine xc_Vi0 (st := [vI x3, vI (m 6 0 4)]) (ok_X3_linkedTo 0 x3 m e5) dX11_sight_63 cv_X11_339 rfl rfl (Nat.le_of_ble_eq_true rfl) (by decide) (by decide) (by decide) (by decide) ?_
      refine xj_ior dX11_sight_66 ?_
      refine xj_iconst (z := (-1)) dX11_sight_67 (by decide) ?_
      refine xj_ixor dX11_sight_68 ?_
      refine xj_iand dX11_sight_69 ?_
      refine xj_if_ne (tgt := 78) dX11_sight_70 (by decide) (fun c7 => ?_) (fun c7 => ?_)
      · rw [if_neg c7] at h
        refine xj_pick (ls' := [(0, vR 11 0), (1, vI x1), (2, vI x2), (3, vI x3)]) [1, 2, 3, 4] rfl ?_
        exact ok_X11_sight_j78_c25 x1 x2 x3 m h kb ke
      · rw [if_pos c7] at h
        refine xj_iload_n 4 dX11_sight_73 rfl ?_
        refine xj_istore_n (ls' := [(1, vI x3), (4, vI (r_J6_bitCount_0f7a4 x3)), (0, vR 11 0), (2, vI x2), (3, vI x3)]) dX11_sight_74 rfl (by decide) rfl ?_
        refine xj_iload 1 dX11_sight_75 rfl ?_
        refine xj_istore_n (ls' := [(2, vI (r_J6_bitCount_0f7a4 x3)), (1, vI x3), (4, vI (r_J6_bitCount_0f7a4 x3)), (0, vR 11 0), (3, vI x3)]) dX11_sight_77 rfl (by decide) rfl ?_
        refine xj_pick (ls' := [(0, vR 11 0), (1, vI x3), (2, vI (r_J6_bitCount_0f7a4 x3)), (3, vI x3)]) [3, 1, 0, 4] rfl ?_
        exact ok_X11_sight_j78_c25 x3 (r_J6_bitCount_0f7a4 x3) x3 m h kb ke
noncomputable def r_X11_sight_e84_h25 (x1 : Int32) (m : Mem) : Option (Int32 × Mem) :=
  some (x1, m)
set_option maxHeartbeats 4000000 in
set_option maxRecDepth 20000 in
theorem ok_X11_sight_e84_h25 (x1 : Int32) (m : Mem) {z : Int32} {m' : Mem} (h : r_X11_sight_e84_h25 x1 m = some (z, m')) : Xj RX11 cX11_sight 5 (some .int) 5 102 0 0 0 0 84 [(1, vI x1)] [] m (oI z) m' := by
  unfold r_X11_sight_e84_h25 at h
  refine xj_iload_n 0 dX11_sight_84 rfl ?_
  cases h
  exact xj_ireturn dX11_sight_85 rfl (by decide) (by decide)
noncomputable def r_X11_sight_l25 (x1 : Int32) (x2 : Int32) (x3 : Int32) (m : Mem) : Option (Int32 × Mem) :=
  bd1 (loopO (fun s => r_X11_sight_b25 m s.1 s.2.1 s.2.2) (x1, x2, x3)) (fun e => r_X11_sight_e84_h25 e m)
set_option maxHeartbeats 4000000 in
set_option maxRecDepth 20000 in
theorem ok_X11_sight_l25 (x1 : Int32) (x2 : Int32) (x3 : Int32) (m : Mem) {z : Int32} {m' : Mem} (h : r_X11_sight_l25 x1 x2 x3 m = some (z, m')) : Xj RX11 cX11_sight 5 (some .int) 5 102 0 0 0 0 25 [(0, vR 11 0), (1, vI x1), (2, vI x2), (3, vI x3)] [] m (oI z) m' := by
  unfold r_X11_sight_l25 at h
  obtain ⟨e, e1, h⟩ := bd1_some h
  refine loopO_ok (P := fun s : (Int32 × Int32 × Int32) => Xj RX11 cX11_sight 5 (some .int) 5 102 0 0 0 0 25 [(0, vR 11 0), (1, vI s.1), (2, vI s.2.1), (3, vI s.2.2)] [] m (oI z) m') (Q := fun e : (Int32) => Xj RX11 cX11_sight 5 (some .int) 5 102 0 0 0 0 84 [(1, vI e)] [] m (oI z) m') ?_ _ _ e1 ?_
  · intro s r9 h9 hi hx
    exact ok_X11_sight_b25 m s.1 s.2.1 s.2.2 h9 (by rintro _ _ _ rfl; exact hi _ rfl) (by rintro _ rfl; exact hx _ rfl)
  · exact ok_X11_sight_e84_h25 e m h 
noncomputable def r_X11_sight (m : Mem) : Option (Int32 × Mem) :=
  bd1 (r_X6_trace 0 m) fun m2 => (r_X11_sight_l25 (-1) ((m2 3 0 0) + 1) 0 m2)
set_option maxHeartbeats 4000000 in
set_option maxRecDepth 20000 in
theorem ok_X11_sight (m : Mem) {z : Int32} {m' : Mem} (h : r_X11_sight m = some (z, m')) : Mt yX11_sight cX11_sight 5 (some .int) 5 102 0 0 [vR 11 0] m (oI z) m' := by
  refine Mt.of (by decide) (Nat.le_of_ble_eq_true rfl) (by decide +kernel) (hhF_ne (by decide)) ?_
  show Xj RX11 cX11_sight 5 (some .int) 5 102 0 0 0 0 0 [(0, vR 11 0)] [] m (oI z) m'
  unfold r_X11_sight at h
  refine xj_aload_n 0 dX11_sight_0 rfl ?_
  refine xg_getR (k' := 6) (i' := 0) dX11_sight_1 fl_X11_72 rfl ?_
  refine xj_aload_n 0 dX11_sight_4 rfl ?_
  refine xg_getR (k' := 7) (i' := 0) dX11_sight_5 fl_X11_49 rfl ?_
  obtain ⟨m2, e1, h⟩ := bd1_some h
  refine xc_Vv0 (st := []) (ok_X6_trace 0 m e1) dX11_sight_8 cv_X11_199 rfl rfl (Nat.le_of_ble_eq_true rfl) (by decide) (by decide) (by decide) (by decide) ?_
  refine xj_iconst (z := (-1)) dX11_sight_11 (by decide) ?_
  refine xj_istore_n (ls' := [(1, vI (-1)), (0, vR 11 0)]) dX11_sight_12 rfl (by decide) rfl ?_
  refine xj_aload_n 1 dX11_sight_13 rfl ?_
  refine xg_getR (k' := 3) (i' := 0) dX11_sight_14 fl_X11_19 rfl ?_
  refine xg_getI (x := (m2 3 0 0)) dX11_sight_17 fl_X11_137 rfl rfl ?_
  refine xj_iconst (z := 1) dX11_sight_20 (by decide) ?_
  refine xj_iadd dX11_sight_21 ?_
  refine xj_istore_n (ls' := [(2, vI ((m2 3 0 0) + 1)), (1, vI (-1)), (0, vR 11 0)]) dX11_sight_22 rfl (by decide) rfl ?_
  refine xj_iconst (z := 0) dX11_sight_23 (by decide) ?_
  refine xj_istore_n (ls' := [(3, vI 0), (2, vI ((m2 3 0 0) + 1)), (1, vI (-1)), (0, vR 11 0)]) dX11_sight_24 rfl (by decide) rfl ?_
  refine xj_pick (ls' := [(0, vR 11 0), (1, vI (-1)), (2, vI ((m2 3 0 0) + 1)), (3, vI 0)]) [3, 2, 1, 0] rfl ?_
  exact ok_X11_sight_l25 (-1) ((m2 3 0 0) + 1) 0 m2 h 
noncomputable def r_X11_silence (x1 : Int32) (m : Mem) : Option ((Int32 ⊕ Nat) × Mem) :=
  thr (r_X11_needPlace x1 m) fun z1 m2 => (bd2 (r_X0_findSilence 0 x1 m2) fun z6 m5 => (some (Sum.inl z6, m5)))
set_option maxHeartbeats 4000000 in
set_option maxRecDepth 20000 in
theorem ok_X11_silence (x1 : Int32) (m : Mem) {z : (Int32 ⊕ Nat)} {m' : Mem} (h : r_X11_silence x1 m = some (z, m')) : Mt yX11_silence cX11_silence 2 (some .int) 8 156 1 6 [vR 11 0, vI x1] m (oX oI z) m' := by
  refine Mt.of (by decide) (Nat.le_of_ble_eq_true rfl) (by decide +kernel) (hhF_ne (by decide)) ?_
  show Xj RX11 cX11_silence 2 (some .int) 8 156 1 6 0 0 0 [(0, vR 11 0), (1, vI x1)] [] m (oX oI z) m'
  unfold r_X11_silence at h
  refine xj_aload_n 0 dX11_silence_0 rfl ?_
  refine xj_iload_n 1 dX11_silence_1 rfl ?_
  rcases thr_some h with ⟨z1, m2, e3, h⟩ | ⟨ex, e3, rfl⟩
  case inr => exact xj_callVx (st := []) (ok_X11_needPlace x1 m e3) dX11_silence_2 cv_X11_211 rfl rfl (Nat.le_of_ble_eq_true rfl) (by decide) (by decide) (by decide) (by decide) (by decide)
  refine xc_Vv (st := []) (ok_X11_needPlace x1 m e3) dX11_silence_2 cv_X11_211 rfl rfl (Nat.le_of_ble_eq_true rfl) (by decide) (by decide) (by decide) (by decide) ?_
  refine xj_aload_n 0 dX11_silence_5 rfl ?_
  refine xg_getR (k' := 0) (i' := 0) dX11_silence_6 fl_X11_90 rfl ?_
  refine xj_aload_n 0 dX11_silence_9 rfl ?_
  refine xg_getR (k' := 7) (i' := 0) dX11_silence_10 fl_X11_49 rfl ?_
  refine xj_iload_n 1 dX11_silence_13 rfl ?_
  obtain ⟨z6, m5, e4, h⟩ := bd2_some h
  refine xc_Vi0 (st := []) (ok_X0_findSilence 0 x1 m2 e4) dX11_silence_14 cv_X11_303 rfl rfl (Nat.le_of_ble_eq_true rfl) (by decide) (by decide) (by decide) (by decide) ?_
  cases h
  exact xj_ireturn dX11_silence_17 rfl (by decide) (by decide)
noncomputable def r_X11_span_b62 (x1 : Int32) (x2 : Int32) (x3 : Int32) (x4 : Int32) (x5 : Int32) (x6 : Int32) (x7 : Int32) (x8 : Int32) (x9 : Int32) (x10 : Int32) (m : Mem) : Option ((Int32 × Int32 × Int32 × Int32 × Mem) ⊕ (Int32 × Int32 × Int32 × Mem)) :=
  if x2 ≤ x10 then (some (Sum.inr (x7, x8, x9, m))) else (bd1 (r_X10_live 0 (x1 + x10) x3 x4 m) fun m18 => (some (Sum.inl ((imin x7 (m18 6 0 3)), (imax x8 (m18 6 0 3)), (x9 + (((m18 6 0 4) >>> (x6 &&& 31)) &&& 1)), x10 + 1, m18))))
set_option maxHeartbeats 4000000 in
set_option maxRecDepth 20000 in
theorem ok_X11_span_b62 (x1 : Int32) (x2 : Int32) (x3 : Int32) (x4 : Int32) (x5 : Int32) (x6 : Int32) (x7 : Int32) (x8 : Int32) (x9 : Int32) (x10 : Int32) (m : Mem) {r : (Int32 × Int32 × Int32 × Int32 × Mem) ⊕ (Int32 × Int32 × Int32 × Mem)} (h : r_X11_span_b62 x1 x2 x3 x4 x5 x6 x7 x8 x9 x10 m = some r) {o : Ou} {M' : Mem} (kb : ∀ (x7' : Int32) (x8' : Int32) (x9' : Int32) (x10' : Int32) (m'' : Mem), r = Sum.inl (x7', x8', x9', x10', m'') → Xj RX11 cX11_span 11 (some .int) 8 134 5 30 5 30 62 [(0, vR 11 0), (1, vI x1), (2, vI x2), (3, vI x3), (4, vI x4), (5, vI x5), (6, vI x6), (7, vI x7'), (8, vI x8'), (9, vI x9'), (10, vI x10')] [] m'' o M') (ke : ∀ (x7' : Int32) (x8' : Int32) (x9' : Int32) (m'' : Mem), r = Sum.inr (x7', x8', x9', m'') → Xj RX11 cX11_span 11 (some .int) 8 134 5 30 5 30 137 [(5, vI x5), (7, vI x7'), (8, vI x8'), (9, vI x9')] [] m'' o M') : Xj RX11 cX11_span 11 (some .int) 8 134 5 30 5 30 62 [(0, vR 11 0), (1, vI x1), (2, vI x2), (3, vI x3), (4, vI x4), (5, vI x5), (6, vI x6), (7, vI x7), (8, vI x8), (9, vI x9), (10, vI x10)] [] m o M' := by
  unfold r_X11_span_b62 at h
  refine xj_iload 10 dX11_span_62 rfl ?_
  refine xj_iload_n 2 dX11_span_64 rfl ?_
  refine xj_icmp_ge (tgt := 137) dX11_span_65 (by decide) (fun c16 => ?_) (fun c16 => ?_)
  · rw [if_pos c16] at h
    cases h
    refine xj_pick (ls' := [(5, vI x5), (7, vI x7), (8, vI x8), (9, vI x9)]) [5, 7, 8, 9] rfl ?_
    exact ke x7 x8 x9 m rfl
  · rw [if_neg c16] at h
    refine xj_aload_n 0 dX11_span_68 rfl ?_
    refine xg_getR (k' := 10) (i' := 0) dX11_span_69 fl_X11_97 rfl ?_
    refine xj_aload_n 0 dX11_span_72 rfl ?_
    refine xg_getR (k' := 7) (i' := 0) dX11_span_73 fl_X11_49 rfl ?_
    refine xj_iload_n 1 dX11_span_76 rfl ?_
    refine xj_iload 10 dX11_span_77 rfl ?_
    refine xj_iadd dX11_span_79 ?_
    refine xj_iload_n 3 dX11_span_80 rfl ?_
    refine xj_iload 4 dX11_span_81 rfl ?_
    obtain ⟨m18, e17, h⟩ := bd1_some h
    refine xc_Vv0 (st := []) (ok_X10_live 0 (x1 + x10) x3 x4 m e17) dX11_span_83 cv_X11_370 rfl rfl (Nat.le_of_ble_eq_true rfl) (by decide) (by decide) (by decide) (by decide) ?_
    refine xj_iload 7 dX11_span_86 rfl ?_
    refine xj_aload_n 0 dX11_span_88 rfl ?_
    refine xg_getR (k' := 6) (i' := 0) dX11_span_89 fl_X11_72 rfl ?_
    refine xg_getI (x := (m18 6 0 3)) dX11_span_92 fl_X11_202 rfl rfl ?_
    refine xj_min dX11_span_95 cm_X11_365 (by decide) (Nat.le_of_ble_eq_true rfl) (by decide) (by decide) ?_
    refine xj_istore (ls' := [(7, vI (imin x7 (m18 6 0 3))), (0, vR 11 0), (1, vI x1), (2, vI x2), (3, vI x3), (4, vI x4), (5, vI x5), (6, vI x6), (8, vI x8), (9, vI x9), (10, vI x10)]) dX11_span_98 (by decide) rfl ?_
    refine xj_iload 8 dX11_span_100 rfl ?_
    refine xj_aload_n 1 dX11_span_102 rfl ?_
    refine xg_getR (k' := 6) (i' := 0) dX11_span_103 fl_X11_72 rfl ?_
    refine xg_getI (x := (m18 6 0 3)) dX11_span_106 fl_X11_202 rfl rfl ?_
    refine xj_max dX11_span_109 cm_X11_380 (by decide) (Nat.le_of_ble_eq_true rfl) (by decide) (by decide) ?_
    refine xj_istore (ls' := [(8, vI (imax x8 (m18 6 0 3))), (7, vI (imin x7 (m18 6 0 3))), (0, vR 11 0), (1, vI x1), (2, vI x2), (3, vI x3), (4, vI x4), (5, vI x5), (6, vI x6), (9, vI x9), (10, vI x10)]) dX11_span_112 (by decide) rfl ?_
    refine xj_iload 9 dX11_span_114 rfl ?_
    refine xj_aload_n 2 dX11_span_116 rfl ?_
    refine xg_getR (k' := 6) (i' := 0) dX11_span_117 fl_X11_72 rfl ?_
    refine xg_getI (x := (m18 6 0 4)) dX11_span_120 fl_X11_205 rfl rfl ?_
    refine xj_iload 8 dX11_span_123 rfl ?_
    refine xj_ishr dX11_span_125 ?_
    refine xj_iconst (z := 1) dX11_span_126 (by decide) ?_
    refine xj_iand dX11_span_127 ?_
    refine xj_iadd dX11_span_128 ?_
    refine xj_istore (ls' := [(9, vI (x9 + (((m18 6 0 4) >>> (x6 &&& 31)) &&& 1))), (8, vI (imax x8 (m18 6 0 3))), (7, vI (imin x7 (m18 6 0 3))), (0, vR 11 0), (1, vI x1), (2, vI x2), (3, vI x3), (4, vI x4), (5, vI x5), (6, vI x6), (10, vI x10)]) dX11_span_129 (by decide) rfl ?_
    refine xj_iinc (z := x10 + 1) (ls' := [(10, vI (x10 + 1)), (9, vI (x9 + (((m18 6 0 4) >>> (x6 &&& 31)) &&& 1))), (8, vI (imax x8 (m18 6 0 3))), (7, vI (imin x7 (m18 6 0 3))), (0, vR 11 0), (1, vI x1), (2, vI x2), (3, vI x3), (4, vI x4), (5, vI x5), (6, vI x6)]) 10 dX11_span_131 rfl rfl (by decide) rfl ?_
    refine xj_goto (tgt := 62) dX11_span_134 (by decide) ?_
    cases h
    refine xj_pick (ls' := [(0, vR 11 0), (1, vI x1), (2, vI x2), (3, vI x3), (4, vI x4), (5, vI x5), (6, vI x6), (7, vI (imin x7 (m18 6 0 3))), (8, vI (imax x8 (m18 6 0 3))), (9, vI (x9 + (((m18 6 0 4) >>> (x6 &&& 31)) &&& 1))), (10, vI (x10 + 1))]) [4, 5, 6, 7, 8, 9, 10, 3, 2, 1, 0] rfl ?_
    exact kb (imin x7 (m18 6 0 3)) (imax x8 (m18 6 0 3)) (x9 + (((m18 6 0 4) >>> (x6 &&& 31)) &&& 1)) (x10 + 1) m18 rfl
noncomputable def r_X11_span_e137_h62 (x5 : Int32) (x7 : Int32) (x8 : Int32) (x9 : Int32) (m : Mem) : Option ((Int32 ⊕ Nat) × Mem) :=
  if x5 = 0 then (some (Sum.inl x7, m)) else if x5 = 1 then (some (Sum.inl x8, m)) else (some (Sum.inl x9, m))
set_option maxHeartbeats 4000000 in
set_option maxRecDepth 20000 in
theorem ok_X11_span_e137_h62 (x5 : Int32) (x7 : Int32) (x8 : Int32) (x9 : Int32) (m : Mem) {z : (Int32 ⊕ Nat)} {m' : Mem} (h : r_X11_span_e137_h62 x5 x7 x8 x9 m = some (z, m')) : Xj RX11 cX11_span 11 (some .int) 8 134 5 30 5 30 137 [(5, vI x5), (7, vI x7), (8, vI x8), (9, vI x9)] [] m (oX oI z) m' := by
  unfold r_X11_span_e137_h62 at h
  refine xj_iload 0 dX11_span_137 rfl ?_
  by_cases c19 : x5 = 0
  · rw [if_pos c19] at h
    refine xj_lookup (off := 25) (tgt := 164) dX11_span_139 (by decide) (by rw [c19]; decide) (by decide) ?_
    refine xj_iload 1 dX11_span_164 rfl ?_
    cases h
    exact xj_ireturn dX11_span_166 rfl (by decide) (by decide)
  rw [if_neg c19] at h
  by_cases c20 : x5 = 1
  · rw [if_pos c20] at h
    refine xj_lookup (off := 28) (tgt := 167) dX11_span_139 (by decide) (by rw [c20]; decide) (by decide) ?_
    refine xj_iload 2 dX11_span_167 rfl ?_
    cases h
    exact xj_ireturn dX11_span_169 rfl (by decide) (by decide)
  rw [if_neg c20] at h
  refine xj_lookup (off := 31) (tgt := 170) dX11_span_139 (by decide) ?_ (by decide) ?_
  · show Op.lookupswitch.offset [(0, 25), (1, 28)] _ _ = _
    rw [lv_osw c19 (show (0 : Int32).toInt = _ by rfl), lv_osw c20 (show (1 : Int32).toInt = _ by rfl)]
    rfl
  refine xj_iload 3 dX11_span_170 rfl ?_
  cases h
  exact xj_ireturn dX11_span_172 rfl (by decide) (by decide)
noncomputable def r_X11_span_l62 (x1 : Int32) (x2 : Int32) (x3 : Int32) (x4 : Int32) (x5 : Int32) (x6 : Int32) (x7 : Int32) (x8 : Int32) (x9 : Int32) (x10 : Int32) (m : Mem) : Option ((Int32 ⊕ Nat) × Mem) :=
  bd1 (loopO (fun s => r_X11_span_b62 x1 x2 x3 x4 x5 x6 s.1 s.2.1 s.2.2.1 s.2.2.2.1 s.2.2.2.2) (x7, x8, x9, x10, m)) (fun e => r_X11_span_e137_h62 x5 e.1 e.2.1 e.2.2.1 e.2.2.2)
set_option maxHeartbeats 4000000 in
set_option maxRecDepth 20000 in
theorem ok_X11_span_l62 (x1 : Int32) (x2 : Int32) (x3 : Int32) (x4 : Int32) (x5 : Int32) (x6 : Int32) (x7 : Int32) (x8 : Int32) (x9 : Int32) (x10 : Int32) (m : Mem) {z : (Int32 ⊕ Nat)} {m' : Mem} (h : r_X11_span_l62 x1 x2 x3 x4 x5 x6 x7 x8 x9 x10 m = some (z, m')) : Xj RX11 cX11_span 11 (some .int) 8 134 5 30 5 30 62 [(0, vR 11 0), (1, vI x1), (2, vI x2), (3, vI x3), (4, vI x4), (5, vI x5), (6, vI x6), (7, vI x7), (8, vI x8), (9, vI x9), (10, vI x10)] [] m (oX oI z) m' := by
  unfold r_X11_span_l62 at h
  obtain ⟨e, e1, h⟩ := bd1_some h
  refine loopO_ok (P := fun s : (Int32 × Int32 × Int32 × Int32 × Mem) => Xj RX11 cX11_span 11 (some .int) 8 134 5 30 5 30 62 [(0, vR 11 0), (1, vI x1), (2, vI x2), (3, vI x3), (4, vI x4), (5, vI x5), (6, vI x6), (7, vI s.1), (8, vI s.2.1), (9, vI s.2.2.1), (10, vI s.2.2.2.1)] [] s.2.2.2.2 (oX oI z) m') (Q := fun e : (Int32 × Int32 × Int32 × Mem) => Xj RX11 cX11_span 11 (some .int) 8 134 5 30 5 30 137 [(5, vI x5), (7, vI e.1), (8, vI e.2.1), (9, vI e.2.2.1)] [] e.2.2.2 (oX oI z) m') ?_ _ _ e1 ?_
  · intro s r9 h9 hi hx
    exact ok_X11_span_b62 x1 x2 x3 x4 x5 x6 s.1 s.2.1 s.2.2.1 s.2.2.2.1 s.2.2.2.2 h9 (by rintro _ _ _ _ _ rfl; exact hi _ rfl) (by rintro _ _ _ _ rfl; exact hx _ rfl)
  · exact ok_X11_span_e137_h62 x5 e.1 e.2.1 e.2.2.1 e.2.2.2 h 
noncomputable def r_X11_span (x1 : Int32) (x2 : Int32) (x3 : Int32) (x4 : Int32) (x5 : Int32) (x6 : Int32) (m : Mem) : Option ((Int32 ⊕ Nat) × Mem) :=
  thr (r_X11_needRange x2 1 20 m) fun z1 m2 => (thr (r_X11_needRange x3 1 96 m2) fun z4 m5 => (thr (r_X11_needRange x4 0 16 m5) fun z7 m8 => (thr (r_X11_needRange x5 0 2 m8) fun z10 m11 => (thr (r_X11_needRange x6 0 ((m11 3 0 0) - 1) m11) fun z13 m14 => (r_X11_span_l62 x1 x2 x3 x4 x5 x6 12 0 0 0 m14)))))
set_option maxHeartbeats 4000000 in
set_option maxRecDepth 20000 in
theorem ok_X11_span (x1 : Int32) (x2 : Int32) (x3 : Int32) (x4 : Int32) (x5 : Int32) (x6 : Int32) (m : Mem) {z : (Int32 ⊕ Nat)} {m' : Mem} (h : r_X11_span x1 x2 x3 x4 x5 x6 m = some (z, m')) : Mt yX11_span cX11_span 11 (some .int) 8 134 5 30 [vR 11 0, vI x1, vI x2, vI x3, vI x4, vI x5, vI x6] m (oX oI z) m' := by
  refine Mt.of (by decide) (Nat.le_of_ble_eq_true rfl) (by decide +kernel) (hhF_ne (by decide)) ?_
  show Xj RX11 cX11_span 11 (some .int) 8 134 5 30 0 0 0 [(0, vR 11 0), (1, vI x1), (2, vI x2), (3, vI x3), (4, vI x4), (5, vI x5), (6, vI x6)] [] m (oX oI z) m'
  unfold r_X11_span at h
  refine xj_aload_n 0 dX11_span_0 rfl ?_
  refine xj_iload_n 2 dX11_span_1 rfl ?_
  refine xj_iconst (z := 1) dX11_span_2 (by decide) ?_
  refine xj_bipush (z := 20) dX11_span_3 (by decide) ?_
  rcases thr_some h with ⟨z1, m2, e3, h⟩ | ⟨ex, e3, rfl⟩
  case inr => exact xj_callVx (st := []) (ok_X11_needRange x2 1 20 m e3) dX11_span_5 cv_X11_176 rfl rfl (Nat.le_of_ble_eq_true rfl) (by decide) (by decide) (by decide) (by decide) (by decide)
  refine xc_Vv (st := []) (ok_X11_needRange x2 1 20 m e3) dX11_span_5 cv_X11_176 rfl rfl (Nat.le_of_ble_eq_true rfl) (by decide) (by decide) (by decide) (by decide) ?_
  refine xj_aload_n 0 dX11_span_8 rfl ?_
  refine xj_iload_n 3 dX11_span_9 rfl ?_
  refine xj_iconst (z := 1) dX11_span_10 (by decide) ?_
  refine xj_bipush (z := 96) dX11_span_11 (by decide) ?_
  rcases thr_some h with ⟨z4, m5, e6, h⟩ | ⟨ex, e6, rfl⟩
  case inr => exact xj_callVx (st := []) (ok_X11_needRange x3 1 96 m2 e6) dX11_span_13 cv_X11_176 rfl rfl (Nat.le_of_ble_eq_true rfl) (by decide) (by decide) (by decide) (by decide) (by decide)
  refine xc_Vv (st := []) (ok_X11_needRange x3 1 96 m2 e6) dX11_span_13 cv_X11_176 rfl rfl (Nat.le_of_ble_eq_true rfl) (by decide) (by decide) (by decide) (by decide) ?_
  refine xj_aload_n 0 dX11_span_16 rfl ?_
  refine xj_iload 4 dX11_span_17 rfl ?_
  refine xj_iconst (z := 0) dX11_span_19 (by decide) ?_
  refine xj_bipush (z := 16) dX11_span_20 (by decide) ?_
  rcases thr_some h with ⟨z7, m8, e9, h⟩ | ⟨ex, e9, rfl⟩
  case inr => exact xj_callVx (st := []) (ok_X11_needRange x4 0 16 m5 e9) dX11_span_22 cv_X11_176 rfl rfl (Nat.le_of_ble_eq_true rfl) (by decide) (by decide) (by decide) (by decide) (by decide)
  refine xc_Vv (st := []) (ok_X11_needRange x4 0 16 m5 e9) dX11_span_22 cv_X11_176 rfl rfl (Nat.le_of_ble_eq_true rfl) (by decide) (by decide) (by decide) (by decide) ?_
  refine xj_aload_n 0 dX11_span_25 rfl ?_
  refine xj_iload 5 dX11_span_26 rfl ?_
  refine xj_iconst (z := 0) dX11_span_28 (by decide) ?_
  refine xj_iconst (z := 2) dX11_span_29 (by decide) ?_
  rcases thr_some h with ⟨z10, m11, e12, h⟩ | ⟨ex, e12, rfl⟩
  case inr => exact xj_callVx (st := []) (ok_X11_needRange x5 0 2 m8 e12) dX11_span_30 cv_X11_176 rfl rfl (Nat.le_of_ble_eq_true rfl) (by decide) (by decide) (by decide) (by decide) (by decide)
  refine xc_Vv (st := []) (ok_X11_needRange x5 0 2 m8 e12) dX11_span_30 cv_X11_176 rfl rfl (Nat.le_of_ble_eq_true rfl) (by decide) (by decide) (by decide) (by decide) ?_
  refine xj_aload_n 0 dX11_span_33 rfl ?_
  refine xj_iload 6 dX11_span_34 rfl ?_
  refine xj_iconst (z := 0) dX11_span_36 (by decide) ?_
  refine xj_aload_n 0 dX11_span_37 rfl ?_
  refine xg_getR (k' := 3) (i' := 0) dX11_span_38 fl_X11_19 rfl ?_
  refine xg_getI (x := (m11 3 0 0)) dX11_span_41 fl_X11_137 rfl rfl ?_
  refine xj_iconst (z := 1) dX11_span_44 (by decide) ?_
  refine xj_isub dX11_span_45 ?_
  rcases thr_some h with ⟨z13, m14, e15, h⟩ | ⟨ex, e15, rfl⟩
  case inr => exact xj_callVx (st := []) (ok_X11_needRange x6 0 ((m11 3 0 0) - 1) m11 e15) dX11_span_46 cv_X11_176 rfl rfl (Nat.le_of_ble_eq_true rfl) (by decide) (by decide) (by decide) (by decide) (by decide)
  refine xc_Vv (st := []) (ok_X11_needRange x6 0 ((m11 3 0 0) - 1) m11 e15) dX11_span_46 cv_X11_176 rfl rfl (Nat.le_of_ble_eq_true rfl) (by decide) (by decide) (by decide) (by decide) ?_
  refine xj_bipush (z := 12) dX11_span_49 (by decide) ?_
  refine xj_istore (ls' := [(7, vI 12), (0, vR 11 0), (1, vI x1), (2, vI x2), (3, vI x3), (4, vI x4), (5, vI x5), (6, vI x6)]) dX11_span_51 (by decide) rfl ?_
  refine xj_iconst (z := 0) dX11_span_53 (by decide) ?_
  refine xj_istore (ls' := [(8, vI 0), (7, vI 12), (0, vR 11 0), (1, vI x1), (2, vI x2), (3, vI x3), (4, vI x4), (5, vI x5), (6, vI x6)]) dX11_span_54 (by decide) rfl ?_
  refine xj_iconst (z := 0) dX11_span_56 (by decide) ?_
  refine xj_istore (ls' := [(9, vI 0), (8, vI 0), (7, vI 12), (0, vR 11 0), (1, vI x1), (2, vI x2), (3, vI x3), (4, vI x4), (5, vI x5), (6, vI x6)]) dX11_span_57 (by decide) rfl ?_
  refine xj_iconst (z := 0) dX11_span_59 (by decide) ?_
  refine xj_istore (ls' := [(10, vI 0), (9, vI 0), (8, vI 0), (7, vI 12), (0, vR 11 0), (1, vI x1), (2, vI x2), (3, vI x3), (4, vI x4), (5, vI x5), (6, vI x6)]) dX11_span_60 (by decide) rfl ?_
  refine xj_pick (ls' := [(0, vR 11 0), (1, vI x1), (2, vI x2), (3, vI x3), (4, vI x4), (5, vI x5), (6, vI x6), (7, vI 12), (8, vI 0), (9, vI 0), (10, vI 0)]) [4, 5, 6, 7, 8, 9, 10, 3, 2, 1, 0] rfl ?_
  exact ok_X11_span_l62 x1 x2 x3 x4 x5 x6 12 0 0 0 m14 h 
noncomputable def r_X11_status (x1 : Int32) (m : Mem) : Int32 :=
  if x1 = 0 then ((m 11 0 15)) else if x1 = 1 then ((m 11 0 16)) else ((-1))
set_option maxHeartbeats 4000000 in
set_option maxRecDepth 20000 in
theorem ok_X11_status (x1 : Int32) (m : Mem) {z : Int32} (h : r_X11_status x1 m = z) : Mt yX11_status cX11_status 2 (some .int) 1 0 0 0 [vR 11 0, vI x1] m (oI z) m := by
  refine Mt.of (by decide) (Nat.le_of_ble_eq_true rfl) (by decide +kernel) (hhF_ne (by decide)) ?_
  show Xj RX11 cX11_status 2 (some .int) 1 0 0 0 0 0 0 [(0, vR 11 0), (1, vI x1)] [] m (oI z) m
  unfold r_X11_status at h
  refine xj_iload_n 1 dX11_status_0 rfl ?_
  by_cases c1 : x1 = 0
  · rw [if_pos c1] at h
    refine xj_lookup (off := 27) (tgt := 28) dX11_status_1 (by decide) (by rw [c1]; decide) (by decide) ?_
    refine xj_aload_n 0 dX11_status_28 rfl ?_
    refine xg_getI (x := (m 11 0 15)) dX11_status_29 fl_X11_391 rfl rfl ?_
    subst h
    exact xj_ireturn dX11_status_32 rfl (by decide) (by decide)
  rw [if_neg c1] at h
  by_cases c2 : x1 = 1
  · rw [if_pos c2] at h
    refine xj_lookup (off := 32) (tgt := 33) dX11_status_1 (by decide) (by rw [c2]; decide) (by decide) ?_
    refine xj_aload_n 0 dX11_status_33 rfl ?_
    refine xg_getI (x := (m 11 0 16)) dX11_status_34 fl_X11_394 rfl rfl ?_
    subst h
    exact xj_ireturn dX11_status_37 rfl (by decide) (by decide)
  rw [if_neg c2] at h
  refine xj_lookup (off := 37) (tgt := 38) dX11_status_1 (by decide) ?_ (by decide) ?_
  · show Op.lookupswitch.offset [(0, 27), (1, 32)] _ _ = _
    rw [lv_osw c1 (show (0 : Int32).toInt = _ by rfl), lv_osw c2 (show (1 : Int32).toInt = _ by rfl)]
    rfl
  refine xj_iconst (z := (-1)) dX11_status_38 (by decide) ?_
  subst h
  exact xj_ireturn dX11_status_39 rfl (by decide) (by decide)
noncomputable def r_X11_stays (m : Mem) : Option (Int32 × Mem) :=
  bd2 (r_X0_findStay 0 m) fun z3 m2 => (some (z3, m2))
set_option maxHeartbeats 4000000 in
set_option maxRecDepth 20000 in
theorem ok_X11_stays (m : Mem) {z : Int32} {m' : Mem} (h : r_X11_stays m = some (z, m')) : Mt yX11_stays cX11_stays 1 (some .int) 6 134 0 0 [vR 11 0] m (oI z) m' := by
  refine Mt.of (by decide) (Nat.le_of_ble_eq_true rfl) (by decide +kernel) (hhF_ne (by decide)) ?_
  show Xj RX11 cX11_stays 1 (some .int) 6 134 0 0 0 0 0 [(0, vR 11 0)] [] m (oI z) m'
  unfold r_X11_stays at h
  refine xj_aload_n 0 dX11_stays_0 rfl ?_
  refine xg_getR (k' := 0) (i' := 0) dX11_stays_1 fl_X11_90 rfl ?_
  refine xj_aload_n 0 dX11_stays_4 rfl ?_
  refine xg_getR (k' := 7) (i' := 0) dX11_stays_5 fl_X11_49 rfl ?_
  obtain ⟨z3, m2, e1, h⟩ := bd2_some h
  refine xc_Vi0 (st := []) (ok_X0_findStay 0 m e1) dX11_stays_8 cv_X11_289 rfl rfl (Nat.le_of_ble_eq_true rfl) (by decide) (by decide) (by decide) (by decide) ?_
  cases h
  exact xj_ireturn dX11_stays_11 rfl (by decide) (by decide)
noncomputable def r_X11_tellings (x1 : Int32) (x2 : Int32) (x3 : Int32) (m : Mem) : Option ((Int32 ⊕ Nat) × Mem) :=
  thr (r_X11_needPerson x1 m) fun z1 m2 => (thr (r_X11_needPlace x2 m2) fun z4 m5 => (thr (r_X11_needRange x3 0 1 m5) fun z7 m8 => (bd1 (r_X0_findTellings 0 x1 x2 m8) fun m11 => (if x3 = 0 then (some (Sum.inl (m11 0 0 0), m11)) else (some (Sum.inl (m11 0 0 1), m11))))))
set_option maxHeartbeats 4000000 in
set_option maxRecDepth 20000 in
theorem ok_X11_tellings (x1 : Int32) (x2 : Int32) (x3 : Int32) (m : Mem) {z : (Int32 ⊕ Nat)} {m' : Mem} (h : r_X11_tellings x1 x2 x3 m = some (z, m')) : Mt yX11_tellings cX11_tellings 4 (some .int) 8 134 3 18 [vR 11 0, vI x1, vI x2, vI x3] m (oX oI z) m' := by
  refine Mt.of (by decide) (Nat.le_of_ble_eq_true rfl) (by decide +kernel) (hhF_ne (by decide)) ?_
  show Xj RX11 cX11_tellings 4 (some .int) 8 134 3 18 0 0 0 [(0, vR 11 0), (1, vI x1), (2, vI x2), (3, vI x3)] [] m (oX oI z) m'
  unfold r_X11_tellings at h
  refine xj_aload_n 0 dX11_tellings_0 rfl ?_
  refine xj_iload_n 1 dX11_tellings_1 rfl ?_
  rcases thr_some h with ⟨z1, m2, e3, h⟩ | ⟨ex, e3, rfl⟩
  case inr => exact xj_callVx (st := []) (ok_X11_needPerson x1 m e3) dX11_tellings_2 cv_X11_246 rfl rfl (Nat.le_of_ble_eq_true rfl) (by decide) (by decide) (by decide) (by decide) (by decide)
  refine xc_Vv (st := []) (ok_X11_needPerson x1 m e3) dX11_tellings_2 cv_X11_246 rfl rfl (Nat.le_of_ble_eq_true rfl) (by decide) (by decide) (by decide) (by decide) ?_
  refine xj_aload_n 0 dX11_tellings_5 rfl ?_
  refine xj_iload_n 2 dX11_tellings_6 rfl ?_
  rcases thr_some h with ⟨z4, m5, e6, h⟩ | ⟨ex, e6, rfl⟩
  case inr => exact xj_callVx (st := []) (ok_X11_needPlace x2 m2 e6) dX11_tellings_7 cv_X11_211 rfl rfl (Nat.le_of_ble_eq_true rfl) (by decide) (by decide) (by decide) (by decide) (by decide)
  refine xc_Vv (st := []) (ok_X11_needPlace x2 m2 e6) dX11_tellings_7 cv_X11_211 rfl rfl (Nat.le_of_ble_eq_true rfl) (by decide) (by decide) (by decide) (by decide) ?_
  refine xj_aload_n 0 dX11_tellings_10 rfl ?_
  refine xj_iload_n 3 dX11_tellings_11 rfl ?_
  refine xj_iconst (z := 0) dX11_tellings_12 (by decide) ?_
  refine xj_iconst (z := 1) dX11_tellings_13 (by decide) ?_
  rcases thr_some h with ⟨z7, m8, e9, h⟩ | ⟨ex, e9, rfl⟩
  case inr => exact xj_callVx (st := []) (ok_X11_needRange x3 0 1 m5 e9) dX11_tellings_14 cv_X11_176 rfl rfl (Nat.le_of_ble_eq_true rfl) (by decide) (by decide) (by decide) (by decide) (by decide)
  refine xc_Vv (st := []) (ok_X11_needRange x3 0 1 m5 e9) dX11_tellings_14 cv_X11_176 rfl rfl (Nat.le_of_ble_eq_true rfl) (by decide) (by decide) (by decide) (by decide) ?_
  refine xj_aload_n 0 dX11_tellings_17 rfl ?_
  refine xg_getR (k' := 0) (i' := 0) dX11_tellings_18 fl_X11_90 rfl ?_
  refine xj_aload_n 0 dX11_tellings_21 rfl ?_
  refine xg_getR (k' := 7) (i' := 0) dX11_tellings_22 fl_X11_49 rfl ?_
  refine xj_iload_n 1 dX11_tellings_25 rfl ?_
  refine xj_iload_n 2 dX11_tellings_26 rfl ?_
  obtain ⟨m11, e10, h⟩ := bd1_some h
  refine xc_Vv0 (st := []) (ok_X0_findTellings 0 x1 x2 m8 e10) dX11_tellings_27 cv_X11_293 rfl rfl (Nat.le_of_ble_eq_true rfl) (by decide) (by decide) (by decide) (by decide) ?_
  refine xj_iload_n 3 dX11_tellings_30 rfl ?_
  refine xj_if_ne (tgt := 44) dX11_tellings_31 (by decide) (fun c12 => ?_) (fun c12 => ?_)
  · rw [if_neg c12] at h
    refine xj_aload_n 0 dX11_tellings_44 rfl ?_
    refine xg_getR (k' := 0) (i' := 0) dX11_tellings_45 fl_X11_90 rfl ?_
    refine xg_getI (x := (m11 0 0 1)) dX11_tellings_48 fl_X11_300 rfl rfl ?_
    cases h
    exact xj_ireturn dX11_tellings_51 rfl (by decide) (by decide)
  · rw [if_pos c12] at h
    refine xj_aload_n 0 dX11_tellings_34 rfl ?_
    refine xg_getR (k' := 0) (i' := 0) dX11_tellings_35 fl_X11_90 rfl ?_
    refine xg_getI (x := (m11 0 0 0)) dX11_tellings_38 fl_X11_297 rfl rfl ?_
    refine xj_goto (tgt := 51) dX11_tellings_41 (by decide) ?_
    cases h
    exact xj_ireturn dX11_tellings_51 rfl (by decide) (by decide)
noncomputable def r_X11_toldOfCourse (x1 : Int32) (m : Mem) : Option (Int32 × Mem) :=
  bd1 (r_X6_trace 0 m) fun m2 => (if x1 = 5 then (some ((m2 6 0 3), m2)) else if x1 = 6 then (some ((m2 6 0 4), m2)) else (bd1 (r_X6_end m2) fun z6 => (some (z6, m2))))
set_option maxHeartbeats 4000000 in
set_option maxRecDepth 20000 in
theorem ok_X11_toldOfCourse (x1 : Int32) (m : Mem) {z : Int32} {m' : Mem} (h : r_X11_toldOfCourse x1 m = some (z, m')) : Mt yX11_toldOfCourse cX11_toldOfCourse 2 (some .int) 5 102 0 0 [vR 11 0, vI x1] m (oI z) m' := by
  refine Mt.of (by decide) (Nat.le_of_ble_eq_true rfl) (by decide +kernel) (hhF_ne (by decide)) ?_
  show Xj RX11 cX11_toldOfCourse 2 (some .int) 5 102 0 0 0 0 0 [(0, vR 11 0), (1, vI x1)] [] m (oI z) m'
  unfold r_X11_toldOfCourse at h
  refine xj_aload_n 0 dX11_toldOfCourse_0 rfl ?_
  refine xg_getR (k' := 6) (i' := 0) dX11_toldOfCourse_1 fl_X11_72 rfl ?_
  refine xj_aload_n 0 dX11_toldOfCourse_4 rfl ?_
  refine xg_getR (k' := 7) (i' := 0) dX11_toldOfCourse_5 fl_X11_49 rfl ?_
  obtain ⟨m2, e1, h⟩ := bd1_some h
  refine xc_Vv0 (st := []) (ok_X6_trace 0 m e1) dX11_toldOfCourse_8 cv_X11_199 rfl rfl (Nat.le_of_ble_eq_true rfl) (by decide) (by decide) (by decide) (by decide) ?_
  refine xj_iload_n 1 dX11_toldOfCourse_11 rfl ?_
  by_cases c3 : x1 = 5
  · rw [if_pos c3] at h
    refine xj_lookup (off := 28) (tgt := 40) dX11_toldOfCourse_12 (by decide) (by rw [c3]; decide) (by decide) ?_
    refine xj_aload_n 0 dX11_toldOfCourse_40 rfl ?_
    refine xg_getR (k' := 6) (i' := 0) dX11_toldOfCourse_41 fl_X11_72 rfl ?_
    refine xg_getI (x := (m2 6 0 3)) dX11_toldOfCourse_44 fl_X11_202 rfl rfl ?_
    cases h
    exact xj_ireturn dX11_toldOfCourse_47 rfl (by decide) (by decide)
  rw [if_neg c3] at h
  by_cases c4 : x1 = 6
  · rw [if_pos c4] at h
    refine xj_lookup (off := 36) (tgt := 48) dX11_toldOfCourse_12 (by decide) (by rw [c4]; decide) (by decide) ?_
    refine xj_aload_n 0 dX11_toldOfCourse_48 rfl ?_
    refine xg_getR (k' := 6) (i' := 0) dX11_toldOfCourse_49 fl_X11_72 rfl ?_
    refine xg_getI (x := (m2 6 0 4)) dX11_toldOfCourse_52 fl_X11_205 rfl rfl ?_
    cases h
    exact xj_ireturn dX11_toldOfCourse_55 rfl (by decide) (by decide)
  rw [if_neg c4] at h
  refine xj_lookup (off := 44) (tgt := 56) dX11_toldOfCourse_12 (by decide) ?_ (by decide) ?_
  · show Op.lookupswitch.offset [(5, 28), (6, 36)] _ _ = _
    rw [lv_osw c3 (show (5 : Int32).toInt = _ by rfl), lv_osw c4 (show (6 : Int32).toInt = _ by rfl)]
    rfl
  refine xj_aload_n 0 dX11_toldOfCourse_56 rfl ?_
  refine xg_getR (k' := 6) (i' := 0) dX11_toldOfCourse_57 fl_X11_72 rfl ?_
  obtain ⟨z6, e5, h⟩ := bd1_some h
  refine xc_Vi0 (st := []) (ok_X6_end m2 e5) dX11_toldOfCourse_60 cv_X11_208 rfl rfl (Nat.le_of_ble_eq_true rfl) (by decide) (by decide) (by decide) (by decide) ?_
  cases h
  exact xj_ireturn dX11_toldOfCourse_63 rfl (by decide) (by decide)
noncomputable def r_X11_told (x1 : Int32) (m : Mem) : Option ((Int32 ⊕ Nat) × Mem) :=
  thr (r_X11_needRange x1 0 10 m) fun z1 m2 => (if x1 = 0 then (some (Sum.inl (m2 3 0 0), m2)) else if x1 = 1 then (some (Sum.inl (m2 3 0 1), m2)) else if x1 = 2 then (some (Sum.inl (m2 3 0 2), m2)) else if x1 = 3 then (some (Sum.inl (m2 7 0 0), m2)) else if x1 = 4 then (some (Sum.inl (m2 3 0 3), m2)) else if x1 = 5 then (bd2 (r_X11_toldOfCourse x1 m2) fun z12 m11 => (some (Sum.inl z12, m11))) else if x1 = 6 then (bd2 (r_X11_toldOfCourse x1 m2) fun z16 m15 => (some (Sum.inl z16, m15))) else if x1 = 7 then (bd2 (r_X11_toldOfCourse x1 m2) fun z20 m19 => (some (Sum.inl z20, m19))) else if x1 = 8 then (bd1 (r_X7_believedInAll 0 m2) fun z23 => (some (Sum.inl z23, m2))) else if x1 = 9 then (some (Sum.inl (m2 1 0 0), m2)) else if x1 = 10 then (some (Sum.inl (m2 11 0 14), m2)) else (bd2 (r_X11_toldOfCourse x1 m2) fun z28 m27 => (some (Sum.inl z28, m27))))
set_option maxHeartbeats 4000000 in
set_option maxRecDepth 20000 in
theorem ok_X11_told (x1 : Int32) (m : Mem) {z : (Int32 ⊕ Nat)} {m' : Mem} (h : r_X11_told x1 m = some (z, m')) : Mt yX11_told cX11_told 2 (some .int) 8 134 1 6 [vR 11 0, vI x1] m (oX oI z) m' := by
  refine Mt.of (by decide) (Nat.le_of_ble_eq_true rfl) (by decide +kernel) (hhF_ne (by decide)) ?_
  show Xj RX11 cX11_told 2 (some .int) 8 134 1 6 0 0 0 [(0, vR 11 0), (1, vI x1)] [] m (oX oI z) m'
  unfold r_X11_told at h
  refine xj_aload_n 0 dX11_told_0 rfl ?_
  refine xj_iload_n 1 dX11_told_1 rfl ?_
  refine xj_iconst (z := 0) dX11_told_2 (by decide) ?_
  refine xj_bipush (z := 10) dX11_told_3 (by decide) ?_
  rcases thr_some h with ⟨z1, m2, e3, h⟩ | ⟨ex, e3, rfl⟩
  case inr => exact xj_callVx (st := []) (ok_X11_needRange x1 0 10 m e3) dX11_told_5 cv_X11_176 rfl rfl (Nat.le_of_ble_eq_true rfl) (by decide) (by decide) (by decide) (by decide) (by decide)
  refine xc_Vv (st := []) (ok_X11_needRange x1 0 10 m e3) dX11_told_5 cv_X11_176 rfl rfl (Nat.le_of_ble_eq_true rfl) (by decide) (by decide) (by decide) (by decide) ?_
  refine xj_iload_n 1 dX11_told_8 rfl ?_
  by_cases c4 : x1 = 0
  · rw [if_pos c4] at h
    refine xj_tableIn (off := 59) (tgt := 68) dX11_told_9 (by rw [c4]; decide) (by rw [c4]; decide) (by rw [c4]; decide) (by decide) ?_
    refine xj_aload_n 0 dX11_told_68 rfl ?_
    refine xg_getR (k' := 3) (i' := 0) dX11_told_69 fl_X11_19 rfl ?_
    refine xg_getI (x := (m2 3 0 0)) dX11_told_72 fl_X11_137 rfl rfl ?_
    cases h
    exact xj_ireturn dX11_told_75 rfl (by decide) (by decide)
  rw [if_neg c4] at h
  by_cases c5 : x1 = 1
  · rw [if_pos c5] at h
    refine xj_tableIn (off := 67) (tgt := 76) dX11_told_9 (by rw [c5]; decide) (by rw [c5]; decide) (by rw [c5]; decide) (by decide) ?_
    refine xj_aload_n 0 dX11_told_76 rfl ?_
    refine xg_getR (k' := 3) (i' := 0) dX11_told_77 fl_X11_19 rfl ?_
    refine xg_getI (x := (m2 3 0 1)) dX11_told_80 fl_X11_180 rfl rfl ?_
    cases h
    exact xj_ireturn dX11_told_83 rfl (by decide) (by decide)
  rw [if_neg c5] at h
  by_cases c6 : x1 = 2
  · rw [if_pos c6] at h
    refine xj_tableIn (off := 75) (tgt := 84) dX11_told_9 (by rw [c6]; decide) (by rw [c6]; decide) (by rw [c6]; decide) (by decide) ?_
    refine xj_aload_n 0 dX11_told_84 rfl ?_
    refine xg_getR (k' := 3) (i' := 0) dX11_told_85 fl_X11_19 rfl ?_
    refine xg_getI (x := (m2 3 0 2)) dX11_told_88 fl_X11_183 rfl rfl ?_
    cases h
    exact xj_ireturn dX11_told_91 rfl (by decide) (by decide)
  rw [if_neg c6] at h
  by_cases c7 : x1 = 3
  · rw [if_pos c7] at h
    refine xj_tableIn (off := 83) (tgt := 92) dX11_told_9 (by rw [c7]; decide) (by rw [c7]; decide) (by rw [c7]; decide) (by decide) ?_
    refine xj_aload_n 0 dX11_told_92 rfl ?_
    refine xg_getR (k' := 7) (i' := 0) dX11_told_93 fl_X11_49 rfl ?_
    refine xg_getI (x := (m2 7 0 0)) dX11_told_96 fl_X11_186 rfl rfl ?_
    cases h
    exact xj_ireturn dX11_told_99 rfl (by decide) (by decide)
  rw [if_neg c7] at h
  by_cases c8 : x1 = 4
  · rw [if_pos c8] at h
    refine xj_tableIn (off := 91) (tgt := 100) dX11_told_9 (by rw [c8]; decide) (by rw [c8]; decide) (by rw [c8]; decide) (by decide) ?_
    refine xj_aload_n 0 dX11_told_100 rfl ?_
    refine xg_getR (k' := 3) (i' := 0) dX11_told_101 fl_X11_19 rfl ?_
    refine xg_getI (x := (m2 3 0 3)) dX11_told_104 fl_X11_189 rfl rfl ?_
    cases h
    exact xj_ireturn dX11_told_107 rfl (by decide) (by decide)
  rw [if_neg c8] at h
  by_cases c9 : x1 = 5
  · rw [if_pos c9] at h
    refine xj_tableIn (off := 120) (tgt := 129) dX11_told_9 (by rw [c9]; decide) (by rw [c9]; decide) (by rw [c9]; decide) (by decide) ?_
    refine xj_aload_n 0 dX11_told_129 rfl ?_
    refine xj_iload_n 1 dX11_told_130 rfl ?_
    obtain ⟨z12, m11, e10, h⟩ := bd2_some h
    refine xc_Vi0 (st := []) (ok_X11_toldOfCourse x1 m2 e10) dX11_told_131 cv_X11_195 rfl rfl (Nat.le_of_ble_eq_true rfl) (by decide) (by decide) (by decide) (by decide) ?_
    cases h
    exact xj_ireturn dX11_told_134 rfl (by decide) (by decide)
  rw [if_neg c9] at h
  by_cases c13 : x1 = 6
  · rw [if_pos c13] at h
    refine xj_tableIn (off := 120) (tgt := 129) dX11_told_9 (by rw [c13]; decide) (by rw [c13]; decide) (by rw [c13]; decide) (by decide) ?_
    refine xj_aload_n 0 dX11_told_129 rfl ?_
    refine xj_iload_n 1 dX11_told_130 rfl ?_
    obtain ⟨z16, m15, e14, h⟩ := bd2_some h
    refine xc_Vi0 (st := []) (ok_X11_toldOfCourse x1 m2 e14) dX11_told_131 cv_X11_195 rfl rfl (Nat.le_of_ble_eq_true rfl) (by decide) (by decide) (by decide) (by decide) ?_
    cases h
    exact xj_ireturn dX11_told_134 rfl (by decide) (by decide)
  rw [if_neg c13] at h
  by_cases c17 : x1 = 7
  · rw [if_pos c17] at h
    refine xj_tableIn (off := 120) (tgt := 129) dX11_told_9 (by rw [c17]; decide) (by rw [c17]; decide) (by rw [c17]; decide) (by decide) ?_
    refine xj_aload_n 0 dX11_told_129 rfl ?_
    refine xj_iload_n 1 dX11_told_130 rfl ?_
    obtain ⟨z20, m19, e18, h⟩ := bd2_some h
    refine xc_Vi0 (st := []) (ok_X11_toldOfCourse x1 m2 e18) dX11_told_131 cv_X11_195 rfl rfl (Nat.le_of_ble_eq_true rfl) (by decide) (by decide) (by decide) (by decide) ?_
    cases h
    exact xj_ireturn dX11_told_134 rfl (by decide) (by decide)
  rw [if_neg c17] at h
  by_cases c21 : x1 = 8
  · rw [if_pos c21] at h
    refine xj_tableIn (off := 99) (tgt := 108) dX11_told_9 (by rw [c21]; decide) (by rw [c21]; decide) (by rw [c21]; decide) (by decide) ?_
    refine xj_aload_n 0 dX11_told_108 rfl ?_
    refine xg_getR (k' := 7) (i' := 0) dX11_told_109 fl_X11_49 rfl ?_
    obtain ⟨z23, e22, h⟩ := bd1_some h
    refine xc_Vi0 (st := []) (ok_X7_believedInAll 0 m2 e22) dX11_told_112 cv_X11_192 rfl rfl (Nat.le_of_ble_eq_true rfl) (by decide) (by decide) (by decide) (by decide) ?_
    cases h
    exact xj_ireturn dX11_told_115 rfl (by decide) (by decide)
  rw [if_neg c21] at h
  by_cases c24 : x1 = 9
  · rw [if_pos c24] at h
    refine xj_tableIn (off := 107) (tgt := 116) dX11_told_9 (by rw [c24]; decide) (by rw [c24]; decide) (by rw [c24]; decide) (by decide) ?_
    refine xj_aload_n 0 dX11_told_116 rfl ?_
    refine xg_getR (k' := 1) (i' := 0) dX11_told_117 fl_X11_39 rfl ?_
    refine xg_getI (x := (m2 1 0 0)) dX11_told_120 fl_X11_167 rfl rfl ?_
    cases h
    exact xj_ireturn dX11_told_123 rfl (by decide) (by decide)
  rw [if_neg c24] at h
  by_cases c25 : x1 = 10
  · rw [if_pos c25] at h
    refine xj_tableIn (off := 115) (tgt := 124) dX11_told_9 (by rw [c25]; decide) (by rw [c25]; decide) (by rw [c25]; decide) (by decide) ?_
    refine xj_aload_n 0 dX11_told_124 rfl ?_
    refine xg_getI (x := (m2 11 0 14)) dX11_told_125 fl_X11_134 rfl rfl ?_
    cases h
    exact xj_ireturn dX11_told_128 rfl (by decide) (by decide)
  rw [if_neg c25] at h
  refine xj_tableOut (tgt := 129) dX11_told_9 ?_ (by decide) ?_
  · have nc4 := lv_neT c4 (show (0 : Int32).toInt = 0 by decide)
    have nc5 := lv_neT c5 (show (1 : Int32).toInt = 1 by decide)
    have nc6 := lv_neT c6 (show (2 : Int32).toInt = 2 by decide)
    have nc7 := lv_neT c7 (show (3 : Int32).toInt = 3 by decide)
    have nc8 := lv_neT c8 (show (4 : Int32).toInt = 4 by decide)
    have nc9 := lv_neT c9 (show (5 : Int32).toInt = 5 by decide)
    have nc13 := lv_neT c13 (show (6 : Int32).toInt = 6 by decide)
    have nc17 := lv_neT c17 (show (7 : Int32).toInt = 7 by decide)
    have nc21 := lv_neT c21 (show (8 : Int32).toInt = 8 by decide)
    have nc24 := lv_neT c24 (show (9 : Int32).toInt = 9 by decide)
    have nc25 := lv_neT c25 (show (10 : Int32).toInt = 10 by decide)
    omega
  refine xj_aload_n 0 dX11_told_129 rfl ?_
  refine xj_iload_n 1 dX11_told_130 rfl ?_
  obtain ⟨z28, m27, e26, h⟩ := bd2_some h
  refine xc_Vi0 (st := []) (ok_X11_toldOfCourse x1 m2 e26) dX11_told_131 cv_X11_195 rfl rfl (Nat.le_of_ble_eq_true rfl) (by decide) (by decide) (by decide) (by decide) ?_
  cases h
  exact xj_ireturn dX11_told_134 rfl (by decide) (by decide)
noncomputable def r_X11_undo (m : Mem) : Option (Int32 × Mem) :=
  if (m 5 0 0) = 0 then (some ((-1), m)) else (bd1 (r_X5_popInto 0 0 m) fun m3 => (some ((m3 5 0 0), (wr m3 11 0 14 0))))
set_option maxHeartbeats 4000000 in
set_option maxRecDepth 20000 in
theorem ok_X11_undo (m : Mem) {z : Int32} {m' : Mem} (h : r_X11_undo m = some (z, m')) : Mt yX11_undo cX11_undo 1 (some .int) 3 130 0 0 [vR 11 0] m (oI z) m' := by
  refine Mt.of (by decide) (Nat.le_of_ble_eq_true rfl) (by decide +kernel) (hhF_ne (by decide)) ?_
  show Xj RX11 cX11_undo 1 (some .int) 3 130 0 0 0 0 0 [(0, vR 11 0)] [] m (oI z) m'
  unfold r_X11_undo at h
  refine xj_aload_n 0 dX11_undo_0 rfl ?_
  refine xg_getR (k' := 5) (i' := 0) dX11_undo_1 fl_X11_56 rfl ?_
  refine xg_getI (x := (m 5 0 0)) dX11_undo_4 fl_X11_144 rfl rfl ?_
  refine xj_if_ne (tgt := 12) dX11_undo_7 (by decide) (fun c1 => ?_) (fun c1 => ?_)
  · rw [if_neg c1] at h
    refine xj_aload_n 0 dX11_undo_12 rfl ?_
    refine xg_getR (k' := 5) (i' := 0) dX11_undo_13 fl_X11_56 rfl ?_
    refine xj_aload_n 0 dX11_undo_16 rfl ?_
    refine xg_getR (k' := 7) (i' := 0) dX11_undo_17 fl_X11_49 rfl ?_
    obtain ⟨m3, e2, h⟩ := bd1_some h
    refine xc_Vv0 (st := []) (ok_X5_popInto 0 0 m e2) dX11_undo_20 cv_X11_173 rfl rfl (Nat.le_of_ble_eq_true rfl) (by decide) (by decide) (by decide) (by decide) ?_
    refine xj_aload_n 0 dX11_undo_23 rfl ?_
    refine xj_iconst (z := 0) dX11_undo_24 (by decide) ?_
    refine xj_putI dX11_undo_25 fw_X11_134 rfl ?_
    refine xj_aload_n 0 dX11_undo_28 rfl ?_
    refine xg_getR (k' := 5) (i' := 0) dX11_undo_29 fl_X11_56 rfl ?_
    refine xg_getI (x := (m3 5 0 0)) dX11_undo_32 fl_X11_144 rfl rfl ?_
    cases h
    exact xj_ireturn dX11_undo_35 rfl (by decide) (by decide)
  · rw [if_pos c1] at h
    refine xj_iconst (z := (-1)) dX11_undo_10 (by decide) ?_
    cases h
    exact xj_ireturn dX11_undo_11 rfl (by decide) (by decide)
noncomputable def r_X11_uphill_j60_c4 (x1 : Int32) (x2 : Int32) (m : Mem) : Option ((Int32 × Int32 × Mem) ⊕ (Int32 × Mem)) :=
  some (Sum.inl (x1, x2 + 1, m))
set_option maxHeartbeats 4000000 in
set_option maxRecDepth 20000 in
theorem ok_X11_uphill_j60_c4 (x1 : Int32) (x2 : Int32) (m : Mem) {r : (Int32 × Int32 × Mem) ⊕ (Int32 × Mem)} (h : r_X11_uphill_j60_c4 x1 x2 m = some r) {o : Ou} {M' : Mem} (kb : ∀ (x1' : Int32) (x2' : Int32) (m'' : Mem), r = Sum.inl (x1', x2', m'') → Xj RX11 cX11_uphill 4 (some .int) 4 79 0 0 0 0 4 [(0, vR 11 0), (1, vI x1'), (2, vI x2')] [] m'' o M') (ke : ∀ (x1' : Int32) (m'' : Mem), r = Sum.inr (x1', m'') → Xj RX11 cX11_uphill 4 (some .int) 4 79 0 0 0 0 66 [(1, vI x1')] [] m'' o M') : Xj RX11 cX11_uphill 4 (some .int) 4 79 0 0 0 0 60 [(0, vR 11 0), (1, vI x1), (2, vI x2)] [] m o M' := by
  unfold r_X11_uphill_j60_c4 at h
  refine xj_iinc (z := x2 + 1) (ls' := [(2, vI (x2 + 1)), (0, vR 11 0), (1, vI x1)]) 2 dX11_uphill_60 rfl rfl (by decide) rfl ?_
  refine xj_goto (tgt := 4) dX11_uphill_63 (by decide) ?_
  cases h
  refine xj_pick (ls' := [(0, vR 11 0), (1, vI x1), (2, vI (x2 + 1))]) [1, 2, 0] rfl ?_
  exact kb x1 (x2 + 1) m rfl
noncomputable def r_X11_uphill_b4 (x1 : Int32) (x2 : Int32) (m : Mem) : Option ((Int32 × Int32 × Mem) ⊕ (Int32 × Mem)) :=
  if (m 3 0 0) ≤ x2 then (some (Sum.inr (x1, m))) else (bd2 (r_X6_goesOn 0 x2 m) fun z4 m3 => (if z4 = (-1) then (r_X11_uphill_j60_c4 x1 x2 m3) else (if inb z4 12 = true then (if inb x2 12 = true then (if (m3 25 0 z4.toNatClampNeg) ≤ (m3 25 0 x2.toNatClampNeg) then (r_X11_uphill_j60_c4 x1 x2 m3) else (r_X11_uphill_j60_c4 (x1 ||| (1 <<< (x2 &&& 31))) x2 m3)) else none) else none)))
set_option maxHeartbeats 4000000 in
set_option maxRecDepth 20000 in
theorem ok_X11_uphill_b4 (x1 : Int32) (x2 : Int32) (m : Mem) {r : (Int32 × Int32 × Mem) ⊕ (Int32 × Mem)} (h : r_X11_uphill_b4 x1 x2 m = some r) {o : Ou} {M' : Mem} (kb : ∀ (x1' : Int32) (x2' : Int32) (m'' : Mem), r = Sum.inl (x1', x2', m'') → Xj RX11 cX11_uphill 4 (some .int) 4 79 0 0 0 0 4 [(0, vR 11 0), (1, vI x1'), (2, vI x2')] [] m'' o M') (ke : ∀ (x1' : Int32) (m'' : Mem), r = Sum.inr (x1', m'') → Xj RX11 cX11_uphill 4 (some .int) 4 79 0 0 0 0 66 [(1, vI x1')] [] m'' o M') : Xj RX11 cX11_uphill 4 (some .int) 4 79 0 0 0 0 4 [(0, vR 11 0), (1, vI x1), (2, vI x2)] [] m o M' := by
  unfold r_X11_uphill_b4 at h
  refine xj_iload_n 2 dX11_uphill_4 rfl ?_
  refine xj_aload_n 0 dX11_uphill_5 rfl ?_
  refine xg_getR (k' := 3) (i' := 0) dX11_uphill_6 fl_X11_19 rfl ?_
  refine xg_getI (x := (m 3 0 0)) dX11_uphill_9 fl_X11_137 rfl rfl ?_
  refine xj_icmp_ge (tgt := 66) dX11_uphill_12 (by decide) (fun c1 => ?_) (fun c1 => ?_)
  · rw [if_pos c1] at h
    cases h
    refine xj_pick (ls' := [(1, vI x1)]) [1] rfl ?_
    exact ke x1 m rfl
  · rw [if_neg c1] at h
    refine xj_aload_n 0 dX11_uphill_15 rfl ?_
    refine xg_getR (k' := 6) (i' := 0) dX11_uphill_16 fl_X11_72 rfl ?_
    refine xj_aload_n 0 dX11_uphill_19 rfl ?_
    refine xg_getR (k' := 7) (i' := 0) dX11_uphill_20 fl_X11_49 rfl ?_
    refine xj_iload_n 2 dX11_uphill_23 rfl ?_
    obtain ⟨z4, m3, e2, h⟩ := bd2_some h
    refine xc_Vi0 (st := []) (ok_X6_goesOn 0 x2 m e2) dX11_uphill_24 cv_X11_224 rfl rfl (Nat.le_of_ble_eq_true rfl) (by decide) (by decide) (by decide) (by decide) ?_
    refine xj_istore_n (ls' := [(3, vI z4), (0, vR 11 0), (1, vI x1), (2, vI x2)]) dX11_uphill_27 rfl (by decide) rfl ?_
    refine xj_iload_n 0 dX11_uphill_28 rfl ?_
    refine xj_iconst (z := (-1)) dX11_uphill_29 (by decide) ?_
    refine xj_icmp_eq (tgt := 60) dX11_uphill_30 (by decide) (fun c5 => ?_) (fun c5 => ?_)
    · rw [if_pos c5] at h
      refine xj_pick (ls' := [(0, vR 11 0), (1, vI x1), (2, vI x2)]) [1, 2, 3] rfl ?_
      exact ok_X11_uphill_j60_c4 x1 x2 m3 h kb ke
    · rw [if_neg c5] at h
      refine xj_aload_n 1 dX11_uphill_33 rfl ?_
      refine xg_getR (k' := 3) (i' := 0) dX11_uphill_34 fl_X11_19 rfl ?_
      refine xg_getR (k' := 25) (i' := 0) dX11_uphill_37 fl_X11_214 rfl ?_
      refine xj_iload_n 0 dX11_uphill_40 rfl ?_
      by_cases c6 : inb z4 12 = true
      case neg => rw [if_neg c6] at h; cases h
      rw [if_pos c6] at h
      refine xg_iald (z := (m3 25 0 z4.toNatClampNeg)) (n := z4.toNatClampNeg) dX11_uphill_41 rfl (by decide) (inb_in c6) rfl rfl ?_
      refine xj_aload_n 1 dX11_uphill_42 rfl ?_
      refine xg_getR (k' := 3) (i' := 0) dX11_uphill_43 fl_X11_19 rfl ?_
      refine xg_getR (k' := 25) (i' := 0) dX11_uphill_46 fl_X11_214 rfl ?_
      refine xj_iload_n 3 dX11_uphill_49 rfl ?_
      by_cases c7 : inb x2 12 = true
      case neg => rw [if_neg c7] at h; cases h
      rw [if_pos c7] at h
      refine xg_iald (z := (m3 25 0 x2.toNatClampNeg)) (n := x2.toNatClampNeg) dX11_uphill_50 rfl (by decide) (inb_in c7) rfl rfl ?_
      refine xj_icmp_le (tgt := 60) dX11_uphill_51 (by decide) (fun c8 => ?_) (fun c8 => ?_)
      · rw [if_pos c8] at h
        refine xj_pick (ls' := [(0, vR 11 0), (1, vI x1), (2, vI x2)]) [1, 2, 3] rfl ?_
        exact ok_X11_uphill_j60_c4 x1 x2 m3 h kb ke
      · rw [if_neg c8] at h
        refine xj_iload_n 2 dX11_uphill_54 rfl ?_
        refine xj_iconst (z := 1) dX11_uphill_55 (by decide) ?_
        refine xj_iload_n 3 dX11_uphill_56 rfl ?_
        refine xj_ishl dX11_uphill_57 ?_
        refine xj_ior dX11_uphill_58 ?_
        refine xj_istore_n (ls' := [(1, vI (x1 ||| (1 <<< (x2 &&& 31)))), (3, vI z4), (0, vR 11 0), (2, vI x2)]) dX11_uphill_59 rfl (by decide) rfl ?_
        refine xj_pick (ls' := [(0, vR 11 0), (1, vI (x1 ||| (1 <<< (x2 &&& 31)))), (2, vI x2)]) [2, 0, 3] rfl ?_
        exact ok_X11_uphill_j60_c4 (x1 ||| (1 <<< (x2 &&& 31))) x2 m3 h kb ke
noncomputable def r_X11_uphill_e66_h4 (x1 : Int32) (m : Mem) : Option (Int32 × Mem) :=
  some (x1, m)
set_option maxHeartbeats 4000000 in
set_option maxRecDepth 20000 in
theorem ok_X11_uphill_e66_h4 (x1 : Int32) (m : Mem) {z : Int32} {m' : Mem} (h : r_X11_uphill_e66_h4 x1 m = some (z, m')) : Xj RX11 cX11_uphill 4 (some .int) 4 79 0 0 0 0 66 [(1, vI x1)] [] m (oI z) m' := by
  unfold r_X11_uphill_e66_h4 at h
  refine xj_iload_n 0 dX11_uphill_66 rfl ?_
  cases h
  exact xj_ireturn dX11_uphill_67 rfl (by decide) (by decide)
noncomputable def r_X11_uphill_l4 (x1 : Int32) (x2 : Int32) (m : Mem) : Option (Int32 × Mem) :=
  bd1 (loopO (fun s => r_X11_uphill_b4 s.1 s.2.1 s.2.2) (x1, x2, m)) (fun e => r_X11_uphill_e66_h4 e.1 e.2)
set_option maxHeartbeats 4000000 in
set_option maxRecDepth 20000 in
theorem ok_X11_uphill_l4 (x1 : Int32) (x2 : Int32) (m : Mem) {z : Int32} {m' : Mem} (h : r_X11_uphill_l4 x1 x2 m = some (z, m')) : Xj RX11 cX11_uphill 4 (some .int) 4 79 0 0 0 0 4 [(0, vR 11 0), (1, vI x1), (2, vI x2)] [] m (oI z) m' := by
  unfold r_X11_uphill_l4 at h
  obtain ⟨e, e1, h⟩ := bd1_some h
  refine loopO_ok (P := fun s : (Int32 × Int32 × Mem) => Xj RX11 cX11_uphill 4 (some .int) 4 79 0 0 0 0 4 [(0, vR 11 0), (1, vI s.1), (2, vI s.2.1)] [] s.2.2 (oI z) m') (Q := fun e : (Int32 × Mem) => Xj RX11 cX11_uphill 4 (some .int) 4 79 0 0 0 0 66 [(1, vI e.1)] [] e.2 (oI z) m') ?_ _ _ e1 ?_
  · intro s r9 h9 hi hx
    exact ok_X11_uphill_b4 s.1 s.2.1 s.2.2 h9 (by rintro _ _ _ rfl; exact hi _ rfl) (by rintro _ _ rfl; exact hx _ rfl)
  · exact ok_X11_uphill_e66_h4 e.1 e.2 h 
noncomputable def r_X11_uphill (m : Mem) : Option (Int32 × Mem) :=
  r_X11_uphill_l4 0 0 m
set_option maxHeartbeats 4000000 in
set_option maxRecDepth 20000 in
theorem ok_X11_uphill (m : Mem) {z : Int32} {m' : Mem} (h : r_X11_uphill m = some (z, m')) : Mt yX11_uphill cX11_uphill 4 (some .int) 4 79 0 0 [vR 11 0] m (oI z) m' := by
  refine Mt.of (by decide) (Nat.le_of_ble_eq_true rfl) (by decide +kernel) (hhF_ne (by decide)) ?_
  show Xj RX11 cX11_uphill 4 (some .int) 4 79 0 0 0 0 0 [(0, vR 11 0)] [] m (oI z) m'
  unfold r_X11_uphill at h
  refine xj_iconst (z := 0) dX11_uphill_0 (by decide) ?_
  refine xj_istore_n (ls' := [(1, vI 0), (0, vR 11 0)]) dX11_uphill_1 rfl (by decide) rfl ?_
  refine xj_iconst (z := 0) dX11_uphill_2 (by decide) ?_
  refine xj_istore_n (ls' := [(2, vI 0), (1, vI 0), (0, vR 11 0)]) dX11_uphill_3 rfl (by decide) rfl ?_
  refine xj_pick (ls' := [(0, vR 11 0), (1, vI 0), (2, vI 0)]) [2, 1, 0] rfl ?_
  exact ok_X11_uphill_l4 0 0 m h 
noncomputable def r_X11_way (x1 : Int32) (x2 : Int32) (m : Mem) : Option ((Int32 ⊕ Nat) × Mem) :=
  thr (r_X11_needPlace x1 m) fun z1 m2 => (thr (r_X11_needPlace x2 m2) fun z4 m5 => (bd1 (r_X3_wayLength 0 x1 x2 m5) fun z8 => (some (Sum.inl z8, m5))))
set_option maxHeartbeats 4000000 in
set_option maxRecDepth 20000 in
theorem ok_X11_way (x1 : Int32) (x2 : Int32) (m : Mem) {z : (Int32 ⊕ Nat)} {m' : Mem} (h : r_X11_way x1 x2 m = some (z, m')) : Mt yX11_way cX11_way 3 (some .int) 8 133 2 12 [vR 11 0, vI x1, vI x2] m (oX oI z) m' := by
  refine Mt.of (by decide) (Nat.le_of_ble_eq_true rfl) (by decide +kernel) (hhF_ne (by decide)) ?_
  show Xj RX11 cX11_way 3 (some .int) 8 133 2 12 0 0 0 [(0, vR 11 0), (1, vI x1), (2, vI x2)] [] m (oX oI z) m'
  unfold r_X11_way at h
  refine xj_aload_n 0 dX11_way_0 rfl ?_
  refine xj_iload_n 1 dX11_way_1 rfl ?_
  rcases thr_some h with ⟨z1, m2, e3, h⟩ | ⟨ex, e3, rfl⟩
  case inr => exact xj_callVx (st := []) (ok_X11_needPlace x1 m e3) dX11_way_2 cv_X11_211 rfl rfl (Nat.le_of_ble_eq_true rfl) (by decide) (by decide) (by decide) (by decide) (by decide)
  refine xc_Vv (st := []) (ok_X11_needPlace x1 m e3) dX11_way_2 cv_X11_211 rfl rfl (Nat.le_of_ble_eq_true rfl) (by decide) (by decide) (by decide) (by decide) ?_
  refine xj_aload_n 0 dX11_way_5 rfl ?_
  refine xj_iload_n 2 dX11_way_6 rfl ?_
  rcases thr_some h with ⟨z4, m5, e6, h⟩ | ⟨ex, e6, rfl⟩
  case inr => exact xj_callVx (st := []) (ok_X11_needPlace x2 m2 e6) dX11_way_7 cv_X11_211 rfl rfl (Nat.le_of_ble_eq_true rfl) (by decide) (by decide) (by decide) (by decide) (by decide)
  refine xc_Vv (st := []) (ok_X11_needPlace x2 m2 e6) dX11_way_7 cv_X11_211 rfl rfl (Nat.le_of_ble_eq_true rfl) (by decide) (by decide) (by decide) (by decide) ?_
  refine xj_aload_n 0 dX11_way_10 rfl ?_
  refine xg_getR (k' := 3) (i' := 0) dX11_way_11 fl_X11_19 rfl ?_
  refine xj_iload_n 1 dX11_way_14 rfl ?_
  refine xj_iload_n 2 dX11_way_15 rfl ?_
  obtain ⟨z8, e7, h⟩ := bd1_some h
  refine xc_Vi0 (st := []) (ok_X3_wayLength 0 x1 x2 m5 e7) dX11_way_16 cv_X11_331 rfl rfl (Nat.le_of_ble_eq_true rfl) (by decide) (by decide) (by decide) (by decide) ?_
  cases h
  exact xj_ireturn dX11_way_19 rfl (by decide) (by decide)
noncomputable def r_X11_who (x1 : Int32) (m : Mem) : Option ((Int32 ⊕ Nat) × Mem) :=
  thr (r_X11_needRange x1 0 2 m) fun z1 m2 => (bd1 (r_X0_findSets 0 0 m2) fun m5 => (if x1 = 0 then (some (Sum.inl (m5 0 0 2), m5)) else if x1 = 1 then (some (Sum.inl (m5 0 0 3), m5)) else (some (Sum.inl (m5 0 0 4), m5))))
set_option maxHeartbeats 4000000 in
set_option maxRecDepth 20000 in
theorem ok_X11_who (x1 : Int32) (m : Mem) {z : (Int32 ⊕ Nat)} {m' : Mem} (h : r_X11_who x1 m = some (z, m')) : Mt yX11_who cX11_who 2 (some .int) 8 154 1 6 [vR 11 0, vI x1] m (oX oI z) m' := by
  refine Mt.of (by decide) (Nat.le_of_ble_eq_true rfl) (by decide +kernel) (hhF_ne (by decide)) ?_
  show Xj RX11 cX11_who 2 (some .int) 8 154 1 6 0 0 0 [(0, vR 11 0), (1, vI x1)] [] m (oX oI z) m'
  unfold r_X11_who at h
  refine xj_aload_n 0 dX11_who_0 rfl ?_
  refine xj_iload_n 1 dX11_who_1 rfl ?_
  refine xj_iconst (z := 0) dX11_who_2 (by decide) ?_
  refine xj_iconst (z := 2) dX11_who_3 (by decide) ?_
  rcases thr_some h with ⟨z1, m2, e3, h⟩ | ⟨ex, e3, rfl⟩
  case inr => exact xj_callVx (st := []) (ok_X11_needRange x1 0 2 m e3) dX11_who_4 cv_X11_176 rfl rfl (Nat.le_of_ble_eq_true rfl) (by decide) (by decide) (by decide) (by decide) (by decide)
  refine xc_Vv (st := []) (ok_X11_needRange x1 0 2 m e3) dX11_who_4 cv_X11_176 rfl rfl (Nat.le_of_ble_eq_true rfl) (by decide) (by decide) (by decide) (by decide) ?_
  refine xj_aload_n 0 dX11_who_7 rfl ?_
  refine xg_getR (k' := 0) (i' := 0) dX11_who_8 fl_X11_90 rfl ?_
  refine xj_aload_n 0 dX11_who_11 rfl ?_
  refine xg_getR (k' := 7) (i' := 0) dX11_who_12 fl_X11_49 rfl ?_
  refine xj_aload_n 0 dX11_who_15 rfl ?_
  refine xg_getR (k' := 1) (i' := 0) dX11_who_16 fl_X11_39 rfl ?_
  obtain ⟨m5, e4, h⟩ := bd1_some h
  refine xc_Vv0 (st := []) (ok_X0_findSets 0 0 m2 e4) dX11_who_19 cv_X11_306 rfl rfl (Nat.le_of_ble_eq_true rfl) (by decide) (by decide) (by decide) (by decide) ?_
  refine xj_iload_n 1 dX11_who_22 rfl ?_
  by_cases c6 : x1 = 0
  · rw [if_pos c6] at h
    refine xj_lookup (off := 25) (tgt := 48) dX11_who_23 (by decide) (by rw [c6]; decide) (by decide) ?_
    refine xj_aload_n 0 dX11_who_48 rfl ?_
    refine xg_getR (k' := 0) (i' := 0) dX11_who_49 fl_X11_90 rfl ?_
    refine xg_getI (x := (m5 0 0 2)) dX11_who_52 fl_X11_310 rfl rfl ?_
    cases h
    exact xj_ireturn dX11_who_55 rfl (by decide) (by decide)
  rw [if_neg c6] at h
  by_cases c7 : x1 = 1
  · rw [if_pos c7] at h
    refine xj_lookup (off := 33) (tgt := 56) dX11_who_23 (by decide) (by rw [c7]; decide) (by decide) ?_
    refine xj_aload_n 0 dX11_who_56 rfl ?_
    refine xg_getR (k' := 0) (i' := 0) dX11_who_57 fl_X11_90 rfl ?_
    refine xg_getI (x := (m5 0 0 3)) dX11_who_60 fl_X11_313 rfl rfl ?_
    cases h
    exact xj_ireturn dX11_who_63 rfl (by decide) (by decide)
  rw [if_neg c7] at h
  refine xj_lookup (off := 41) (tgt := 64) dX11_who_23 (by decide) ?_ (by decide) ?_
  · show Op.lookupswitch.offset [(0, 25), (1, 33)] _ _ = _
    rw [lv_osw c6 (show (0 : Int32).toInt = _ by rfl), lv_osw c7 (show (1 : Int32).toInt = _ by rfl)]
    rfl
  refine xj_aload_n 0 dX11_who_64 rfl ?_
  refine xg_getR (k' := 0) (i' := 0) dX11_who_65 fl_X11_90 rfl ?_
  refine xg_getI (x := (m5 0 0 4)) dX11_who_68 fl_X11_316 rfl rfl ?_
  cases h
  exact xj_ireturn dX11_who_71 rfl (by decide) (by decide)
noncomputable def r_X11_would (x1 : Int32) (x2 : Int32) (x3 : Int32) (x4 : Int32) (x5 : Int32) (x6 : Int32) (x7 : Int32) (x8 : Int32) (x9 : Int32) (m : Mem) : Option ((Int32 ⊕ Nat) × Mem) :=
  thr (r_X11_needRange x1 (-60) 60 m) fun z1 m2 => (thr (r_X11_needRange x2 0 54 m2) fun z4 m5 => (thr (r_X11_needRange x3 0 54 m5) fun z7 m8 => (thr (r_X11_needRange x4 0 6 m8) fun z10 m11 => (thr (r_X11_needRange x5 0 9 m11) fun z13 m14 => (thr (r_X11_needRange x6 0 999 m14) fun z16 m17 => (thr (r_X11_needRange x7 0 500 m17) fun z19 m20 => (thr (r_X11_needRange x8 0 11 m20) fun z22 m23 => (thr (r_X11_needRange x9 0 11 m23) fun z25 m26 => (bd2 (r_X4_drawOfInputs 0 (wr (wr (wr (wr (wr (wr (wr (wr (wr m26 33 0 0 x1) 33 0 1 x2) 33 0 2 x3) 33 0 3 x4) 33 0 4 x5) 33 0 5 x6) 33 0 6 x7) 33 0 7 x8) 33 0 8 x9)) fun z30 m29 => (some (Sum.inl z30, m29)))))))))))
set_option maxHeartbeats 4000000 in
set_option maxRecDepth 20000 in
theorem ok_X11_would (x1 : Int32) (x2 : Int32) (x3 : Int32) (x4 : Int32) (x5 : Int32) (x6 : Int32) (x7 : Int32) (x8 : Int32) (x9 : Int32) (m : Mem) {z : (Int32 ⊕ Nat)} {m' : Mem} (h : r_X11_would x1 x2 x3 x4 x5 x6 x7 x8 x9 m = some (z, m')) : Mt yX11_would cX11_would 11 (some .int) 8 134 9 54 [vR 11 0, vI x1, vI x2, vI x3, vI x4, vI x5, vI x6, vI x7, vI x8, vI x9] m (oX oI z) m' := by
  refine Mt.of (by decide) (Nat.le_of_ble_eq_true rfl) (by decide +kernel) (hhF_ne (by decide)) ?_
  show Xj RX11 cX11_would 11 (some .int) 8 134 9 54 0 0 0 [(0, vR 11 0), (1, vI x1), (2, vI x2), (3, vI x3), (4, vI x4), (5, vI x5), (6, vI x6), (7, vI x7), (8, vI x8), (9, vI x9)] [] m (oX oI z) m'
  unfold r_X11_would at h
  refine xj_aload_n 0 dX11_would_0 rfl ?_
  refine xj_iload_n 1 dX11_would_1 rfl ?_
  refine xj_bipush (z := (-60)) dX11_would_2 (by decide) ?_
  refine xj_bipush (z := 60) dX11_would_4 (by decide) ?_
  rcases thr_some h with ⟨z1, m2, e3, h⟩ | ⟨ex, e3, rfl⟩
  case inr => exact xj_callVx (st := []) (ok_X11_needRange x1 (-60) 60 m e3) dX11_would_6 cv_X11_176 rfl rfl (Nat.le_of_ble_eq_true rfl) (by decide) (by decide) (by decide) (by decide) (by decide)
  refine xc_Vv (st := []) (ok_X11_needRange x1 (-60) 60 m e3) dX11_would_6 cv_X11_176 rfl rfl (Nat.le_of_ble_eq_true rfl) (by decide) (by decide) (by decide) (by decide) ?_
  refine xj_aload_n 0 dX11_would_9 rfl ?_
  refine xj_iload_n 2 dX11_would_10 rfl ?_
  refine xj_iconst (z := 0) dX11_would_11 (by decide) ?_
  refine xj_bipush (z := 54) dX11_would_12 (by decide) ?_
  rcases thr_some h with ⟨z4, m5, e6, h⟩ | ⟨ex, e6, rfl⟩
  case inr => exact xj_callVx (st := []) (ok_X11_needRange x2 0 54 m2 e6) dX11_would_14 cv_X11_176 rfl rfl (Nat.le_of_ble_eq_true rfl) (by decide) (by decide) (by decide) (by decide) (by decide)
  refine xc_Vv (st := []) (ok_X11_needRange x2 0 54 m2 e6) dX11_would_14 cv_X11_176 rfl rfl (Nat.le_of_ble_eq_true rfl) (by decide) (by decide) (by decide) (by decide) ?_
  refine xj_aload_n 0 dX11_would_17 rfl ?_
  refine xj_iload_n 3 dX11_would_18 rfl ?_
  refine xj_iconst (z := 0) dX11_would_19 (by decide) ?_
  refine xj_bipush (z := 54) dX11_would_20 (by decide) ?_
  rcases thr_some h with ⟨z7, m8, e9, h⟩ | ⟨ex, e9, rfl⟩
  case inr => exact xj_callVx (st := []) (ok_X11_needRange x3 0 54 m5 e9) dX11_would_22 cv_X11_176 rfl rfl (Nat.le_of_ble_eq_true rfl) (by decide) (by decide) (by decide) (by decide) (by decide)
  refine xc_Vv (st := []) (ok_X11_needRange x3 0 54 m5 e9) dX11_would_22 cv_X11_176 rfl rfl (Nat.le_of_ble_eq_true rfl) (by decide) (by decide) (by decide) (by decide) ?_
  refine xj_aload_n 0 dX11_would_25 rfl ?_
  refine xj_iload 4 dX11_would_26 rfl ?_
  refine xj_iconst (z := 0) dX11_would_28 (by decide) ?_
  refine xj_bipush (z := 6) dX11_would_29 (by decide) ?_
  rcases thr_some h with ⟨z10, m11, e12, h⟩ | ⟨ex, e12, rfl⟩
  case inr => exact xj_callVx (st := []) (ok_X11_needRange x4 0 6 m8 e12) dX11_would_31 cv_X11_176 rfl rfl (Nat.le_of_ble_eq_true rfl) (by decide) (by decide) (by decide) (by decide) (by decide)
  refine xc_Vv (st := []) (ok_X11_needRange x4 0 6 m8 e12) dX11_would_31 cv_X11_176 rfl rfl (Nat.le_of_ble_eq_true rfl) (by decide) (by decide) (by decide) (by decide) ?_
  refine xj_aload_n 0 dX11_would_34 rfl ?_
  refine xj_iload 5 dX11_would_35 rfl ?_
  refine xj_iconst (z := 0) dX11_would_37 (by decide) ?_
  refine xj_bipush (z := 9) dX11_would_38 (by decide) ?_
  rcases thr_some h with ⟨z13, m14, e15, h⟩ | ⟨ex, e15, rfl⟩
  case inr => exact xj_callVx (st := []) (ok_X11_needRange x5 0 9 m11 e15) dX11_would_40 cv_X11_176 rfl rfl (Nat.le_of_ble_eq_true rfl) (by decide) (by decide) (by decide) (by decide) (by decide)
  refine xc_Vv (st := []) (ok_X11_needRange x5 0 9 m11 e15) dX11_would_40 cv_X11_176 rfl rfl (Nat.le_of_ble_eq_true rfl) (by decide) (by decide) (by decide) (by decide) ?_
  refine xj_aload_n 0 dX11_would_43 rfl ?_
  refine xj_iload 6 dX11_would_44 rfl ?_
  refine xj_iconst (z := 0) dX11_would_46 (by decide) ?_
  refine xj_sipush (z := 999) dX11_would_47 (by decide) ?_
  rcases thr_some h with ⟨z16, m17, e18, h⟩ | ⟨ex, e18, rfl⟩
  case inr => exact xj_callVx (st := []) (ok_X11_needRange x6 0 999 m14 e18) dX11_would_50 cv_X11_176 rfl rfl (Nat.le_of_ble_eq_true rfl) (by decide) (by decide) (by decide) (by decide) (by decide)
  refine xc_Vv (st := []) (ok_X11_needRange x6 0 999 m14 e18) dX11_would_50 cv_X11_176 rfl rfl (Nat.le_of_ble_eq_true rfl) (by decide) (by decide) (by decide) (by decide) ?_
  refine xj_aload_n 0 dX11_would_53 rfl ?_
  refine xj_iload 7 dX11_would_54 rfl ?_
  refine xj_iconst (z := 0) dX11_would_56 (by decide) ?_
  refine xj_sipush (z := 500) dX11_would_57 (by decide) ?_
  rcases thr_some h with ⟨z19, m20, e21, h⟩ | ⟨ex, e21, rfl⟩
  case inr => exact xj_callVx (st := []) (ok_X11_needRange x7 0 500 m17 e21) dX11_would_60 cv_X11_176 rfl rfl (Nat.le_of_ble_eq_true rfl) (by decide) (by decide) (by decide) (by decide) (by decide)
  refine xc_Vv (st := []) (ok_X11_needRange x7 0 500 m17 e21) dX11_would_60 cv_X11_176 rfl rfl (Nat.le_of_ble_eq_true rfl) (by decide) (by decide) (by decide) (by decide) ?_
  refine xj_aload_n 0 dX11_would_63 rfl ?_
  refine xj_iload 8 dX11_would_64 rfl ?_
  refine xj_iconst (z := 0) dX11_would_66 (by decide) ?_
  refine xj_bipush (z := 11) dX11_would_67 (by decide) ?_
  rcases thr_some h with ⟨z22, m23, e24, h⟩ | ⟨ex, e24, rfl⟩
  case inr => exact xj_callVx (st := []) (ok_X11_needRange x8 0 11 m20 e24) dX11_would_69 cv_X11_176 rfl rfl (Nat.le_of_ble_eq_true rfl) (by decide) (by decide) (by decide) (by decide) (by decide)
  refine xc_Vv (st := []) (ok_X11_needRange x8 0 11 m20 e24) dX11_would_69 cv_X11_176 rfl rfl (Nat.le_of_ble_eq_true rfl) (by decide) (by decide) (by decide) (by decide) ?_
  refine xj_aload_n 0 dX11_would_72 rfl ?_
  refine xj_iload 9 dX11_would_73 rfl ?_
  refine xj_iconst (z := 0) dX11_would_75 (by decide) ?_
  refine xj_bipush (z := 11) dX11_would_76 (by decide) ?_
  rcases thr_some h with ⟨z25, m26, e27, h⟩ | ⟨ex, e27, rfl⟩
  case inr => exact xj_callVx (st := []) (ok_X11_needRange x9 0 11 m23 e27) dX11_would_78 cv_X11_176 rfl rfl (Nat.le_of_ble_eq_true rfl) (by decide) (by decide) (by decide) (by decide) (by decide)
  refine xc_Vv (st := []) (ok_X11_needRange x9 0 11 m23 e27) dX11_would_78 cv_X11_176 rfl rfl (Nat.le_of_ble_eq_true rfl) (by decide) (by decide) (by decide) (by decide) ?_
  refine xj_aload_n 0 dX11_would_81 rfl ?_
  refine xg_getR (k' := 4) (i' := 0) dX11_would_82 fl_X11_29 rfl ?_
  refine xg_getR (k' := 33) (i' := 0) dX11_would_85 fl_X11_272 rfl ?_
  refine xj_astore (ls' := [(10, vR 33 0), (0, vR 11 0), (1, vI x1), (2, vI x2), (3, vI x3), (4, vI x4), (5, vI x5), (6, vI x6), (7, vI x7), (8, vI x8), (9, vI x9)]) dX11_would_88 (by decide) rfl ?_
  refine xj_aload 0 dX11_would_90 rfl ?_
  refine xj_iconst (z := 0) dX11_would_92 (by decide) ?_
  refine xj_iload_n 2 dX11_would_93 rfl ?_
  refine xg_iast (n := 0) dX11_would_94 rfl (by decide) (inb_in (by decide)) (by decide) ?_
  refine xj_aload 0 dX11_would_95 rfl ?_
  refine xj_iconst (z := 1) dX11_would_97 (by decide) ?_
  refine xj_iload_n 3 dX11_would_98 rfl ?_
  refine xg_iast (n := 1) dX11_would_99 rfl (by decide) (inb_in (by decide)) (by decide) ?_
  refine xj_aload 0 dX11_would_100 rfl ?_
  refine xj_iconst (z := 2) dX11_would_102 (by decide) ?_
  refine xj_iload_n 4 dX11_would_103 rfl ?_
  refine xg_iast (n := 2) dX11_would_104 rfl (by decide) (inb_in (by decide)) (by decide) ?_
  refine xj_aload 0 dX11_would_105 rfl ?_
  refine xj_iconst (z := 3) dX11_would_107 (by decide) ?_
  refine xj_iload 5 dX11_would_108 rfl ?_
  refine xg_iast (n := 3) dX11_would_110 rfl (by decide) (inb_in (by decide)) (by decide) ?_
  refine xj_aload 0 dX11_would_111 rfl ?_
  refine xj_iconst (z := 4) dX11_would_113 (by decide) ?_
  refine xj_iload 6 dX11_would_114 rfl ?_
  refine xg_iast (n := 4) dX11_would_116 rfl (by decide) (inb_in (by decide)) (by decide) ?_
  refine xj_aload 0 dX11_would_117 rfl ?_
  refine xj_iconst (z := 5) dX11_would_119 (by decide) ?_
  refine xj_iload 7 dX11_would_120 rfl ?_
  refine xg_iast (n := 5) dX11_would_122 rfl (by decide) (inb_in (by decide)) (by decide) ?_
  refine xj_aload 0 dX11_would_123 rfl ?_
  refine xj_bipush (z := 6) dX11_would_125 (by decide) ?_
  refine xj_iload 8 dX11_would_127 rfl ?_
  refine xg_iast (n := 6) dX11_would_129 rfl (by decide) (inb_in (by decide)) (by decide) ?_
  refine xj_aload 0 dX11_would_130 rfl ?_
  refine xj_bipush (z := 7) dX11_would_132 (by decide) ?_
  refine xj_iload 9 dX11_would_134 rfl ?_
  refine xg_iast (n := 7) dX11_would_136 rfl (by decide) (inb_in (by decide)) (by decide) ?_
  refine xj_aload 0 dX11_would_137 rfl ?_
  refine xj_bipush (z := 8) dX11_would_139 (by decide) ?_
  refine xj_iload 10 dX11_would_141 rfl ?_
  refine xg_iast (n := 8) dX11_would_143 rfl (by decide) (inb_in (by decide)) (by decide) ?_
  refine xj_aload_n 1 dX11_would_144 rfl ?_
  refine xg_getR (k' := 4) (i' := 0) dX11_would_145 fl_X11_29 rfl ?_
  obtain ⟨z30, m29, e28, h⟩ := bd2_some h
  refine xc_Vi0 (st := []) (ok_X4_drawOfInputs 0 (wr (wr (wr (wr (wr (wr (wr (wr (wr m26 33 0 0 x1) 33 0 1 x2) 33 0 2 x3) 33 0 3 x4) 33 0 4 x5) 33 0 5 x6) 33 0 6 x7) 33 0 7 x8) 33 0 8 x9) e28) dX11_would_148 cv_X11_275 rfl rfl (Nat.le_of_ble_eq_true rfl) (by decide) (by decide) (by decide) (by decide) ?_
  cases h
  exact xj_ireturn dX11_would_151 rfl (by decide) (by decide)
noncomputable def r_X11_year (x1 : Int32) (x2 : Int32) (x3 : Int32) (x4 : Int32) (m : Mem) : Option ((Int32 ⊕ Nat) × Mem) :=
  thr (r_X11_needRange x2 1 96 m) fun z1 m2 => (thr (r_X11_needRange x3 0 16 m2) fun z4 m5 => (thr (r_X11_needRange x4 0 3 m5) fun z7 m8 => (bd1 (r_X10_live 0 x1 x2 x3 m8) fun m11 => (if x4 = 0 then (bd1 (r_X6_end m11) fun z14 => (some (Sum.inl z14, m11))) else if x4 = 1 then (bd1 (r_X7_believedInAll 2 m11) fun z17 => (some (Sum.inl z17, m11))) else if x4 = 2 then (some (Sum.inl (m11 10 0 1), m11)) else (some (Sum.inl (m11 6 0 4), m11))))))
set_option maxHeartbeats 4000000 in
set_option maxRecDepth 20000 in
theorem ok_X11_year (x1 : Int32) (x2 : Int32) (x3 : Int32) (x4 : Int32) (m : Mem) {z : (Int32 ⊕ Nat)} {m' : Mem} (h : r_X11_year x1 x2 x3 x4 m = some (z, m')) : Mt yX11_year cX11_year 5 (some .int) 8 134 3 18 [vR 11 0, vI x1, vI x2, vI x3, vI x4] m (oX oI z) m' := by
  refine Mt.of (by decide) (Nat.le_of_ble_eq_true rfl) (by decide +kernel) (hhF_ne (by decide)) ?_
  show Xj RX11 cX11_year 5 (some .int) 8 134 3 18 0 0 0 [(0, vR 11 0), (1, vI x1), (2, vI x2), (3, vI x3), (4, vI x4)] [] m (oX oI z) m'
  unfold r_X11_year at h
  refine xj_aload_n 0 dX11_year_0 rfl ?_
  refine xj_iload_n 2 dX11_year_1 rfl ?_
  refine xj_iconst (z := 1) dX11_year_2 (by decide) ?_
  refine xj_bipush (z := 96) dX11_year_3 (by decide) ?_
  rcases thr_some h with ⟨z1, m2, e3, h⟩ | ⟨ex, e3, rfl⟩
  case inr => exact xj_callVx (st := []) (ok_X11_needRange x2 1 96 m e3) dX11_year_5 cv_X11_176 rfl rfl (Nat.le_of_ble_eq_true rfl) (by decide) (by decide) (by decide) (by decide) (by decide)
  refine xc_Vv (st := []) (ok_X11_needRange x2 1 96 m e3) dX11_year_5 cv_X11_176 rfl rfl (Nat.le_of_ble_eq_true rfl) (by decide) (by decide) (by decide) (by decide) ?_
  refine xj_aload_n 0 dX11_year_8 rfl ?_
  refine xj_iload_n 3 dX11_year_9 rfl ?_
  refine xj_iconst (z := 0) dX11_year_10 (by decide) ?_
  refine xj_bipush (z := 16) dX11_year_11 (by decide) ?_
  rcases thr_some h with ⟨z4, m5, e6, h⟩ | ⟨ex, e6, rfl⟩
  case inr => exact xj_callVx (st := []) (ok_X11_needRange x3 0 16 m2 e6) dX11_year_13 cv_X11_176 rfl rfl (Nat.le_of_ble_eq_true rfl) (by decide) (by decide) (by decide) (by decide) (by decide)
  refine xc_Vv (st := []) (ok_X11_needRange x3 0 16 m2 e6) dX11_year_13 cv_X11_176 rfl rfl (Nat.le_of_ble_eq_true rfl) (by decide) (by decide) (by decide) (by decide) ?_
  refine xj_aload_n 0 dX11_year_16 rfl ?_
  refine xj_iload 4 dX11_year_17 rfl ?_
  refine xj_iconst (z := 0) dX11_year_19 (by decide) ?_
  refine xj_iconst (z := 3) dX11_year_20 (by decide) ?_
  rcases thr_some h with ⟨z7, m8, e9, h⟩ | ⟨ex, e9, rfl⟩
  case inr => exact xj_callVx (st := []) (ok_X11_needRange x4 0 3 m5 e9) dX11_year_21 cv_X11_176 rfl rfl (Nat.le_of_ble_eq_true rfl) (by decide) (by decide) (by decide) (by decide) (by decide)
  refine xc_Vv (st := []) (ok_X11_needRange x4 0 3 m5 e9) dX11_year_21 cv_X11_176 rfl rfl (Nat.le_of_ble_eq_true rfl) (by decide) (by decide) (by decide) (by decide) ?_
  refine xj_aload_n 0 dX11_year_24 rfl ?_
  refine xg_getR (k' := 10) (i' := 0) dX11_year_25 fl_X11_97 rfl ?_
  refine xj_aload_n 0 dX11_year_28 rfl ?_
  refine xg_getR (k' := 7) (i' := 0) dX11_year_29 fl_X11_49 rfl ?_
  refine xj_iload_n 1 dX11_year_32 rfl ?_
  refine xj_iload_n 2 dX11_year_33 rfl ?_
  refine xj_iload_n 3 dX11_year_34 rfl ?_
  obtain ⟨m11, e10, h⟩ := bd1_some h
  refine xc_Vv0 (st := []) (ok_X10_live 0 x1 x2 x3 m8 e10) dX11_year_35 cv_X11_370 rfl rfl (Nat.le_of_ble_eq_true rfl) (by decide) (by decide) (by decide) (by decide) ?_
  refine xj_iload 4 dX11_year_38 rfl ?_
  by_cases c12 : x4 = 0
  · rw [if_pos c12] at h
    refine xj_tableIn (off := 28) (tgt := 68) dX11_year_40 (by rw [c12]; decide) (by rw [c12]; decide) (by rw [c12]; decide) (by decide) ?_
    refine xj_aload_n 0 dX11_year_68 rfl ?_
    refine xg_getR (k' := 6) (i' := 0) dX11_year_69 fl_X11_72 rfl ?_
    obtain ⟨z14, e13, h⟩ := bd1_some h
    refine xc_Vi0 (st := []) (ok_X6_end m11 e13) dX11_year_72 cv_X11_208 rfl rfl (Nat.le_of_ble_eq_true rfl) (by decide) (by decide) (by decide) (by decide) ?_
    cases h
    exact xj_ireturn dX11_year_75 rfl (by decide) (by decide)
  rw [if_neg c12] at h
  by_cases c15 : x4 = 1
  · rw [if_pos c15] at h
    refine xj_tableIn (off := 36) (tgt := 76) dX11_year_40 (by rw [c15]; decide) (by rw [c15]; decide) (by rw [c15]; decide) (by decide) ?_
    refine xj_aload_n 0 dX11_year_76 rfl ?_
    refine xg_getR (k' := 10) (i' := 0) dX11_year_77 fl_X11_97 rfl ?_
    refine xg_getR (k' := 7) (i' := 2) dX11_year_80 fl_X11_374 rfl ?_
    obtain ⟨z17, e16, h⟩ := bd1_some h
    refine xc_Vi0 (st := []) (ok_X7_believedInAll 2 m11 e16) dX11_year_83 cv_X11_192 rfl rfl (Nat.le_of_ble_eq_true rfl) (by decide) (by decide) (by decide) (by decide) ?_
    cases h
    exact xj_ireturn dX11_year_86 rfl (by decide) (by decide)
  rw [if_neg c15] at h
  by_cases c18 : x4 = 2
  · rw [if_pos c18] at h
    refine xj_tableIn (off := 47) (tgt := 87) dX11_year_40 (by rw [c18]; decide) (by rw [c18]; decide) (by rw [c18]; decide) (by decide) ?_
    refine xj_aload_n 0 dX11_year_87 rfl ?_
    refine xg_getR (k' := 10) (i' := 0) dX11_year_88 fl_X11_97 rfl ?_
    refine xg_getI (x := (m11 10 0 1)) dX11_year_91 fl_X11_377 rfl rfl ?_
    cases h
    exact xj_ireturn dX11_year_94 rfl (by decide) (by decide)
  rw [if_neg c18] at h
  refine xj_tableOut (tgt := 95) dX11_year_40 ?_ (by decide) ?_
  · have nc12 := lv_neT c12 (show (0 : Int32).toInt = 0 by decide)
    have nc15 := lv_neT c15 (show (1 : Int32).toInt = 1 by decide)
    have nc18 := lv_neT c18 (show (2 : Int32).toInt = 2 by decide)
    omega
  refine xj_aload_n 0 dX11_year_95 rfl ?_
  refine xg_getR (k' := 6) (i' := 0) dX11_year_96 fl_X11_72 rfl ?_
  refine xg_getI (x := (m11 6 0 4)) dX11_year_99 fl_X11_205 rfl rfl ?_
  cases h
  exact xj_ireturn dX11_year_102 rfl (by decide) (by decide)
