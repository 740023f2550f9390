theorem dX7_init_0 : decode cX7_init 0 = .ok (.aload_n 0, 1) := by decide +kernel
theorem dX7_init_1 : decode cX7_init 1 = .ok (.invokespecial 3, 3) := by decide +kernel
theorem dX7_init_4 : decode cX7_init 4 = .ok (.aload_n 0, 1) := by decide +kernel
theorem dX7_init_5 : decode cX7_init 5 = .ok (.bipush 8, 2) := by decide +kernel
theorem dX7_init_7 : decode cX7_init 7 = .ok (.newarray .int, 2) := by decide +kernel
theorem dX7_init_9 : decode cX7_init 9 = .ok (.putfield 11, 3) := by decide +kernel
theorem dX7_init_12 : decode cX7_init 12 = .ok (.aload_n 0, 1) := by decide +kernel
theorem dX7_init_13 : decode cX7_init 13 = .ok (.bipush 8, 2) := by decide +kernel
theorem dX7_init_15 : decode cX7_init 15 = .ok (.newarray .int, 2) := by decide +kernel
theorem dX7_init_17 : decode cX7_init 17 = .ok (.putfield 15, 3) := by decide +kernel
theorem dX7_init_20 : decode cX7_init 20 = .ok (.aload_n 0, 1) := by decide +kernel
theorem dX7_init_21 : decode cX7_init 21 = .ok (.bipush 96, 2) := by decide +kernel
theorem dX7_init_23 : decode cX7_init 23 = .ok (.newarray .int, 2) := by decide +kernel
theorem dX7_init_25 : decode cX7_init 25 = .ok (.putfield 18, 3) := by decide +kernel
theorem dX7_init_28 : decode cX7_init 28 = .ok (.aload_n 0, 1) := by decide +kernel
theorem dX7_init_29 : decode cX7_init 29 = .ok (.bipush 16, 2) := by decide +kernel
theorem dX7_init_31 : decode cX7_init 31 = .ok (.newarray .int, 2) := by decide +kernel
theorem dX7_init_33 : decode cX7_init 33 = .ok (.putfield 21, 3) := by decide +kernel
theorem dX7_init_36 : decode cX7_init 36 = .ok (.aload_n 0, 1) := by decide +kernel
theorem dX7_init_37 : decode cX7_init 37 = .ok (.bipush 16, 2) := by decide +kernel
theorem dX7_init_39 : decode cX7_init 39 = .ok (.newarray .int, 2) := by decide +kernel
theorem dX7_init_41 : decode cX7_init 41 = .ok (.putfield 24, 3) := by decide +kernel
theorem dX7_init_44 : decode cX7_init 44 = .ok (.return_, 1) := by decide +kernel
theorem dX5_init_0 : decode cX5_init 0 = .ok (.aload_n 0, 1) := by decide +kernel
theorem dX5_init_1 : decode cX5_init 1 = .ok (.invokespecial 3, 3) := by decide +kernel
theorem dX5_init_4 : decode cX5_init 4 = .ok (.aload_n 0, 1) := by decide +kernel
theorem dX5_init_5 : decode cX5_init 5 = .ok (.bipush 16, 2) := by decide +kernel
theorem dX5_init_7 : decode cX5_init 7 = .ok (.anewarray 9, 3) := by decide +kernel
theorem dX5_init_10 : decode cX5_init 10 = .ok (.putfield 11, 3) := by decide +kernel
theorem dX5_init_13 : decode cX5_init 13 = .ok (.return_, 1) := by decide +kernel
theorem dX8_init_0 : decode cX8_init 0 = .ok (.aload_n 0, 1) := by decide +kernel
theorem dX8_init_1 : decode cX8_init 1 = .ok (.invokespecial 3, 3) := by decide +kernel
theorem dX8_init_4 : decode cX8_init 4 = .ok (.aload_n 0, 1) := by decide +kernel
theorem dX8_init_5 : decode cX8_init 5 = .ok (.sipush 600, 3) := by decide +kernel
theorem dX8_init_8 : decode cX8_init 8 = .ok (.newarray .int, 2) := by decide +kernel
theorem dX8_init_10 : decode cX8_init 10 = .ok (.putfield 9, 3) := by decide +kernel
theorem dX8_init_13 : decode cX8_init 13 = .ok (.aload_n 0, 1) := by decide +kernel
theorem dX8_init_14 : decode cX8_init 14 = .ok (.iconst (-1), 1) := by decide +kernel
theorem dX8_init_15 : decode cX8_init 15 = .ok (.putfield 15, 3) := by decide +kernel
theorem dX8_init_18 : decode cX8_init 18 = .ok (.return_, 1) := by decide +kernel
theorem dX3_init_0 : decode cX3_init 0 = .ok (.aload_n 0, 1) := by decide +kernel
theorem dX3_init_1 : decode cX3_init 1 = .ok (.invokespecial 3, 3) := by decide +kernel
theorem dX3_init_4 : decode cX3_init 4 = .ok (.aload_n 0, 1) := by decide +kernel
theorem dX3_init_5 : decode cX3_init 5 = .ok (.bipush 12, 2) := by decide +kernel
theorem dX3_init_7 : decode cX3_init 7 = .ok (.newarray .int, 2) := by decide +kernel
theorem dX3_init_9 : decode cX3_init 9 = .ok (.putfield 9, 3) := by decide +kernel
theorem dX3_init_12 : decode cX3_init 12 = .ok (.aload_n 0, 1) := by decide +kernel
theorem dX3_init_13 : decode cX3_init 13 = .ok (.bipush 12, 2) := by decide +kernel
theorem dX3_init_15 : decode cX3_init 15 = .ok (.newarray .int, 2) := by decide +kernel
theorem dX3_init_17 : decode cX3_init 17 = .ok (.putfield 15, 3) := by decide +kernel
theorem dX3_init_20 : decode cX3_init 20 = .ok (.aload_n 0, 1) := by decide +kernel
theorem dX3_init_21 : decode cX3_init 21 = .ok (.bipush 16, 2) := by decide +kernel
theorem dX3_init_23 : decode cX3_init 23 = .ok (.newarray .int, 2) := by decide +kernel
theorem dX3_init_25 : decode cX3_init 25 = .ok (.putfield 18, 3) := by decide +kernel
theorem dX3_init_28 : decode cX3_init 28 = .ok (.aload_n 0, 1) := by decide +kernel
theorem dX3_init_29 : decode cX3_init 29 = .ok (.bipush 16, 2) := by decide +kernel
theorem dX3_init_31 : decode cX3_init 31 = .ok (.newarray .int, 2) := by decide +kernel
theorem dX3_init_33 : decode cX3_init 33 = .ok (.putfield 21, 3) := by decide +kernel
theorem dX3_init_36 : decode cX3_init 36 = .ok (.aload_n 0, 1) := by decide +kernel
theorem dX3_init_37 : decode cX3_init 37 = .ok (.sipush 144, 3) := by decide +kernel
theorem dX3_init_40 : decode cX3_init 40 = .ok (.newarray .int, 2) := by decide +kernel
theorem dX3_init_42 : decode cX3_init 42 = .ok (.putfield 24, 3) := by decide +kernel
theorem dX3_init_45 : decode cX3_init 45 = .ok (.aload_n 0, 1) := by decide +kernel
theorem dX3_init_46 : decode cX3_init 46 = .ok (.bipush 6, 2) := by decide +kernel
theorem dX3_init_48 : decode cX3_init 48 = .ok (.newarray .int, 2) := by decide +kernel
theorem dX3_init_50 : decode cX3_init 50 = .ok (.putfield 27, 3) := by decide +kernel
theorem dX3_init_53 : decode cX3_init 53 = .ok (.aload_n 0, 1) := by decide +kernel
theorem dX3_init_54 : decode cX3_init 54 = .ok (.bipush 6, 2) := by decide +kernel
theorem dX3_init_56 : decode cX3_init 56 = .ok (.newarray .int, 2) := by decide +kernel
theorem dX3_init_58 : decode cX3_init 58 = .ok (.putfield 30, 3) := by decide +kernel
theorem dX3_init_61 : decode cX3_init 61 = .ok (.aload_n 0, 1) := by decide +kernel
theorem dX3_init_62 : decode cX3_init 62 = .ok (.bipush 72, 2) := by decide +kernel
theorem dX3_init_64 : decode cX3_init 64 = .ok (.newarray .int, 2) := by decide +kernel
theorem dX3_init_66 : decode cX3_init 66 = .ok (.putfield 33, 3) := by decide +kernel
theorem dX3_init_69 : decode cX3_init 69 = .ok (.return_, 1) := by decide +kernel
theorem dX2_init_0 : decode cX2_init 0 = .ok (.aload_n 0, 1) := by decide +kernel
theorem dX2_init_1 : decode cX2_init 1 = .ok (.invokespecial 3, 3) := by decide +kernel
theorem dX2_init_4 : decode cX2_init 4 = .ok (.aload_n 0, 1) := by decide +kernel
theorem dX2_init_5 : decode cX2_init 5 = .ok (.iconst 3, 1) := by decide +kernel
theorem dX2_init_6 : decode cX2_init 6 = .ok (.anewarray 9, 3) := by decide +kernel
theorem dX2_init_9 : decode cX2_init 9 = .ok (.putfield 11, 3) := by decide +kernel
theorem dX2_init_12 : decode cX2_init 12 = .ok (.aload_n 0, 1) := by decide +kernel
theorem dX2_init_13 : decode cX2_init 13 = .ok (.iconst 3, 1) := by decide +kernel
theorem dX2_init_14 : decode cX2_init 14 = .ok (.anewarray 17, 3) := by decide +kernel
theorem dX2_init_17 : decode cX2_init 17 = .ok (.putfield 19, 3) := by decide +kernel
theorem dX2_init_20 : decode cX2_init 20 = .ok (.return_, 1) := by decide +kernel
theorem dX1_init_0 : decode cX1_init 0 = .ok (.aload_n 0, 1) := by decide +kernel
theorem dX1_init_1 : decode cX1_init 1 = .ok (.invokespecial 3, 3) := by decide +kernel
theorem dX1_init_4 : decode cX1_init 4 = .ok (.aload_n 0, 1) := by decide +kernel
theorem dX1_init_5 : decode cX1_init 5 = .ok (.bipush 12, 2) := by decide +kernel
theorem dX1_init_7 : decode cX1_init 7 = .ok (.newarray .int, 2) := by decide +kernel
theorem dX1_init_9 : decode cX1_init 9 = .ok (.putfield 9, 3) := by decide +kernel
theorem dX1_init_12 : decode cX1_init 12 = .ok (.aload_n 0, 1) := by decide +kernel
theorem dX1_init_13 : decode cX1_init 13 = .ok (.invokevirtual 15, 3) := by decide +kernel
theorem dX1_init_16 : decode cX1_init 16 = .ok (.return_, 1) := by decide +kernel
theorem dX4_init_0 : decode cX4_init 0 = .ok (.aload_n 0, 1) := by decide +kernel
theorem dX4_init_1 : decode cX4_init 1 = .ok (.invokespecial 3, 3) := by decide +kernel
theorem dX4_init_4 : decode cX4_init 4 = .ok (.aload_n 0, 1) := by decide +kernel
theorem dX4_init_5 : decode cX4_init 5 = .ok (.bipush 9, 2) := by decide +kernel
theorem dX4_init_7 : decode cX4_init 7 = .ok (.newarray .int, 2) := by decide +kernel
theorem dX4_init_9 : decode cX4_init 9 = .ok (.putfield 11, 3) := by decide +kernel
theorem dX4_init_12 : decode cX4_init 12 = .ok (.aload_n 0, 1) := by decide +kernel
theorem dX4_init_13 : decode cX4_init 13 = .ok (.sipush 150, 3) := by decide +kernel
theorem dX4_init_16 : decode cX4_init 16 = .ok (.newarray .int, 2) := by decide +kernel
theorem dX4_init_18 : decode cX4_init 18 = .ok (.putfield 15, 3) := by decide +kernel
theorem dX4_init_21 : decode cX4_init 21 = .ok (.aload_n 0, 1) := by decide +kernel
theorem dX4_init_22 : decode cX4_init 22 = .ok (.sipush 150, 3) := by decide +kernel
theorem dX4_init_25 : decode cX4_init 25 = .ok (.newarray .int, 2) := by decide +kernel
theorem dX4_init_27 : decode cX4_init 27 = .ok (.putfield 18, 3) := by decide +kernel
theorem dX4_init_30 : decode cX4_init 30 = .ok (.aload_n 0, 1) := by decide +kernel
theorem dX4_init_31 : decode cX4_init 31 = .ok (.invokevirtual 21, 3) := by decide +kernel
theorem dX4_init_34 : decode cX4_init 34 = .ok (.return_, 1) := by decide +kernel
theorem dX6_init_0 : decode cX6_init 0 = .ok (.aload_n 0, 1) := by decide +kernel
theorem dX6_init_1 : decode cX6_init 1 = .ok (.invokespecial 3, 3) := by decide +kernel
theorem dX6_init_4 : decode cX6_init 4 = .ok (.aload_n 0, 1) := by decide +kernel
theorem dX6_init_5 : decode cX6_init 5 = .ok (.bipush 12, 2) := by decide +kernel
theorem dX6_init_7 : decode cX6_init 7 = .ok (.newarray .int, 2) := by decide +kernel
theorem dX6_init_9 : decode cX6_init 9 = .ok (.putfield 9, 3) := by decide +kernel
theorem dX6_init_12 : decode cX6_init 12 = .ok (.aload_n 0, 1) := by decide +kernel
theorem dX6_init_13 : decode cX6_init 13 = .ok (.aload_n 1, 1) := by decide +kernel
theorem dX6_init_14 : decode cX6_init 14 = .ok (.putfield 15, 3) := by decide +kernel
theorem dX6_init_17 : decode cX6_init 17 = .ok (.aload_n 0, 1) := by decide +kernel
theorem dX6_init_18 : decode cX6_init 18 = .ok (.aload_n 2, 1) := by decide +kernel
theorem dX6_init_19 : decode cX6_init 19 = .ok (.putfield 19, 3) := by decide +kernel
theorem dX6_init_22 : decode cX6_init 22 = .ok (.return_, 1) := by decide +kernel
theorem dX9_init_0 : decode cX9_init 0 = .ok (.aload_n 0, 1) := by decide +kernel
theorem dX9_init_1 : decode cX9_init 1 = .ok (.invokespecial 3, 3) := by decide +kernel
theorem dX9_init_4 : decode cX9_init 4 = .ok (.aload_n 0, 1) := by decide +kernel
theorem dX9_init_5 : decode cX9_init 5 = .ok (.bipush 38, 2) := by decide +kernel
theorem dX9_init_7 : decode cX9_init 7 = .ok (.newarray .int, 2) := by decide +kernel
theorem dX9_init_9 : decode cX9_init 9 = .ok (.putfield 11, 3) := by decide +kernel
theorem dX9_init_12 : decode cX9_init 12 = .ok (.aload_n 0, 1) := by decide +kernel
theorem dX9_init_13 : decode cX9_init 13 = .ok (.bipush 38, 2) := by decide +kernel
theorem dX9_init_15 : decode cX9_init 15 = .ok (.newarray .int, 2) := by decide +kernel
theorem dX9_init_17 : decode cX9_init 17 = .ok (.putfield 15, 3) := by decide +kernel
theorem dX9_init_20 : decode cX9_init 20 = .ok (.aload_n 0, 1) := by decide +kernel
theorem dX9_init_21 : decode cX9_init 21 = .ok (.bipush 38, 2) := by decide +kernel
theorem dX9_init_23 : decode cX9_init 23 = .ok (.newarray .int, 2) := by decide +kernel
theorem dX9_init_25 : decode cX9_init 25 = .ok (.putfield 18, 3) := by decide +kernel
theorem dX9_init_28 : decode cX9_init 28 = .ok (.aload_n 0, 1) := by decide +kernel
theorem dX9_init_29 : decode cX9_init 29 = .ok (.bipush 38, 2) := by decide +kernel
theorem dX9_init_31 : decode cX9_init 31 = .ok (.newarray .int, 2) := by decide +kernel
theorem dX9_init_33 : decode cX9_init 33 = .ok (.putfield 21, 3) := by decide +kernel
theorem dX9_init_36 : decode cX9_init 36 = .ok (.aload_n 0, 1) := by decide +kernel
theorem dX9_init_37 : decode cX9_init 37 = .ok (.aload_n 1, 1) := by decide +kernel
theorem dX9_init_38 : decode cX9_init 38 = .ok (.putfield 24, 3) := by decide +kernel
theorem dX9_init_41 : decode cX9_init 41 = .ok (.aload_n 0, 1) := by decide +kernel
theorem dX9_init_42 : decode cX9_init 42 = .ok (.aload_n 2, 1) := by decide +kernel
theorem dX9_init_43 : decode cX9_init 43 = .ok (.putfield 28, 3) := by decide +kernel
theorem dX9_init_46 : decode cX9_init 46 = .ok (.aload_n 0, 1) := by decide +kernel
theorem dX9_init_47 : decode cX9_init 47 = .ok (.aload_n 3, 1) := by decide +kernel
theorem dX9_init_48 : decode cX9_init 48 = .ok (.putfield 32, 3) := by decide +kernel
theorem dX9_init_51 : decode cX9_init 51 = .ok (.return_, 1) := by decide +kernel
theorem dX0_init_0 : decode cX0_init 0 = .ok (.aload_n 0, 1) := by decide +kernel
theorem dX0_init_1 : decode cX0_init 1 = .ok (.invokespecial 3, 3) := by decide +kernel
theorem dX0_init_4 : decode cX0_init 4 = .ok (.aload_n 0, 1) := by decide +kernel
theorem dX0_init_5 : decode cX0_init 5 = .ok (.new 9, 3) := by decide +kernel
theorem dX0_init_8 : decode cX0_init 8 = .ok (.dup, 1) := by decide +kernel
theorem dX0_init_9 : decode cX0_init 9 = .ok (.invokespecial 11, 3) := by decide +kernel
theorem dX0_init_12 : decode cX0_init 12 = .ok (.putfield 12, 3) := by decide +kernel
theorem dX0_init_15 : decode cX0_init 15 = .ok (.aload_n 0, 1) := by decide +kernel
theorem dX0_init_16 : decode cX0_init 16 = .ok (.bipush 12, 2) := by decide +kernel
theorem dX0_init_18 : decode cX0_init 18 = .ok (.newarray .int, 2) := by decide +kernel
theorem dX0_init_20 : decode cX0_init 20 = .ok (.putfield 18, 3) := by decide +kernel
theorem dX0_init_23 : decode cX0_init 23 = .ok (.aload_n 0, 1) := by decide +kernel
theorem dX0_init_24 : decode cX0_init 24 = .ok (.sipush 144, 3) := by decide +kernel
theorem dX0_init_27 : decode cX0_init 27 = .ok (.newarray .int, 2) := by decide +kernel
theorem dX0_init_29 : decode cX0_init 29 = .ok (.putfield 22, 3) := by decide +kernel
theorem dX0_init_32 : decode cX0_init 32 = .ok (.aload_n 0, 1) := by decide +kernel
theorem dX0_init_33 : decode cX0_init 33 = .ok (.sipush 156, 3) := by decide +kernel
theorem dX0_init_36 : decode cX0_init 36 = .ok (.newarray .int, 2) := by decide +kernel
theorem dX0_init_38 : decode cX0_init 38 = .ok (.putfield 25, 3) := by decide +kernel
theorem dX0_init_41 : decode cX0_init 41 = .ok (.aload_n 0, 1) := by decide +kernel
theorem dX0_init_42 : decode cX0_init 42 = .ok (.aload_n 1, 1) := by decide +kernel
theorem dX0_init_43 : decode cX0_init 43 = .ok (.putfield 28, 3) := by decide +kernel
theorem dX0_init_46 : decode cX0_init 46 = .ok (.aload_n 0, 1) := by decide +kernel
theorem dX0_init_47 : decode cX0_init 47 = .ok (.aload_n 2, 1) := by decide +kernel
theorem dX0_init_48 : decode cX0_init 48 = .ok (.putfield 32, 3) := by decide +kernel
theorem dX0_init_51 : decode cX0_init 51 = .ok (.return_, 1) := by decide +kernel
theorem dX10_init_0 : decode cX10_init 0 = .ok (.aload_n 0, 1) := by decide +kernel
theorem dX10_init_1 : decode cX10_init 1 = .ok (.invokespecial 1, 3) := by decide +kernel
theorem dX10_init_4 : decode cX10_init 4 = .ok (.aload_n 0, 1) := by decide +kernel
theorem dX10_init_5 : decode cX10_init 5 = .ok (.new 7, 3) := by decide +kernel
theorem dX10_init_8 : decode cX10_init 8 = .ok (.dup, 1) := by decide +kernel
theorem dX10_init_9 : decode cX10_init 9 = .ok (.invokespecial 9, 3) := by decide +kernel
theorem dX10_init_12 : decode cX10_init 12 = .ok (.putfield 10, 3) := by decide +kernel
theorem dX10_init_15 : decode cX10_init 15 = .ok (.aload_n 0, 1) := by decide +kernel
theorem dX10_init_16 : decode cX10_init 16 = .ok (.aload_n 1, 1) := by decide +kernel
theorem dX10_init_17 : decode cX10_init 17 = .ok (.putfield 16, 3) := by decide +kernel
theorem dX10_init_20 : decode cX10_init 20 = .ok (.aload_n 0, 1) := by decide +kernel
theorem dX10_init_21 : decode cX10_init 21 = .ok (.aload_n 2, 1) := by decide +kernel
theorem dX10_init_22 : decode cX10_init 22 = .ok (.putfield 20, 3) := by decide +kernel
theorem dX10_init_25 : decode cX10_init 25 = .ok (.return_, 1) := by decide +kernel
theorem dX11_init_0 : decode cX11_init 0 = .ok (.aload_n 0, 1) := by decide +kernel
theorem dX11_init_1 : decode cX11_init 1 = .ok (.invokespecial 1, 3) := by decide +kernel
theorem dX11_init_4 : decode cX11_init 4 = .ok (.aload_n 0, 1) := by decide +kernel
theorem dX11_init_5 : decode cX11_init 5 = .ok (.new 7, 3) := by decide +kernel
theorem dX11_init_8 : decode cX11_init 8 = .ok (.dup, 1) := by decide +kernel
theorem dX11_init_9 : decode cX11_init 9 = .ok (.invokespecial 9, 3) := by decide +kernel
theorem dX11_init_12 : decode cX11_init 12 = .ok (.putfield 10, 3) := by decide +kernel
theorem dX11_init_15 : decode cX11_init 15 = .ok (.aload_n 0, 1) := by decide +kernel
theorem dX11_init_16 : decode cX11_init 16 = .ok (.new 16, 3) := by decide +kernel
theorem dX11_init_19 : decode cX11_init 19 = .ok (.dup, 1) := by decide +kernel
theorem dX11_init_20 : decode cX11_init 20 = .ok (.invokespecial 18, 3) := by decide +kernel
theorem dX11_init_23 : decode cX11_init 23 = .ok (.putfield 19, 3) := by decide +kernel
theorem dX11_init_26 : decode cX11_init 26 = .ok (.aload_n 0, 1) := by decide +kernel
theorem dX11_init_27 : decode cX11_init 27 = .ok (.new 16, 3) := by decide +kernel
theorem dX11_init_30 : decode cX11_init 30 = .ok (.dup, 1) := by decide +kernel
theorem dX11_init_31 : decode cX11_init 31 = .ok (.invokespecial 18, 3) := by decide +kernel
theorem dX11_init_34 : decode cX11_init 34 = .ok (.putfield 23, 3) := by decide +kernel
theorem dX11_init_37 : decode cX11_init 37 = .ok (.aload_n 0, 1) := by decide +kernel
theorem dX11_init_38 : decode cX11_init 38 = .ok (.new 26, 3) := by decide +kernel
theorem dX11_init_41 : decode cX11_init 41 = .ok (.dup, 1) := by decide +kernel
theorem dX11_init_42 : decode cX11_init 42 = .ok (.invokespecial 28, 3) := by decide +kernel
theorem dX11_init_45 : decode cX11_init 45 = .ok (.putfield 29, 3) := by decide +kernel
theorem dX11_init_48 : decode cX11_init 48 = .ok (.aload_n 0, 1) := by decide +kernel
theorem dX11_init_49 : decode cX11_init 49 = .ok (.new 26, 3) := by decide +kernel
theorem dX11_init_52 : decode cX11_init 52 = .ok (.dup, 1) := by decide +kernel
theorem dX11_init_53 : decode cX11_init 53 = .ok (.invokespecial 28, 3) := by decide +kernel
theorem dX11_init_56 : decode cX11_init 56 = .ok (.putfield 33, 3) := by decide +kernel
theorem dX11_init_59 : decode cX11_init 59 = .ok (.aload_n 0, 1) := by decide +kernel
theorem dX11_init_60 : decode cX11_init 60 = .ok (.new 36, 3) := by decide +kernel
theorem dX11_init_63 : decode cX11_init 63 = .ok (.dup, 1) := by decide +kernel
theorem dX11_init_64 : decode cX11_init 64 = .ok (.invokespecial 38, 3) := by decide +kernel
theorem dX11_init_67 : decode cX11_init 67 = .ok (.putfield 39, 3) := by decide +kernel
theorem dX11_init_70 : decode cX11_init 70 = .ok (.aload_n 0, 1) := by decide +kernel
theorem dX11_init_71 : decode cX11_init 71 = .ok (.new 36, 3) := by decide +kernel
theorem dX11_init_74 : decode cX11_init 74 = .ok (.dup, 1) := by decide +kernel
theorem dX11_init_75 : decode cX11_init 75 = .ok (.invokespecial 38, 3) := by decide +kernel
theorem dX11_init_78 : decode cX11_init 78 = .ok (.putfield 43, 3) := by decide +kernel
theorem dX11_init_81 : decode cX11_init 81 = .ok (.aload_n 0, 1) := by decide +kernel
theorem dX11_init_82 : decode cX11_init 82 = .ok (.new 46, 3) := by decide +kernel
theorem dX11_init_85 : decode cX11_init 85 = .ok (.dup, 1) := by decide +kernel
theorem dX11_init_86 : decode cX11_init 86 = .ok (.invokespecial 48, 3) := by decide +kernel
theorem dX11_init_89 : decode cX11_init 89 = .ok (.putfield 49, 3) := by decide +kernel
theorem dX11_init_92 : decode cX11_init 92 = .ok (.aload_n 0, 1) := by decide +kernel
theorem dX11_init_93 : decode cX11_init 93 = .ok (.new 53, 3) := by decide +kernel
theorem dX11_init_96 : decode cX11_init 96 = .ok (.dup, 1) := by decide +kernel
theorem dX11_init_97 : decode cX11_init 97 = .ok (.invokespecial 55, 3) := by decide +kernel
theorem dX11_init_100 : decode cX11_init 100 = .ok (.putfield 56, 3) := by decide +kernel
theorem dX11_init_103 : decode cX11_init 103 = .ok (.aload_n 0, 1) := by decide +kernel
theorem dX11_init_104 : decode cX11_init 104 = .ok (.new 60, 3) := by decide +kernel
theorem dX11_init_107 : decode cX11_init 107 = .ok (.dup, 1) := by decide +kernel
theorem dX11_init_108 : decode cX11_init 108 = .ok (.invokespecial 62, 3) := by decide +kernel
theorem dX11_init_111 : decode cX11_init 111 = .ok (.putfield 63, 3) := by decide +kernel
theorem dX11_init_114 : decode cX11_init 114 = .ok (.aload_n 0, 1) := by decide +kernel
theorem dX11_init_115 : decode cX11_init 115 = .ok (.new 67, 3) := by decide +kernel
theorem dX11_init_118 : decode cX11_init 118 = .ok (.dup, 1) := by decide +kernel
theorem dX11_init_119 : decode cX11_init 119 = .ok (.aload_n 0, 1) := by decide +kernel
theorem dX11_init_120 : decode cX11_init 120 = .ok (.getfield 19, 3) := by decide +kernel
theorem dX11_init_123 : decode cX11_init 123 = .ok (.aload_n 0, 1) := by decide +kernel
theorem dX11_init_124 : decode cX11_init 124 = .ok (.getfield 29, 3) := by decide +kernel
theorem dX11_init_127 : decode cX11_init 127 = .ok (.invokespecial 69, 3) := by decide +kernel
theorem dX11_init_130 : decode cX11_init 130 = .ok (.putfield 72, 3) := by decide +kernel
theorem dX11_init_133 : decode cX11_init 133 = .ok (.aload_n 0, 1) := by decide +kernel
theorem dX11_init_134 : decode cX11_init 134 = .ok (.new 76, 3) := by decide +kernel
theorem dX11_init_137 : decode cX11_init 137 = .ok (.dup, 1) := by decide +kernel
theorem dX11_init_138 : decode cX11_init 138 = .ok (.aload_n 0, 1) := by decide +kernel
theorem dX11_init_139 : decode cX11_init 139 = .ok (.getfield 19, 3) := by decide +kernel
theorem dX11_init_142 : decode cX11_init 142 = .ok (.aload_n 0, 1) := by decide +kernel
theorem dX11_init_143 : decode cX11_init 143 = .ok (.getfield 72, 3) := by decide +kernel
theorem dX11_init_146 : decode cX11_init 146 = .ok (.aload_n 0, 1) := by decide +kernel
theorem dX11_init_147 : decode cX11_init 147 = .ok (.getfield 49, 3) := by decide +kernel
theorem dX11_init_150 : decode cX11_init 150 = .ok (.invokespecial 78, 3) := by decide +kernel
theorem dX11_init_153 : decode cX11_init 153 = .ok (.putfield 81, 3) := by decide +kernel
theorem dX11_init_156 : decode cX11_init 156 = .ok (.aload_n 0, 1) := by decide +kernel
theorem dX11_init_157 : decode cX11_init 157 = .ok (.new 85, 3) := by decide +kernel
theorem dX11_init_160 : decode cX11_init 160 = .ok (.dup, 1) := by decide +kernel
theorem dX11_init_161 : decode cX11_init 161 = .ok (.aload_n 0, 1) := by decide +kernel
theorem dX11_init_162 : decode cX11_init 162 = .ok (.getfield 19, 3) := by decide +kernel
theorem dX11_init_165 : decode cX11_init 165 = .ok (.aload_n 0, 1) := by decide +kernel
theorem dX11_init_166 : decode cX11_init 166 = .ok (.getfield 72, 3) := by decide +kernel
theorem dX11_init_169 : decode cX11_init 169 = .ok (.invokespecial 87, 3) := by decide +kernel
theorem dX11_init_172 : decode cX11_init 172 = .ok (.putfield 90, 3) := by decide +kernel
theorem dX11_init_175 : decode cX11_init 175 = .ok (.aload_n 0, 1) := by decide +kernel
theorem dX11_init_176 : decode cX11_init 176 = .ok (.new 94, 3) := by decide +kernel
theorem dX11_init_179 : decode cX11_init 179 = .ok (.dup, 1) := by decide +kernel
theorem dX11_init_180 : decode cX11_init 180 = .ok (.aload_n 0, 1) := by decide +kernel
theorem dX11_init_181 : decode cX11_init 181 = .ok (.getfield 19, 3) := by decide +kernel
theorem dX11_init_184 : decode cX11_init 184 = .ok (.aload_n 0, 1) := by decide +kernel
theorem dX11_init_185 : decode cX11_init 185 = .ok (.getfield 72, 3) := by decide +kernel
theorem dX11_init_188 : decode cX11_init 188 = .ok (.invokespecial 96, 3) := by decide +kernel
theorem dX11_init_191 : decode cX11_init 191 = .ok (.putfield 97, 3) := by decide +kernel
theorem dX11_init_194 : decode cX11_init 194 = .ok (.return_, 1) := by decide +kernel
theorem dX5_keepAt_0 : decode cX5_keepAt 0 = .ok (.aload_n 0, 1) := by decide +kernel
theorem dX5_keepAt_1 : decode cX5_keepAt 1 = .ok (.getfield 11, 3) := by decide +kernel
theorem dX5_keepAt_4 : decode cX5_keepAt 4 = .ok (.iload_n 1, 1) := by decide +kernel
theorem dX5_keepAt_5 : decode cX5_keepAt 5 = .ok (.aaload, 1) := by decide +kernel
theorem dX5_keepAt_6 : decode cX5_keepAt 6 = .ok (.ifnonnull 16, 3) := by decide +kernel
theorem dX5_keepAt_9 : decode cX5_keepAt 9 = .ok (.aload_n 0, 1) := by decide +kernel
theorem dX5_keepAt_10 : decode cX5_keepAt 10 = .ok (.getfield 11, 3) := by decide +kernel
theorem dX5_keepAt_13 : decode cX5_keepAt 13 = .ok (.iload_n 1, 1) := by decide +kernel
theorem dX5_keepAt_14 : decode cX5_keepAt 14 = .ok (.new 9, 3) := by decide +kernel
theorem dX5_keepAt_17 : decode cX5_keepAt 17 = .ok (.dup, 1) := by decide +kernel
theorem dX5_keepAt_18 : decode cX5_keepAt 18 = .ok (.invokespecial 25, 3) := by decide +kernel
theorem dX5_keepAt_21 : decode cX5_keepAt 21 = .ok (.aastore, 1) := by decide +kernel
theorem dX5_keepAt_22 : decode cX5_keepAt 22 = .ok (.aload_n 0, 1) := by decide +kernel
theorem dX5_keepAt_23 : decode cX5_keepAt 23 = .ok (.getfield 11, 3) := by decide +kernel
theorem dX5_keepAt_26 : decode cX5_keepAt 26 = .ok (.iload_n 1, 1) := by decide +kernel
theorem dX5_keepAt_27 : decode cX5_keepAt 27 = .ok (.aaload, 1) := by decide +kernel
theorem dX5_keepAt_28 : decode cX5_keepAt 28 = .ok (.aload_n 2, 1) := by decide +kernel
theorem dX5_keepAt_29 : decode cX5_keepAt 29 = .ok (.invokevirtual 26, 3) := by decide +kernel
theorem dX5_keepAt_32 : decode cX5_keepAt 32 = .ok (.return_, 1) := by decide +kernel
theorem dX5_push_0 : decode cX5_push 0 = .ok (.aload_n 0, 1) := by decide +kernel
theorem dX5_push_1 : decode cX5_push 1 = .ok (.getfield 17, 3) := by decide +kernel
theorem dX5_push_4 : decode cX5_push 4 = .ok (.bipush 16, 2) := by decide +kernel
theorem dX5_push_6 : decode cX5_push 6 = .ok (.if_icmp .ge 22, 3) := by decide +kernel
theorem dX5_push_9 : decode cX5_push 9 = .ok (.aload_n 0, 1) := by decide +kernel
theorem dX5_push_10 : decode cX5_push 10 = .ok (.aload_n 0, 1) := by decide +kernel
theorem dX5_push_11 : decode cX5_push 11 = .ok (.getfield 17, 3) := by decide +kernel
theorem dX5_push_14 : decode cX5_push 14 = .ok (.aload_n 1, 1) := by decide +kernel
theorem dX5_push_15 : decode cX5_push 15 = .ok (.invokevirtual 21, 3) := by decide +kernel
theorem dX5_push_18 : decode cX5_push 18 = .ok (.aload_n 0, 1) := by decide +kernel
theorem dX5_push_19 : decode cX5_push 19 = .ok (.dup, 1) := by decide +kernel
theorem dX5_push_20 : decode cX5_push 20 = .ok (.getfield 17, 3) := by decide +kernel
theorem dX5_push_23 : decode cX5_push 23 = .ok (.iconst 1, 1) := by decide +kernel
theorem dX5_push_24 : decode cX5_push 24 = .ok (.iadd, 1) := by decide +kernel
theorem dX5_push_25 : decode cX5_push 25 = .ok (.putfield 17, 3) := by decide +kernel
theorem dX5_push_28 : decode cX5_push 28 = .ok (.return_, 1) := by decide +kernel
theorem dX5_copyFrom_0 : decode cX5_copyFrom 0 = .ok (.iconst 0, 1) := by decide +kernel
theorem dX5_copyFrom_1 : decode cX5_copyFrom 1 = .ok (.istore_n 2, 1) := by decide +kernel
theorem dX5_copyFrom_2 : decode cX5_copyFrom 2 = .ok (.iload_n 2, 1) := by decide +kernel
theorem dX5_copyFrom_3 : decode cX5_copyFrom 3 = .ok (.aload_n 1, 1) := by decide +kernel
theorem dX5_copyFrom_4 : decode cX5_copyFrom 4 = .ok (.getfield 17, 3) := by decide +kernel
theorem dX5_copyFrom_7 : decode cX5_copyFrom 7 = .ok (.if_icmp .ge 29, 3) := by decide +kernel
theorem dX5_copyFrom_10 : decode cX5_copyFrom 10 = .ok (.aload_n 1, 1) := by decide +kernel
theorem dX5_copyFrom_11 : decode cX5_copyFrom 11 = .ok (.getfield 11, 3) := by decide +kernel
theorem dX5_copyFrom_14 : decode cX5_copyFrom 14 = .ok (.iload_n 2, 1) := by decide +kernel
theorem dX5_copyFrom_15 : decode cX5_copyFrom 15 = .ok (.aaload, 1) := by decide +kernel
theorem dX5_copyFrom_16 : decode cX5_copyFrom 16 = .ok (.ifnull 14, 3) := by decide +kernel
theorem dX5_copyFrom_19 : decode cX5_copyFrom 19 = .ok (.aload_n 0, 1) := by decide +kernel
theorem dX5_copyFrom_20 : decode cX5_copyFrom 20 = .ok (.iload_n 2, 1) := by decide +kernel
theorem dX5_copyFrom_21 : decode cX5_copyFrom 21 = .ok (.aload_n 1, 1) := by decide +kernel
theorem dX5_copyFrom_22 : decode cX5_copyFrom 22 = .ok (.getfield 11, 3) := by decide +kernel
theorem dX5_copyFrom_25 : decode cX5_copyFrom 25 = .ok (.iload_n 2, 1) := by decide +kernel
theorem dX5_copyFrom_26 : decode cX5_copyFrom 26 = .ok (.aaload, 1) := by decide +kernel
theorem dX5_copyFrom_27 : decode cX5_copyFrom 27 = .ok (.invokevirtual 21, 3) := by decide +kernel
theorem dX5_copyFrom_30 : decode cX5_copyFrom 30 = .ok (.iinc 2 1, 3) := by decide +kernel
theorem dX5_copyFrom_33 : decode cX5_copyFrom 33 = .ok (.goto (-31), 3) := by decide +kernel
theorem dX5_copyFrom_36 : decode cX5_copyFrom 36 = .ok (.aload_n 0, 1) := by decide +kernel
theorem dX5_copyFrom_37 : decode cX5_copyFrom 37 = .ok (.aload_n 1, 1) := by decide +kernel
theorem dX5_copyFrom_38 : decode cX5_copyFrom 38 = .ok (.getfield 17, 3) := by decide +kernel
theorem dX5_copyFrom_41 : decode cX5_copyFrom 41 = .ok (.putfield 17, 3) := by decide +kernel
theorem dX5_copyFrom_44 : decode cX5_copyFrom 44 = .ok (.return_, 1) := by decide +kernel
theorem dX2_keep_0 : decode cX2_keep 0 = .ok (.aload_n 0, 1) := by decide +kernel
theorem dX2_keep_1 : decode cX2_keep 1 = .ok (.getfield 23, 3) := by decide +kernel
theorem dX2_keep_4 : decode cX2_keep 4 = .ok (.iconst 3, 1) := by decide +kernel
theorem dX2_keep_5 : decode cX2_keep 5 = .ok (.if_icmp .lt 5, 3) := by decide +kernel
theorem dX2_keep_8 : decode cX2_keep 8 = .ok (.iconst 0, 1) := by decide +kernel
theorem dX2_keep_9 : decode cX2_keep 9 = .ok (.ireturn, 1) := by decide +kernel
theorem dX2_keep_10 : decode cX2_keep 10 = .ok (.aload_n 0, 1) := by decide +kernel
theorem dX2_keep_11 : decode cX2_keep 11 = .ok (.getfield 11, 3) := by decide +kernel
theorem dX2_keep_14 : decode cX2_keep 14 = .ok (.aload_n 0, 1) := by decide +kernel
theorem dX2_keep_15 : decode cX2_keep 15 = .ok (.getfield 23, 3) := by decide +kernel
theorem dX2_keep_18 : decode cX2_keep 18 = .ok (.aaload, 1) := by decide +kernel
theorem dX2_keep_19 : decode cX2_keep 19 = .ok (.ifnull 15, 3) := by decide +kernel
theorem dX2_keep_22 : decode cX2_keep 22 = .ok (.aload_n 0, 1) := by decide +kernel
theorem dX2_keep_23 : decode cX2_keep 23 = .ok (.getfield 19, 3) := by decide +kernel
theorem dX2_keep_26 : decode cX2_keep 26 = .ok (.aload_n 0, 1) := by decide +kernel
theorem dX2_keep_27 : decode cX2_keep 27 = .ok (.getfield 23, 3) := by decide +kernel
theorem dX2_keep_30 : decode cX2_keep 30 = .ok (.aaload, 1) := by decide +kernel
theorem dX2_keep_31 : decode cX2_keep 31 = .ok (.ifnonnull 35, 3) := by decide +kernel
theorem dX2_keep_34 : decode cX2_keep 34 = .ok (.aload_n 0, 1) := by decide +kernel
theorem dX2_keep_35 : decode cX2_keep 35 = .ok (.getfield 11, 3) := by decide +kernel
theorem dX2_keep_38 : decode cX2_keep 38 = .ok (.aload_n 0, 1) := by decide +kernel
theorem dX2_keep_39 : decode cX2_keep 39 = .ok (.getfield 23, 3) := by decide +kernel
theorem dX2_keep_42 : decode cX2_keep 42 = .ok (.new 9, 3) := by decide +kernel
theorem dX2_keep_45 : decode cX2_keep 45 = .ok (.dup, 1) := by decide +kernel
theorem dX2_keep_46 : decode cX2_keep 46 = .ok (.invokespecial 27, 3) := by decide +kernel
theorem dX2_keep_49 : decode cX2_keep 49 = .ok (.aastore, 1) := by decide +kernel
theorem dX2_keep_50 : decode cX2_keep 50 = .ok (.aload_n 0, 1) := by decide +kernel
theorem dX2_keep_51 : decode cX2_keep 51 = .ok (.getfield 19, 3) := by decide +kernel
theorem dX2_keep_54 : decode cX2_keep 54 = .ok (.aload_n 0, 1) := by decide +kernel
theorem dX2_keep_55 : decode cX2_keep 55 = .ok (.getfield 23, 3) := by decide +kernel
theorem dX2_keep_58 : decode cX2_keep 58 = .ok (.new 17, 3) := by decide +kernel
theorem dX2_keep_61 : decode cX2_keep 61 = .ok (.dup, 1) := by decide +kernel
theorem dX2_keep_62 : decode cX2_keep 62 = .ok (.invokespecial 28, 3) := by decide +kernel
theorem dX2_keep_65 : decode cX2_keep 65 = .ok (.aastore, 1) := by decide +kernel
theorem dX2_keep_66 : decode cX2_keep 66 = .ok (.aload_n 0, 1) := by decide +kernel
theorem dX2_keep_67 : decode cX2_keep 67 = .ok (.getfield 11, 3) := by decide +kernel
theorem dX2_keep_70 : decode cX2_keep 70 = .ok (.aload_n 0, 1) := by decide +kernel
theorem dX2_keep_71 : decode cX2_keep 71 = .ok (.getfield 23, 3) := by decide +kernel
theorem dX2_keep_74 : decode cX2_keep 74 = .ok (.aaload, 1) := by decide +kernel
theorem dX2_keep_75 : decode cX2_keep 75 = .ok (.aload_n 1, 1) := by decide +kernel
theorem dX2_keep_76 : decode cX2_keep 76 = .ok (.invokevirtual 29, 3) := by decide +kernel
theorem dX2_keep_79 : decode cX2_keep 79 = .ok (.aload_n 0, 1) := by decide +kernel
theorem dX2_keep_80 : decode cX2_keep 80 = .ok (.getfield 19, 3) := by decide +kernel
theorem dX2_keep_83 : decode cX2_keep 83 = .ok (.aload_n 0, 1) := by decide +kernel
theorem dX2_keep_84 : decode cX2_keep 84 = .ok (.getfield 23, 3) := by decide +kernel
theorem dX2_keep_87 : decode cX2_keep 87 = .ok (.aaload, 1) := by decide +kernel
theorem dX2_keep_88 : decode cX2_keep 88 = .ok (.aload_n 2, 1) := by decide +kernel
theorem dX2_keep_89 : decode cX2_keep 89 = .ok (.invokevirtual 33, 3) := by decide +kernel
theorem dX2_keep_92 : decode cX2_keep 92 = .ok (.aload_n 0, 1) := by decide +kernel
theorem dX2_keep_93 : decode cX2_keep 93 = .ok (.dup, 1) := by decide +kernel
theorem dX2_keep_94 : decode cX2_keep 94 = .ok (.getfield 23, 3) := by decide +kernel
theorem dX2_keep_97 : decode cX2_keep 97 = .ok (.iconst 1, 1) := by decide +kernel
theorem dX2_keep_98 : decode cX2_keep 98 = .ok (.iadd, 1) := by decide +kernel
theorem dX2_keep_99 : decode cX2_keep 99 = .ok (.putfield 23, 3) := by decide +kernel
theorem dX2_keep_102 : decode cX2_keep 102 = .ok (.iconst 1, 1) := by decide +kernel
theorem dX2_keep_103 : decode cX2_keep 103 = .ok (.ireturn, 1) := by decide +kernel
theorem dX2_putBack_0 : decode cX2_putBack 0 = .ok (.aload_n 0, 1) := by decide +kernel
theorem dX2_putBack_1 : decode cX2_putBack 1 = .ok (.getfield 23, 3) := by decide +kernel
theorem dX2_putBack_4 : decode cX2_putBack 4 = .ok (.ifCond .eq 31, 3) := by decide +kernel
theorem dX2_putBack_7 : decode cX2_putBack 7 = .ok (.aload_n 0, 1) := by decide +kernel
theorem dX2_putBack_8 : decode cX2_putBack 8 = .ok (.getfield 11, 3) := by decide +kernel
theorem dX2_putBack_11 : decode cX2_putBack 11 = .ok (.aload_n 0, 1) := by decide +kernel
theorem dX2_putBack_12 : decode cX2_putBack 12 = .ok (.getfield 23, 3) := by decide +kernel
theorem dX2_putBack_15 : decode cX2_putBack 15 = .ok (.iconst 1, 1) := by decide +kernel
theorem dX2_putBack_16 : decode cX2_putBack 16 = .ok (.isub, 1) := by decide +kernel
theorem dX2_putBack_17 : decode cX2_putBack 17 = .ok (.aaload, 1) := by decide +kernel
theorem dX2_putBack_18 : decode cX2_putBack 18 = .ok (.ifnull 17, 3) := by decide +kernel
theorem dX2_putBack_21 : decode cX2_putBack 21 = .ok (.aload_n 0, 1) := by decide +kernel
theorem dX2_putBack_22 : decode cX2_putBack 22 = .ok (.getfield 19, 3) := by decide +kernel
theorem dX2_putBack_25 : decode cX2_putBack 25 = .ok (.aload_n 0, 1) := by decide +kernel
theorem dX2_putBack_26 : decode cX2_putBack 26 = .ok (.getfield 23, 3) := by decide +kernel
theorem dX2_putBack_29 : decode cX2_putBack 29 = .ok (.iconst 1, 1) := by decide +kernel
theorem dX2_putBack_30 : decode cX2_putBack 30 = .ok (.isub, 1) := by decide +kernel
theorem dX2_putBack_31 : decode cX2_putBack 31 = .ok (.aaload, 1) := by decide +kernel
theorem dX2_putBack_32 : decode cX2_putBack 32 = .ok (.ifnonnull 5, 3) := by decide +kernel
theorem dX2_putBack_35 : decode cX2_putBack 35 = .ok (.iconst 0, 1) := by decide +kernel
theorem dX2_putBack_36 : decode cX2_putBack 36 = .ok (.ireturn, 1) := by decide +kernel
theorem dX2_putBack_37 : decode cX2_putBack 37 = .ok (.aload_n 0, 1) := by decide +kernel
theorem dX2_putBack_38 : decode cX2_putBack 38 = .ok (.dup, 1) := by decide +kernel
theorem dX2_putBack_39 : decode cX2_putBack 39 = .ok (.getfield 23, 3) := by decide +kernel
theorem dX2_putBack_42 : decode cX2_putBack 42 = .ok (.iconst 1, 1) := by decide +kernel
theorem dX2_putBack_43 : decode cX2_putBack 43 = .ok (.isub, 1) := by decide +kernel
theorem dX2_putBack_44 : decode cX2_putBack 44 = .ok (.putfield 23, 3) := by decide +kernel
theorem dX2_putBack_47 : decode cX2_putBack 47 = .ok (.aload_n 1, 1) := by decide +kernel
theorem dX2_putBack_48 : decode cX2_putBack 48 = .ok (.aload_n 0, 1) := by decide +kernel
theorem dX2_putBack_49 : decode cX2_putBack 49 = .ok (.getfield 11, 3) := by decide +kernel
theorem dX2_putBack_52 : decode cX2_putBack 52 = .ok (.aload_n 0, 1) := by decide +kernel
theorem dX2_putBack_53 : decode cX2_putBack 53 = .ok (.getfield 23, 3) := by decide +kernel
theorem dX2_putBack_56 : decode cX2_putBack 56 = .ok (.aaload, 1) := by decide +kernel
theorem dX2_putBack_57 : decode cX2_putBack 57 = .ok (.invokevirtual 29, 3) := by decide +kernel
theorem dX2_putBack_60 : decode cX2_putBack 60 = .ok (.aload_n 2, 1) := by decide +kernel
theorem dX2_putBack_61 : decode cX2_putBack 61 = .ok (.aload_n 0, 1) := by decide +kernel
theorem dX2_putBack_62 : decode cX2_putBack 62 = .ok (.getfield 19, 3) := by decide +kernel
theorem dX2_putBack_65 : decode cX2_putBack 65 = .ok (.aload_n 0, 1) := by decide +kernel
theorem dX2_putBack_66 : decode cX2_putBack 66 = .ok (.getfield 23, 3) := by decide +kernel
theorem dX2_putBack_69 : decode cX2_putBack 69 = .ok (.aaload, 1) := by decide +kernel
theorem dX2_putBack_70 : decode cX2_putBack 70 = .ok (.invokevirtual 33, 3) := by decide +kernel
theorem dX2_putBack_73 : decode cX2_putBack 73 = .ok (.iconst 1, 1) := by decide +kernel
theorem dX2_putBack_74 : decode cX2_putBack 74 = .ok (.ireturn, 1) := by decide +kernel
theorem dX11_image_0 : decode cX11_image 0 = .ok (.aload_n 0, 1) := by decide +kernel
theorem dX11_image_1 : decode cX11_image 1 = .ok (.getfield 63, 3) := by decide +kernel
theorem dX11_image_4 : decode cX11_image 4 = .ok (.aload_n 0, 1) := by decide +kernel
theorem dX11_image_5 : decode cX11_image 5 = .ok (.getfield 49, 3) := by decide +kernel
theorem dX11_image_8 : decode cX11_image 8 = .ok (.aload_n 0, 1) := by decide +kernel
theorem dX11_image_9 : decode cX11_image 9 = .ok (.getfield 56, 3) := by decide +kernel
theorem dX11_image_12 : decode cX11_image 12 = .ok (.invokevirtual 383, 3) := by decide +kernel
theorem dX11_image_15 : decode cX11_image 15 = .ok (.ifCond .eq 13, 3) := by decide +kernel
theorem dX11_image_18 : decode cX11_image 18 = .ok (.aload_n 0, 1) := by decide +kernel
theorem dX11_image_19 : decode cX11_image 19 = .ok (.getfield 63, 3) := by decide +kernel
theorem dX11_image_22 : decode cX11_image 22 = .ok (.getfield 387, 3) := by decide +kernel
theorem dX11_image_25 : decode cX11_image 25 = .ok (.goto 4, 3) := by decide +kernel
theorem dX11_image_28 : decode cX11_image 28 = .ok (.iconst (-1), 1) := by decide +kernel
theorem dX11_image_29 : decode cX11_image 29 = .ok (.ireturn, 1) := by decide +kernel
theorem dX11_restore_0 : decode cX11_restore 0 = .ok (.aload_n 0, 1) := by decide +kernel
theorem dX11_restore_1 : decode cX11_restore 1 = .ok (.getfield 63, 3) := by decide +kernel
theorem dX11_restore_4 : decode cX11_restore 4 = .ok (.aload_n 0, 1) := by decide +kernel
theorem dX11_restore_5 : decode cX11_restore 5 = .ok (.getfield 49, 3) := by decide +kernel
theorem dX11_restore_8 : decode cX11_restore 8 = .ok (.aload_n 0, 1) := by decide +kernel
theorem dX11_restore_9 : decode cX11_restore 9 = .ok (.getfield 56, 3) := by decide +kernel
theorem dX11_restore_12 : decode cX11_restore 12 = .ok (.invokevirtual 388, 3) := by decide +kernel
theorem dX11_restore_15 : decode cX11_restore 15 = .ok (.ifCond .ne 5, 3) := by decide +kernel
theorem dX11_restore_18 : decode cX11_restore 18 = .ok (.iconst (-1), 1) := by decide +kernel
theorem dX11_restore_19 : decode cX11_restore 19 = .ok (.ireturn, 1) := by decide +kernel
theorem dX11_restore_20 : decode cX11_restore 20 = .ok (.aload_n 0, 1) := by decide +kernel
theorem dX11_restore_21 : decode cX11_restore 21 = .ok (.iconst 0, 1) := by decide +kernel
theorem dX11_restore_22 : decode cX11_restore 22 = .ok (.putfield 134, 3) := by decide +kernel
theorem dX11_restore_25 : decode cX11_restore 25 = .ok (.aload_n 0, 1) := by decide +kernel
theorem dX11_restore_26 : decode cX11_restore 26 = .ok (.getfield 63, 3) := by decide +kernel
theorem dX11_restore_29 : decode cX11_restore 29 = .ok (.getfield 387, 3) := by decide +kernel
theorem dX11_restore_32 : decode cX11_restore 32 = .ok (.ireturn, 1) := by decide +kernel
theorem dX11_work_0 : decode cX11_work 0 = .ok (.aload_n 0, 1) := by decide +kernel
theorem dX11_work_1 : decode cX11_work 1 = .ok (.iload_n 1, 1) := by decide +kernel
theorem dX11_work_2 : decode cX11_work 2 = .ok (.sipush 150, 3) := by decide +kernel
theorem dX11_work_5 : decode cX11_work 5 = .ok (.invokevirtual 109, 3) := by decide +kernel
theorem dX11_work_8 : decode cX11_work 8 = .ok (.aload_n 0, 1) := by decide +kernel
theorem dX11_work_9 : decode cX11_work 9 = .ok (.getfield 56, 3) := by decide +kernel
theorem dX11_work_12 : decode cX11_work 12 = .ok (.getfield 144, 3) := by decide +kernel
theorem dX11_work_15 : decode cX11_work 15 = .ok (.bipush 16, 2) := by decide +kernel
theorem dX11_work_17 : decode cX11_work 17 = .ok (.if_icmp .lt 6, 3) := by decide +kernel
theorem dX11_work_20 : decode cX11_work 20 = .ok (.bipush (-20), 2) := by decide +kernel
theorem dX11_work_22 : decode cX11_work 22 = .ok (.ireturn, 1) := by decide +kernel
theorem dX11_work_23 : decode cX11_work 23 = .ok (.aload_n 0, 1) := by decide +kernel
theorem dX11_work_24 : decode cX11_work 24 = .ok (.getfield 81, 3) := by decide +kernel
theorem dX11_work_27 : decode cX11_work 27 = .ok (.aload_n 0, 1) := by decide +kernel
theorem dX11_work_28 : decode cX11_work 28 = .ok (.getfield 10, 3) := by decide +kernel
theorem dX11_work_31 : decode cX11_work 31 = .ok (.invokevirtual 147, 3) := by decide +kernel
theorem dX11_work_34 : decode cX11_work 34 = .ok (.ifCond .ne 11, 3) := by decide +kernel
theorem dX11_work_37 : decode cX11_work 37 = .ok (.aload_n 0, 1) := by decide +kernel
theorem dX11_work_38 : decode cX11_work 38 = .ok (.getfield 10, 3) := by decide +kernel
theorem dX11_work_41 : decode cX11_work 41 = .ok (.invokevirtual 117, 3) := by decide +kernel
theorem dX11_work_44 : decode cX11_work 44 = .ok (.ireturn, 1) := by decide +kernel
theorem dX11_work_45 : decode cX11_work 45 = .ok (.aload_n 0, 1) := by decide +kernel
theorem dX11_work_46 : decode cX11_work 46 = .ok (.getfield 56, 3) := by decide +kernel
theorem dX11_work_49 : decode cX11_work 49 = .ok (.aload_n 0, 1) := by decide +kernel
theorem dX11_work_50 : decode cX11_work 50 = .ok (.getfield 49, 3) := by decide +kernel
theorem dX11_work_53 : decode cX11_work 53 = .ok (.invokevirtual 148, 3) := by decide +kernel
theorem dX11_work_56 : decode cX11_work 56 = .ok (.aload_n 0, 1) := by decide +kernel
theorem dX11_work_57 : decode cX11_work 57 = .ok (.getfield 81, 3) := by decide +kernel
theorem dX11_work_60 : decode cX11_work 60 = .ok (.invokevirtual 152, 3) := by decide +kernel
theorem dX11_work_63 : decode cX11_work 63 = .ok (.aload_n 0, 1) := by decide +kernel
theorem dX11_work_64 : decode cX11_work 64 = .ok (.aload_n 0, 1) := by decide +kernel
theorem dX11_work_65 : decode cX11_work 65 = .ok (.getfield 81, 3) := by decide +kernel
theorem dX11_work_68 : decode cX11_work 68 = .ok (.getfield 155, 3) := by decide +kernel
theorem dX11_work_71 : decode cX11_work 71 = .ok (.putfield 134, 3) := by decide +kernel
theorem dX11_work_74 : decode cX11_work 74 = .ok (.aload_n 0, 1) := by decide +kernel
theorem dX11_work_75 : decode cX11_work 75 = .ok (.getfield 81, 3) := by decide +kernel
theorem dX11_work_78 : decode cX11_work 78 = .ok (.getfield 158, 3) := by decide +kernel
theorem dX11_work_81 : decode cX11_work 81 = .ok (.ireturn, 1) := by decide +kernel
noncomputable def r_X7_init (i0 : Nat) (m : Mem) : Option Mem :=
  if (m 94 20 i0) = 0 then (if (m 94 21 i0) = 0 then (if (m 94 22 i0) = 0 then (if (m 94 23 i0) = 0 then (if (m 94 24 i0) = 0 then (if (m 94 7 i0) = 0 then (some (wr (wr (nw (wr (nw (wr (nw (wr (nw (wr (nw m 20 i0) 7 i0 2 1) 21 i0) 7 i0 3 1) 22 i0) 7 i0 4 1) 23 i0) 7 i0 5 1) 24 i0) 7 i0 6 1) 94 7 i0 1)) else none) else none) else none) else none) else none) else none
set_option maxHeartbeats 4000000 in
set_option maxRecDepth 20000 in
theorem ok_X7_init (i0 : Nat) (m : Mem) {m' : Mem} (h : r_X7_init i0 m = some m') : Mt yX7_init cX7_init 1 none 1 20 5 144 [vR 307 i0] m oV m' := by
  refine Mt.of (by decide) (Nat.le_of_ble_eq_true rfl) (by decide +kernel) (hhF_ne (by decide)) ?_
  show Xj RX7 cX7_init 1 none 1 20 5 144 0 0 0 [(0, vR 307 i0)] [] m oV m'
  unfold r_X7_init at h
  refine xj_aload_n 0 dX7_init_0 rfl ?_
  refine xj_objI dX7_init_1 oi_X7_3 (by decide) (Nat.le_of_ble_eq_true rfl) ?_
  refine xj_aload_n 0 dX7_init_4 rfl ?_
  refine xj_bipush (z := 8) dX7_init_5 (by decide) ?_
  by_cases c1 : (m 94 20 i0) = 0
  case neg => rw [if_neg c1] at h; cases h
  rw [if_pos c1] at h
  refine xj_newa (k := 20) (i := i0) dX7_init_7 wt_68 rfl (by decide) c1 (by decide) (by decide) (by decide) (by decide) (by decide) ?_
  refine xj_putC (k := 7) (t := (20, i0)) dX7_init_9 fc_X7_11 ic_X7_init rfl ?_
  refine xj_aload_n 0 dX7_init_12 rfl ?_
  refine xj_bipush (z := 8) dX7_init_13 (by decide) ?_
  by_cases c2 : (m 94 21 i0) = 0
  case neg => rw [if_neg c2] at h; cases h
  rw [if_pos c2] at h
  refine xj_newa (k := 21) (i := i0) dX7_init_15 wt_68 rfl (by decide) c2 (by decide) (by decide) (by decide) (by decide) (by decide) ?_
  refine xj_putC (k := 7) (t := (21, i0)) dX7_init_17 fc_X7_15 ic_X7_init rfl ?_
  refine xj_aload_n 0 dX7_init_20 rfl ?_
  refine xj_bipush (z := 96) dX7_init_21 (by decide) ?_
  by_cases c3 : (m 94 22 i0) = 0
  case neg => rw [if_neg c3] at h; cases h
  rw [if_pos c3] at h
  refine xj_newa (k := 22) (i := i0) dX7_init_23 wt_68 rfl (by decide) c3 (by decide) (by decide) (by decide) (by decide) (by decide) ?_
  refine xj_putC (k := 7) (t := (22, i0)) dX7_init_25 fc_X7_18 ic_X7_init rfl ?_
  refine xj_aload_n 0 dX7_init_28 rfl ?_
  refine xj_bipush (z := 16) dX7_init_29 (by decide) ?_
  by_cases c4 : (m 94 23 i0) = 0
  case neg => rw [if_neg c4] at h; cases h
  rw [if_pos c4] at h
  refine xj_newa (k := 23) (i := i0) dX7_init_31 wt_68 rfl (by decide) c4 (by decide) (by decide) (by decide) (by decide) (by decide) ?_
  refine xj_putC (k := 7) (t := (23, i0)) dX7_init_33 fc_X7_21 ic_X7_init rfl ?_
  refine xj_aload_n 0 dX7_init_36 rfl ?_
  refine xj_bipush (z := 16) dX7_init_37 (by decide) ?_
  by_cases c5 : (m 94 24 i0) = 0
  case neg => rw [if_neg c5] at h; cases h
  rw [if_pos c5] at h
  refine xj_newa (k := 24) (i := i0) dX7_init_39 wt_68 rfl (by decide) c5 (by decide) (by decide) (by decide) (by decide) (by decide) ?_
  refine xj_putC (k := 7) (t := (24, i0)) dX7_init_41 fc_X7_24 ic_X7_init rfl ?_
  by_cases c6 : (m 94 7 i0) = 0
  case neg => rw [if_neg c6] at h; cases h
  rw [if_pos c6] at h
  refine xj_done (k := 7) (by decide) c6 (fun j hj t ht => match j, hj, ht with | 0, _, ht => by cases ht | 1, _, ht => by cases ht | 2, _, _ => by simp [wr, nw, bas] | 3, _, _ => by simp [wr, nw, bas] | 4, _, _ => by simp [wr, nw, bas] | 5, _, _ => by simp [wr, nw, bas] | 6, _, _ => by simp [wr, nw, bas] | n + 7, hj, _ => absurd hj (by show ¬ n + 7 < 7; omega)) ?_
  cases h
  exact xj_return dX7_init_44 (by decide) (by decide)
noncomputable def r_X5_init (i0 : Nat) (m : Mem) : Option Mem :=
  if (m 94 46 i0) = 0 then (if (m 94 5 i0) = 0 then (some (wr (wr (nw m 46 i0) 5 i0 1 1) 94 5 i0 1)) else none) else none
set_option maxHeartbeats 4000000 in
set_option maxRecDepth 20000 in
theorem ok_X5_init (i0 : Nat) (m : Mem) {m' : Mem} (h : r_X5_init i0 m = some m') : Mt yX5_init cX5_init 1 none 1 20 1 16 [vR 305 i0] m oV m' := by
  refine Mt.of (by decide) (Nat.le_of_ble_eq_true rfl) (by decide +kernel) (hhF_ne (by decide)) ?_
  show Xj RX5 cX5_init 1 none 1 20 1 16 0 0 0 [(0, vR 305 i0)] [] m oV m'
  unfold r_X5_init at h
  refine xj_aload_n 0 dX5_init_0 rfl ?_
  refine xj_objI dX5_init_1 oi_X5_3 (by decide) (Nat.le_of_ble_eq_true rfl) ?_
  refine xj_aload_n 0 dX5_init_4 rfl ?_
  refine xj_bipush (z := 16) dX5_init_5 (by decide) ?_
  by_cases c1 : (m 94 46 i0) = 0
  case neg => rw [if_neg c1] at h; cases h
  rw [if_pos c1] at h
  refine xj_newq (k := 46) (i := i0) dX5_init_7 (Or.inl ⟨rfl, wt_238, by decide +kernel⟩) (by decide) c1 (by decide) (by decide) (by decide) (by decide) (by decide) ?_
  refine xj_putC (k := 5) (t := (46, i0)) dX5_init_10 fc_X5_11 ic_X5_init rfl ?_
  by_cases c2 : (m 94 5 i0) = 0
  case neg => rw [if_neg c2] at h; cases h
  rw [if_pos c2] at h
  refine xj_done (k := 5) (by decide) c2 (fun j hj t ht => match j, hj, ht with | 0, _, ht => by cases ht | 1, _, _ => by simp [wr, nw, bas] | n + 2, hj, _ => absurd hj (by show ¬ n + 2 < 2; omega)) ?_
  cases h
  exact xj_return dX5_init_13 (by decide) (by decide)
noncomputable def r_X8_init (m : Mem) : Option Mem :=
  if (m 94 37 0) = 0 then (if (m 94 8 0) = 0 then (some (wr (wr (wr (nw m 37 0) 8 0 0 1) 8 0 3 (-1)) 94 8 0 1)) else none) else none
set_option maxHeartbeats 4000000 in
set_option maxRecDepth 20000 in
theorem ok_X8_init (m : Mem) {m' : Mem} (h : r_X8_init m = some m') : Mt yX8_init cX8_init 1 none 1 20 1 600 [vR 308 0] m oV m' := by
  refine Mt.of (by decide) (Nat.le_of_ble_eq_true rfl) (by decide +kernel) (hhF_ne (by decide)) ?_
  show Xj RX8 cX8_init 1 none 1 20 1 600 0 0 0 [(0, vR 308 0)] [] m oV m'
  unfold r_X8_init at h
  refine xj_aload_n 0 dX8_init_0 rfl ?_
  refine xj_objI dX8_init_1 oi_X8_3 (by decide) (Nat.le_of_ble_eq_true rfl) ?_
  refine xj_aload_n 0 dX8_init_4 rfl ?_
  refine xj_sipush (z := 600) dX8_init_5 (by decide) ?_
  by_cases c1 : (m 94 37 0) = 0
  case neg => rw [if_neg c1] at h; cases h
  rw [if_pos c1] at h
  refine xj_newa (k := 37) (i := 0) dX8_init_8 wt_68 rfl (by decide) c1 (by decide) (by decide) (by decide) (by decide) (by decide) ?_
  refine xj_putC (k := 8) (t := (37, 0)) dX8_init_10 fc_X8_9 ic_X8_init rfl ?_
  refine xj_aload_n 0 dX8_init_13 rfl ?_
  refine xj_iconst (z := (-1)) dX8_init_14 (by decide) ?_
  refine xj_putCI (k := 8) dX8_init_15 fw_X8_15 rfl ?_
  by_cases c2 : (m 94 8 0) = 0
  case neg => rw [if_neg c2] at h; cases h
  rw [if_pos c2] at h
  refine xj_done (k := 8) (by decide) c2 (fun j hj t ht => match j, hj, ht with | 0, _, _ => by simp [wr, nw, bas] | 1, _, ht => by cases ht | 2, _, ht => by cases ht | 3, _, ht => by cases ht | 4, _, ht => by cases ht | 5, _, ht => by cases ht | 6, _, ht => by cases ht | n + 7, hj, _ => absurd hj (by show ¬ n + 7 < 7; omega)) ?_
  cases h
  exact xj_return dX8_init_18 (by decide) (by decide)
noncomputable def r_X3_init (i0 : Nat) (m : Mem) : Option Mem :=
  if (m 94 25 i0) = 0 then (if (m 94 26 i0) = 0 then (if (m 94 27 i0) = 0 then (if (m 94 28 i0) = 0 then (if (m 94 29 i0) = 0 then (if (m 94 30 i0) = 0 then (if (m 94 31 i0) = 0 then (if (m 94 32 i0) = 0 then (if (m 94 3 i0) = 0 then (some (wr (wr (nw (wr (nw (wr (nw (wr (nw (wr (nw (wr (nw (wr (nw (wr (nw m 25 i0) 3 i0 4 1) 26 i0) 3 i0 5 1) 27 i0) 3 i0 6 1) 28 i0) 3 i0 7 1) 29 i0) 3 i0 8 1) 30 i0) 3 i0 9 1) 31 i0) 3 i0 10 1) 32 i0) 3 i0 11 1) 94 3 i0 1)) else none) else none) else none) else none) else none) else none) else none) else none) else none
set_option maxHeartbeats 4000000 in
set_option maxRecDepth 20000 in
theorem ok_X3_init (i0 : Nat) (m : Mem) {m' : Mem} (h : r_X3_init i0 m = some m') : Mt yX3_init cX3_init 1 none 1 20 8 284 [vR 303 i0] m oV m' := by
  refine Mt.of (by decide) (Nat.le_of_ble_eq_true rfl) (by decide +kernel) (hhF_ne (by decide)) ?_
  show Xj RX3 cX3_init 1 none 1 20 8 284 0 0 0 [(0, vR 303 i0)] [] m oV m'
  unfold r_X3_init at h
  refine xj_aload_n 0 dX3_init_0 rfl ?_
  refine xj_objI dX3_init_1 oi_X3_3 (by decide) (Nat.le_of_ble_eq_true rfl) ?_
  refine xj_aload_n 0 dX3_init_4 rfl ?_
  refine xj_bipush (z := 12) dX3_init_5 (by decide) ?_
  by_cases c1 : (m 94 25 i0) = 0
  case neg => rw [if_neg c1] at h; cases h
  rw [if_pos c1] at h
  refine xj_newa (k := 25) (i := i0) dX3_init_7 wt_68 rfl (by decide) c1 (by decide) (by decide) (by decide) (by decide) (by decide) ?_
  refine xj_putC (k := 3) (t := (25, i0)) dX3_init_9 fc_X3_9 ic_X3_init rfl ?_
  refine xj_aload_n 0 dX3_init_12 rfl ?_
  refine xj_bipush (z := 12) dX3_init_13 (by decide) ?_
  by_cases c2 : (m 94 26 i0) = 0
  case neg => rw [if_neg c2] at h; cases h
  rw [if_pos c2] at h
  refine xj_newa (k := 26) (i := i0) dX3_init_15 wt_68 rfl (by decide) c2 (by decide) (by decide) (by decide) (by decide) (by decide) ?_
  refine xj_putC (k := 3) (t := (26, i0)) dX3_init_17 fc_X3_15 ic_X3_init rfl ?_
  refine xj_aload_n 0 dX3_init_20 rfl ?_
  refine xj_bipush (z := 16) dX3_init_21 (by decide) ?_
  by_cases c3 : (m 94 27 i0) = 0
  case neg => rw [if_neg c3] at h; cases h
  rw [if_pos c3] at h
  refine xj_newa (k := 27) (i := i0) dX3_init_23 wt_68 rfl (by decide) c3 (by decide) (by decide) (by decide) (by decide) (by decide) ?_
  refine xj_putC (k := 3) (t := (27, i0)) dX3_init_25 fc_X3_18 ic_X3_init rfl ?_
  refine xj_aload_n 0 dX3_init_28 rfl ?_
  refine xj_bipush (z := 16) dX3_init_29 (by decide) ?_
  by_cases c4 : (m 94 28 i0) = 0
  case neg => rw [if_neg c4] at h; cases h
  rw [if_pos c4] at h
  refine xj_newa (k := 28) (i := i0) dX3_init_31 wt_68 rfl (by decide) c4 (by decide) (by decide) (by decide) (by decide) (by decide) ?_
  refine xj_putC (k := 3) (t := (28, i0)) dX3_init_33 fc_X3_21 ic_X3_init rfl ?_
  refine xj_aload_n 0 dX3_init_36 rfl ?_
  refine xj_sipush (z := 144) dX3_init_37 (by decide) ?_
  by_cases c5 : (m 94 29 i0) = 0
  case neg => rw [if_neg c5] at h; cases h
  rw [if_pos c5] at h
  refine xj_newa (k := 29) (i := i0) dX3_init_40 wt_68 rfl (by decide) c5 (by decide) (by decide) (by decide) (by decide) (by decide) ?_
  refine xj_putC (k := 3) (t := (29, i0)) dX3_init_42 fc_X3_24 ic_X3_init rfl ?_
  refine xj_aload_n 0 dX3_init_45 rfl ?_
  refine xj_bipush (z := 6) dX3_init_46 (by decide) ?_
  by_cases c6 : (m 94 30 i0) = 0
  case neg => rw [if_neg c6] at h; cases h
  rw [if_pos c6] at h
  refine xj_newa (k := 30) (i := i0) dX3_init_48 wt_68 rfl (by decide) c6 (by decide) (by decide) (by decide) (by decide) (by decide) ?_
  refine xj_putC (k := 3) (t := (30, i0)) dX3_init_50 fc_X3_27 ic_X3_init rfl ?_
  refine xj_aload_n 0 dX3_init_53 rfl ?_
  refine xj_bipush (z := 6) dX3_init_54 (by decide) ?_
  by_cases c7 : (m 94 31 i0) = 0
  case neg => rw [if_neg c7] at h; cases h
  rw [if_pos c7] at h
  refine xj_newa (k := 31) (i := i0) dX3_init_56 wt_68 rfl (by decide) c7 (by decide) (by decide) (by decide) (by decide) (by decide) ?_
  refine xj_putC (k := 3) (t := (31, i0)) dX3_init_58 fc_X3_30 ic_X3_init rfl ?_
  refine xj_aload_n 0 dX3_init_61 rfl ?_
  refine xj_bipush (z := 72) dX3_init_62 (by decide) ?_
  by_cases c8 : (m 94 32 i0) = 0
  case neg => rw [if_neg c8] at h; cases h
  rw [if_pos c8] at h
  refine xj_newa (k := 32) (i := i0) dX3_init_64 wt_68 rfl (by decide) c8 (by decide) (by decide) (by decide) (by decide) (by decide) ?_
  refine xj_putC (k := 3) (t := (32, i0)) dX3_init_66 fc_X3_33 ic_X3_init rfl ?_
  by_cases c9 : (m 94 3 i0) = 0
  case neg => rw [if_neg c9] at h; cases h
  rw [if_pos c9] at h
  refine xj_done (k := 3) (by decide) c9 (fun j hj t ht => match j, hj, ht with | 0, _, ht => by cases ht | 1, _, ht => by cases ht | 2, _, ht => by cases ht | 3, _, ht => by cases ht | 4, _, _ => by simp [wr, nw, bas] | 5, _, _ => by simp [wr, nw, bas] | 6, _, _ => by simp [wr, nw, bas] | 7, _, _ => by simp [wr, nw, bas] | 8, _, _ => by simp [wr, nw, bas] | 9, _, _ => by simp [wr, nw, bas] | 10, _, _ => by simp [wr, nw, bas] | 11, _, _ => by simp [wr, nw, bas] | n + 12, hj, _ => absurd hj (by show ¬ n + 12 < 12; omega)) ?_
  cases h
  exact xj_return dX3_init_69 (by decide) (by decide)
noncomputable def r_X2_init (m : Mem) : Option Mem :=
  if (m 94 47 0) = 0 then (if (m 94 48 0) = 0 then (if (m 94 2 0) = 0 then (some (wr (wr (nw (wr (nw m 47 0) 2 0 1 1) 48 0) 2 0 2 1) 94 2 0 1)) else none) else none) else none
set_option maxHeartbeats 4000000 in
set_option maxRecDepth 20000 in
theorem ok_X2_init (m : Mem) {m' : Mem} (h : r_X2_init m = some m') : Mt yX2_init cX2_init 1 none 1 20 2 6 [vR 302 0] m oV m' := by
  refine Mt.of (by decide) (Nat.le_of_ble_eq_true rfl) (by decide +kernel) (hhF_ne (by decide)) ?_
  show Xj RX2 cX2_init 1 none 1 20 2 6 0 0 0 [(0, vR 302 0)] [] m oV m'
  unfold r_X2_init at h
  refine xj_aload_n 0 dX2_init_0 rfl ?_
  refine xj_objI dX2_init_1 oi_X2_3 (by decide) (Nat.le_of_ble_eq_true rfl) ?_
  refine xj_aload_n 0 dX2_init_4 rfl ?_
  refine xj_iconst (z := 3) dX2_init_5 (by decide) ?_
  by_cases c1 : (m 94 47 0) = 0
  case neg => rw [if_neg c1] at h; cases h
  rw [if_pos c1] at h
  refine xj_newq (k := 47) (i := 0) dX2_init_6 (Or.inl ⟨rfl, wt_254, by decide +kernel⟩) (by decide) c1 (by decide) (by decide) (by decide) (by decide) (by decide) ?_
  refine xj_putC (k := 2) (t := (47, 0)) dX2_init_9 fc_X2_11 ic_X2_init rfl ?_
  refine xj_aload_n 0 dX2_init_12 rfl ?_
  refine xj_iconst (z := 3) dX2_init_13 (by decide) ?_
  by_cases c2 : (m 94 48 0) = 0
  case neg => rw [if_neg c2] at h; cases h
  rw [if_pos c2] at h
  refine xj_newq (k := 48) (i := 0) dX2_init_14 (Or.inr ⟨rfl, wt_255, by decide +kernel⟩) (by decide) c2 (by decide) (by decide) (by decide) (by decide) (by decide) ?_
  refine xj_putC (k := 2) (t := (48, 0)) dX2_init_17 fc_X2_19 ic_X2_init rfl ?_
  by_cases c3 : (m 94 2 0) = 0
  case neg => rw [if_neg c3] at h; cases h
  rw [if_pos c3] at h
  refine xj_done (k := 2) (by decide) c3 (fun j hj t ht => match j, hj, ht with | 0, _, ht => by cases ht | 1, _, _ => by simp [wr, nw, bas] | 2, _, _ => by simp [wr, nw, bas] | n + 3, hj, _ => absurd hj (by show ¬ n + 3 < 3; omega)) ?_
  cases h
  exact xj_return dX2_init_20 (by decide) (by decide)
noncomputable def r_X1_init (i0 : Nat) (m : Mem) : Option Mem :=
  if (m 94 36 i0) = 0 then (if (m 94 1 i0) = 0 then (bd1 (r_X1_clear i0 (wr (wr (nw m 36 i0) 1 i0 1 1) 94 1 i0 1)) fun m4 => (some m4)) else none) else none
set_option maxHeartbeats 4000000 in
set_option maxRecDepth 20000 in
theorem ok_X1_init (i0 : Nat) (m : Mem) {m' : Mem} (h : r_X1_init i0 m = some m') : Mt yX1_init cX1_init 1 none 3 41 1 12 [vR 301 i0] m oV m' := by
  refine Mt.of (by decide) (Nat.le_of_ble_eq_true rfl) (by decide +kernel) (hhF_ne (by decide)) ?_
  show Xj RX1 cX1_init 1 none 3 41 1 12 0 0 0 [(0, vR 301 i0)] [] m oV m'
  unfold r_X1_init at h
  refine xj_aload_n 0 dX1_init_0 rfl ?_
  refine xj_objI dX1_init_1 oi_X1_3 (by decide) (Nat.le_of_ble_eq_true rfl) ?_
  refine xj_aload_n 0 dX1_init_4 rfl ?_
  refine xj_bipush (z := 12) dX1_init_5 (by decide) ?_
  by_cases c1 : (m 94 36 i0) = 0
  case neg => rw [if_neg c1] at h; cases h
  rw [if_pos c1] at h
  refine xj_newa (k := 36) (i := i0) dX1_init_7 wt_68 rfl (by decide) c1 (by decide) (by decide) (by decide) (by decide) (by decide) ?_
  refine xj_putC (k := 1) (t := (36, i0)) dX1_init_9 fc_X1_9 ic_X1_init rfl ?_
  by_cases c2 : (m 94 1 i0) = 0
  case neg => rw [if_neg c2] at h; cases h
  rw [if_pos c2] at h
  refine xj_done (k := 1) (by decide) c2 (fun j hj t ht => match j, hj, ht with | 0, _, ht => by cases ht | 1, _, _ => by simp [wr, nw, bas] | n + 2, hj, _ => absurd hj (by show ¬ n + 2 < 2; omega)) ?_
  refine xj_aload_n 0 dX1_init_12 rfl ?_
  obtain ⟨m4, e3, h⟩ := bd1_some h
  refine xc_Vv0 (st := []) (ok_X1_clear i0 (wr (wr (nw m 36 i0) 1 i0 1 1) 94 1 i0 1) e3) dX1_init_13 cv_X1_15 rfl rfl (Nat.le_of_ble_eq_true rfl) (by decide) (by decide) (by decide) (by decide) ?_
  cases h
  exact xj_return dX1_init_16 (by decide) (by decide)
noncomputable def r_X4_init (i0 : Nat) (m : Mem) : Option Mem :=
  if (m 94 33 i0) = 0 then (if (m 94 34 i0) = 0 then (if (m 94 35 i0) = 0 then (if (m 94 4 i0) = 0 then (bd1 (r_X4_clear i0 (wr (wr (nw (wr (nw (wr (nw m 33 i0) 4 i0 0 1) 34 i0) 4 i0 1 1) 35 i0) 4 i0 2 1) 94 4 i0 1)) fun m6 => (some m6)) else none) else none) else none) else none
set_option maxHeartbeats 4000000 in
set_option maxRecDepth 20000 in
theorem ok_X4_init (i0 : Nat) (m : Mem) {m' : Mem} (h : r_X4_init i0 m = some m') : Mt yX4_init cX4_init 1 none 2 108 3 309 [vR 304 i0] m oV m' := by
  refine Mt.of (by decide) (Nat.le_of_ble_eq_true rfl) (by decide +kernel) (hhF_ne (by decide)) ?_
  show Xj RX4 cX4_init 1 none 2 108 3 309 0 0 0 [(0, vR 304 i0)] [] m oV m'
  unfold r_X4_init at h
  refine xj_aload_n 0 dX4_init_0 rfl ?_
  refine xj_objI dX4_init_1 oi_X4_3 (by decide) (Nat.le_of_ble_eq_true rfl) ?_
  refine xj_aload_n 0 dX4_init_4 rfl ?_
  refine xj_bipush (z := 9) dX4_init_5 (by decide) ?_
  by_cases c1 : (m 94 33 i0) = 0
  case neg => rw [if_neg c1] at h; cases h
  rw [if_pos c1] at h
  refine xj_newa (k := 33) (i := i0) dX4_init_7 wt_68 rfl (by decide) c1 (by decide) (by decide) (by decide) (by decide) (by decide) ?_
  refine xj_putC (k := 4) (t := (33, i0)) dX4_init_9 fc_X4_11 ic_X4_init rfl ?_
  refine xj_aload_n 0 dX4_init_12 rfl ?_
  refine xj_sipush (z := 150) dX4_init_13 (by decide) ?_
  by_cases c2 : (m 94 34 i0) = 0
  case neg => rw [if_neg c2] at h; cases h
  rw [if_pos c2] at h
  refine xj_newa (k := 34) (i := i0) dX4_init_16 wt_68 rfl (by decide) c2 (by decide) (by decide) (by decide) (by decide) (by decide) ?_
  refine xj_putC (k := 4) (t := (34, i0)) dX4_init_18 fc_X4_15 ic_X4_init rfl ?_
  refine xj_aload_n 0 dX4_init_21 rfl ?_
  refine xj_sipush (z := 150) dX4_init_22 (by decide) ?_
  by_cases c3 : (m 94 35 i0) = 0
  case neg => rw [if_neg c3] at h; cases h
  rw [if_pos c3] at h
  refine xj_newa (k := 35) (i := i0) dX4_init_25 wt_68 rfl (by decide) c3 (by decide) (by decide) (by decide) (by decide) (by decide) ?_
  refine xj_putC (k := 4) (t := (35, i0)) dX4_init_27 fc_X4_18 ic_X4_init rfl ?_
  by_cases c4 : (m 94 4 i0) = 0
  case neg => rw [if_neg c4] at h; cases h
  rw [if_pos c4] at h
  refine xj_done (k := 4) (by decide) c4 (fun j hj t ht => match j, hj, ht with | 0, _, _ => by simp [wr, nw, bas] | 1, _, _ => by simp [wr, nw, bas] | 2, _, _ => by simp [wr, nw, bas] | 3, _, ht => by cases ht | n + 4, hj, _ => absurd hj (by show ¬ n + 4 < 4; omega)) ?_
  refine xj_aload_n 0 dX4_init_30 rfl ?_
  obtain ⟨m6, e5, h⟩ := bd1_some h
  refine xc_Vv0 (st := []) (ok_X4_clear i0 (wr (wr (nw (wr (nw (wr (nw m 33 i0) 4 i0 0 1) 34 i0) 4 i0 1 1) 35 i0) 4 i0 2 1) 94 4 i0 1) e5) dX4_init_31 cv_X4_21 rfl rfl (Nat.le_of_ble_eq_true rfl) (by decide) (by decide) (by decide) (by decide) ?_
  cases h
  exact xj_return dX4_init_34 (by decide) (by decide)
noncomputable def r_X6_init (m : Mem) : Option Mem :=
  if (m 94 38 0) = 0 then (if (m 94 6 0) = 0 then (some (wr (wr (wr (wr (nw m 38 0) 6 0 2 1) 6 0 0 1) 6 0 1 1) 94 6 0 1)) else none) else none
set_option maxHeartbeats 4000000 in
set_option maxRecDepth 20000 in
theorem ok_X6_init (m : Mem) {m' : Mem} (h : r_X6_init m = some m') : Mt yX6_init cX6_init 3 none 1 20 1 12 [vR 306 0, vR 3 0, vR 4 0] m oV m' := by
  refine Mt.of (by decide) (Nat.le_of_ble_eq_true rfl) (by decide +kernel) (hhF_ne (by decide)) ?_
  show Xj RX6 cX6_init 3 none 1 20 1 12 0 0 0 [(0, vR 306 0), (1, vR 3 0), (2, vR 4 0)] [] m oV m'
  unfold r_X6_init at h
  refine xj_aload_n 0 dX6_init_0 rfl ?_
  refine xj_objI dX6_init_1 oi_X6_3 (by decide) (Nat.le_of_ble_eq_true rfl) ?_
  refine xj_aload_n 0 dX6_init_4 rfl ?_
  refine xj_bipush (z := 12) dX6_init_5 (by decide) ?_
  by_cases c1 : (m 94 38 0) = 0
  case neg => rw [if_neg c1] at h; cases h
  rw [if_pos c1] at h
  refine xj_newa (k := 38) (i := 0) dX6_init_7 wt_68 rfl (by decide) c1 (by decide) (by decide) (by decide) (by decide) (by decide) ?_
  refine xj_putC (k := 6) (t := (38, 0)) dX6_init_9 fc_X6_9 ic_X6_init rfl ?_
  refine xj_aload_n 0 dX6_init_12 rfl ?_
  refine xj_aload_n 1 dX6_init_13 rfl ?_
  refine xj_putC (k := 6) (t := (3, 0)) dX6_init_14 fc_X6_15 ic_X6_init rfl ?_
  refine xj_aload_n 0 dX6_init_17 rfl ?_
  refine xj_aload_n 2 dX6_init_18 rfl ?_
  refine xj_putC (k := 6) (t := (4, 0)) dX6_init_19 fc_X6_19 ic_X6_init rfl ?_
  by_cases c2 : (m 94 6 0) = 0
  case neg => rw [if_neg c2] at h; cases h
  rw [if_pos c2] at h
  refine xj_done (k := 6) (by decide) c2 (fun j hj t ht => match j, hj, ht with | 0, _, _ => by simp [wr, nw, bas] | 1, _, _ => by simp [wr, nw, bas] | 2, _, _ => by simp [wr, nw, bas] | 3, _, ht => by cases ht | 4, _, ht => by cases ht | n + 5, hj, _ => absurd hj (by show ¬ n + 5 < 5; omega)) ?_
  cases h
  exact xj_return dX6_init_22 (by decide) (by decide)
noncomputable def r_X9_init (m : Mem) : Option Mem :=
  if (m 94 39 0) = 0 then (if (m 94 40 0) = 0 then (if (m 94 41 0) = 0 then (if (m 94 42 0) = 0 then (if (m 94 9 0) = 0 then (some (wr (wr (wr (wr (wr (nw (wr (nw (wr (nw (wr (nw m 39 0) 9 0 7 1) 40 0) 9 0 8 1) 41 0) 9 0 9 1) 42 0) 9 0 10 1) 9 0 4 1) 9 0 5 1) 9 0 6 1) 94 9 0 1)) else none) else none) else none) else none) else none
set_option maxHeartbeats 4000000 in
set_option maxRecDepth 20000 in
theorem ok_X9_init (m : Mem) {m' : Mem} (h : r_X9_init m = some m') : Mt yX9_init cX9_init 4 none 1 20 4 152 [vR 309 0, vR 3 0, vR 6 0, vR 7 0] m oV m' := by
  refine Mt.of (by decide) (Nat.le_of_ble_eq_true rfl) (by decide +kernel) (hhF_ne (by decide)) ?_
  show Xj RX9 cX9_init 4 none 1 20 4 152 0 0 0 [(0, vR 309 0), (1, vR 3 0), (2, vR 6 0), (3, vR 7 0)] [] m oV m'
  unfold r_X9_init at h
  refine xj_aload_n 0 dX9_init_0 rfl ?_
  refine xj_objI dX9_init_1 oi_X9_3 (by decide) (Nat.le_of_ble_eq_true rfl) ?_
  refine xj_aload_n 0 dX9_init_4 rfl ?_
  refine xj_bipush (z := 38) dX9_init_5 (by decide) ?_
  by_cases c1 : (m 94 39 0) = 0
  case neg => rw [if_neg c1] at h; cases h
  rw [if_pos c1] at h
  refine xj_newa (k := 39) (i := 0) dX9_init_7 wt_68 rfl (by decide) c1 (by decide) (by decide) (by decide) (by decide) (by decide) ?_
  refine xj_putC (k := 9) (t := (39, 0)) dX9_init_9 fc_X9_11 ic_X9_init rfl ?_
  refine xj_aload_n 0 dX9_init_12 rfl ?_
  refine xj_bipush (z := 38) dX9_init_13 (by decide) ?_
  by_cases c2 : (m 94 40 0) = 0
  case neg => rw [if_neg c2] at h; cases h
  rw [if_pos c2] at h
  refine xj_newa (k := 40) (i := 0) dX9_init_15 wt_68 rfl (by decide) c2 (by decide) (by decide) (by decide) (by decide) (by decide) ?_
  refine xj_putC (k := 9) (t := (40, 0)) dX9_init_17 fc_X9_15 ic_X9_init rfl ?_
  refine xj_aload_n 0 dX9_init_20 rfl ?_
  refine xj_bipush (z := 38) dX9_init_21 (by decide) ?_
  by_cases c3 : (m 94 41 0) = 0
  case neg => rw [if_neg c3] at h; cases h
  rw [if_pos c3] at h
  refine xj_newa (k := 41) (i := 0) dX9_init_23 wt_68 rfl (by decide) c3 (by decide) (by decide) (by decide) (by decide) (by decide) ?_
  refine xj_putC (k := 9) (t := (41, 0)) dX9_init_25 fc_X9_18 ic_X9_init rfl ?_
  refine xj_aload_n 0 dX9_init_28 rfl ?_
  refine xj_bipush (z := 38) dX9_init_29 (by decide) ?_
  by_cases c4 : (m 94 42 0) = 0
  case neg => rw [if_neg c4] at h; cases h
  rw [if_pos c4] at h
  refine xj_newa (k := 42) (i := 0) dX9_init_31 wt_68 rfl (by decide) c4 (by decide) (by decide) (by decide) (by decide) (by decide) ?_
  refine xj_putC (k := 9) (t := (42, 0)) dX9_init_33 fc_X9_21 ic_X9_init rfl ?_
  refine xj_aload_n 0 dX9_init_36 rfl ?_
  refine xj_aload_n 1 dX9_init_37 rfl ?_
  refine xj_putC (k := 9) (t := (3, 0)) dX9_init_38 fc_X9_24 ic_X9_init rfl ?_
  refine xj_aload_n 0 dX9_init_41 rfl ?_
  refine xj_aload_n 2 dX9_init_42 rfl ?_
  refine xj_putC (k := 9) (t := (6, 0)) dX9_init_43 fc_X9_28 ic_X9_init rfl ?_
  refine xj_aload_n 0 dX9_init_46 rfl ?_
  refine xj_aload_n 3 dX9_init_47 rfl ?_
  refine xj_putC (k := 9) (t := (7, 0)) dX9_init_48 fc_X9_32 ic_X9_init rfl ?_
  by_cases c5 : (m 94 9 0) = 0
  case neg => rw [if_neg c5] at h; cases h
  rw [if_pos c5] at h
  refine xj_done (k := 9) (by decide) c5 (fun j hj t ht => match j, hj, ht with | 0, _, ht => by cases ht | 1, _, ht => by cases ht | 2, _, ht => by cases ht | 3, _, ht => by cases ht | 4, _, _ => by simp [wr, nw, bas] | 5, _, _ => by simp [wr, nw, bas] | 6, _, _ => by simp [wr, nw, bas] | 7, _, _ => by simp [wr, nw, bas] | 8, _, _ => by simp [wr, nw, bas] | 9, _, _ => by simp [wr, nw, bas] | 10, _, _ => by simp [wr, nw, bas] | n + 11, hj, _ => absurd hj (by show ¬ n + 11 < 11; omega)) ?_
  cases h
  exact xj_return dX9_init_51 (by decide) (by decide)
noncomputable def r_X0_init (m : Mem) : Option Mem :=
  if (m 94 307 1) = 0 then (bd1 (r_X7_init 1 (nw m 307 1)) fun m2 => (if (m2 94 7 1) = 0 then none else (if (m2 94 43 0) = 0 then (if (m2 94 44 0) = 0 then (if (m2 94 45 0) = 0 then (if (m2 94 0 0) = 0 then (some (wr (wr (wr (wr (nw (wr (nw (wr (nw (wr m2 0 0 12 1) 43 0) 0 0 13 1) 44 0) 0 0 14 1) 45 0) 0 0 15 1) 0 0 10 1) 0 0 11 1) 94 0 0 1)) else none) else none) else none) else none))) else none
set_option maxHeartbeats 4000000 in
set_option maxRecDepth 20000 in
theorem ok_X0_init (m : Mem) {m' : Mem} (h : r_X0_init m = some m') : Mt yX0_init cX0_init 3 none 2 40 9 463 [vR 300 0, vR 3 0, vR 6 0] m oV m' := by
  refine Mt.of (by decide) (Nat.le_of_ble_eq_true rfl) (by decide +kernel) (hhF_ne (by decide)) ?_
  show Xj RX0 cX0_init 3 none 2 40 9 463 0 0 0 [(0, vR 300 0), (1, vR 3 0), (2, vR 6 0)] [] m oV m'
  unfold r_X0_init at h
  refine xj_aload_n 0 dX0_init_0 rfl ?_
  refine xj_objI dX0_init_1 oi_X0_3 (by decide) (Nat.le_of_ble_eq_true rfl) ?_
  refine xj_aload_n 0 dX0_init_4 rfl ?_
  by_cases c1 : (m 94 307 1) = 0
  case neg => rw [if_neg c1] at h; cases h
  rw [if_pos c1] at h
  refine xj_new (k := 7) (i := 1) dX0_init_5 ck_X0_9 c1 (by decide) (by decide) ?_
  refine xj_dup dX0_init_8 rfl ?_
  obtain ⟨m2, e3, h⟩ := bd1_some h
  refine xj_callJ (st := [vR 307 1, vR 300 0]) (ok_X7_init 1 (nw m 307 1) e3) dX0_init_9 cj_X0_11 rfl rfl (Nat.le_of_ble_eq_true rfl) (by decide) (by decide) (by decide) (by decide) ?_
  by_cases c4 : (m2 94 7 1) = 0
  · rw [if_pos c4] at h; cases h
  rw [if_neg c4] at h
  refine xj_view (k := 7) (by decide) c4 ?_
  refine xj_putC (k := 0) (t := (7, 1)) dX0_init_12 fc_X0_12 ic_X0_init rfl ?_
  refine xj_aload_n 0 dX0_init_15 rfl ?_
  refine xj_bipush (z := 12) dX0_init_16 (by decide) ?_
  by_cases c5 : (m2 94 43 0) = 0
  case neg => rw [if_neg c5] at h; cases h
  rw [if_pos c5] at h
  refine xj_newa (k := 43) (i := 0) dX0_init_18 wt_68 rfl (by decide) c5 (by decide) (by decide) (by decide) (by decide) (by decide) ?_
  refine xj_putC (k := 0) (t := (43, 0)) dX0_init_20 fc_X0_18 ic_X0_init rfl ?_
  refine xj_aload_n 0 dX0_init_23 rfl ?_
  refine xj_sipush (z := 144) dX0_init_24 (by decide) ?_
  by_cases c6 : (m2 94 44 0) = 0
  case neg => rw [if_neg c6] at h; cases h
  rw [if_pos c6] at h
  refine xj_newa (k := 44) (i := 0) dX0_init_27 wt_68 rfl (by decide) c6 (by decide) (by decide) (by decide) (by decide) (by decide) ?_
  refine xj_putC (k := 0) (t := (44, 0)) dX0_init_29 fc_X0_22 ic_X0_init rfl ?_
  refine xj_aload_n 0 dX0_init_32 rfl ?_
  refine xj_sipush (z := 156) dX0_init_33 (by decide) ?_
  by_cases c7 : (m2 94 45 0) = 0
  case neg => rw [if_neg c7] at h; cases h
  rw [if_pos c7] at h
  refine xj_newa (k := 45) (i := 0) dX0_init_36 wt_68 rfl (by decide) c7 (by decide) (by decide) (by decide) (by decide) (by decide) ?_
  refine xj_putC (k := 0) (t := (45, 0)) dX0_init_38 fc_X0_25 ic_X0_init rfl ?_
  refine xj_aload_n 0 dX0_init_41 rfl ?_
  refine xj_aload_n 1 dX0_init_42 rfl ?_
  refine xj_putC (k := 0) (t := (3, 0)) dX0_init_43 fc_X0_28 ic_X0_init rfl ?_
  refine xj_aload_n 0 dX0_init_46 rfl ?_
  refine xj_aload_n 2 dX0_init_47 rfl ?_
  refine xj_putC (k := 0) (t := (6, 0)) dX0_init_48 fc_X0_32 ic_X0_init rfl ?_
  by_cases c8 : (m2 94 0 0) = 0
  case neg => rw [if_neg c8] at h; cases h
  rw [if_pos c8] at h
  refine xj_done (k := 0) (by decide) c8 (fun j hj t ht => match j, hj, ht with | 0, _, ht => by cases ht | 1, _, ht => by cases ht | 2, _, ht => by cases ht | 3, _, ht => by cases ht | 4, _, ht => by cases ht | 5, _, ht => by cases ht | 6, _, ht => by cases ht | 7, _, ht => by cases ht | 8, _, ht => by cases ht | 9, _, ht => by cases ht | 10, _, _ => by simp [wr, nw, bas] | 11, _, _ => by simp [wr, nw, bas] | 12, _, _ => by simp [wr, nw, bas] | 13, _, _ => by simp [wr, nw, bas] | 14, _, _ => by simp [wr, nw, bas] | 15, _, _ => by simp [wr, nw, bas] | n + 16, hj, _ => absurd hj (by show ¬ n + 16 < 16; omega)) ?_
  cases h
  exact xj_return dX0_init_51 (by decide) (by decide)
noncomputable def r_X10_init (m : Mem) : Option Mem :=
  if (m 94 307 2) = 0 then (bd1 (r_X7_init 2 (nw m 307 2)) fun m2 => (if (m2 94 7 2) = 0 then none else (if (m2 94 10 0) = 0 then (some (wr (wr (wr (wr m2 10 0 0 1) 10 0 2 1) 10 0 3 1) 94 10 0 1)) else none))) else none
set_option maxHeartbeats 4000000 in
set_option maxRecDepth 20000 in
theorem ok_X10_init (m : Mem) {m' : Mem} (h : r_X10_init m = some m') : Mt yX10_init cX10_init 3 none 2 40 6 151 [vR 310 0, vR 3 0, vR 6 0] m oV m' := by
  refine Mt.of (by decide) (Nat.le_of_ble_eq_true rfl) (by decide +kernel) (hhF_ne (by decide)) ?_
  show Xj RX10 cX10_init 3 none 2 40 6 151 0 0 0 [(0, vR 310 0), (1, vR 3 0), (2, vR 6 0)] [] m oV m'
  unfold r_X10_init at h
  refine xj_aload_n 0 dX10_init_0 rfl ?_
  refine xj_objI dX10_init_1 oi_X10_1 (by decide) (Nat.le_of_ble_eq_true rfl) ?_
  refine xj_aload_n 0 dX10_init_4 rfl ?_
  by_cases c1 : (m 94 307 2) = 0
  case neg => rw [if_neg c1] at h; cases h
  rw [if_pos c1] at h
  refine xj_new (k := 7) (i := 2) dX10_init_5 ck_X10_7 c1 (by decide) (by decide) ?_
  refine xj_dup dX10_init_8 rfl ?_
  obtain ⟨m2, e3, h⟩ := bd1_some h
  refine xj_callJ (st := [vR 307 2, vR 310 0]) (ok_X7_init 2 (nw m 307 2) e3) dX10_init_9 cj_X10_9 rfl rfl (Nat.le_of_ble_eq_true rfl) (by decide) (by decide) (by decide) (by decide) ?_
  by_cases c4 : (m2 94 7 2) = 0
  · rw [if_pos c4] at h; cases h
  rw [if_neg c4] at h
  refine xj_view (k := 7) (by decide) c4 ?_
  refine xj_putC (k := 10) (t := (7, 2)) dX10_init_12 fc_X10_10 ic_X10_init rfl ?_
  refine xj_aload_n 0 dX10_init_15 rfl ?_
  refine xj_aload_n 1 dX10_init_16 rfl ?_
  refine xj_putC (k := 10) (t := (3, 0)) dX10_init_17 fc_X10_16 ic_X10_init rfl ?_
  refine xj_aload_n 0 dX10_init_20 rfl ?_
  refine xj_aload_n 2 dX10_init_21 rfl ?_
  refine xj_putC (k := 10) (t := (6, 0)) dX10_init_22 fc_X10_20 ic_X10_init rfl ?_
  by_cases c5 : (m2 94 10 0) = 0
  case neg => rw [if_neg c5] at h; cases h
  rw [if_pos c5] at h
  refine xj_done (k := 10) (by decide) c5 (fun j hj t ht => match j, hj, ht with | 0, _, _ => by simp [wr, nw, bas] | 1, _, ht => by cases ht | 2, _, _ => by simp [wr, nw, bas] | 3, _, _ => by simp [wr, nw, bas] | 4, _, ht => by cases ht | n + 5, hj, _ => absurd hj (by show ¬ n + 5 < 5; omega)) ?_
  cases h
  exact xj_return dX10_init_25 (by decide) (by decide)
noncomputable def r_X11_init (m : Mem) : Option Mem :=
  if (m 94 308 0) = 0 then (bd1 (r_X8_init (nw m 308 0)) fun m2 => (if (m2 94 8 0) = 0 then none else (if (m2 94 303 0) = 0 then (bd1 (r_X3_init 0 (nw (wr m2 11 0 0 1) 303 0)) fun m6 => (if (m6 94 3 0) = 0 then none else (if (m6 94 303 1) = 0 then (bd1 (r_X3_init 1 (nw (wr m6 11 0 1 1) 303 1)) fun m10 => (if (m10 94 3 1) = 0 then none else (if (m10 94 304 0) = 0 then (bd1 (r_X4_init 0 (nw (wr m10 11 0 2 1) 304 0)) fun m14 => (if (m14 94 4 0) = 0 then none else (if (m14 94 304 1) = 0 then (bd1 (r_X4_init 1 (nw (wr m14 11 0 3 1) 304 1)) fun m18 => (if (m18 94 4 1) = 0 then none else (if (m18 94 301 0) = 0 then (bd1 (r_X1_init 0 (nw (wr m18 11 0 4 1) 301 0)) fun m22 => (if (m22 94 1 0) = 0 then none else (if (m22 94 301 1) = 0 then (bd1 (r_X1_init 1 (nw (wr m22 11 0 5 1) 301 1)) fun m26 => (if (m26 94 1 1) = 0 then none else (if (m26 94 307 0) = 0 then (bd1 (r_X7_init 0 (nw (wr m26 11 0 6 1) 307 0)) fun m30 => (if (m30 94 7 0) = 0 then none else (if (m30 94 305 0) = 0 then (bd1 (r_X5_init 0 (nw (wr m30 11 0 8 1) 305 0)) fun m34 => (if (m34 94 5 0) = 0 then none else (if (m34 94 302 0) = 0 then (bd1 (r_X2_init (nw (wr m34 11 0 9 1) 302 0)) fun m38 => (if (m38 94 2 0) = 0 then none else (if (m38 94 306 0) = 0 then (if (m38 11 0 1) = 0 then none else (if (m38 11 0 3) = 0 then none else (bd1 (r_X6_init (nw (wr m38 11 0 10 1) 306 0)) fun m44 => (if (m44 94 6 0) = 0 then none else (if (m44 94 309 0) = 0 then (if (m44 11 0 1) = 0 then none else (if (m44 11 0 8) = 0 then none else (bd1 (r_X9_init (nw (wr m44 11 0 11 1) 309 0)) fun m50 => (if (m50 94 9 0) = 0 then none else (if (m50 94 300 0) = 0 then (if (m50 11 0 1) = 0 then none else (if (m50 11 0 11) = 0 then none else (bd1 (r_X0_init (nw (wr m50 11 0 7 1) 300 0)) fun m56 => (if (m56 94 0 0) = 0 then none else (if (m56 94 310 0) = 0 then (if (m56 11 0 1) = 0 then none else (if (m56 11 0 11) = 0 then none else (bd1 (r_X10_init (nw (wr m56 11 0 12 1) 310 0)) fun m62 => (if (m62 94 10 0) = 0 then none else (if (m62 94 11 0) = 0 then (if (m62 11 0 0) = 0 then none else (if (m62 11 0 1) = 0 then none else (if (m62 11 0 2) = 0 then none else (if (m62 11 0 3) = 0 then none else (if (m62 11 0 4) = 0 then none else (if (m62 11 0 5) = 0 then none else (if (m62 11 0 6) = 0 then none else (if (m62 11 0 7) = 0 then none else (if (m62 11 0 8) = 0 then none else (if (m62 11 0 9) = 0 then none else (if (m62 11 0 10) = 0 then none else (if (m62 11 0 11) = 0 then none else (if (m62 11 0 12) = 0 then none else (some (wr (wr m62 11 0 13 1) 94 11 0 1))))))))))))))) else none))))) else none))))) else none))))) else none))))) else none))) else none))) else none))) else none))) else none))) else none))) else none))) else none))) else none))) else none))) else none
set_option maxHeartbeats 4000000 in
set_option maxRecDepth 20000 in
theorem ok_X11_init (m : Mem) {m' : Mem} (h : r_X11_init m = some m') : Mt yX11_init cX11_init 1 none 4 128 67 2846 [vR 311 0] m oV m' := by
  refine Mt.of (by decide) (Nat.le_of_ble_eq_true rfl) (by decide +kernel) (hhF_ne (by decide)) ?_
  show Xj RX11 cX11_init 1 none 4 128 67 2846 0 0 0 [(0, vR 311 0)] [] m oV m'
  unfold r_X11_init at h
  refine xj_aload_n 0 dX11_init_0 rfl ?_
  refine xj_objI dX11_init_1 oi_X11_1 (by decide) (Nat.le_of_ble_eq_true rfl) ?_
  refine xj_aload_n 0 dX11_init_4 rfl ?_
  by_cases c1 : (m 94 308 0) = 0
  case neg => rw [if_neg c1] at h; cases h
  rw [if_pos c1] at h
  refine xj_new (k := 8) (i := 0) dX11_init_5 ck_X11_7 c1 (by decide) (by decide) ?_
  refine xj_dup dX11_init_8 rfl ?_
  obtain ⟨m2, e3, h⟩ := bd1_some h
  refine xj_callJ (st := [vR 308 0, vR 311 0]) (ok_X8_init (nw m 308 0) e3) dX11_init_9 cj_X11_9 rfl rfl (Nat.le_of_ble_eq_true rfl) (by decide) (by decide) (by decide) (by decide) ?_
  by_cases c4 : (m2 94 8 0) = 0
  · rw [if_pos c4] at h; cases h
  rw [if_neg c4] at h
  refine xj_view (k := 8) (by decide) c4 ?_
  refine xj_putC (k := 11) (t := (8, 0)) dX11_init_12 fc_X11_10 ic_X11_init rfl ?_
  refine xj_aload_n 0 dX11_init_15 rfl ?_
  by_cases c5 : (m2 94 303 0) = 0
  case neg => rw [if_neg c5] at h; cases h
  rw [if_pos c5] at h
  refine xj_new (k := 3) (i := 0) dX11_init_16 ck_X11_16 c5 (by decide) (by decide) ?_
  refine xj_dup dX11_init_19 rfl ?_
  obtain ⟨m6, e7, h⟩ := bd1_some h
  refine xj_callJ (st := [vR 303 0, vR 311 0]) (ok_X3_init 0 (nw (wr m2 11 0 0 1) 303 0) e7) dX11_init_20 cj_X11_18 rfl rfl (Nat.le_of_ble_eq_true rfl) (by decide) (by decide) (by decide) (by decide) ?_
  by_cases c8 : (m6 94 3 0) = 0
  · rw [if_pos c8] at h; cases h
  rw [if_neg c8] at h
  refine xj_view (k := 3) (by decide) c8 ?_
  refine xj_putC (k := 11) (t := (3, 0)) dX11_init_23 fc_X11_19 ic_X11_init rfl ?_
  refine xj_aload_n 0 dX11_init_26 rfl ?_
  by_cases c9 : (m6 94 303 1) = 0
  case neg => rw [if_neg c9] at h; cases h
  rw [if_pos c9] at h
  refine xj_new (k := 3) (i := 1) dX11_init_27 ck_X11_16 c9 (by decide) (by decide) ?_
  refine xj_dup dX11_init_30 rfl ?_
  obtain ⟨m10, e11, h⟩ := bd1_some h
  refine xj_callJ (st := [vR 303 1, vR 311 0]) (ok_X3_init 1 (nw (wr m6 11 0 1 1) 303 1) e11) dX11_init_31 cj_X11_18 rfl rfl (Nat.le_of_ble_eq_true rfl) (by decide) (by decide) (by decide) (by decide) ?_
  by_cases c12 : (m10 94 3 1) = 0
  · rw [if_pos c12] at h; cases h
  rw [if_neg c12] at h
  refine xj_view (k := 3) (by decide) c12 ?_
  refine xj_putC (k := 11) (t := (3, 1)) dX11_init_34 fc_X11_23 ic_X11_init rfl ?_
  refine xj_aload_n 0 dX11_init_37 rfl ?_
  by_cases c13 : (m10 94 304 0) = 0
  case neg => rw [if_neg c13] at h; cases h
  rw [if_pos c13] at h
  refine xj_new (k := 4) (i := 0) dX11_init_38 ck_X11_26 c13 (by decide) (by decide) ?_
  refine xj_dup dX11_init_41 rfl ?_
  obtain ⟨m14, e15, h⟩ := bd1_some h
  refine xj_callI (st := [vR 304 0, vR 311 0]) (ok_X4_init 0 (nw (wr m10 11 0 2 1) 304 0) e15) dX11_init_42 ci_X11_28 rfl rfl (Nat.le_of_ble_eq_true rfl) (by decide) (by decide) (by decide) (by decide) ?_
  by_cases c16 : (m14 94 4 0) = 0
  · rw [if_pos c16] at h; cases h
  rw [if_neg c16] at h
  refine xj_view (k := 4) (by decide) c16 ?_
  refine xj_putC (k := 11) (t := (4, 0)) dX11_init_45 fc_X11_29 ic_X11_init rfl ?_
  refine xj_aload_n 0 dX11_init_48 rfl ?_
  by_cases c17 : (m14 94 304 1) = 0
  case neg => rw [if_neg c17] at h; cases h
  rw [if_pos c17] at h
  refine xj_new (k := 4) (i := 1) dX11_init_49 ck_X11_26 c17 (by decide) (by decide) ?_
  refine xj_dup dX11_init_52 rfl ?_
  obtain ⟨m18, e19, h⟩ := bd1_some h
  refine xj_callI (st := [vR 304 1, vR 311 0]) (ok_X4_init 1 (nw (wr m14 11 0 3 1) 304 1) e19) dX11_init_53 ci_X11_28 rfl rfl (Nat.le_of_ble_eq_true rfl) (by decide) (by decide) (by decide) (by decide) ?_
  by_cases c20 : (m18 94 4 1) = 0
  · rw [if_pos c20] at h; cases h
  rw [if_neg c20] at h
  refine xj_view (k := 4) (by decide) c20 ?_
  refine xj_putC (k := 11) (t := (4, 1)) dX11_init_56 fc_X11_33 ic_X11_init rfl ?_
  refine xj_aload_n 0 dX11_init_59 rfl ?_
  by_cases c21 : (m18 94 301 0) = 0
  case neg => rw [if_neg c21] at h; cases h
  rw [if_pos c21] at h
  refine xj_new (k := 1) (i := 0) dX11_init_60 ck_X11_36 c21 (by decide) (by decide) ?_
  refine xj_dup dX11_init_63 rfl ?_
  obtain ⟨m22, e23, h⟩ := bd1_some h
  refine xj_callI (st := [vR 301 0, vR 311 0]) (ok_X1_init 0 (nw (wr m18 11 0 4 1) 301 0) e23) dX11_init_64 ci_X11_38 rfl rfl (Nat.le_of_ble_eq_true rfl) (by decide) (by decide) (by decide) (by decide) ?_
  by_cases c24 : (m22 94 1 0) = 0
  · rw [if_pos c24] at h; cases h
  rw [if_neg c24] at h
  refine xj_view (k := 1) (by decide) c24 ?_
  refine xj_putC (k := 11) (t := (1, 0)) dX11_init_67 fc_X11_39 ic_X11_init rfl ?_
  refine xj_aload_n 0 dX11_init_70 rfl ?_
  by_cases c25 : (m22 94 301 1) = 0
  case neg => rw [if_neg c25] at h; cases h
  rw [if_pos c25] at h
  refine xj_new (k := 1) (i := 1) dX11_init_71 ck_X11_36 c25 (by decide) (by decide) ?_
  refine xj_dup dX11_init_74 rfl ?_
  obtain ⟨m26, e27, h⟩ := bd1_some h
  refine xj_callI (st := [vR 301 1, vR 311 0]) (ok_X1_init 1 (nw (wr m22 11 0 5 1) 301 1) e27) dX11_init_75 ci_X11_38 rfl rfl (Nat.le_of_ble_eq_true rfl) (by decide) (by decide) (by decide) (by decide) ?_
  by_cases c28 : (m26 94 1 1) = 0
  · rw [if_pos c28] at h; cases h
  rw [if_neg c28] at h
  refine xj_view (k := 1) (by decide) c28 ?_
  refine xj_putC (k := 11) (t := (1, 1)) dX11_init_78 fc_X11_43 ic_X11_init rfl ?_
  refine xj_aload_n 0 dX11_init_81 rfl ?_
  by_cases c29 : (m26 94 307 0) = 0
  case neg => rw [if_neg c29] at h; cases h
  rw [if_pos c29] at h
  refine xj_new (k := 7) (i := 0) dX11_init_82 ck_X11_46 c29 (by decide) (by decide) ?_
  refine xj_dup dX11_init_85 rfl ?_
  obtain ⟨m30, e31, h⟩ := bd1_some h
  refine xj_callJ (st := [vR 307 0, vR 311 0]) (ok_X7_init 0 (nw (wr m26 11 0 6 1) 307 0) e31) dX11_init_86 cj_X11_48 rfl rfl (Nat.le_of_ble_eq_true rfl) (by decide) (by decide) (by decide) (by decide) ?_
  by_cases c32 : (m30 94 7 0) = 0
  · rw [if_pos c32] at h; cases h
  rw [if_neg c32] at h
  refine xj_view (k := 7) (by decide) c32 ?_
  refine xj_putC (k := 11) (t := (7, 0)) dX11_init_89 fc_X11_49 ic_X11_init rfl ?_
  refine xj_aload_n 0 dX11_init_92 rfl ?_
  by_cases c33 : (m30 94 305 0) = 0
  case neg => rw [if_neg c33] at h; cases h
  rw [if_pos c33] at h
  refine xj_new (k := 5) (i := 0) dX11_init_93 ck_X11_53 c33 (by decide) (by decide) ?_
  refine xj_dup dX11_init_96 rfl ?_
  obtain ⟨m34, e35, h⟩ := bd1_some h
  refine xj_callJ (st := [vR 305 0, vR 311 0]) (ok_X5_init 0 (nw (wr m30 11 0 8 1) 305 0) e35) dX11_init_97 cj_X11_55 rfl rfl (Nat.le_of_ble_eq_true rfl) (by decide) (by decide) (by decide) (by decide) ?_
  by_cases c36 : (m34 94 5 0) = 0
  · rw [if_pos c36] at h; cases h
  rw [if_neg c36] at h
  refine xj_view (k := 5) (by decide) c36 ?_
  refine xj_putC (k := 11) (t := (5, 0)) dX11_init_100 fc_X11_56 ic_X11_init rfl ?_
  refine xj_aload_n 0 dX11_init_103 rfl ?_
  by_cases c37 : (m34 94 302 0) = 0
  case neg => rw [if_neg c37] at h; cases h
  rw [if_pos c37] at h
  refine xj_new (k := 2) (i := 0) dX11_init_104 ck_X11_60 c37 (by decide) (by decide) ?_
  refine xj_dup dX11_init_107 rfl ?_
  obtain ⟨m38, e39, h⟩ := bd1_some h
  refine xj_callJ (st := [vR 302 0, vR 311 0]) (ok_X2_init (nw (wr m34 11 0 9 1) 302 0) e39) dX11_init_108 cj_X11_62 rfl rfl (Nat.le_of_ble_eq_true rfl) (by decide) (by decide) (by decide) (by decide) ?_
  by_cases c40 : (m38 94 2 0) = 0
  · rw [if_pos c40] at h; cases h
  rw [if_neg c40] at h
  refine xj_view (k := 2) (by decide) c40 ?_
  refine xj_putC (k := 11) (t := (2, 0)) dX11_init_111 fc_X11_63 ic_X11_init rfl ?_
  refine xj_aload_n 0 dX11_init_114 rfl ?_
  by_cases c41 : (m38 94 306 0) = 0
  case neg => rw [if_neg c41] at h; cases h
  rw [if_pos c41] at h
  refine xj_new (k := 6) (i := 0) dX11_init_115 ck_X11_67 c41 (by decide) (by decide) ?_
  refine xj_dup dX11_init_118 rfl ?_
  refine xj_aload_n 0 dX11_init_119 rfl ?_
  by_cases c42 : (m38 11 0 1) = 0
  · rw [if_pos c42] at h; cases h
  rw [if_neg c42] at h
  refine xj_getC (k := 11) (t := (3, 0)) dX11_init_120 fl_X11_19 rfl c42 ?_
  refine xj_aload_n 0 dX11_init_123 rfl ?_
  by_cases c43 : (m38 11 0 3) = 0
  · rw [if_pos c43] at h; cases h
  rw [if_neg c43] at h
  refine xj_getC (k := 11) (t := (4, 0)) dX11_init_124 fl_X11_29 rfl c43 ?_
  obtain ⟨m44, e45, h⟩ := bd1_some h
  refine xj_callI (st := [vR 306 0, vR 311 0]) (ok_X6_init (nw (wr m38 11 0 10 1) 306 0) e45) dX11_init_127 ci_X11_69 rfl rfl (Nat.le_of_ble_eq_true rfl) (by decide) (by decide) (by decide) (by decide) ?_
  by_cases c46 : (m44 94 6 0) = 0
  · rw [if_pos c46] at h; cases h
  rw [if_neg c46] at h
  refine xj_view (k := 6) (by decide) c46 ?_
  refine xj_putC (k := 11) (t := (6, 0)) dX11_init_130 fc_X11_72 ic_X11_init rfl ?_
  refine xj_aload_n 0 dX11_init_133 rfl ?_
  by_cases c47 : (m44 94 309 0) = 0
  case neg => rw [if_neg c47] at h; cases h
  rw [if_pos c47] at h
  refine xj_new (k := 9) (i := 0) dX11_init_134 ck_X11_76 c47 (by decide) (by decide) ?_
  refine xj_dup dX11_init_137 rfl ?_
  refine xj_aload_n 0 dX11_init_138 rfl ?_
  by_cases c48 : (m44 11 0 1) = 0
  · rw [if_pos c48] at h; cases h
  rw [if_neg c48] at h
  refine xj_getC (k := 11) (t := (3, 0)) dX11_init_139 fl_X11_19 rfl c48 ?_
  refine xj_aload_n 0 dX11_init_142 rfl ?_
  refine xj_getC (k := 11) (t := (6, 0)) dX11_init_143 fl_X11_72 rfl (by simp [wr, nw, bas]) ?_
  refine xj_aload_n 0 dX11_init_146 rfl ?_
  by_cases c49 : (m44 11 0 8) = 0
  · rw [if_pos c49] at h; cases h
  rw [if_neg c49] at h
  refine xj_getC (k := 11) (t := (7, 0)) dX11_init_147 fl_X11_49 rfl c49 ?_
  obtain ⟨m50, e51, h⟩ := bd1_some h
  refine xj_callI (st := [vR 309 0, vR 311 0]) (ok_X9_init (nw (wr m44 11 0 11 1) 309 0) e51) dX11_init_150 ci_X11_78 rfl rfl (Nat.le_of_ble_eq_true rfl) (by decide) (by decide) (by decide) (by decide) ?_
  by_cases c52 : (m50 94 9 0) = 0
  · rw [if_pos c52] at h; cases h
  rw [if_neg c52] at h
  refine xj_view (k := 9) (by decide) c52 ?_
  refine xj_putC (k := 11) (t := (9, 0)) dX11_init_153 fc_X11_81 ic_X11_init rfl ?_
  refine xj_aload_n 0 dX11_init_156 rfl ?_
  by_cases c53 : (m50 94 300 0) = 0
  case neg => rw [if_neg c53] at h; cases h
  rw [if_pos c53] at h
  refine xj_new (k := 0) (i := 0) dX11_init_157 ck_X11_85 c53 (by decide) (by decide) ?_
  refine xj_dup dX11_init_160 rfl ?_
  refine xj_aload_n 0 dX11_init_161 rfl ?_
  by_cases c54 : (m50 11 0 1) = 0
  · rw [if_pos c54] at h; cases h
  rw [if_neg c54] at h
  refine xj_getC (k := 11) (t := (3, 0)) dX11_init_162 fl_X11_19 rfl c54 ?_
  refine xj_aload_n 0 dX11_init_165 rfl ?_
  by_cases c55 : (m50 11 0 11) = 0
  · rw [if_pos c55] at h; cases h
  rw [if_neg c55] at h
  refine xj_getC (k := 11) (t := (6, 0)) dX11_init_166 fl_X11_72 rfl c55 ?_
  obtain ⟨m56, e57, h⟩ := bd1_some h
  refine xj_callI (st := [vR 300 0, vR 311 0]) (ok_X0_init (nw (wr m50 11 0 7 1) 300 0) e57) dX11_init_169 ci_X11_87 rfl rfl (Nat.le_of_ble_eq_true rfl) (by decide) (by decide) (by decide) (by decide) ?_
  by_cases c58 : (m56 94 0 0) = 0
  · rw [if_pos c58] at h; cases h
  rw [if_neg c58] at h
  refine xj_view (k := 0) (by decide) c58 ?_
  refine xj_putC (k := 11) (t := (0, 0)) dX11_init_172 fc_X11_90 ic_X11_init rfl ?_
  refine xj_aload_n 0 dX11_init_175 rfl ?_
  by_cases c59 : (m56 94 310 0) = 0
  case neg => rw [if_neg c59] at h; cases h
  rw [if_pos c59] at h
  refine xj_new (k := 10) (i := 0) dX11_init_176 ck_X11_94 c59 (by decide) (by decide) ?_
  refine xj_dup dX11_init_179 rfl ?_
  refine xj_aload_n 0 dX11_init_180 rfl ?_
  by_cases c60 : (m56 11 0 1) = 0
  · rw [if_pos c60] at h; cases h
  rw [if_neg c60] at h
  refine xj_getC (k := 11) (t := (3, 0)) dX11_init_181 fl_X11_19 rfl c60 ?_
  refine xj_aload_n 0 dX11_init_184 rfl ?_
  by_cases c61 : (m56 11 0 11) = 0
  · rw [if_pos c61] at h; cases h
  rw [if_neg c61] at h
  refine xj_getC (k := 11) (t := (6, 0)) dX11_init_185 fl_X11_72 rfl c61 ?_
  obtain ⟨m62, e63, h⟩ := bd1_some h
  refine xj_callI (st := [vR 310 0, vR 311 0]) (ok_X10_init (nw (wr m56 11 0 12 1) 310 0) e63) dX11_init_188 ci_X11_96 rfl rfl (Nat.le_of_ble_eq_true rfl) (by decide) (by decide) (by decide) (by decide) ?_
  by_cases c64 : (m62 94 10 0) = 0
  · rw [if_pos c64] at h; cases h
  rw [if_neg c64] at h
  refine xj_view (k := 10) (by decide) c64 ?_
  refine xj_putC (k := 11) (t := (10, 0)) dX11_init_191 fc_X11_97 ic_X11_init rfl ?_
  by_cases c65 : (m62 94 11 0) = 0
  case neg => rw [if_neg c65] at h; cases h
  rw [if_pos c65] at h
  by_cases c66 : (m62 11 0 0) = 0
  · rw [if_pos c66] at h; cases h
  rw [if_neg c66] at h
  by_cases c67 : (m62 11 0 1) = 0
  · rw [if_pos c67] at h; cases h
  rw [if_neg c67] at h
  by_cases c68 : (m62 11 0 2) = 0
  · rw [if_pos c68] at h; cases h
  rw [if_neg c68] at h
  by_cases c69 : (m62 11 0 3) = 0
  · rw [if_pos c69] at h; cases h
  rw [if_neg c69] at h
  by_cases c70 : (m62 11 0 4) = 0
  · rw [if_pos c70] at h; cases h
  rw [if_neg c70] at h
  by_cases c71 : (m62 11 0 5) = 0
  · rw [if_pos c71] at h; cases h
  rw [if_neg c71] at h
  by_cases c72 : (m62 11 0 6) = 0
  · rw [if_pos c72] at h; cases h
  rw [if_neg c72] at h
  by_cases c73 : (m62 11 0 7) = 0
  · rw [if_pos c73] at h; cases h
  rw [if_neg c73] at h
  by_cases c74 : (m62 11 0 8) = 0
  · rw [if_pos c74] at h; cases h
  rw [if_neg c74] at h
  by_cases c75 : (m62 11 0 9) = 0
  · rw [if_pos c75] at h; cases h
  rw [if_neg c75] at h
  by_cases c76 : (m62 11 0 10) = 0
  · rw [if_pos c76] at h; cases h
  rw [if_neg c76] at h
  by_cases c77 : (m62 11 0 11) = 0
  · rw [if_pos c77] at h; cases h
  rw [if_neg c77] at h
  by_cases c78 : (m62 11 0 12) = 0
  · rw [if_pos c78] at h; cases h
  rw [if_neg c78] at h
  refine xj_done (k := 11) (by decide) c65 (fun j hj t ht => match j, hj, ht with | 0, _, _ => c66 | 1, _, _ => c67 | 2, _, _ => c68 | 3, _, _ => c69 | 4, _, _ => c70 | 5, _, _ => c71 | 6, _, _ => c72 | 7, _, _ => c73 | 8, _, _ => c74 | 9, _, _ => c75 | 10, _, _ => c76 | 11, _, _ => c77 | 12, _, _ => c78 | 13, _, _ => by simp [wr, nw, bas] | 14, _, ht => by cases ht | 15, _, ht => by cases ht | 16, _, ht => by cases ht | n + 17, hj, _ => absurd hj (by show ¬ n + 17 < 17; omega)) ?_
  cases h
  exact xj_return dX11_init_194 (by decide) (by decide)
noncomputable def r_X5_keepAt_j22_6 (i0 : Nat) (x1 : Int32) (i2 : Nat) (m : Mem) : Option Mem :=
  if inb x1 16 = true then (if (m 46 i0 x1.toNatClampNeg) = 0 then (none) else (bd1 (r_X7_copyFrom (3 + 16 * i0 + x1.toNatClampNeg) i2 m) fun m10 => (some m10))) else none
set_option maxHeartbeats 4000000 in
set_option maxRecDepth 20000 in
theorem ok_X5_keepAt_j22_6 (i0 : Nat) (x1 : Int32) (i2 : Nat) (m : Mem) {m' : Mem} (h : r_X5_keepAt_j22_6 i0 x1 i2 m = some m') : Xj RX5 cX5_keepAt 3 none 2 109 6 151 6 151 22 [(0, vR 5 i0), (1, vI x1), (2, vR 7 i2)] [] m oV m' := by
  unfold r_X5_keepAt_j22_6 at h
  refine xj_aload_n 0 dX5_keepAt_22 rfl ?_
  refine xg_getR (k' := 46) (i' := i0) dX5_keepAt_23 fl_X5_11 rfl ?_
  refine xj_iload_n 1 dX5_keepAt_26 rfl ?_
  by_cases c7 : inb x1 16 = true
  case neg => rw [if_neg c7] at h; cases h
  rw [if_pos c7] at h
  refine xg_aaldN (k' := 7) (i' := 3 + 16 * i0 + x1.toNatClampNeg) (n := x1.toNatClampNeg) (z := (m 46 i0 x1.toNatClampNeg)) dX5_keepAt_27 (by decide) (by decide) (inb_in c7) rfl rfl rfl (fun c8 => ?_) (fun c8 => ?_)
  · rw [if_pos c8] at h
    refine xj_aload_n 2 dX5_keepAt_28 rfl ?_
    cases h
  · rw [if_neg c8] at h
    refine xj_aload_n 2 dX5_keepAt_28 rfl ?_
    obtain ⟨m10, e9, h⟩ := bd1_some h
    refine xc_Vv0 (st := []) (ok_X7_copyFrom (3 + 16 * i0 + x1.toNatClampNeg) i2 m e9) dX5_keepAt_29 cv_X5_26 rfl rfl (Nat.le_of_ble_eq_true rfl) (by decide) (by decide) (by decide) (by decide) ?_
    cases h
    exact xj_return dX5_keepAt_32 (by decide) (by decide)
noncomputable def r_X5_keepAt_j22 (i0 : Nat) (x1 : Int32) (i2 : Nat) (m : Mem) : Option Mem :=
  if inb x1 16 = true then (if (m 46 i0 x1.toNatClampNeg) = 0 then (none) else (bd1 (r_X7_copyFrom (3 + 16 * i0 + x1.toNatClampNeg) i2 m) fun m14 => (some m14))) else none
set_option maxHeartbeats 4000000 in
set_option maxRecDepth 20000 in
theorem ok_X5_keepAt_j22 (i0 : Nat) (x1 : Int32) (i2 : Nat) (m : Mem) {m' : Mem} (h : r_X5_keepAt_j22 i0 x1 i2 m = some m') : Xj RX5 cX5_keepAt 3 none 2 109 6 151 0 0 22 [(0, vR 5 i0), (1, vI x1), (2, vR 7 i2)] [] m oV m' := by
  unfold r_X5_keepAt_j22 at h
  refine xj_aload_n 0 dX5_keepAt_22 rfl ?_
  refine xg_getR (k' := 46) (i' := i0) dX5_keepAt_23 fl_X5_11 rfl ?_
  refine xj_iload_n 1 dX5_keepAt_26 rfl ?_
  by_cases c11 : inb x1 16 = true
  case neg => rw [if_neg c11] at h; cases h
  rw [if_pos c11] at h
  refine xg_aaldN (k' := 7) (i' := 3 + 16 * i0 + x1.toNatClampNeg) (n := x1.toNatClampNeg) (z := (m 46 i0 x1.toNatClampNeg)) dX5_keepAt_27 (by decide) (by decide) (inb_in c11) rfl rfl rfl (fun c12 => ?_) (fun c12 => ?_)
  · rw [if_pos c12] at h
    refine xj_aload_n 2 dX5_keepAt_28 rfl ?_
    cases h
  · rw [if_neg c12] at h
    refine xj_aload_n 2 dX5_keepAt_28 rfl ?_
    obtain ⟨m14, e13, h⟩ := bd1_some h
    refine xc_Vv0 (st := []) (ok_X7_copyFrom (3 + 16 * i0 + x1.toNatClampNeg) i2 m e13) dX5_keepAt_29 cv_X5_26 rfl rfl (Nat.le_of_ble_eq_true rfl) (by decide) (by decide) (by decide) (by decide) ?_
    cases h
    exact xj_return dX5_keepAt_32 (by decide) (by decide)
noncomputable def r_X5_keepAt (i0 : Nat) (x1 : Int32) (i2 : Nat) (m : Mem) : Option Mem :=
  if inb x1 16 = true then (if (m 46 i0 x1.toNatClampNeg) = 0 then (if (m 94 307 (3 + 16 * i0 + x1.toNatClampNeg)) = 0 then (bd1 (r_X7_init (3 + 16 * i0 + x1.toNatClampNeg) (nw m 307 (3 + 16 * i0 + x1.toNatClampNeg))) fun m4 => (if (m4 94 7 (3 + 16 * i0 + x1.toNatClampNeg)) = 0 then none else (r_X5_keepAt_j22_6 i0 x1 i2 (wr m4 46 i0 x1.toNatClampNeg 1)))) else none) else (r_X5_keepAt_j22 i0 x1 i2 m)) else none
set_option maxHeartbeats 4000000 in
set_option maxRecDepth 20000 in
theorem ok_X5_keepAt (i0 : Nat) (x1 : Int32) (i2 : Nat) (m : Mem) {m' : Mem} (h : r_X5_keepAt i0 x1 i2 m = some m') : Mt yX5_keepAt cX5_keepAt 3 none 2 109 6 151 [vR 5 i0, vI x1, vR 7 i2] m oV m' := by
  refine Mt.of (by decide) (Nat.le_of_ble_eq_true rfl) (by decide +kernel) (hhF_ne (by decide)) ?_
  show Xj RX5 cX5_keepAt 3 none 2 109 6 151 0 0 0 [(0, vR 5 i0), (1, vI x1), (2, vR 7 i2)] [] m oV m'
  unfold r_X5_keepAt at h
  refine xj_aload_n 0 dX5_keepAt_0 rfl ?_
  refine xg_getR (k' := 46) (i' := i0) dX5_keepAt_1 fl_X5_11 rfl ?_
  refine xj_iload_n 1 dX5_keepAt_4 rfl ?_
  by_cases c1 : inb x1 16 = true
  case neg => rw [if_neg c1] at h; cases h
  rw [if_pos c1] at h
  refine xg_aaldN (k' := 7) (i' := 3 + 16 * i0 + x1.toNatClampNeg) (n := x1.toNatClampNeg) (z := (m 46 i0 x1.toNatClampNeg)) dX5_keepAt_5 (by decide) (by decide) (inb_in c1) rfl rfl rfl (fun c2 => ?_) (fun c2 => ?_)
  · rw [if_pos c2] at h
    refine xj_ifnonnullN dX5_keepAt_6 ?_
    refine xj_aload_n 0 dX5_keepAt_9 rfl ?_
    refine xg_getR (k' := 46) (i' := i0) dX5_keepAt_10 fl_X5_11 rfl ?_
    refine xj_iload_n 1 dX5_keepAt_13 rfl ?_
    by_cases c3 : (m 94 307 (3 + 16 * i0 + x1.toNatClampNeg)) = 0
    case neg => rw [if_neg c3] at h; cases h
    rw [if_pos c3] at h
    refine xj_new (k := 7) (i := 3 + 16 * i0 + x1.toNatClampNeg) dX5_keepAt_14 ck_X5_9 c3 (by decide) (by decide) ?_
    refine xj_dup dX5_keepAt_17 rfl ?_
    obtain ⟨m4, e5, h⟩ := bd1_some h
    refine xj_callJ (st := [vR 307 (3 + 16 * i0 + x1.toNatClampNeg), vI x1, vR 46 i0]) (ok_X7_init (3 + 16 * i0 + x1.toNatClampNeg) (nw m 307 (3 + 16 * i0 + x1.toNatClampNeg)) e5) dX5_keepAt_18 cj_X5_25 rfl rfl (Nat.le_of_ble_eq_true rfl) (by decide) (by decide) (by decide) (by decide) ?_
    by_cases c6 : (m4 94 7 (3 + 16 * i0 + x1.toNatClampNeg)) = 0
    · rw [if_pos c6] at h; cases h
    rw [if_neg c6] at h
    refine xj_view (k := 7) (by decide) c6 ?_
    refine xj_aast (c := 0) (k := 46) (k2 := 7) (i2 := 3 + 16 * i0 + x1.toNatClampNeg) dX5_keepAt_21 (Or.inl ⟨rfl, rfl⟩) (by decide) (inb_in c1) rfl ?_
    exact ok_X5_keepAt_j22_6 i0 x1 i2 (wr m4 46 i0 x1.toNatClampNeg 1) h 
  · rw [if_neg c2] at h
    refine xj_ifnonnull (tgt := 22) dX5_keepAt_6 (by decide) ?_
    exact ok_X5_keepAt_j22 i0 x1 i2 m h 
noncomputable def r_X5_push (i0 : Nat) (i1 : Nat) (m : Mem) : Option Mem :=
  if 16 ≤ (m 5 i0 0) then (some m) else (bd1 (r_X5_keepAt i0 (m 5 i0 0) i1 m) fun m3 => (some (wr m3 5 i0 0 ((m3 5 i0 0) + 1))))
set_option maxHeartbeats 4000000 in
set_option maxRecDepth 20000 in
theorem ok_X5_push (i0 : Nat) (i1 : Nat) (m : Mem) {m' : Mem} (h : r_X5_push i0 i1 m = some m') : Mt yX5_push cX5_push 2 none 3 131 6 151 [vR 5 i0, vR 7 i1] m oV m' := by
  refine Mt.of (by decide) (Nat.le_of_ble_eq_true rfl) (by decide +kernel) (hhF_ne (by decide)) ?_
  show Xj RX5 cX5_push 2 none 3 131 6 151 0 0 0 [(0, vR 5 i0), (1, vR 7 i1)] [] m oV m'
  unfold r_X5_push at h
  refine xj_aload_n 0 dX5_push_0 rfl ?_
  refine xg_getI (x := (m 5 i0 0)) dX5_push_1 fl_X5_17 rfl rfl ?_
  refine xj_bipush (z := 16) dX5_push_4 (by decide) ?_
  refine xj_icmp_ge (tgt := 28) dX5_push_6 (by decide) (fun c1 => ?_) (fun c1 => ?_)
  · rw [if_pos c1] at h
    cases h
    exact xj_return dX5_push_28 (by decide) (by decide)
  · rw [if_neg c1] at h
    refine xj_aload_n 0 dX5_push_9 rfl ?_
    refine xj_aload_n 0 dX5_push_10 rfl ?_
    refine xg_getI (x := (m 5 i0 0)) dX5_push_11 fl_X5_17 rfl rfl ?_
    refine xj_aload_n 1 dX5_push_14 rfl ?_
    obtain ⟨m3, e2, h⟩ := bd1_some h
    refine xc_Vv (st := []) (ok_X5_keepAt i0 (m 5 i0 0) i1 m e2) dX5_push_15 cv_X5_21 rfl rfl (Nat.le_of_ble_eq_true rfl) (by decide) (by decide) (by decide) (by decide) ?_
    refine xj_aload_n 0 dX5_push_18 rfl ?_
    refine xj_dup dX5_push_19 rfl ?_
    refine xg_getI (x := (m3 5 i0 0)) dX5_push_20 fl_X5_17 rfl rfl ?_
    refine xj_iconst (z := 1) dX5_push_23 (by decide) ?_
    refine xj_iadd dX5_push_24 ?_
    refine xj_putI dX5_push_25 fw_X5_17 rfl ?_
    cases h
    exact xj_return dX5_push_28 (by decide) (by decide)
noncomputable def r_X5_copyFrom_b2 (i0 : Nat) (i1 : Nat) (x2 : Int32) (m : Mem) : Option ((Int32 × Mem) ⊕ (Mem)) :=
  if leb x2 16 = true then (if (m 5 i1 0) ≤ x2 then (some (Sum.inr m)) else (if inb x2 16 = true then (if (m 46 i1 x2.toNatClampNeg) = 0 then (some (Sum.inl (x2 + 1, m))) else (if (m 46 i1 x2.toNatClampNeg) = 0 then (none) else (bd1 (r_X5_keepAt i0 x2 (3 + 16 * i1 + x2.toNatClampNeg) m) fun m7 => (some (Sum.inl (x2 + 1, m7)))))) else none)) else none
set_option maxHeartbeats 4000000 in
set_option maxRecDepth 20000 in
theorem ok_X5_copyFrom_b2 (i0 : Nat) (i1 : Nat) (x2 : Int32) (m : Mem) {r : (Int32 × Mem) ⊕ (Mem)} (h : r_X5_copyFrom_b2 i0 i1 x2 m = some r) {o : Ou} {M' : Mem} (kb : ∀ (x2' : Int32) (m'' : Mem), r = Sum.inl (x2', m'') → Xj RX5 cX5_copyFrom 3 none 3 131 102 2567 (6 * (x2' : Int32).toNatClampNeg) (151 * (x2' : Int32).toNatClampNeg) 2 [(0, vR 5 i0), (1, vR 5 i1), (2, vI x2')] [] m'' o M') (ke : ∀ (m'' : Mem), r = Sum.inr m'' → Xj RX5 cX5_copyFrom 3 none 3 131 102 2567 96 2416 36 [(0, vR 5 i0), (1, vR 5 i1)] [] m'' o M') : Xj RX5 cX5_copyFrom 3 none 3 131 102 2567 (6 * (x2 : Int32).toNatClampNeg) (151 * (x2 : Int32).toNatClampNeg) 2 [(0, vR 5 i0), (1, vR 5 i1), (2, vI x2)] [] m o M' := by
  unfold r_X5_copyFrom_b2 at h
  by_cases c1 : leb x2 16 = true
  case neg => rw [if_neg c1] at h; cases h
  rw [if_pos c1] at h
  refine xj_iload_n 2 dX5_copyFrom_2 rfl ?_
  refine xj_aload_n 1 dX5_copyFrom_3 rfl ?_
  refine xg_getI (x := (m 5 i1 0)) dX5_copyFrom_4 fl_X5_17 rfl rfl ?_
  refine xj_icmp_ge (tgt := 36) dX5_copyFrom_7 (by decide) (fun c2 => ?_) (fun c2 => ?_)
  · rw [if_pos c2] at h
    cases h
    have w9 := leb_le c1
    refine xj_widen (u2 := 96) (v2 := 2416) (by omega) (by omega) ?_
    refine xj_pick (ls' := [(0, vR 5 i0), (1, vR 5 i1)]) [0, 1] rfl ?_
    exact ke m rfl
  · rw [if_neg c2] at h
    refine xj_aload_n 1 dX5_copyFrom_10 rfl ?_
    refine xg_getR (k' := 46) (i' := i1) dX5_copyFrom_11 fl_X5_11 rfl ?_
    refine xj_iload_n 2 dX5_copyFrom_14 rfl ?_
    by_cases c3 : inb x2 16 = true
    case neg => rw [if_neg c3] at h; cases h
    rw [if_pos c3] at h
    refine xg_aaldN (k' := 7) (i' := 3 + 16 * i1 + x2.toNatClampNeg) (n := x2.toNatClampNeg) (z := (m 46 i1 x2.toNatClampNeg)) dX5_copyFrom_15 (by decide) (by decide) (inb_in c3) rfl rfl rfl (fun c4 => ?_) (fun c4 => ?_)
    · rw [if_pos c4] at h
      refine xj_ifnullN (tgt := 30) dX5_copyFrom_16 (by decide) ?_
      refine xj_iinc (z := x2 + 1) (ls' := [(2, vI (x2 + 1)), (0, vR 5 i0), (1, vR 5 i1)]) 2 dX5_copyFrom_30 rfl rfl (by decide) rfl ?_
      refine xj_goto (tgt := 2) dX5_copyFrom_33 (by decide) ?_
      cases h
      refine xj_widen (u2 := (6 * (x2 + 1 : Int32).toNatClampNeg)) (v2 := (151 * (x2 + 1 : Int32).toNatClampNeg)) (by rw [inb_succ c3 (by decide)]; omega) (by rw [inb_succ c3 (by decide)]; omega) ?_
      refine xj_pick (ls' := [(0, vR 5 i0), (1, vR 5 i1), (2, vI (x2 + 1))]) [1, 2, 0] rfl ?_
      exact kb (x2 + 1) m rfl
    · rw [if_neg c4] at h
      refine xj_ifnull dX5_copyFrom_16 ?_
      refine xj_aload_n 0 dX5_copyFrom_19 rfl ?_
      refine xj_iload_n 2 dX5_copyFrom_20 rfl ?_
      refine xj_aload_n 1 dX5_copyFrom_21 rfl ?_
      refine xg_getR (k' := 46) (i' := i1) dX5_copyFrom_22 fl_X5_11 rfl ?_
      refine xj_iload_n 2 dX5_copyFrom_25 rfl ?_
      refine xg_aaldN (k' := 7) (i' := 3 + 16 * i1 + x2.toNatClampNeg) (n := x2.toNatClampNeg) (z := (m 46 i1 x2.toNatClampNeg)) dX5_copyFrom_26 (by decide) (by decide) (inb_in c3) rfl rfl rfl (fun c5 => ?_) (fun c5 => ?_)
      · rw [if_pos c5] at h
        cases h
      · rw [if_neg c5] at h
        obtain ⟨m7, e6, h⟩ := bd1_some h
        refine xc_Vv (st := []) (ok_X5_keepAt i0 x2 (3 + 16 * i1 + x2.toNatClampNeg) m e6) dX5_copyFrom_27 cv_X5_21 rfl rfl (Nat.le_of_ble_eq_true rfl) (by decide) (by decide) (by have := leb_le c1; omega) (by have := leb_le c1; omega) ?_
        refine xj_iinc (z := x2 + 1) (ls' := [(2, vI (x2 + 1)), (0, vR 5 i0), (1, vR 5 i1)]) 2 dX5_copyFrom_30 rfl rfl (by decide) rfl ?_
        refine xj_goto (tgt := 2) dX5_copyFrom_33 (by decide) ?_
        cases h
        refine xj_widen (u2 := (6 * (x2 + 1 : Int32).toNatClampNeg)) (v2 := (151 * (x2 + 1 : Int32).toNatClampNeg)) (by rw [inb_succ c3 (by decide)]; omega) (by rw [inb_succ c3 (by decide)]; omega) ?_
        refine xj_pick (ls' := [(0, vR 5 i0), (1, vR 5 i1), (2, vI (x2 + 1))]) [1, 2, 0] rfl ?_
        exact kb (x2 + 1) m7 rfl
noncomputable def r_X5_copyFrom_e36_h2 (i0 : Nat) (i1 : Nat) (m : Mem) : Option Mem :=
  some (wr m 5 i0 0 (m 5 i1 0))
set_option maxHeartbeats 4000000 in
set_option maxRecDepth 20000 in
theorem ok_X5_copyFrom_e36_h2 (i0 : Nat) (i1 : Nat) (m : Mem) {m' : Mem} (h : r_X5_copyFrom_e36_h2 i0 i1 m = some m') : Xj RX5 cX5_copyFrom 3 none 3 131 102 2567 96 2416 36 [(0, vR 5 i0), (1, vR 5 i1)] [] m oV m' := by
  unfold r_X5_copyFrom_e36_h2 at h
  refine xj_aload_n 0 dX5_copyFrom_36 rfl ?_
  refine xj_aload_n 1 dX5_copyFrom_37 rfl ?_
  refine xg_getI (x := (m 5 i1 0)) dX5_copyFrom_38 fl_X5_17 rfl rfl ?_
  refine xj_putI dX5_copyFrom_41 fw_X5_17 rfl ?_
  cases h
  exact xj_return dX5_copyFrom_44 (by decide) (by decide)
noncomputable def r_X5_copyFrom_l2 (i0 : Nat) (i1 : Nat) (x2 : Int32) (m : Mem) : Option Mem :=
  bd1 (loopO (fun s => r_X5_copyFrom_b2 i0 i1 s.1 s.2) (x2, m)) (fun e => r_X5_copyFrom_e36_h2 i0 i1 e)
set_option maxHeartbeats 4000000 in
set_option maxRecDepth 20000 in
theorem ok_X5_copyFrom_l2 (i0 : Nat) (i1 : Nat) (x2 : Int32) (m : Mem) {m' : Mem} (h : r_X5_copyFrom_l2 i0 i1 x2 m = some m') : Xj RX5 cX5_copyFrom 3 none 3 131 102 2567 (6 * (x2 : Int32).toNatClampNeg) (151 * (x2 : Int32).toNatClampNeg) 2 [(0, vR 5 i0), (1, vR 5 i1), (2, vI x2)] [] m oV m' := by
  unfold r_X5_copyFrom_l2 at h
  obtain ⟨e, e1, h⟩ := bd1_some h
  refine loopO_ok (P := fun s : (Int32 × Mem) => Xj RX5 cX5_copyFrom 3 none 3 131 102 2567 (6 * (s.1 : Int32).toNatClampNeg) (151 * (s.1 : Int32).toNatClampNeg) 2 [(0, vR 5 i0), (1, vR 5 i1), (2, vI s.1)] [] s.2 oV m') (Q := fun e : (Mem) => Xj RX5 cX5_copyFrom 3 none 3 131 102 2567 96 2416 36 [(0, vR 5 i0), (1, vR 5 i1)] [] e oV m') ?_ _ _ e1 ?_
  · intro s r9 h9 hi hx
    exact ok_X5_copyFrom_b2 i0 i1 s.1 s.2 h9 (by rintro _ _ rfl; exact hi _ rfl) (by rintro _ rfl; exact hx _ rfl)
  · exact ok_X5_copyFrom_e36_h2 i0 i1 e h 
noncomputable def r_X5_copyFrom (i0 : Nat) (i1 : Nat) (m : Mem) : Option Mem :=
  r_X5_copyFrom_l2 i0 i1 0 m
set_option maxHeartbeats 4000000 in
set_option maxRecDepth 20000 in
theorem ok_X5_copyFrom (i0 : Nat) (i1 : Nat) (m : Mem) {m' : Mem} (h : r_X5_copyFrom i0 i1 m = some m') : Mt yX5_copyFrom cX5_copyFrom 3 none 3 131 102 2567 [vR 5 i0, vR 5 i1] m oV m' := by
  refine Mt.of (by decide) (Nat.le_of_ble_eq_true rfl) (by decide +kernel) (hhF_ne (by decide)) ?_
  show Xj RX5 cX5_copyFrom 3 none 3 131 102 2567 0 0 0 [(0, vR 5 i0), (1, vR 5 i1)] [] m oV m'
  unfold r_X5_copyFrom at h
  refine xj_iconst (z := 0) dX5_copyFrom_0 (by decide) ?_
  refine xj_istore_n (ls' := [(2, vI 0), (0, vR 5 i0), (1, vR 5 i1)]) dX5_copyFrom_1 rfl (by decide) rfl ?_
  refine xj_widen (u2 := (6 * (0 : Int32).toNatClampNeg)) (v2 := (151 * (0 : Int32).toNatClampNeg)) (by decide) (by decide) ?_
  refine xj_pick (ls' := [(0, vR 5 i0), (1, vR 5 i1), (2, vI 0)]) [1, 2, 0] rfl ?_
  exact ok_X5_copyFrom_l2 i0 i1 0 m h 
noncomputable def r_X2_keep_j66_8 (i1 : Nat) (i2 : Nat) (m : Mem) : Option (Bool × Mem) :=
  if inb (m 2 0 0) 3 = true then (if (m 47 0 ((m 2 0 0).toNatClampNeg)) = 0 then (none) else (bd1 (r_X7_copyFrom (67 + ((m 2 0 0).toNatClampNeg)) i1 m) fun m17 => (if inb (m17 2 0 0) 3 = true then (if (m17 48 0 ((m17 2 0 0).toNatClampNeg)) = 0 then (none) else (bd1 (r_X5_copyFrom (1 + ((m17 2 0 0).toNatClampNeg)) i2 m17) fun m21 => (some (true, (wr m21 2 0 0 ((m21 2 0 0) + 1)))))) else none))) else none
set_option maxHeartbeats 4000000 in
set_option maxRecDepth 20000 in
theorem ok_X2_keep_j66_8 (i1 : Nat) (i2 : Nat) (m : Mem) {z : Bool} {m' : Mem} (h : r_X2_keep_j66_8 i1 i2 m = some (z, m')) : Xj RX2 cX2_keep 3 (some .boolean) 4 153 110 2736 8 169 66 [(0, vR 2 0), (1, vR 7 i1), (2, vR 5 i2)] [] m (oB z) m' := by
  unfold r_X2_keep_j66_8 at h
  refine xj_aload_n 0 dX2_keep_66 rfl ?_
  refine xg_getR (k' := 47) (i' := 0) dX2_keep_67 fl_X2_11 rfl ?_
  refine xj_aload_n 0 dX2_keep_70 rfl ?_
  refine xg_getI (x := (m 2 0 0)) dX2_keep_71 fl_X2_23 rfl rfl ?_
  by_cases c14 : inb (m 2 0 0) 3 = true
  case neg => rw [if_neg c14] at h; cases h
  rw [if_pos c14] at h
  refine xg_aaldN (k' := 7) (i' := 67 + ((m 2 0 0).toNatClampNeg)) (n := (m 2 0 0).toNatClampNeg) (z := (m 47 0 ((m 2 0 0).toNatClampNeg))) dX2_keep_74 (by decide) (by decide) (inb_in c14) rfl rfl rfl (fun c15 => ?_) (fun c15 => ?_)
  · rw [if_pos c15] at h
    refine xj_aload_n 1 dX2_keep_75 rfl ?_
    cases h
  · rw [if_neg c15] at h
    refine xj_aload_n 1 dX2_keep_75 rfl ?_
    obtain ⟨m17, e16, h⟩ := bd1_some h
    refine xc_Vv0 (st := []) (ok_X7_copyFrom (67 + ((m 2 0 0).toNatClampNeg)) i1 m e16) dX2_keep_76 cv_X2_29 rfl rfl (Nat.le_of_ble_eq_true rfl) (by decide) (by decide) (by decide) (by decide) ?_
    refine xj_aload_n 0 dX2_keep_79 rfl ?_
    refine xg_getR (k' := 48) (i' := 0) dX2_keep_80 fl_X2_19 rfl ?_
    refine xj_aload_n 0 dX2_keep_83 rfl ?_
    refine xg_getI (x := (m17 2 0 0)) dX2_keep_84 fl_X2_23 rfl rfl ?_
    by_cases c18 : inb (m17 2 0 0) 3 = true
    case neg => rw [if_neg c18] at h; cases h
    rw [if_pos c18] at h
    refine xg_aaldN (k' := 5) (i' := 1 + ((m17 2 0 0).toNatClampNeg)) (n := (m17 2 0 0).toNatClampNeg) (z := (m17 48 0 ((m17 2 0 0).toNatClampNeg))) dX2_keep_87 (by decide) (by decide) (inb_in c18) rfl rfl rfl (fun c19 => ?_) (fun c19 => ?_)
    · rw [if_pos c19] at h
      refine xj_aload_n 2 dX2_keep_88 rfl ?_
      cases h
    · rw [if_neg c19] at h
      refine xj_aload_n 2 dX2_keep_88 rfl ?_
      obtain ⟨m21, e20, h⟩ := bd1_some h
      refine xc_Vv (st := []) (ok_X5_copyFrom (1 + ((m17 2 0 0).toNatClampNeg)) i2 m17 e20) dX2_keep_89 cv_X2_33 rfl rfl (Nat.le_of_ble_eq_true rfl) (by decide) (by decide) (by decide) (by decide) ?_
      refine xj_aload_n 0 dX2_keep_92 rfl ?_
      refine xj_dup dX2_keep_93 rfl ?_
      refine xg_getI (x := (m21 2 0 0)) dX2_keep_94 fl_X2_23 rfl rfl ?_
      refine xj_iconst (z := 1) dX2_keep_97 (by decide) ?_
      refine xj_iadd dX2_keep_98 ?_
      refine xj_putI dX2_keep_99 fw_X2_23 rfl ?_
      refine xj_iconst (z := 1) dX2_keep_102 (by decide) ?_
      cases h
      exact xj_ireturn dX2_keep_103 rfl (by decide) (by decide)
noncomputable def r_X2_keep_j34 (i1 : Nat) (i2 : Nat) (m : Mem) : Option (Bool × Mem) :=
  if (m 94 307 (67 + (m 2 0 0).toNatClampNeg)) = 0 then (bd1 (r_X7_init (67 + (m 2 0 0).toNatClampNeg) (nw m 307 (67 + (m 2 0 0).toNatClampNeg))) fun m5 => (if (m5 94 7 (67 + (m 2 0 0).toNatClampNeg)) = 0 then none else (if inb (m 2 0 0) 3 = true then (if (m5 94 305 (1 + (m5 2 0 0).toNatClampNeg)) = 0 then (bd1 (r_X5_init (1 + (m5 2 0 0).toNatClampNeg) (nw (wr m5 47 0 ((m 2 0 0).toNatClampNeg) 1) 305 (1 + (m5 2 0 0).toNatClampNeg))) fun m10 => (if (m10 94 5 (1 + (m5 2 0 0).toNatClampNeg)) = 0 then none else (if inb (m5 2 0 0) 3 = true then (r_X2_keep_j66_8 i1 i2 (wr m10 48 0 ((m5 2 0 0).toNatClampNeg) 1)) else none))) else none) else none))) else none
set_option maxHeartbeats 4000000 in
set_option maxRecDepth 20000 in
theorem ok_X2_keep_j34 (i1 : Nat) (i2 : Nat) (m : Mem) {z : Bool} {m' : Mem} (h : r_X2_keep_j34 i1 i2 m = some (z, m')) : Xj RX2 cX2_keep 3 (some .boolean) 4 153 110 2736 0 0 34 [(0, vR 2 0), (1, vR 7 i1), (2, vR 5 i2)] [] m (oB z) m' := by
  unfold r_X2_keep_j34 at h
  refine xj_aload_n 0 dX2_keep_34 rfl ?_
  refine xg_getR (k' := 47) (i' := 0) dX2_keep_35 fl_X2_11 rfl ?_
  refine xj_aload_n 0 dX2_keep_38 rfl ?_
  refine xg_getI (x := (m 2 0 0)) dX2_keep_39 fl_X2_23 rfl rfl ?_
  by_cases c4 : (m 94 307 (67 + (m 2 0 0).toNatClampNeg)) = 0
  case neg => rw [if_neg c4] at h; cases h
  rw [if_pos c4] at h
  refine xj_new (k := 7) (i := 67 + (m 2 0 0).toNatClampNeg) dX2_keep_42 ck_X2_9 c4 (by decide) (by decide) ?_
  refine xj_dup dX2_keep_45 rfl ?_
  obtain ⟨m5, e6, h⟩ := bd1_some h
  refine xj_callJ (st := [vR 307 (67 + (m 2 0 0).toNatClampNeg), vI (m 2 0 0), vR 47 0]) (ok_X7_init (67 + (m 2 0 0).toNatClampNeg) (nw m 307 (67 + (m 2 0 0).toNatClampNeg)) e6) dX2_keep_46 cj_X2_27 rfl rfl (Nat.le_of_ble_eq_true rfl) (by decide) (by decide) (by decide) (by decide) ?_
  by_cases c7 : (m5 94 7 (67 + (m 2 0 0).toNatClampNeg)) = 0
  · rw [if_pos c7] at h; cases h
  rw [if_neg c7] at h
  refine xj_view (k := 7) (by decide) c7 ?_
  by_cases c8 : inb (m 2 0 0) 3 = true
  case neg => rw [if_neg c8] at h; cases h
  rw [if_pos c8] at h
  refine xj_aast (c := 0) (k := 47) (k2 := 7) (i2 := 67 + (m 2 0 0).toNatClampNeg) dX2_keep_49 (Or.inl ⟨rfl, rfl⟩) (by decide) (inb_in c8) rfl ?_
  refine xj_aload_n 0 dX2_keep_50 rfl ?_
  refine xg_getR (k' := 48) (i' := 0) dX2_keep_51 fl_X2_19 rfl ?_
  refine xj_aload_n 0 dX2_keep_54 rfl ?_
  refine xg_getI (x := (m5 2 0 0)) dX2_keep_55 fl_X2_23 rfl rfl ?_
  by_cases c9 : (m5 94 305 (1 + (m5 2 0 0).toNatClampNeg)) = 0
  case neg => rw [if_neg c9] at h; cases h
  rw [if_pos c9] at h
  refine xj_new (k := 5) (i := 1 + (m5 2 0 0).toNatClampNeg) dX2_keep_58 ck_X2_17 c9 (by decide) (by decide) ?_
  refine xj_dup dX2_keep_61 rfl ?_
  obtain ⟨m10, e11, h⟩ := bd1_some h
  refine xj_callJ (st := [vR 305 (1 + (m5 2 0 0).toNatClampNeg), vI (m5 2 0 0), vR 48 0]) (ok_X5_init (1 + (m5 2 0 0).toNatClampNeg) (nw (wr m5 47 0 ((m 2 0 0).toNatClampNeg) 1) 305 (1 + (m5 2 0 0).toNatClampNeg)) e11) dX2_keep_62 cj_X2_28 rfl rfl (Nat.le_of_ble_eq_true rfl) (by decide) (by decide) (by decide) (by decide) ?_
  by_cases c12 : (m10 94 5 (1 + (m5 2 0 0).toNatClampNeg)) = 0
  · rw [if_pos c12] at h; cases h
  rw [if_neg c12] at h
  refine xj_view (k := 5) (by decide) c12 ?_
  by_cases c13 : inb (m5 2 0 0) 3 = true
  case neg => rw [if_neg c13] at h; cases h
  rw [if_pos c13] at h
  refine xj_aast (c := 0) (k := 48) (k2 := 5) (i2 := 1 + (m5 2 0 0).toNatClampNeg) dX2_keep_65 (Or.inr ⟨rfl, rfl⟩) (by decide) (inb_in c13) rfl ?_
  exact ok_X2_keep_j66_8 i1 i2 (wr m10 48 0 ((m5 2 0 0).toNatClampNeg) 1) h 
noncomputable def r_X2_keep_j66 (i1 : Nat) (i2 : Nat) (m : Mem) : Option (Bool × Mem) :=
  if inb (m 2 0 0) 3 = true then (if (m 47 0 ((m 2 0 0).toNatClampNeg)) = 0 then (none) else (bd1 (r_X7_copyFrom (67 + ((m 2 0 0).toNatClampNeg)) i1 m) fun m26 => (if inb (m26 2 0 0) 3 = true then (if (m26 48 0 ((m26 2 0 0).toNatClampNeg)) = 0 then (none) else (bd1 (r_X5_copyFrom (1 + ((m26 2 0 0).toNatClampNeg)) i2 m26) fun m30 => (some (true, (wr m30 2 0 0 ((m30 2 0 0) + 1)))))) else none))) else none
set_option maxHeartbeats 4000000 in
set_option maxRecDepth 20000 in
theorem ok_X2_keep_j66 (i1 : Nat) (i2 : Nat) (m : Mem) {z : Bool} {m' : Mem} (h : r_X2_keep_j66 i1 i2 m = some (z, m')) : Xj RX2 cX2_keep 3 (some .boolean) 4 153 110 2736 0 0 66 [(0, vR 2 0), (1, vR 7 i1), (2, vR 5 i2)] [] m (oB z) m' := by
  unfold r_X2_keep_j66 at h
  refine xj_aload_n 0 dX2_keep_66 rfl ?_
  refine xg_getR (k' := 47) (i' := 0) dX2_keep_67 fl_X2_11 rfl ?_
  refine xj_aload_n 0 dX2_keep_70 rfl ?_
  refine xg_getI (x := (m 2 0 0)) dX2_keep_71 fl_X2_23 rfl rfl ?_
  by_cases c23 : inb (m 2 0 0) 3 = true
  case neg => rw [if_neg c23] at h; cases h
  rw [if_pos c23] at h
  refine xg_aaldN (k' := 7) (i' := 67 + ((m 2 0 0).toNatClampNeg)) (n := (m 2 0 0).toNatClampNeg) (z := (m 47 0 ((m 2 0 0).toNatClampNeg))) dX2_keep_74 (by decide) (by decide) (inb_in c23) rfl rfl rfl (fun c24 => ?_) (fun c24 => ?_)
  · rw [if_pos c24] at h
    refine xj_aload_n 1 dX2_keep_75 rfl ?_
    cases h
  · rw [if_neg c24] at h
    refine xj_aload_n 1 dX2_keep_75 rfl ?_
    obtain ⟨m26, e25, h⟩ := bd1_some h
    refine xc_Vv0 (st := []) (ok_X7_copyFrom (67 + ((m 2 0 0).toNatClampNeg)) i1 m e25) dX2_keep_76 cv_X2_29 rfl rfl (Nat.le_of_ble_eq_true rfl) (by decide) (by decide) (by decide) (by decide) ?_
    refine xj_aload_n 0 dX2_keep_79 rfl ?_
    refine xg_getR (k' := 48) (i' := 0) dX2_keep_80 fl_X2_19 rfl ?_
    refine xj_aload_n 0 dX2_keep_83 rfl ?_
    refine xg_getI (x := (m26 2 0 0)) dX2_keep_84 fl_X2_23 rfl rfl ?_
    by_cases c27 : inb (m26 2 0 0) 3 = true
    case neg => rw [if_neg c27] at h; cases h
    rw [if_pos c27] at h
    refine xg_aaldN (k' := 5) (i' := 1 + ((m26 2 0 0).toNatClampNeg)) (n := (m26 2 0 0).toNatClampNeg) (z := (m26 48 0 ((m26 2 0 0).toNatClampNeg))) dX2_keep_87 (by decide) (by decide) (inb_in c27) rfl rfl rfl (fun c28 => ?_) (fun c28 => ?_)
    · rw [if_pos c28] at h
      refine xj_aload_n 2 dX2_keep_88 rfl ?_
      cases h
    · rw [if_neg c28] at h
      refine xj_aload_n 2 dX2_keep_88 rfl ?_
      obtain ⟨m30, e29, h⟩ := bd1_some h
      refine xc_Vv (st := []) (ok_X5_copyFrom (1 + ((m26 2 0 0).toNatClampNeg)) i2 m26 e29) dX2_keep_89 cv_X2_33 rfl rfl (Nat.le_of_ble_eq_true rfl) (by decide) (by decide) (by decide) (by decide) ?_
      refine xj_aload_n 0 dX2_keep_92 rfl ?_
      refine xj_dup dX2_keep_93 rfl ?_
      refine xg_getI (x := (m30 2 0 0)) dX2_keep_94 fl_X2_23 rfl rfl ?_
      refine xj_iconst (z := 1) dX2_keep_97 (by decide) ?_
      refine xj_iadd dX2_keep_98 ?_
      refine xj_putI dX2_keep_99 fw_X2_23 rfl ?_
      refine xj_iconst (z := 1) dX2_keep_102 (by decide) ?_
      cases h
      exact xj_ireturn dX2_keep_103 rfl (by decide) (by decide)
noncomputable def r_X2_keep (i1 : Nat) (i2 : Nat) (m : Mem) : Option (Bool × Mem) :=
  if (m 2 0 0) < 3 then (if inb (m 2 0 0) 3 = true then (if (m 47 0 ((m 2 0 0).toNatClampNeg)) = 0 then (r_X2_keep_j34 i1 i2 m) else (if (m 48 0 ((m 2 0 0).toNatClampNeg)) = 0 then (r_X2_keep_j34 i1 i2 m) else (r_X2_keep_j66 i1 i2 m))) else none) else (some (false, m))
set_option maxHeartbeats 4000000 in
set_option maxRecDepth 20000 in
theorem ok_X2_keep (i1 : Nat) (i2 : Nat) (m : Mem) {z : Bool} {m' : Mem} (h : r_X2_keep i1 i2 m = some (z, m')) : Mt yX2_keep cX2_keep 3 (some .boolean) 4 153 110 2736 [vR 2 0, vR 7 i1, vR 5 i2] m (oB z) m' := by
  refine Mt.of (by decide) (Nat.le_of_ble_eq_true rfl) (by decide +kernel) (hhF_ne (by decide)) ?_
  show Xj RX2 cX2_keep 3 (some .boolean) 4 153 110 2736 0 0 0 [(0, vR 2 0), (1, vR 7 i1), (2, vR 5 i2)] [] m (oB z) m'
  unfold r_X2_keep at h
  refine xj_aload_n 0 dX2_keep_0 rfl ?_
  refine xg_getI (x := (m 2 0 0)) dX2_keep_1 fl_X2_23 rfl rfl ?_
  refine xj_iconst (z := 3) dX2_keep_4 (by decide) ?_
  refine xj_icmp_lt (tgt := 10) dX2_keep_5 (by decide) (fun c1 => ?_) (fun c1 => ?_)
  · rw [if_pos c1] at h
    refine xj_aload_n 0 dX2_keep_10 rfl ?_
    refine xg_getR (k' := 47) (i' := 0) dX2_keep_11 fl_X2_11 rfl ?_
    refine xj_aload_n 0 dX2_keep_14 rfl ?_
    refine xg_getI (x := (m 2 0 0)) dX2_keep_15 fl_X2_23 rfl rfl ?_
    by_cases c2 : inb (m 2 0 0) 3 = true
    case neg => rw [if_neg c2] at h; cases h
    rw [if_pos c2] at h
    refine xg_aaldN (k' := 7) (i' := 67 + ((m 2 0 0).toNatClampNeg)) (n := (m 2 0 0).toNatClampNeg) (z := (m 47 0 ((m 2 0 0).toNatClampNeg))) dX2_keep_18 (by decide) (by decide) (inb_in c2) rfl rfl rfl (fun c3 => ?_) (fun c3 => ?_)
    · rw [if_pos c3] at h
      refine xj_ifnullN (tgt := 34) dX2_keep_19 (by decide) ?_
      exact ok_X2_keep_j34 i1 i2 m h 
    · rw [if_neg c3] at h
      refine xj_ifnull dX2_keep_19 ?_
      refine xj_aload_n 0 dX2_keep_22 rfl ?_
      refine xg_getR (k' := 48) (i' := 0) dX2_keep_23 fl_X2_19 rfl ?_
      refine xj_aload_n 0 dX2_keep_26 rfl ?_
      refine xg_getI (x := (m 2 0 0)) dX2_keep_27 fl_X2_23 rfl rfl ?_
      refine xg_aaldN (k' := 5) (i' := 1 + ((m 2 0 0).toNatClampNeg)) (n := (m 2 0 0).toNatClampNeg) (z := (m 48 0 ((m 2 0 0).toNatClampNeg))) dX2_keep_30 (by decide) (by decide) (inb_in c2) rfl rfl rfl (fun c22 => ?_) (fun c22 => ?_)
      · rw [if_pos c22] at h
        refine xj_ifnonnullN dX2_keep_31 ?_
        exact ok_X2_keep_j34 i1 i2 m h 
      · rw [if_neg c22] at h
        refine xj_ifnonnull (tgt := 66) dX2_keep_31 (by decide) ?_
        exact ok_X2_keep_j66 i1 i2 m h 
  · rw [if_neg c1] at h
    refine xj_iconst (z := 0) dX2_keep_8 (by decide) ?_
    cases h
    exact xj_ireturn dX2_keep_9 rfl (by decide) (by decide)
noncomputable def r_X2_putBack (i1 : Nat) (i2 : Nat) (m : Mem) : Option (Bool × Mem) :=
  if (m 2 0 0) = 0 then (some (false, m)) else (if inb ((m 2 0 0) - 1) 3 = true then (if (m 47 0 (((m 2 0 0) - 1).toNatClampNeg)) = 0 then (some (false, m)) else (if (m 48 0 (((m 2 0 0) - 1).toNatClampNeg)) = 0 then (some (false, m)) else (if (m 47 0 (((m 2 0 0) - 1).toNatClampNeg)) = 0 then (none) else (bd1 (r_X7_copyFrom i1 (67 + (((m 2 0 0) - 1).toNatClampNeg)) (wr m 2 0 0 ((m 2 0 0) - 1))) fun m7 => (if inb (m7 2 0 0) 3 = true then (if (m7 48 0 ((m7 2 0 0).toNatClampNeg)) = 0 then (none) else (bd1 (r_X5_copyFrom i2 (1 + ((m7 2 0 0).toNatClampNeg)) m7) fun m11 => (some (true, m11)))) else none))))) else none)
set_option maxHeartbeats 4000000 in
set_option maxRecDepth 20000 in
theorem ok_X2_putBack (i1 : Nat) (i2 : Nat) (m : Mem) {z : Bool} {m' : Mem} (h : r_X2_putBack i1 i2 m = some (z, m')) : Mt yX2_putBack cX2_putBack 3 (some .boolean) 4 153 102 2567 [vR 2 0, vR 7 i1, vR 5 i2] m (oB z) m' := by
  refine Mt.of (by decide) (Nat.le_of_ble_eq_true rfl) (by decide +kernel) (hhF_ne (by decide)) ?_
  show Xj RX2 cX2_putBack 3 (some .boolean) 4 153 102 2567 0 0 0 [(0, vR 2 0), (1, vR 7 i1), (2, vR 5 i2)] [] m (oB z) m'
  unfold r_X2_putBack at h
  refine xj_aload_n 0 dX2_putBack_0 rfl ?_
  refine xg_getI (x := (m 2 0 0)) dX2_putBack_1 fl_X2_23 rfl rfl ?_
  refine xj_if_eq (tgt := 35) dX2_putBack_4 (by decide) (fun c1 => ?_) (fun c1 => ?_)
  · rw [if_pos c1] at h
    refine xj_iconst (z := 0) dX2_putBack_35 (by decide) ?_
    cases h
    exact xj_ireturn dX2_putBack_36 rfl (by decide) (by decide)
  · rw [if_neg c1] at h
    refine xj_aload_n 0 dX2_putBack_7 rfl ?_
    refine xg_getR (k' := 47) (i' := 0) dX2_putBack_8 fl_X2_11 rfl ?_
    refine xj_aload_n 0 dX2_putBack_11 rfl ?_
    refine xg_getI (x := (m 2 0 0)) dX2_putBack_12 fl_X2_23 rfl rfl ?_
    refine xj_iconst (z := 1) dX2_putBack_15 (by decide) ?_
    refine xj_isub dX2_putBack_16 ?_
    by_cases c2 : inb ((m 2 0 0) - 1) 3 = true
    case neg => rw [if_neg c2] at h; cases h
    rw [if_pos c2] at h
    refine xg_aaldN (k' := 7) (i' := 67 + (((m 2 0 0) - 1).toNatClampNeg)) (n := ((m 2 0 0) - 1).toNatClampNeg) (z := (m 47 0 (((m 2 0 0) - 1).toNatClampNeg))) dX2_putBack_17 (by decide) (by decide) (inb_in c2) rfl rfl rfl (fun c3 => ?_) (fun c3 => ?_)
    · rw [if_pos c3] at h
      refine xj_ifnullN (tgt := 35) dX2_putBack_18 (by decide) ?_
      refine xj_iconst (z := 0) dX2_putBack_35 (by decide) ?_
      cases h
      exact xj_ireturn dX2_putBack_36 rfl (by decide) (by decide)
    · rw [if_neg c3] at h
      refine xj_ifnull dX2_putBack_18 ?_
      refine xj_aload_n 0 dX2_putBack_21 rfl ?_
      refine xg_getR (k' := 48) (i' := 0) dX2_putBack_22 fl_X2_19 rfl ?_
      refine xj_aload_n 0 dX2_putBack_25 rfl ?_
      refine xg_getI (x := (m 2 0 0)) dX2_putBack_26 fl_X2_23 rfl rfl ?_
      refine xj_iconst (z := 1) dX2_putBack_29 (by decide) ?_
      refine xj_isub dX2_putBack_30 ?_
      refine xg_aaldN (k' := 5) (i' := 1 + (((m 2 0 0) - 1).toNatClampNeg)) (n := ((m 2 0 0) - 1).toNatClampNeg) (z := (m 48 0 (((m 2 0 0) - 1).toNatClampNeg))) dX2_putBack_31 (by decide) (by decide) (inb_in c2) rfl rfl rfl (fun c4 => ?_) (fun c4 => ?_)
      · rw [if_pos c4] at h
        refine xj_ifnonnullN dX2_putBack_32 ?_
        refine xj_iconst (z := 0) dX2_putBack_35 (by decide) ?_
        cases h
        exact xj_ireturn dX2_putBack_36 rfl (by decide) (by decide)
      · rw [if_neg c4] at h
        refine xj_ifnonnull (tgt := 37) dX2_putBack_32 (by decide) ?_
        refine xj_aload_n 0 dX2_putBack_37 rfl ?_
        refine xj_dup dX2_putBack_38 rfl ?_
        refine xg_getI (x := (m 2 0 0)) dX2_putBack_39 fl_X2_23 rfl rfl ?_
        refine xj_iconst (z := 1) dX2_putBack_42 (by decide) ?_
        refine xj_isub dX2_putBack_43 ?_
        refine xj_putI dX2_putBack_44 fw_X2_23 rfl ?_
        refine xj_aload_n 1 dX2_putBack_47 rfl ?_
        refine xj_aload_n 0 dX2_putBack_48 rfl ?_
        refine xg_getR (k' := 47) (i' := 0) dX2_putBack_49 fl_X2_11 rfl ?_
        refine xj_aload_n 0 dX2_putBack_52 rfl ?_
        refine xg_getI (x := ((m 2 0 0) - 1)) dX2_putBack_53 fl_X2_23 rfl rfl ?_
        refine xg_aaldN (k' := 7) (i' := 67 + (((m 2 0 0) - 1).toNatClampNeg)) (n := ((m 2 0 0) - 1).toNatClampNeg) (z := (m 47 0 (((m 2 0 0) - 1).toNatClampNeg))) dX2_putBack_56 (by decide) (by decide) (inb_in c2) rfl rfl rfl (fun c5 => ?_) (fun c5 => ?_)
        · rw [if_pos c5] at h
          cases h
        · rw [if_neg c5] at h
          obtain ⟨m7, e6, h⟩ := bd1_some h
          refine xc_Vv0 (st := []) (ok_X7_copyFrom i1 (67 + (((m 2 0 0) - 1).toNatClampNeg)) (wr m 2 0 0 ((m 2 0 0) - 1)) e6) dX2_putBack_57 cv_X2_29 rfl rfl (Nat.le_of_ble_eq_true rfl) (by decide) (by decide) (by decide) (by decide) ?_
          refine xj_aload_n 2 dX2_putBack_60 rfl ?_
          refine xj_aload_n 0 dX2_putBack_61 rfl ?_
          refine xg_getR (k' := 48) (i' := 0) dX2_putBack_62 fl_X2_19 rfl ?_
          refine xj_aload_n 0 dX2_putBack_65 rfl ?_
          refine xg_getI (x := (m7 2 0 0)) dX2_putBack_66 fl_X2_23 rfl rfl ?_
          by_cases c8 : inb (m7 2 0 0) 3 = true
          case neg => rw [if_neg c8] at h; cases h
          rw [if_pos c8] at h
          refine xg_aaldN (k' := 5) (i' := 1 + ((m7 2 0 0).toNatClampNeg)) (n := (m7 2 0 0).toNatClampNeg) (z := (m7 48 0 ((m7 2 0 0).toNatClampNeg))) dX2_putBack_69 (by decide) (by decide) (inb_in c8) rfl rfl rfl (fun c9 => ?_) (fun c9 => ?_)
          · rw [if_pos c9] at h
            cases h
          · rw [if_neg c9] at h
            obtain ⟨m11, e10, h⟩ := bd1_some h
            refine xc_Vv (st := []) (ok_X5_copyFrom i2 (1 + ((m7 2 0 0).toNatClampNeg)) m7 e10) dX2_putBack_70 cv_X2_33 rfl rfl (Nat.le_of_ble_eq_true rfl) (by decide) (by decide) (by decide) (by decide) ?_
            refine xj_iconst (z := 1) dX2_putBack_73 (by decide) ?_
            cases h
            exact xj_ireturn dX2_putBack_74 rfl (by decide) (by decide)
noncomputable def r_X11_image (m : Mem) : Option (Int32 × Mem) :=
  bd2 (r_X2_keep 0 0 m) fun z3 m2 => (if z3 = true then (some ((m2 2 0 0), m2)) else (some ((-1), m2)))
set_option maxHeartbeats 4000000 in
set_option maxRecDepth 20000 in
theorem ok_X11_image (m : Mem) {z : Int32} {m' : Mem} (h : r_X11_image m = some (z, m')) : Mt yX11_image cX11_image 1 (some .int) 5 175 110 2736 [vR 11 0] m (oI z) m' := by
  refine Mt.of (by decide) (Nat.le_of_ble_eq_true rfl) (by decide +kernel) (hhF_ne (by decide)) ?_
  show Xj RX11 cX11_image 1 (some .int) 5 175 110 2736 0 0 0 [(0, vR 11 0)] [] m (oI z) m'
  unfold r_X11_image at h
  refine xj_aload_n 0 dX11_image_0 rfl ?_
  refine xg_getR (k' := 2) (i' := 0) dX11_image_1 fl_X11_63 rfl ?_
  refine xj_aload_n 0 dX11_image_4 rfl ?_
  refine xg_getR (k' := 7) (i' := 0) dX11_image_5 fl_X11_49 rfl ?_
  refine xj_aload_n 0 dX11_image_8 rfl ?_
  refine xg_getR (k' := 5) (i' := 0) dX11_image_9 fl_X11_56 rfl ?_
  obtain ⟨z3, m2, e1, h⟩ := bd2_some h
  refine xc_Vb (st := []) (ok_X2_keep 0 0 m e1) dX11_image_12 cv_X11_383 rfl rfl (Nat.le_of_ble_eq_true rfl) (by decide) (by decide) (by decide) (by decide) ?_
  refine xj_if_eq (tgt := 28) dX11_image_15 (by decide) (fun c4 => ?_) (fun c4 => ?_)
  · rw [if_neg (b2i_f c4)] at h
    refine xj_iconst (z := (-1)) dX11_image_28 (by decide) ?_
    cases h
    exact xj_ireturn dX11_image_29 rfl (by decide) (by decide)
  · rw [if_pos (b2i_t c4)] at h
    refine xj_aload_n 0 dX11_image_18 rfl ?_
    refine xg_getR (k' := 2) (i' := 0) dX11_image_19 fl_X11_63 rfl ?_
    refine xg_getI (x := (m2 2 0 0)) dX11_image_22 fl_X11_387 rfl rfl ?_
    refine xj_goto (tgt := 29) dX11_image_25 (by decide) ?_
    cases h
    exact xj_ireturn dX11_image_29 rfl (by decide) (by decide)
noncomputable def r_X11_restore (m : Mem) : Option (Int32 × Mem) :=
  bd2 (r_X2_putBack 0 0 m) fun z3 m2 => (if z3 = true then (some ((m2 2 0 0), (wr m2 11 0 14 0))) else (some ((-1), m2)))
set_option maxHeartbeats 4000000 in
set_option maxRecDepth 20000 in
theorem ok_X11_restore (m : Mem) {z : Int32} {m' : Mem} (h : r_X11_restore m = some (z, m')) : Mt yX11_restore cX11_restore 1 (some .int) 5 175 102 2567 [vR 11 0] m (oI z) m' := by
  refine Mt.of (by decide) (Nat.le_of_ble_eq_true rfl) (by decide +kernel) (hhF_ne (by decide)) ?_
  show Xj RX11 cX11_restore 1 (some .int) 5 175 102 2567 0 0 0 [(0, vR 11 0)] [] m (oI z) m'
  unfold r_X11_restore at h
  refine xj_aload_n 0 dX11_restore_0 rfl ?_
  refine xg_getR (k' := 2) (i' := 0) dX11_restore_1 fl_X11_63 rfl ?_
  refine xj_aload_n 0 dX11_restore_4 rfl ?_
  refine xg_getR (k' := 7) (i' := 0) dX11_restore_5 fl_X11_49 rfl ?_
  refine xj_aload_n 0 dX11_restore_8 rfl ?_
  refine xg_getR (k' := 5) (i' := 0) dX11_restore_9 fl_X11_56 rfl ?_
  obtain ⟨z3, m2, e1, h⟩ := bd2_some h
  refine xc_Vb (st := []) (ok_X2_putBack 0 0 m e1) dX11_restore_12 cv_X11_388 rfl rfl (Nat.le_of_ble_eq_true rfl) (by decide) (by decide) (by decide) (by decide) ?_
  refine xj_if_ne (tgt := 20) dX11_restore_15 (by decide) (fun c4 => ?_) (fun c4 => ?_)
  · rw [if_pos (b2i_t c4)] at h
    refine xj_aload_n 0 dX11_restore_20 rfl ?_
    refine xj_iconst (z := 0) dX11_restore_21 (by decide) ?_
    refine xj_putI dX11_restore_22 fw_X11_134 rfl ?_
    refine xj_aload_n 0 dX11_restore_25 rfl ?_
    refine xg_getR (k' := 2) (i' := 0) dX11_restore_26 fl_X11_63 rfl ?_
    refine xg_getI (x := (m2 2 0 0)) dX11_restore_29 fl_X11_387 rfl rfl ?_
    cases h
    exact xj_ireturn dX11_restore_32 rfl (by decide) (by decide)
  · rw [if_neg (b2i_f c4)] at h
    refine xj_iconst (z := (-1)) dX11_restore_18 (by decide) ?_
    cases h
    exact xj_ireturn dX11_restore_19 rfl (by decide) (by decide)
noncomputable def r_X11_work (x1 : Int32) (m : Mem) : Option ((Int32 ⊕ Nat) × Mem) :=
  thr (r_X11_openText x1 150 m) fun z1 m2 => (if (m2 5 0 0) < 16 then (bd2 (r_X9_readFrom m2) fun z7 m6 => (if z7 = true then (bd1 (r_X5_push 0 0 m6) fun m10 => (bd1 (r_X9_perform m10) fun m12 => (some (Sum.inl (m12 9 0 0), (wr m12 11 0 14 (m12 9 0 1)))))) else (some (Sum.inl (r_X8_faultAnswer m6), m6)))) else (some (Sum.inl (-20), m2)))
set_option maxHeartbeats 4000000 in
set_option maxRecDepth 20000 in
theorem ok_X11_work (x1 : Int32) (m : Mem) {z : (Int32 ⊕ Nat)} {m' : Mem} (h : r_X11_work x1 m = some (z, m')) : Mt yX11_work cX11_work 2 (some .int) 33 749 7 157 [vR 11 0, vI x1] m (oX oI z) m' := by
  refine Mt.of (by decide) (Nat.le_of_ble_eq_true rfl) (by decide +kernel) (hhF_ne (by decide)) ?_
  show Xj RX11 cX11_work 2 (some .int) 33 749 7 157 0 0 0 [(0, vR 11 0), (1, vI x1)] [] m (oX oI z) m'
  unfold r_X11_work at h
  refine xj_aload_n 0 dX11_work_0 rfl ?_
  refine xj_iload_n 1 dX11_work_1 rfl ?_
  refine xj_sipush (z := 150) dX11_work_2 (by decide) ?_
  rcases thr_some h with ⟨z1, m2, e3, h⟩ | ⟨ex, e3, rfl⟩
  case inr => exact xj_callVx (st := []) (ok_X11_openText x1 150 m e3) dX11_work_5 cv_X11_109 rfl rfl (Nat.le_of_ble_eq_true rfl) (by decide) (by decide) (by decide) (by decide) (by decide)
  refine xc_Vv (st := []) (ok_X11_openText x1 150 m e3) dX11_work_5 cv_X11_109 rfl rfl (Nat.le_of_ble_eq_true rfl) (by decide) (by decide) (by decide) (by decide) ?_
  refine xj_aload_n 0 dX11_work_8 rfl ?_
  refine xg_getR (k' := 5) (i' := 0) dX11_work_9 fl_X11_56 rfl ?_
  refine xg_getI (x := (m2 5 0 0)) dX11_work_12 fl_X11_144 rfl rfl ?_
  refine xj_bipush (z := 16) dX11_work_15 (by decide) ?_
  refine xj_icmp_lt (tgt := 23) dX11_work_17 (by decide) (fun c4 => ?_) (fun c4 => ?_)
  · rw [if_pos c4] at h
    refine xj_aload_n 0 dX11_work_23 rfl ?_
    refine xg_getR (k' := 9) (i' := 0) dX11_work_24 fl_X11_81 rfl ?_
    refine xj_aload_n 0 dX11_work_27 rfl ?_
    refine xg_getR (k' := 8) (i' := 0) dX11_work_28 fl_X11_10 rfl ?_
    obtain ⟨z7, m6, e5, h⟩ := bd2_some h
    refine xc_Vb0 (st := []) (ok_X9_readFrom m2 e5) dX11_work_31 cv_X11_147 rfl rfl (Nat.le_of_ble_eq_true rfl) (by decide) (by decide) (by decide) (by decide) ?_
    refine xj_if_ne (tgt := 45) dX11_work_34 (by decide) (fun c8 => ?_) (fun c8 => ?_)
    · rw [if_pos (b2i_t c8)] at h
      refine xj_aload_n 0 dX11_work_45 rfl ?_
      refine xg_getR (k' := 5) (i' := 0) dX11_work_46 fl_X11_56 rfl ?_
      refine xj_aload_n 0 dX11_work_49 rfl ?_
      refine xg_getR (k' := 7) (i' := 0) dX11_work_50 fl_X11_49 rfl ?_
      obtain ⟨m10, e9, h⟩ := bd1_some h
      refine xc_Vv (st := []) (ok_X5_push 0 0 m6 e9) dX11_work_53 cv_X11_148 rfl rfl (Nat.le_of_ble_eq_true rfl) (by decide) (by decide) (by decide) (by decide) ?_
      refine xj_aload_n 0 dX11_work_56 rfl ?_
      refine xg_getR (k' := 9) (i' := 0) dX11_work_57 fl_X11_81 rfl ?_
      obtain ⟨m12, e11, h⟩ := bd1_some h
      refine xc_Vv0 (st := []) (ok_X9_perform m10 e11) dX11_work_60 cv_X11_152 rfl rfl (Nat.le_of_ble_eq_true rfl) (by decide) (by decide) (by decide) (by decide) ?_
      refine xj_aload_n 0 dX11_work_63 rfl ?_
      refine xj_aload_n 0 dX11_work_64 rfl ?_
      refine xg_getR (k' := 9) (i' := 0) dX11_work_65 fl_X11_81 rfl ?_
      refine xg_getI (x := (m12 9 0 1)) dX11_work_68 fl_X11_155 rfl rfl ?_
      refine xj_putI dX11_work_71 fw_X11_134 rfl ?_
      refine xj_aload_n 0 dX11_work_74 rfl ?_
      refine xg_getR (k' := 9) (i' := 0) dX11_work_75 fl_X11_81 rfl ?_
      refine xg_getI (x := (m12 9 0 0)) dX11_work_78 fl_X11_158 rfl rfl ?_
      cases h
      exact xj_ireturn dX11_work_81 rfl (by decide) (by decide)
    · rw [if_neg (b2i_f c8)] at h
      refine xj_aload_n 0 dX11_work_37 rfl ?_
      refine xg_getR (k' := 8) (i' := 0) dX11_work_38 fl_X11_10 rfl ?_
      refine xc_Vi0 (st := []) (ok_X8_faultAnswer m6 rfl) dX11_work_41 cv_X11_117 rfl rfl (Nat.le_of_ble_eq_true rfl) (by decide) (by decide) (by decide) (by decide) ?_
      cases h
      exact xj_ireturn dX11_work_44 rfl (by decide) (by decide)
  · rw [if_neg c4] at h
    refine xj_bipush (z := (-20)) dX11_work_20 (by decide) ?_
    cases h
    exact xj_ireturn dX11_work_22 rfl (by decide) (by decide)
