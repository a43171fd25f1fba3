-- 083.inits: decode rows and blocks (by program, wip/gen)
theorem dX0_init_0 : decode cX0_init 0 = .ok (.aload_n 0, 1) := by decide +kernel
theorem dX0_init_1 : decode cX0_init 1 = .ok (.invokespecial 3, 3) := by decide +kernel
theorem dX0_init_4 : decode cX0_init 4 = .ok (.aload_n 0, 1) := by decide +kernel
theorem dX0_init_5 : decode cX0_init 5 = .ok (.aload_n 1, 1) := by decide +kernel
theorem dX0_init_6 : decode cX0_init 6 = .ok (.putfield 9, 3) := by decide +kernel
theorem dX0_init_9 : decode cX0_init 9 = .ok (.aload_n 0, 1) := by decide +kernel
theorem dX0_init_10 : decode cX0_init 10 = .ok (.new 15, 3) := by decide +kernel
theorem dX0_init_13 : decode cX0_init 13 = .ok (.dup, 1) := by decide +kernel
theorem dX0_init_14 : decode cX0_init 14 = .ok (.bipush 6, 2) := by decide +kernel
theorem dX0_init_16 : decode cX0_init 16 = .ok (.iconst 4, 1) := by decide +kernel
theorem dX0_init_17 : decode cX0_init 17 = .ok (.invokespecial 17, 3) := by decide +kernel
theorem dX0_init_20 : decode cX0_init 20 = .ok (.putfield 20, 3) := by decide +kernel
theorem dX0_init_23 : decode cX0_init 23 = .ok (.return_, 1) := by decide +kernel
theorem dX1_init_0 : decode cX1_init 0 = .ok (.aload_n 0, 1) := by decide +kernel
theorem dX1_init_1 : decode cX1_init 1 = .ok (.invokespecial 3, 3) := by decide +kernel
theorem dX1_init_4 : decode cX1_init 4 = .ok (.aload_n 0, 1) := by decide +kernel
theorem dX1_init_5 : decode cX1_init 5 = .ok (.iload_n 1, 1) := by decide +kernel
theorem dX1_init_6 : decode cX1_init 6 = .ok (.putfield 9, 3) := by decide +kernel
theorem dX1_init_9 : decode cX1_init 9 = .ok (.aload_n 0, 1) := by decide +kernel
theorem dX1_init_10 : decode cX1_init 10 = .ok (.iload_n 2, 1) := by decide +kernel
theorem dX1_init_11 : decode cX1_init 11 = .ok (.putfield 15, 3) := by decide +kernel
theorem dX1_init_14 : decode cX1_init 14 = .ok (.aload_n 0, 1) := by decide +kernel
theorem dX1_init_15 : decode cX1_init 15 = .ok (.iload_n 3, 1) := by decide +kernel
theorem dX1_init_16 : decode cX1_init 16 = .ok (.putfield 18, 3) := by decide +kernel
theorem dX1_init_19 : decode cX1_init 19 = .ok (.aload_n 0, 1) := by decide +kernel
theorem dX1_init_20 : decode cX1_init 20 = .ok (.iload 4, 2) := by decide +kernel
theorem dX1_init_22 : decode cX1_init 22 = .ok (.putfield 21, 3) := by decide +kernel
theorem dX1_init_25 : decode cX1_init 25 = .ok (.aload_n 0, 1) := by decide +kernel
theorem dX1_init_26 : decode cX1_init 26 = .ok (.iload 5, 2) := by decide +kernel
theorem dX1_init_28 : decode cX1_init 28 = .ok (.putfield 24, 3) := by decide +kernel
theorem dX1_init_31 : decode cX1_init 31 = .ok (.aload_n 0, 1) := by decide +kernel
theorem dX1_init_32 : decode cX1_init 32 = .ok (.iload 6, 2) := by decide +kernel
theorem dX1_init_34 : decode cX1_init 34 = .ok (.putfield 27, 3) := by decide +kernel
theorem dX1_init_37 : decode cX1_init 37 = .ok (.return_, 1) := by decide +kernel
theorem dX2_init_0 : decode cX2_init 0 = .ok (.aload_n 0, 1) := by decide +kernel
theorem dX2_init_1 : decode cX2_init 1 = .ok (.invokespecial 3, 3) := by decide +kernel
theorem dX2_init_4 : decode cX2_init 4 = .ok (.aload_n 0, 1) := by decide +kernel
theorem dX2_init_5 : decode cX2_init 5 = .ok (.new 9, 3) := by decide +kernel
theorem dX2_init_8 : decode cX2_init 8 = .ok (.dup, 1) := by decide +kernel
theorem dX2_init_9 : decode cX2_init 9 = .ok (.aload_n 1, 1) := by decide +kernel
theorem dX2_init_10 : decode cX2_init 10 = .ok (.invokespecial 11, 3) := by decide +kernel
theorem dX2_init_13 : decode cX2_init 13 = .ok (.putfield 14, 3) := by decide +kernel
theorem dX2_init_16 : decode cX2_init 16 = .ok (.aload_n 0, 1) := by decide +kernel
theorem dX2_init_17 : decode cX2_init 17 = .ok (.bipush 8, 2) := by decide +kernel
theorem dX2_init_19 : decode cX2_init 19 = .ok (.anewarray 9, 3) := by decide +kernel
theorem dX2_init_22 : decode cX2_init 22 = .ok (.putfield 20, 3) := by decide +kernel
theorem dX2_init_25 : decode cX2_init 25 = .ok (.iconst 0, 1) := by decide +kernel
theorem dX2_init_26 : decode cX2_init 26 = .ok (.istore_n 2, 1) := by decide +kernel
theorem dX2_init_27 : decode cX2_init 27 = .ok (.iload_n 2, 1) := by decide +kernel
theorem dX2_init_28 : decode cX2_init 28 = .ok (.aload_n 0, 1) := by decide +kernel
theorem dX2_init_29 : decode cX2_init 29 = .ok (.getfield 20, 3) := by decide +kernel
theorem dX2_init_32 : decode cX2_init 32 = .ok (.arraylength, 1) := by decide +kernel
theorem dX2_init_33 : decode cX2_init 33 = .ok (.if_icmp .ge 23, 3) := by decide +kernel
theorem dX2_init_36 : decode cX2_init 36 = .ok (.aload_n 0, 1) := by decide +kernel
theorem dX2_init_37 : decode cX2_init 37 = .ok (.getfield 20, 3) := by decide +kernel
theorem dX2_init_40 : decode cX2_init 40 = .ok (.iload_n 2, 1) := by decide +kernel
theorem dX2_init_41 : decode cX2_init 41 = .ok (.new 9, 3) := by decide +kernel
theorem dX2_init_44 : decode cX2_init 44 = .ok (.dup, 1) := by decide +kernel
theorem dX2_init_45 : decode cX2_init 45 = .ok (.aload_n 1, 1) := by decide +kernel
theorem dX2_init_46 : decode cX2_init 46 = .ok (.invokespecial 11, 3) := by decide +kernel
theorem dX2_init_49 : decode cX2_init 49 = .ok (.aastore, 1) := by decide +kernel
theorem dX2_init_50 : decode cX2_init 50 = .ok (.iinc 2 1, 3) := by decide +kernel
theorem dX2_init_53 : decode cX2_init 53 = .ok (.goto (-26), 3) := by decide +kernel
theorem dX2_init_56 : decode cX2_init 56 = .ok (.aload_n 0, 1) := by decide +kernel
theorem dX2_init_57 : decode cX2_init 57 = .ok (.iconst 0, 1) := by decide +kernel
theorem dX2_init_58 : decode cX2_init 58 = .ok (.putfield 24, 3) := by decide +kernel
theorem dX2_init_61 : decode cX2_init 61 = .ok (.aload_n 0, 1) := by decide +kernel
theorem dX2_init_62 : decode cX2_init 62 = .ok (.iconst 0, 1) := by decide +kernel
theorem dX2_init_63 : decode cX2_init 63 = .ok (.putfield 28, 3) := by decide +kernel
theorem dX2_init_66 : decode cX2_init 66 = .ok (.return_, 1) := by decide +kernel
theorem dX3_init_0 : decode cX3_init 0 = .ok (.aload_n 0, 1) := by decide +kernel
theorem dX3_init_1 : decode cX3_init 1 = .ok (.invokespecial 3, 3) := by decide +kernel
theorem dX3_init_4 : decode cX3_init 4 = .ok (.aload_n 0, 1) := by decide +kernel
theorem dX3_init_5 : decode cX3_init 5 = .ok (.new 9, 3) := by decide +kernel
theorem dX3_init_8 : decode cX3_init 8 = .ok (.dup, 1) := by decide +kernel
theorem dX3_init_9 : decode cX3_init 9 = .ok (.bipush (-9), 2) := by decide +kernel
theorem dX3_init_11 : decode cX3_init 11 = .ok (.bipush (-9), 2) := by decide +kernel
theorem dX3_init_13 : decode cX3_init 13 = .ok (.iconst 0, 1) := by decide +kernel
theorem dX3_init_14 : decode cX3_init 14 = .ok (.iconst 0, 1) := by decide +kernel
theorem dX3_init_15 : decode cX3_init 15 = .ok (.iconst 1, 1) := by decide +kernel
theorem dX3_init_16 : decode cX3_init 16 = .ok (.iconst 0, 1) := by decide +kernel
theorem dX3_init_17 : decode cX3_init 17 = .ok (.invokespecial 11, 3) := by decide +kernel
theorem dX3_init_20 : decode cX3_init 20 = .ok (.putfield 14, 3) := by decide +kernel
theorem dX3_init_23 : decode cX3_init 23 = .ok (.aload_n 0, 1) := by decide +kernel
theorem dX3_init_24 : decode cX3_init 24 = .ok (.bipush 8, 2) := by decide +kernel
theorem dX3_init_26 : decode cX3_init 26 = .ok (.anewarray 9, 3) := by decide +kernel
theorem dX3_init_29 : decode cX3_init 29 = .ok (.putfield 20, 3) := by decide +kernel
theorem dX3_init_32 : decode cX3_init 32 = .ok (.aload_n 0, 1) := by decide +kernel
theorem dX3_init_33 : decode cX3_init 33 = .ok (.iconst 0, 1) := by decide +kernel
theorem dX3_init_34 : decode cX3_init 34 = .ok (.putfield 24, 3) := by decide +kernel
theorem dX3_init_37 : decode cX3_init 37 = .ok (.aload_n 0, 1) := by decide +kernel
theorem dX3_init_38 : decode cX3_init 38 = .ok (.iconst 2, 1) := by decide +kernel
theorem dX3_init_39 : decode cX3_init 39 = .ok (.putfield 28, 3) := by decide +kernel
theorem dX3_init_42 : decode cX3_init 42 = .ok (.return_, 1) := by decide +kernel
theorem dX4_init_0 : decode cX4_init 0 = .ok (.aload_n 0, 1) := by decide +kernel
theorem dX4_init_1 : decode cX4_init 1 = .ok (.invokespecial 3, 3) := by decide +kernel
theorem dX4_init_4 : decode cX4_init 4 = .ok (.aload_n 0, 1) := by decide +kernel
theorem dX4_init_5 : decode cX4_init 5 = .ok (.aload_n 1, 1) := by decide +kernel
theorem dX4_init_6 : decode cX4_init 6 = .ok (.putfield 9, 3) := by decide +kernel
theorem dX4_init_9 : decode cX4_init 9 = .ok (.aload_n 0, 1) := by decide +kernel
theorem dX4_init_10 : decode cX4_init 10 = .ok (.new 15, 3) := by decide +kernel
theorem dX4_init_13 : decode cX4_init 13 = .ok (.dup, 1) := by decide +kernel
theorem dX4_init_14 : decode cX4_init 14 = .ok (.invokespecial 17, 3) := by decide +kernel
theorem dX4_init_17 : decode cX4_init 17 = .ok (.putfield 18, 3) := by decide +kernel
theorem dX4_init_20 : decode cX4_init 20 = .ok (.aload_n 0, 1) := by decide +kernel
theorem dX4_init_21 : decode cX4_init 21 = .ok (.iconst 0, 1) := by decide +kernel
theorem dX4_init_22 : decode cX4_init 22 = .ok (.putfield 22, 3) := by decide +kernel
theorem dX4_init_25 : decode cX4_init 25 = .ok (.aload_n 0, 1) := by decide +kernel
theorem dX4_init_26 : decode cX4_init 26 = .ok (.iconst (-1), 1) := by decide +kernel
theorem dX4_init_27 : decode cX4_init 27 = .ok (.putfield 26, 3) := by decide +kernel
theorem dX4_init_30 : decode cX4_init 30 = .ok (.return_, 1) := by decide +kernel
theorem dX5_init_0 : decode cX5_init 0 = .ok (.aload_n 0, 1) := by decide +kernel
theorem dX5_init_1 : decode cX5_init 1 = .ok (.invokespecial 3, 3) := by decide +kernel
theorem dX5_init_4 : decode cX5_init 4 = .ok (.aload_n 0, 1) := by decide +kernel
theorem dX5_init_5 : decode cX5_init 5 = .ok (.aload_n 1, 1) := by decide +kernel
theorem dX5_init_6 : decode cX5_init 6 = .ok (.putfield 9, 3) := by decide +kernel
theorem dX5_init_9 : decode cX5_init 9 = .ok (.return_, 1) := by decide +kernel
theorem dX6_init_0 : decode cX6_init 0 = .ok (.aload_n 0, 1) := by decide +kernel
theorem dX6_init_1 : decode cX6_init 1 = .ok (.invokespecial 3, 3) := by decide +kernel
theorem dX6_init_4 : decode cX6_init 4 = .ok (.aload_n 0, 1) := by decide +kernel
theorem dX6_init_5 : decode cX6_init 5 = .ok (.aload_n 1, 1) := by decide +kernel
theorem dX6_init_6 : decode cX6_init 6 = .ok (.putfield 9, 3) := by decide +kernel
theorem dX6_init_9 : decode cX6_init 9 = .ok (.aload_n 0, 1) := by decide +kernel
theorem dX6_init_10 : decode cX6_init 10 = .ok (.new 15, 3) := by decide +kernel
theorem dX6_init_13 : decode cX6_init 13 = .ok (.dup, 1) := by decide +kernel
theorem dX6_init_14 : decode cX6_init 14 = .ok (.bipush 8, 2) := by decide +kernel
theorem dX6_init_16 : decode cX6_init 16 = .ok (.bipush 100, 2) := by decide +kernel
theorem dX6_init_18 : decode cX6_init 18 = .ok (.invokespecial 17, 3) := by decide +kernel
theorem dX6_init_21 : decode cX6_init 21 = .ok (.putfield 20, 3) := by decide +kernel
theorem dX6_init_24 : decode cX6_init 24 = .ok (.aload_n 0, 1) := by decide +kernel
theorem dX6_init_25 : decode cX6_init 25 = .ok (.new 15, 3) := by decide +kernel
theorem dX6_init_28 : decode cX6_init 28 = .ok (.dup, 1) := by decide +kernel
theorem dX6_init_29 : decode cX6_init 29 = .ok (.bipush 6, 2) := by decide +kernel
theorem dX6_init_31 : decode cX6_init 31 = .ok (.iconst 4, 1) := by decide +kernel
theorem dX6_init_32 : decode cX6_init 32 = .ok (.invokespecial 17, 3) := by decide +kernel
theorem dX6_init_35 : decode cX6_init 35 = .ok (.putfield 24, 3) := by decide +kernel
theorem dX6_init_38 : decode cX6_init 38 = .ok (.aload_n 0, 1) := by decide +kernel
theorem dX6_init_39 : decode cX6_init 39 = .ok (.new 15, 3) := by decide +kernel
theorem dX6_init_42 : decode cX6_init 42 = .ok (.dup, 1) := by decide +kernel
theorem dX6_init_43 : decode cX6_init 43 = .ok (.bipush 6, 2) := by decide +kernel
theorem dX6_init_45 : decode cX6_init 45 = .ok (.iconst 4, 1) := by decide +kernel
theorem dX6_init_46 : decode cX6_init 46 = .ok (.invokespecial 17, 3) := by decide +kernel
theorem dX6_init_49 : decode cX6_init 49 = .ok (.putfield 27, 3) := by decide +kernel
theorem dX6_init_52 : decode cX6_init 52 = .ok (.aload_n 0, 1) := by decide +kernel
theorem dX6_init_53 : decode cX6_init 53 = .ok (.sipush 1000, 3) := by decide +kernel
theorem dX6_init_56 : decode cX6_init 56 = .ok (.putfield 30, 3) := by decide +kernel
theorem dX6_init_59 : decode cX6_init 59 = .ok (.return_, 1) := by decide +kernel
theorem dX7_init_0 : decode cX7_init 0 = .ok (.aload_n 0, 1) := by decide +kernel
theorem dX7_init_1 : decode cX7_init 1 = .ok (.invokespecial 3, 3) := by decide +kernel
theorem dX7_init_4 : decode cX7_init 4 = .ok (.aload_n 0, 1) := by decide +kernel
theorem dX7_init_5 : decode cX7_init 5 = .ok (.new 9, 3) := by decide +kernel
theorem dX7_init_8 : decode cX7_init 8 = .ok (.dup, 1) := by decide +kernel
theorem dX7_init_9 : decode cX7_init 9 = .ok (.aload_n 1, 1) := by decide +kernel
theorem dX7_init_10 : decode cX7_init 10 = .ok (.invokespecial 11, 3) := by decide +kernel
theorem dX7_init_13 : decode cX7_init 13 = .ok (.putfield 14, 3) := by decide +kernel
theorem dX7_init_16 : decode cX7_init 16 = .ok (.aload_n 0, 1) := by decide +kernel
theorem dX7_init_17 : decode cX7_init 17 = .ok (.bipush 8, 2) := by decide +kernel
theorem dX7_init_19 : decode cX7_init 19 = .ok (.anewarray 9, 3) := by decide +kernel
theorem dX7_init_22 : decode cX7_init 22 = .ok (.putfield 20, 3) := by decide +kernel
theorem dX7_init_25 : decode cX7_init 25 = .ok (.iconst 0, 1) := by decide +kernel
theorem dX7_init_26 : decode cX7_init 26 = .ok (.istore_n 2, 1) := by decide +kernel
theorem dX7_init_27 : decode cX7_init 27 = .ok (.iload_n 2, 1) := by decide +kernel
theorem dX7_init_28 : decode cX7_init 28 = .ok (.aload_n 0, 1) := by decide +kernel
theorem dX7_init_29 : decode cX7_init 29 = .ok (.getfield 20, 3) := by decide +kernel
theorem dX7_init_32 : decode cX7_init 32 = .ok (.arraylength, 1) := by decide +kernel
theorem dX7_init_33 : decode cX7_init 33 = .ok (.if_icmp .ge 23, 3) := by decide +kernel
theorem dX7_init_36 : decode cX7_init 36 = .ok (.aload_n 0, 1) := by decide +kernel
theorem dX7_init_37 : decode cX7_init 37 = .ok (.getfield 20, 3) := by decide +kernel
theorem dX7_init_40 : decode cX7_init 40 = .ok (.iload_n 2, 1) := by decide +kernel
theorem dX7_init_41 : decode cX7_init 41 = .ok (.new 9, 3) := by decide +kernel
theorem dX7_init_44 : decode cX7_init 44 = .ok (.dup, 1) := by decide +kernel
theorem dX7_init_45 : decode cX7_init 45 = .ok (.aload_n 1, 1) := by decide +kernel
theorem dX7_init_46 : decode cX7_init 46 = .ok (.invokespecial 11, 3) := by decide +kernel
theorem dX7_init_49 : decode cX7_init 49 = .ok (.aastore, 1) := by decide +kernel
theorem dX7_init_50 : decode cX7_init 50 = .ok (.iinc 2 1, 3) := by decide +kernel
theorem dX7_init_53 : decode cX7_init 53 = .ok (.goto (-26), 3) := by decide +kernel
theorem dX7_init_56 : decode cX7_init 56 = .ok (.aload_n 0, 1) := by decide +kernel
theorem dX7_init_57 : decode cX7_init 57 = .ok (.iconst 0, 1) := by decide +kernel
theorem dX7_init_58 : decode cX7_init 58 = .ok (.putfield 24, 3) := by decide +kernel
theorem dX7_init_61 : decode cX7_init 61 = .ok (.aload_n 0, 1) := by decide +kernel
theorem dX7_init_62 : decode cX7_init 62 = .ok (.iconst 0, 1) := by decide +kernel
theorem dX7_init_63 : decode cX7_init 63 = .ok (.putfield 28, 3) := by decide +kernel
theorem dX7_init_66 : decode cX7_init 66 = .ok (.aload_n 0, 1) := by decide +kernel
theorem dX7_init_67 : decode cX7_init 67 = .ok (.iconst 0, 1) := by decide +kernel
theorem dX7_init_68 : decode cX7_init 68 = .ok (.putfield 31, 3) := by decide +kernel
theorem dX7_init_71 : decode cX7_init 71 = .ok (.return_, 1) := by decide +kernel
theorem dX8_init_0 : decode cX8_init 0 = .ok (.aload_n 0, 1) := by decide +kernel
theorem dX8_init_1 : decode cX8_init 1 = .ok (.invokespecial 3, 3) := by decide +kernel
theorem dX8_init_4 : decode cX8_init 4 = .ok (.aload_n 0, 1) := by decide +kernel
theorem dX8_init_5 : decode cX8_init 5 = .ok (.iload_n 2, 1) := by decide +kernel
theorem dX8_init_6 : decode cX8_init 6 = .ok (.putfield 9, 3) := by decide +kernel
theorem dX8_init_9 : decode cX8_init 9 = .ok (.aload_n 0, 1) := by decide +kernel
theorem dX8_init_10 : decode cX8_init 10 = .ok (.iload_n 1, 1) := by decide +kernel
theorem dX8_init_11 : decode cX8_init 11 = .ok (.iload_n 2, 1) := by decide +kernel
theorem dX8_init_12 : decode cX8_init 12 = .ok (.imul, 1) := by decide +kernel
theorem dX8_init_13 : decode cX8_init 13 = .ok (.iconst 0, 1) := by decide +kernel
theorem dX8_init_14 : decode cX8_init 14 = .ok (.invokestatic 15, 3) := by decide +kernel
theorem dX8_init_17 : decode cX8_init 17 = .ok (.newarray .int, 2) := by decide +kernel
theorem dX8_init_19 : decode cX8_init 19 = .ok (.putfield 21, 3) := by decide +kernel
theorem dX8_init_22 : decode cX8_init 22 = .ok (.aload_n 0, 1) := by decide +kernel
theorem dX8_init_23 : decode cX8_init 23 = .ok (.iconst 0, 1) := by decide +kernel
theorem dX8_init_24 : decode cX8_init 24 = .ok (.putfield 25, 3) := by decide +kernel
theorem dX8_init_27 : decode cX8_init 27 = .ok (.return_, 1) := by decide +kernel
theorem dX9_init_0 : decode cX9_init 0 = .ok (.aload_n 0, 1) := by decide +kernel
theorem dX9_init_1 : decode cX9_init 1 = .ok (.invokespecial 3, 3) := by decide +kernel
theorem dX9_init_4 : decode cX9_init 4 = .ok (.aload_n 0, 1) := by decide +kernel
theorem dX9_init_5 : decode cX9_init 5 = .ok (.sipush 150, 3) := by decide +kernel
theorem dX9_init_8 : decode cX9_init 8 = .ok (.newarray .int, 2) := by decide +kernel
theorem dX9_init_10 : decode cX9_init 10 = .ok (.putfield 9, 3) := by decide +kernel
theorem dX9_init_13 : decode cX9_init 13 = .ok (.aload_n 0, 1) := by decide +kernel
theorem dX9_init_14 : decode cX9_init 14 = .ok (.iconst 0, 1) := by decide +kernel
theorem dX9_init_15 : decode cX9_init 15 = .ok (.putfield 15, 3) := by decide +kernel
theorem dX9_init_18 : decode cX9_init 18 = .ok (.return_, 1) := by decide +kernel
theorem dX10_init_0 : decode cX10_init 0 = .ok (.aload_n 0, 1) := by decide +kernel
theorem dX10_init_1 : decode cX10_init 1 = .ok (.invokespecial 3, 3) := by decide +kernel
theorem dX10_init_4 : decode cX10_init 4 = .ok (.aload_n 0, 1) := by decide +kernel
theorem dX10_init_5 : decode cX10_init 5 = .ok (.new 9, 3) := by decide +kernel
theorem dX10_init_8 : decode cX10_init 8 = .ok (.dup, 1) := by decide +kernel
theorem dX10_init_9 : decode cX10_init 9 = .ok (.invokespecial 11, 3) := by decide +kernel
theorem dX10_init_12 : decode cX10_init 12 = .ok (.putfield 12, 3) := by decide +kernel
theorem dX10_init_15 : decode cX10_init 15 = .ok (.aload_n 0, 1) := by decide +kernel
theorem dX10_init_16 : decode cX10_init 16 = .ok (.new 16, 3) := by decide +kernel
theorem dX10_init_19 : decode cX10_init 19 = .ok (.dup, 1) := by decide +kernel
theorem dX10_init_20 : decode cX10_init 20 = .ok (.aload_n 0, 1) := by decide +kernel
theorem dX10_init_21 : decode cX10_init 21 = .ok (.getfield 12, 3) := by decide +kernel
theorem dX10_init_24 : decode cX10_init 24 = .ok (.invokespecial 18, 3) := by decide +kernel
theorem dX10_init_27 : decode cX10_init 27 = .ok (.putfield 21, 3) := by decide +kernel
theorem dX10_init_30 : decode cX10_init 30 = .ok (.aload_n 0, 1) := by decide +kernel
theorem dX10_init_31 : decode cX10_init 31 = .ok (.new 25, 3) := by decide +kernel
theorem dX10_init_34 : decode cX10_init 34 = .ok (.dup, 1) := by decide +kernel
theorem dX10_init_35 : decode cX10_init 35 = .ok (.invokespecial 27, 3) := by decide +kernel
theorem dX10_init_38 : decode cX10_init 38 = .ok (.putfield 28, 3) := by decide +kernel
theorem dX10_init_41 : decode cX10_init 41 = .ok (.aload_n 0, 1) := by decide +kernel
theorem dX10_init_42 : decode cX10_init 42 = .ok (.new 32, 3) := by decide +kernel
theorem dX10_init_45 : decode cX10_init 45 = .ok (.dup, 1) := by decide +kernel
theorem dX10_init_46 : decode cX10_init 46 = .ok (.aload_n 0, 1) := by decide +kernel
theorem dX10_init_47 : decode cX10_init 47 = .ok (.getfield 28, 3) := by decide +kernel
theorem dX10_init_50 : decode cX10_init 50 = .ok (.invokespecial 34, 3) := by decide +kernel
theorem dX10_init_53 : decode cX10_init 53 = .ok (.putfield 37, 3) := by decide +kernel
theorem dX10_init_56 : decode cX10_init 56 = .ok (.aload_n 0, 1) := by decide +kernel
theorem dX10_init_57 : decode cX10_init 57 = .ok (.new 41, 3) := by decide +kernel
theorem dX10_init_60 : decode cX10_init 60 = .ok (.dup, 1) := by decide +kernel
theorem dX10_init_61 : decode cX10_init 61 = .ok (.aload_n 0, 1) := by decide +kernel
theorem dX10_init_62 : decode cX10_init 62 = .ok (.getfield 37, 3) := by decide +kernel
theorem dX10_init_65 : decode cX10_init 65 = .ok (.invokespecial 43, 3) := by decide +kernel
theorem dX10_init_68 : decode cX10_init 68 = .ok (.putfield 46, 3) := by decide +kernel
theorem dX10_init_71 : decode cX10_init 71 = .ok (.aload_n 0, 1) := by decide +kernel
theorem dX10_init_72 : decode cX10_init 72 = .ok (.new 50, 3) := by decide +kernel
theorem dX10_init_75 : decode cX10_init 75 = .ok (.dup, 1) := by decide +kernel
theorem dX10_init_76 : decode cX10_init 76 = .ok (.aload_n 0, 1) := by decide +kernel
theorem dX10_init_77 : decode cX10_init 77 = .ok (.getfield 28, 3) := by decide +kernel
theorem dX10_init_80 : decode cX10_init 80 = .ok (.invokespecial 52, 3) := by decide +kernel
theorem dX10_init_83 : decode cX10_init 83 = .ok (.putfield 53, 3) := by decide +kernel
theorem dX10_init_86 : decode cX10_init 86 = .ok (.aload_n 0, 1) := by decide +kernel
theorem dX10_init_87 : decode cX10_init 87 = .ok (.new 50, 3) := by decide +kernel
theorem dX10_init_90 : decode cX10_init 90 = .ok (.dup, 1) := by decide +kernel
theorem dX10_init_91 : decode cX10_init 91 = .ok (.aload_n 0, 1) := by decide +kernel
theorem dX10_init_92 : decode cX10_init 92 = .ok (.getfield 28, 3) := by decide +kernel
theorem dX10_init_95 : decode cX10_init 95 = .ok (.invokespecial 52, 3) := by decide +kernel
theorem dX10_init_98 : decode cX10_init 98 = .ok (.putfield 57, 3) := by decide +kernel
theorem dX10_init_101 : decode cX10_init 101 = .ok (.aload_n 0, 1) := by decide +kernel
theorem dX10_init_102 : decode cX10_init 102 = .ok (.new 60, 3) := by decide +kernel
theorem dX10_init_105 : decode cX10_init 105 = .ok (.dup, 1) := by decide +kernel
theorem dX10_init_106 : decode cX10_init 106 = .ok (.aload_n 0, 1) := by decide +kernel
theorem dX10_init_107 : decode cX10_init 107 = .ok (.getfield 28, 3) := by decide +kernel
theorem dX10_init_110 : decode cX10_init 110 = .ok (.invokespecial 62, 3) := by decide +kernel
theorem dX10_init_113 : decode cX10_init 113 = .ok (.putfield 63, 3) := by decide +kernel
theorem dX10_init_116 : decode cX10_init 116 = .ok (.aload_n 0, 1) := by decide +kernel
theorem dX10_init_117 : decode cX10_init 117 = .ok (.new 50, 3) := by decide +kernel
theorem dX10_init_120 : decode cX10_init 120 = .ok (.dup, 1) := by decide +kernel
theorem dX10_init_121 : decode cX10_init 121 = .ok (.aload_n 0, 1) := by decide +kernel
theorem dX10_init_122 : decode cX10_init 122 = .ok (.getfield 28, 3) := by decide +kernel
theorem dX10_init_125 : decode cX10_init 125 = .ok (.invokespecial 52, 3) := by decide +kernel
theorem dX10_init_128 : decode cX10_init 128 = .ok (.putfield 67, 3) := by decide +kernel
theorem dX10_init_131 : decode cX10_init 131 = .ok (.aload_n 0, 1) := by decide +kernel
theorem dX10_init_132 : decode cX10_init 132 = .ok (.new 50, 3) := by decide +kernel
theorem dX10_init_135 : decode cX10_init 135 = .ok (.dup, 1) := by decide +kernel
theorem dX10_init_136 : decode cX10_init 136 = .ok (.aload_n 0, 1) := by decide +kernel
theorem dX10_init_137 : decode cX10_init 137 = .ok (.getfield 28, 3) := by decide +kernel
theorem dX10_init_140 : decode cX10_init 140 = .ok (.invokespecial 52, 3) := by decide +kernel
theorem dX10_init_143 : decode cX10_init 143 = .ok (.putfield 70, 3) := by decide +kernel
theorem dX10_init_146 : decode cX10_init 146 = .ok (.aload_n 0, 1) := by decide +kernel
theorem dX10_init_147 : decode cX10_init 147 = .ok (.new 73, 3) := by decide +kernel
theorem dX10_init_150 : decode cX10_init 150 = .ok (.dup, 1) := by decide +kernel
theorem dX10_init_151 : decode cX10_init 151 = .ok (.bipush 6, 2) := by decide +kernel
theorem dX10_init_153 : decode cX10_init 153 = .ok (.iconst 3, 1) := by decide +kernel
theorem dX10_init_154 : decode cX10_init 154 = .ok (.invokespecial 75, 3) := by decide +kernel
theorem dX10_init_157 : decode cX10_init 157 = .ok (.putfield 78, 3) := by decide +kernel
theorem dX10_init_160 : decode cX10_init 160 = .ok (.aload_n 0, 1) := by decide +kernel
theorem dX10_init_161 : decode cX10_init 161 = .ok (.iconst 0, 1) := by decide +kernel
theorem dX10_init_162 : decode cX10_init 162 = .ok (.putfield 82, 3) := by decide +kernel
theorem dX10_init_165 : decode cX10_init 165 = .ok (.return_, 1) := by decide +kernel
theorem dX11_init_0 : decode cX11_init 0 = .ok (.aload_n 0, 1) := by decide +kernel
theorem dX11_init_1 : decode cX11_init 1 = .ok (.invokespecial 1, 3) := by decide +kernel
theorem dX11_init_4 : decode cX11_init 4 = .ok (.aload_n 0, 1) := by decide +kernel
theorem dX11_init_5 : decode cX11_init 5 = .ok (.bipush 48, 2) := by decide +kernel
theorem dX11_init_7 : decode cX11_init 7 = .ok (.newarray .int, 2) := by decide +kernel
theorem dX11_init_9 : decode cX11_init 9 = .ok (.putfield 7, 3) := by decide +kernel
theorem dX11_init_12 : decode cX11_init 12 = .ok (.aload_n 0, 1) := by decide +kernel
theorem dX11_init_13 : decode cX11_init 13 = .ok (.bipush 48, 2) := by decide +kernel
theorem dX11_init_15 : decode cX11_init 15 = .ok (.newarray .int, 2) := by decide +kernel
theorem dX11_init_17 : decode cX11_init 17 = .ok (.putfield 13, 3) := by decide +kernel
theorem dX11_init_20 : decode cX11_init 20 = .ok (.aload_n 0, 1) := by decide +kernel
theorem dX11_init_21 : decode cX11_init 21 = .ok (.sipush 163, 3) := by decide +kernel
theorem dX11_init_24 : decode cX11_init 24 = .ok (.newarray .int, 2) := by decide +kernel
theorem dX11_init_26 : decode cX11_init 26 = .ok (.putfield 16, 3) := by decide +kernel
theorem dX11_init_29 : decode cX11_init 29 = .ok (.aload_n 0, 1) := by decide +kernel
theorem dX11_init_30 : decode cX11_init 30 = .ok (.sipush 1304, 3) := by decide +kernel
theorem dX11_init_33 : decode cX11_init 33 = .ok (.newarray .int, 2) := by decide +kernel
theorem dX11_init_35 : decode cX11_init 35 = .ok (.putfield 19, 3) := by decide +kernel
theorem dX11_init_38 : decode cX11_init 38 = .ok (.aload_n 0, 1) := by decide +kernel
theorem dX11_init_39 : decode cX11_init 39 = .ok (.sipush 326, 3) := by decide +kernel
theorem dX11_init_42 : decode cX11_init 42 = .ok (.newarray .int, 2) := by decide +kernel
theorem dX11_init_44 : decode cX11_init 44 = .ok (.putfield 22, 3) := by decide +kernel
theorem dX11_init_47 : decode cX11_init 47 = .ok (.aload_n 0, 1) := by decide +kernel
theorem dX11_init_48 : decode cX11_init 48 = .ok (.iconst 2, 1) := by decide +kernel
theorem dX11_init_49 : decode cX11_init 49 = .ok (.newarray .boolean, 2) := by decide +kernel
theorem dX11_init_51 : decode cX11_init 51 = .ok (.putfield 25, 3) := by decide +kernel
theorem dX11_init_54 : decode cX11_init 54 = .ok (.aload_n 0, 1) := by decide +kernel
theorem dX11_init_55 : decode cX11_init 55 = .ok (.sipush 163, 3) := by decide +kernel
theorem dX11_init_58 : decode cX11_init 58 = .ok (.newarray .int, 2) := by decide +kernel
theorem dX11_init_60 : decode cX11_init 60 = .ok (.putfield 29, 3) := by decide +kernel
theorem dX11_init_63 : decode cX11_init 63 = .ok (.aload_n 0, 1) := by decide +kernel
theorem dX11_init_64 : decode cX11_init 64 = .ok (.bipush 6, 2) := by decide +kernel
theorem dX11_init_66 : decode cX11_init 66 = .ok (.newarray .int, 2) := by decide +kernel
theorem dX11_init_68 : decode cX11_init 68 = .ok (.putfield 32, 3) := by decide +kernel
theorem dX11_init_71 : decode cX11_init 71 = .ok (.aload_n 0, 1) := by decide +kernel
theorem dX11_init_72 : decode cX11_init 72 = .ok (.bipush 6, 2) := by decide +kernel
theorem dX11_init_74 : decode cX11_init 74 = .ok (.newarray .int, 2) := by decide +kernel
theorem dX11_init_76 : decode cX11_init 76 = .ok (.putfield 35, 3) := by decide +kernel
theorem dX11_init_79 : decode cX11_init 79 = .ok (.aload_n 0, 1) := by decide +kernel
theorem dX11_init_80 : decode cX11_init 80 = .ok (.bipush 6, 2) := by decide +kernel
theorem dX11_init_82 : decode cX11_init 82 = .ok (.newarray .int, 2) := by decide +kernel
theorem dX11_init_84 : decode cX11_init 84 = .ok (.putfield 38, 3) := by decide +kernel
theorem dX11_init_87 : decode cX11_init 87 = .ok (.aload_n 0, 1) := by decide +kernel
theorem dX11_init_88 : decode cX11_init 88 = .ok (.sipush 150, 3) := by decide +kernel
theorem dX11_init_91 : decode cX11_init 91 = .ok (.newarray .int, 2) := by decide +kernel
theorem dX11_init_93 : decode cX11_init 93 = .ok (.putfield 41, 3) := by decide +kernel
theorem dX11_init_96 : decode cX11_init 96 = .ok (.aload_n 0, 1) := by decide +kernel
theorem dX11_init_97 : decode cX11_init 97 = .ok (.sipush 800, 3) := by decide +kernel
theorem dX11_init_100 : decode cX11_init 100 = .ok (.newarray .boolean, 2) := by decide +kernel
theorem dX11_init_102 : decode cX11_init 102 = .ok (.putfield 44, 3) := by decide +kernel
theorem dX11_init_105 : decode cX11_init 105 = .ok (.aload_n 0, 1) := by decide +kernel
theorem dX11_init_106 : decode cX11_init 106 = .ok (.bipush 36, 2) := by decide +kernel
theorem dX11_init_108 : decode cX11_init 108 = .ok (.newarray .int, 2) := by decide +kernel
theorem dX11_init_110 : decode cX11_init 110 = .ok (.putfield 47, 3) := by decide +kernel
theorem dX11_init_113 : decode cX11_init 113 = .ok (.aload_n 0, 1) := by decide +kernel
theorem dX11_init_114 : decode cX11_init 114 = .ok (.iconst 5, 1) := by decide +kernel
theorem dX11_init_115 : decode cX11_init 115 = .ok (.newarray .int, 2) := by decide +kernel
theorem dX11_init_117 : decode cX11_init 117 = .ok (.putfield 50, 3) := by decide +kernel
theorem dX11_init_120 : decode cX11_init 120 = .ok (.aload_n 0, 1) := by decide +kernel
theorem dX11_init_121 : decode cX11_init 121 = .ok (.iconst 5, 1) := by decide +kernel
theorem dX11_init_122 : decode cX11_init 122 = .ok (.newarray .int, 2) := by decide +kernel
theorem dX11_init_124 : decode cX11_init 124 = .ok (.putfield 53, 3) := by decide +kernel
theorem dX11_init_127 : decode cX11_init 127 = .ok (.aload_n 0, 1) := by decide +kernel
theorem dX11_init_128 : decode cX11_init 128 = .ok (.invokevirtual 56, 3) := by decide +kernel
theorem dX11_init_131 : decode cX11_init 131 = .ok (.aload_n 0, 1) := by decide +kernel
theorem dX11_init_132 : decode cX11_init 132 = .ok (.invokevirtual 59, 3) := by decide +kernel
theorem dX11_init_135 : decode cX11_init 135 = .ok (.return_, 1) := by decide +kernel
set_option maxRecDepth 100000 in
theorem m_X0_init {G : GT} (hg : gx G = fun _ _ => True) {n : Nat} {μ : Mem} {Q : Nat → Mem → Prop} {v0 v1 : Int}  (h : (((0 : Int) ≤ v0) ∧ ((Oc n v0 0 9) ∧ ((SH ((n : Nat) : Int) = (8, 3) ∧ 0 + 1 ≤ 2 ∧ 0 + 3 ≤ 803) ∧ ((0 + 1 + 1 ≤ 2 ∧ 0 + 3 + 800 ≤ 803) ∧ (CV G Y_X8_init [.inr (n : Int), .inl 6, .inl 4] (n + 1) (nw (up μ v0 0 v1) n (objD 8)) (fun (n5 : Nat) (μ6 : Mem) => ((Oc n5 v0 0 9) ∧ (((0 + 1) + 1 ≤ 2 ∧ (0 + 3) + 800 ≤ 803) ∧ (Q n5 (up μ6 v0 1 (n : Int)))))))))))) : CV G Y_X0_init [.inr v0, .inr v1] n μ Q := by
  refine e_V (by decide) (Nat.le_of_ble_eq_true rfl) ?_
  show Wa G Y_X0_init (ZV G Y_X0_init Q) 0 0 n μ 0 [(0, .inr v0), (1, .inr v1)] []
  refine a_aload_n (k := 0) dX0_init_0 rfl rfl ?_
  obtain ⟨q1, h⟩ := h
  refine k_X0_3 rfl dX0_init_1 q1 (Nat.le_of_ble_eq_true rfl) rfl rfl ?_
  refine a_aload_n (k := 0) dX0_init_4 rfl rfl ?_
  refine a_aload_n (k := 1) dX0_init_5 rfl rfl ?_
  obtain ⟨q2, h⟩ := h
  refine p_X0_9 rfl rfl dX0_init_6 (fun _ => q2) (tru hg) ?_
  refine a_aload_n (k := 0) dX0_init_9 rfl rfl ?_
  obtain ⟨q3, h⟩ := h
  refine n_X0_15 rfl dX0_init_10 q3.1 q3.2.1 q3.2.2 (tru hg) ?_
  refine a_dup dX0_init_13 ?_
  refine a_bipush dX0_init_14 (by decide) (by decide) ?_
  refine a_iconst dX0_init_16 (by decide) ?_
  obtain ⟨q9, h⟩ := h
  refine k_X0_17 rfl dX0_init_17 (Nat.le_of_ble_eq_true rfl) rfl q9.1 q9.2 (Int.natCast_nonneg _) h (fun n5 μ6 h => ?_)
  obtain ⟨q7, h⟩ := h
  refine p_X0_20 rfl rfl dX0_init_20 (fun _ => q7) (tru hg) ?_
  obtain ⟨q8, h⟩ := h
  exact a_ret dX0_init_23 rfl q8.1 q8.2 h
theorem m_X1_init {G : GT} {n : Nat} {μ : Mem} {Q : Nat → Mem → Prop} {v0 v1 v2 v3 v4 v5 v6 : Int} (hx : ∀ (n : Nat) (μ : Mem) (k v : Int), gx G n μ → gx G n (up μ v0 k v))  (h : (((0 : Int) ≤ v0) ∧ ((Oc n v0 1 6) ∧ ((Oc n v0 1 6) ∧ ((Oc n v0 1 6) ∧ ((Oc n v0 1 6) ∧ ((Oc n v0 1 6) ∧ ((Oc n v0 1 6) ∧ (Q n (up (up (up (up (up (up μ v0 0 v1) v0 1 v2) v0 2 v3) v0 3 v4) v0 4 v5) v0 5 v6)))))))))) : CV G Y_X1_init [.inr v0, .inl v1, .inl v2, .inl v3, .inl v4, .inl v5, .inl v6] n μ Q := by
  refine e_V (by decide) (Nat.le_of_ble_eq_true rfl) ?_
  show Wa G Y_X1_init (ZV G Y_X1_init Q) 0 0 n μ 0 [(0, .inr v0), (1, .inl v1), (2, .inl v2), (3, .inl v3), (4, .inl v4), (5, .inl v5), (6, .inl v6)] []
  refine a_aload_n (k := 0) dX1_init_0 rfl rfl ?_
  obtain ⟨q1, h⟩ := h
  refine k_X1_3 rfl dX1_init_1 q1 (Nat.le_of_ble_eq_true rfl) rfl rfl ?_
  refine a_aload_n (k := 0) dX1_init_4 rfl rfl ?_
  refine a_iload_n (k := 1) dX1_init_5 rfl rfl ?_
  obtain ⟨q2, h⟩ := h
  refine p_X1_9 rfl rfl dX1_init_6 (fun _ => q2) (hx _ _ _ _) ?_
  refine a_aload_n (k := 0) dX1_init_9 rfl rfl ?_
  refine a_iload_n (k := 2) dX1_init_10 rfl rfl ?_
  obtain ⟨q3, h⟩ := h
  refine p_X1_15 rfl rfl dX1_init_11 (fun _ => q3) (hx _ _ _ _) ?_
  refine a_aload_n (k := 0) dX1_init_14 rfl rfl ?_
  refine a_iload_n (k := 3) dX1_init_15 rfl rfl ?_
  obtain ⟨q4, h⟩ := h
  refine p_X1_18 rfl rfl dX1_init_16 (fun _ => q4) (hx _ _ _ _) ?_
  refine a_aload_n (k := 0) dX1_init_19 rfl rfl ?_
  refine a_iload (k := 4) dX1_init_20 rfl ?_
  obtain ⟨q5, h⟩ := h
  refine p_X1_21 rfl rfl dX1_init_22 (fun _ => q5) (hx _ _ _ _) ?_
  refine a_aload_n (k := 0) dX1_init_25 rfl rfl ?_
  refine a_iload (k := 5) dX1_init_26 rfl ?_
  obtain ⟨q6, h⟩ := h
  refine p_X1_24 rfl rfl dX1_init_28 (fun _ => q6) (hx _ _ _ _) ?_
  refine a_aload_n (k := 0) dX1_init_31 rfl rfl ?_
  refine a_iload (k := 6) dX1_init_32 rfl ?_
  obtain ⟨q7, h⟩ := h
  refine p_X1_27 rfl rfl dX1_init_34 (fun _ => q7) (hx _ _ _ _) ?_
  exact a_ret dX1_init_37 rfl (Nat.le_of_ble_eq_true rfl) (Nat.le_of_ble_eq_true rfl) h
abbrev B_X2_init_27 (G : GT) (Q : Nat → Mem → Prop) (c0 s0 : Nat) (n : Nat) (μ : Mem) (v0 : Int) (v1 : Int) (v2 : Int) : Prop := Wa G Y_X2_init (ZV G Y_X2_init Q) c0 s0 n μ 27 [(0, .inr v0), (1, .inr v1), (2, .inl v2)] []
set_option maxRecDepth 100000 in
theorem m_X2_init {G : GT} (hg : gx G = fun _ _ => True) {n : Nat} {μ : Mem} {Q : Nat → Mem → Prop} {v0 v1 : Int}  (h : (((0 : Int) ≤ v0) ∧ ((SH ((n : Nat) : Int) = (7, 5) ∧ 0 + 1 ≤ 262 ∧ 0 + 5 ≤ 65897) ∧ ((0 + 1 + 28 ≤ 262 ∧ 0 + 5 + 7316 ≤ 65897) ∧ (CV G Y_X7_init [.inr (n : Int), .inr v1] (n + 1) (nw μ n (objD 7)) (fun (n4 : Nat) (μ5 : Mem) => ((Oc n4 v0 2 4) ∧ ((SH ((n4 : Nat) : Int) = (24, 8) ∧ (0 + 1) + 28 + 1 ≤ 262 ∧ (0 + 5) + 7316 + 8 ≤ 65897) ∧ ((Oc (n4 + 1) v0 2 4) ∧ (B_X2_init_27 G Q (((0 + 1) + 28) + 1) (((0 + 5) + 7316) + 8) (n4 + 1) (up (nw (up μ5 v0 0 (n : Int)) n4 nullD) v0 1 (n4 : Int)) v0 v1 0)))))))))) : CV G Y_X2_init [.inr v0, .inr v1] n μ Q := by
  refine e_V (by decide) (Nat.le_of_ble_eq_true rfl) ?_
  show Wa G Y_X2_init (ZV G Y_X2_init Q) 0 0 n μ 0 [(0, .inr v0), (1, .inr v1)] []
  refine a_aload_n (k := 0) dX2_init_0 rfl rfl ?_
  obtain ⟨q1, h⟩ := h
  refine k_X2_3 rfl dX2_init_1 q1 (Nat.le_of_ble_eq_true rfl) rfl rfl ?_
  refine a_aload_n (k := 0) dX2_init_4 rfl rfl ?_
  obtain ⟨q2, h⟩ := h
  refine n_X2_9 rfl dX2_init_5 q2.1 q2.2.1 q2.2.2 (tru hg) ?_
  refine a_dup dX2_init_8 ?_
  refine a_aload_n (k := 1) dX2_init_9 rfl rfl ?_
  obtain ⟨q9, h⟩ := h
  refine k_X2_11 rfl dX2_init_10 (Nat.le_of_ble_eq_true rfl) rfl q9.1 q9.2 (Int.natCast_nonneg _) h (fun n4 μ5 h => ?_)
  obtain ⟨q6, h⟩ := h
  refine p_X2_14 rfl rfl dX2_init_13 (fun _ => q6) (tru hg) ?_
  refine a_aload_n (k := 0) dX2_init_16 rfl rfl ?_
  refine a_bipush dX2_init_17 (by decide) (by decide) ?_
  obtain ⟨q7, h⟩ := h
  refine na_X2_9 (N := 8) rfl dX2_init_19 (by decide) q7.1 q7.2.1 q7.2.2 (tru hg) ?_
  obtain ⟨q8, h⟩ := h
  refine p_X2_20 rfl rfl dX2_init_22 (fun _ => q8) (tru hg) ?_
  refine a_iconst dX2_init_25 (by decide) ?_
  refine b_istore_n (L' := [(0, .inr v0), (1, .inr v1), (2, .inl 0)]) [1, 2, 0] dX2_init_26 rfl (Nat.le_of_ble_eq_true rfl) rfl ?_
  exact h
set_option maxRecDepth 100000 in
theorem b_X2_init_27 {G : GT} (hg : gx G = fun _ _ => True) {c0 s0 : Nat} {n : Nat} {μ : Mem} {Q : Nat → Mem → Prop} {v0 v1 v2 : Int}  (h : ((Oc n v0 2 4) ∧ ((Oc n (μ v0 1) 24 8) ∧ ((8 ≤ v2 → ((Oc n v0 2 4) ∧ ((Oc n v0 2 4) ∧ ((c0 ≤ 262 ∧ s0 ≤ 65897) ∧ (Q n (up (up μ v0 2 0) v0 3 0)))))) ∧ (¬ (8 ≤ v2) → ((Oc n v0 2 4) ∧ ((SH ((n : Nat) : Int) = (7, 5) ∧ c0 + 1 ≤ 262 ∧ s0 + 5 ≤ 65897) ∧ ((c0 + 1 + 28 ≤ 262 ∧ s0 + 5 + 7316 ≤ 65897) ∧ (CV G Y_X7_init [.inr (n : Int), .inr v1] (n + 1) (nw μ n (objD 7)) (fun (n10 : Nat) (μ11 : Mem) => ((Oc n10 (μ v0 1) 24 8 ∧ (0 ≤ v2 ∧ v2 < 8) ∧ Oc n10 (n : Int) 7 5) ∧ ((inR (v2 + 1)) ∧ (B_X2_init_27 G Q ((c0 + 1) + 28) ((s0 + 5) + 7316) n10 (up μ11 (μ v0 1) v2 (n : Int)) v0 v1 (v2 + 1)))))))))))))) : B_X2_init_27 G Q c0 s0 n μ v0 v1 v2 := by
  show Wa G Y_X2_init (ZV G Y_X2_init Q) c0 s0 n μ 27 [(0, .inr v0), (1, .inr v1), (2, .inl v2)] []
  refine a_iload_n (k := 2) dX2_init_27 rfl rfl ?_
  refine a_aload_n (k := 0) dX2_init_28 rfl rfl ?_
  obtain ⟨q1, h⟩ := h
  refine g_X2_20 rfl dX2_init_29 (fun _ => q1) ?_
  obtain ⟨q2, h⟩ := h
  refine a_alen (N := 8) (t0 := 4) dX2_init_32 (by decide) (by decide) rfl (fun _ => q2) ?_
  refine a_icmp_ge (tgt := 56) dX2_init_33 (by decide) (fun c3 => ?_) (fun c3 => ?_)
  · replace h := h.1 c3
    refine a_aload_n (k := 0) dX2_init_56 rfl rfl ?_
    refine a_iconst dX2_init_57 (by decide) ?_
    obtain ⟨q4, h⟩ := h
    refine p_X2_24 rfl dX2_init_58 (fun _ => q4) (tru hg) ?_
    refine a_aload_n (k := 0) dX2_init_61 rfl rfl ?_
    refine a_iconst dX2_init_62 (by decide) ?_
    obtain ⟨q5, h⟩ := h
    refine p_X2_28 rfl dX2_init_63 (fun _ => q5) (tru hg) ?_
    obtain ⟨q6, h⟩ := h
    exact a_ret dX2_init_66 rfl q6.1 q6.2 h
  · replace h := h.2 c3
    refine a_aload_n (k := 0) dX2_init_36 rfl rfl ?_
    obtain ⟨q7, h⟩ := h
    refine g_X2_20 rfl dX2_init_37 (fun _ => q7) ?_
    refine a_iload_n (k := 2) dX2_init_40 rfl rfl ?_
    obtain ⟨q8, h⟩ := h
    refine n_X2_9 rfl dX2_init_41 q8.1 q8.2.1 q8.2.2 (tru hg) ?_
    refine a_dup dX2_init_44 ?_
    refine a_aload_n (k := 1) dX2_init_45 rfl rfl ?_
    obtain ⟨q14, h⟩ := h
    refine k_X2_11 rfl dX2_init_46 (Nat.le_of_ble_eq_true rfl) rfl q14.1 q14.2 (Int.natCast_nonneg _) h (fun n10 μ11 h => ?_)
    obtain ⟨q12, h⟩ := h
    refine a_aastore (N := 8) (kd := 24) (t0 := 4) dX2_init_49 (by decide) rfl (fun _ => q12.1) q12.2.1.1 q12.2.1.2 cf_7 (fun _ => q12.2.2) (tru hg) ?_
    obtain ⟨q13, h⟩ := h
    refine b_iinc (L' := [(0, .inr v0), (1, .inr v1), (2, .inl (v2 + 1))]) (k := 2) [1, 2, 0] dX2_init_50 rfl q13 (Nat.le_of_ble_eq_true rfl) rfl ?_
    refine a_goto (tgt := 27) dX2_init_53 (by decide) ?_
    exact h
set_option maxRecDepth 100000 in
theorem m_X3_init {G : GT} (hg : gx G = fun _ _ => True) {n : Nat} {μ : Mem} {Q : Nat → Mem → Prop} {v0 : Int}  (h : (((0 : Int) ≤ v0) ∧ ((SH ((n : Nat) : Int) = (1, 6) ∧ 0 + 1 ≤ 2 ∧ 0 + 6 ≤ 14) ∧ ((0 + 1 ≤ 2 ∧ 0 + 6 ≤ 14) ∧ (CV G Y_X1_init [.inr (n : Int), .inl (-9), .inl (-9), .inl 0, .inl 0, .inl 1, .inl 0] (n + 1) (nw μ n (objD 1)) (fun (n4 : Nat) (μ5 : Mem) => ((Oc n4 v0 3 4) ∧ ((SH ((n4 : Nat) : Int) = (23, 8) ∧ 0 + 1 + 1 ≤ 2 ∧ 0 + 6 + 8 ≤ 14) ∧ ((Oc (n4 + 1) v0 3 4) ∧ ((Oc (n4 + 1) v0 3 4) ∧ ((Oc (n4 + 1) v0 3 4) ∧ (((0 + 1) + 1 ≤ 2 ∧ (0 + 6) + 8 ≤ 14) ∧ (Q (n4 + 1) (up (up (up (nw (up μ5 v0 0 (n : Int)) n4 nullD) v0 1 (n4 : Int)) v0 2 0) v0 3 2)))))))))))))) : CV G Y_X3_init [.inr v0] n μ Q := by
  refine e_V (by decide) (Nat.le_of_ble_eq_true rfl) ?_
  show Wa G Y_X3_init (ZV G Y_X3_init Q) 0 0 n μ 0 [(0, .inr v0)] []
  refine a_aload_n (k := 0) dX3_init_0 rfl rfl ?_
  obtain ⟨q1, h⟩ := h
  refine k_X3_3 rfl dX3_init_1 q1 (Nat.le_of_ble_eq_true rfl) rfl rfl ?_
  refine a_aload_n (k := 0) dX3_init_4 rfl rfl ?_
  obtain ⟨q2, h⟩ := h
  refine n_X3_9 rfl dX3_init_5 q2.1 q2.2.1 q2.2.2 (tru hg) ?_
  refine a_dup dX3_init_8 ?_
  refine a_bipush dX3_init_9 (by decide) (by decide) ?_
  refine a_bipush dX3_init_11 (by decide) (by decide) ?_
  refine a_iconst dX3_init_13 (by decide) ?_
  refine a_iconst dX3_init_14 (by decide) ?_
  refine a_iconst dX3_init_15 (by decide) ?_
  refine a_iconst dX3_init_16 (by decide) ?_
  obtain ⟨q12, h⟩ := h
  refine k_X3_11 rfl dX3_init_17 (Nat.le_of_ble_eq_true rfl) rfl q12.1 q12.2 (Int.natCast_nonneg _) h (fun n4 μ5 h => ?_)
  obtain ⟨q6, h⟩ := h
  refine p_X3_14 rfl rfl dX3_init_20 (fun _ => q6) (tru hg) ?_
  refine a_aload_n (k := 0) dX3_init_23 rfl rfl ?_
  refine a_bipush dX3_init_24 (by decide) (by decide) ?_
  obtain ⟨q7, h⟩ := h
  refine na_X3_9 (N := 8) rfl dX3_init_26 (by decide) q7.1 q7.2.1 q7.2.2 (tru hg) ?_
  obtain ⟨q8, h⟩ := h
  refine p_X3_20 rfl rfl dX3_init_29 (fun _ => q8) (tru hg) ?_
  refine a_aload_n (k := 0) dX3_init_32 rfl rfl ?_
  refine a_iconst dX3_init_33 (by decide) ?_
  obtain ⟨q9, h⟩ := h
  refine p_X3_24 rfl dX3_init_34 (fun _ => q9) (tru hg) ?_
  refine a_aload_n (k := 0) dX3_init_37 rfl rfl ?_
  refine a_iconst dX3_init_38 (by decide) ?_
  obtain ⟨q10, h⟩ := h
  refine p_X3_28 rfl dX3_init_39 (fun _ => q10) (tru hg) ?_
  obtain ⟨q11, h⟩ := h
  exact a_ret dX3_init_42 rfl q11.1 q11.2 h
set_option maxRecDepth 100000 in
theorem m_X4_init {G : GT} (hg : gx G = fun _ _ => True) {n : Nat} {μ : Mem} {Q : Nat → Mem → Prop} {v0 v1 : Int}  (h : (((0 : Int) ≤ v0) ∧ ((Oc n v0 4 4) ∧ ((SH ((n : Nat) : Int) = (3, 4) ∧ 0 + 1 ≤ 3 ∧ 0 + 4 ≤ 18) ∧ ((0 + 1 + 2 ≤ 3 ∧ 0 + 4 + 14 ≤ 18) ∧ (CV G Y_X3_init [.inr (n : Int)] (n + 1) (nw (up μ v0 0 v1) n (objD 3)) (fun (n5 : Nat) (μ6 : Mem) => ((Oc n5 v0 4 4) ∧ ((Oc n5 v0 4 4) ∧ ((Oc n5 v0 4 4) ∧ (((0 + 1) + 2 ≤ 3 ∧ (0 + 4) + 14 ≤ 18) ∧ (Q n5 (up (up (up μ6 v0 1 (n : Int)) v0 2 0) v0 3 (-1)))))))))))))) : CV G Y_X4_init [.inr v0, .inr v1] n μ Q := by
  refine e_V (by decide) (Nat.le_of_ble_eq_true rfl) ?_
  show Wa G Y_X4_init (ZV G Y_X4_init Q) 0 0 n μ 0 [(0, .inr v0), (1, .inr v1)] []
  refine a_aload_n (k := 0) dX4_init_0 rfl rfl ?_
  obtain ⟨q1, h⟩ := h
  refine k_X4_3 rfl dX4_init_1 q1 (Nat.le_of_ble_eq_true rfl) rfl rfl ?_
  refine a_aload_n (k := 0) dX4_init_4 rfl rfl ?_
  refine a_aload_n (k := 1) dX4_init_5 rfl rfl ?_
  obtain ⟨q2, h⟩ := h
  refine p_X4_9 rfl rfl dX4_init_6 (fun _ => q2) (tru hg) ?_
  refine a_aload_n (k := 0) dX4_init_9 rfl rfl ?_
  obtain ⟨q3, h⟩ := h
  refine n_X4_15 rfl dX4_init_10 q3.1 q3.2.1 q3.2.2 (tru hg) ?_
  refine a_dup dX4_init_13 ?_
  obtain ⟨q11, h⟩ := h
  refine k_X4_17 rfl dX4_init_14 (Nat.le_of_ble_eq_true rfl) rfl q11.1 q11.2 (Int.natCast_nonneg _) h (fun n5 μ6 h => ?_)
  obtain ⟨q7, h⟩ := h
  refine p_X4_18 rfl rfl dX4_init_17 (fun _ => q7) (tru hg) ?_
  refine a_aload_n (k := 0) dX4_init_20 rfl rfl ?_
  refine a_iconst dX4_init_21 (by decide) ?_
  obtain ⟨q8, h⟩ := h
  refine p_X4_22 rfl dX4_init_22 (fun _ => q8) (tru hg) ?_
  refine a_aload_n (k := 0) dX4_init_25 rfl rfl ?_
  refine a_iconst dX4_init_26 (by decide) ?_
  obtain ⟨q9, h⟩ := h
  refine p_X4_26 rfl dX4_init_27 (fun _ => q9) (tru hg) ?_
  obtain ⟨q10, h⟩ := h
  exact a_ret dX4_init_30 rfl q10.1 q10.2 h
set_option maxRecDepth 100000 in
theorem m_X5_init {G : GT} (hg : gx G = fun _ _ => True) {n : Nat} {μ : Mem} {Q : Nat → Mem → Prop} {v0 v1 : Int}  (h : (((0 : Int) ≤ v0) ∧ ((Oc n v0 5 1) ∧ (Q n (up μ v0 0 v1))))) : CV G Y_X5_init [.inr v0, .inr v1] n μ Q := by
  refine e_V (by decide) (Nat.le_of_ble_eq_true rfl) ?_
  show Wa G Y_X5_init (ZV G Y_X5_init Q) 0 0 n μ 0 [(0, .inr v0), (1, .inr v1)] []
  refine a_aload_n (k := 0) dX5_init_0 rfl rfl ?_
  obtain ⟨q1, h⟩ := h
  refine k_X5_3 rfl dX5_init_1 q1 (Nat.le_of_ble_eq_true rfl) rfl rfl ?_
  refine a_aload_n (k := 0) dX5_init_4 rfl rfl ?_
  refine a_aload_n (k := 1) dX5_init_5 rfl rfl ?_
  obtain ⟨q2, h⟩ := h
  refine p_X5_9 rfl rfl dX5_init_6 (fun _ => q2) (tru hg) ?_
  exact a_ret dX5_init_9 rfl (Nat.le_of_ble_eq_true rfl) (Nat.le_of_ble_eq_true rfl) h
set_option maxRecDepth 100000 in
theorem m_X6_init {G : GT} (hg : gx G = fun _ _ => True) {n : Nat} {μ : Mem} {Q : Nat → Mem → Prop} {v0 v1 : Int}  (h : (((0 : Int) ≤ v0) ∧ ((Oc n v0 6 8) ∧ ((SH ((n : Nat) : Int) = (8, 3) ∧ 0 + 1 ≤ 6 ∧ 0 + 3 ≤ 2409) ∧ ((0 + 1 + 1 ≤ 6 ∧ 0 + 3 + 800 ≤ 2409) ∧ (CV G Y_X8_init [.inr (n : Int), .inl 8, .inl 100] (n + 1) (nw (up μ v0 0 v1) n (objD 8)) (fun (n5 : Nat) (μ6 : Mem) => ((Oc n5 v0 6 8) ∧ ((SH ((n5 : Nat) : Int) = (8, 3) ∧ (0 + 1) + 1 + 1 ≤ 6 ∧ (0 + 3) + 800 + 3 ≤ 2409) ∧ ((((0 + 1) + 1) + 1 + 1 ≤ 6 ∧ ((0 + 3) + 800) + 3 + 800 ≤ 2409) ∧ (CV G Y_X8_init [.inr (n5 : Int), .inl 6, .inl 4] (n5 + 1) (nw (up μ6 v0 1 (n : Int)) n5 (objD 8)) (fun (n10 : Nat) (μ11 : Mem) => ((Oc n10 v0 6 8) ∧ ((SH ((n10 : Nat) : Int) = (8, 3) ∧ (((0 + 1) + 1) + 1) + 1 + 1 ≤ 6 ∧ (((0 + 3) + 800) + 3) + 800 + 3 ≤ 2409) ∧ ((((((0 + 1) + 1) + 1) + 1) + 1 + 1 ≤ 6 ∧ ((((0 + 3) + 800) + 3) + 800) + 3 + 800 ≤ 2409) ∧ (CV G Y_X8_init [.inr (n10 : Int), .inl 6, .inl 4] (n10 + 1) (nw (up μ11 v0 2 (n5 : Int)) n10 (objD 8)) (fun (n15 : Nat) (μ16 : Mem) => ((Oc n15 v0 6 8) ∧ ((Oc n15 v0 6 8) ∧ (((((((0 + 1) + 1) + 1) + 1) + 1) + 1 ≤ 6 ∧ (((((0 + 3) + 800) + 3) + 800) + 3) + 800 ≤ 2409) ∧ (Q n15 (up (up μ16 v0 3 (n10 : Int)) v0 4 1000)))))))))))))))))))))) : CV G Y_X6_init [.inr v0, .inr v1] n μ Q := by
  refine e_V (by decide) (Nat.le_of_ble_eq_true rfl) ?_
  show Wa G Y_X6_init (ZV G Y_X6_init Q) 0 0 n μ 0 [(0, .inr v0), (1, .inr v1)] []
  refine a_aload_n (k := 0) dX6_init_0 rfl rfl ?_
  obtain ⟨q1, h⟩ := h
  refine k_X6_3 rfl dX6_init_1 q1 (Nat.le_of_ble_eq_true rfl) rfl rfl ?_
  refine a_aload_n (k := 0) dX6_init_4 rfl rfl ?_
  refine a_aload_n (k := 1) dX6_init_5 rfl rfl ?_
  obtain ⟨q2, h⟩ := h
  refine p_X6_9 rfl rfl dX6_init_6 (fun _ => q2) (tru hg) ?_
  refine a_aload_n (k := 0) dX6_init_9 rfl rfl ?_
  obtain ⟨q3, h⟩ := h
  refine n_X6_15 rfl dX6_init_10 q3.1 q3.2.1 q3.2.2 (tru hg) ?_
  refine a_dup dX6_init_13 ?_
  refine a_bipush dX6_init_14 (by decide) (by decide) ?_
  refine a_bipush dX6_init_16 (by decide) (by decide) ?_
  obtain ⟨q22, h⟩ := h
  refine k_X6_17 rfl dX6_init_18 (Nat.le_of_ble_eq_true rfl) rfl q22.1 q22.2 (Int.natCast_nonneg _) h (fun n5 μ6 h => ?_)
  obtain ⟨q7, h⟩ := h
  refine p_X6_20 rfl rfl dX6_init_21 (fun _ => q7) (tru hg) ?_
  refine a_aload_n (k := 0) dX6_init_24 rfl rfl ?_
  obtain ⟨q8, h⟩ := h
  refine n_X6_15 rfl dX6_init_25 q8.1 q8.2.1 q8.2.2 (tru hg) ?_
  refine a_dup dX6_init_28 ?_
  refine a_bipush dX6_init_29 (by decide) (by decide) ?_
  refine a_iconst dX6_init_31 (by decide) ?_
  obtain ⟨q21, h⟩ := h
  refine k_X6_17 rfl dX6_init_32 (Nat.le_of_ble_eq_true rfl) rfl q21.1 q21.2 (Int.natCast_nonneg _) h (fun n10 μ11 h => ?_)
  obtain ⟨q12, h⟩ := h
  refine p_X6_24 rfl rfl dX6_init_35 (fun _ => q12) (tru hg) ?_
  refine a_aload_n (k := 0) dX6_init_38 rfl rfl ?_
  obtain ⟨q13, h⟩ := h
  refine n_X6_15 rfl dX6_init_39 q13.1 q13.2.1 q13.2.2 (tru hg) ?_
  refine a_dup dX6_init_42 ?_
  refine a_bipush dX6_init_43 (by decide) (by decide) ?_
  refine a_iconst dX6_init_45 (by decide) ?_
  obtain ⟨q20, h⟩ := h
  refine k_X6_17 rfl dX6_init_46 (Nat.le_of_ble_eq_true rfl) rfl q20.1 q20.2 (Int.natCast_nonneg _) h (fun n15 μ16 h => ?_)
  obtain ⟨q17, h⟩ := h
  refine p_X6_27 rfl rfl dX6_init_49 (fun _ => q17) (tru hg) ?_
  refine a_aload_n (k := 0) dX6_init_52 rfl rfl ?_
  refine a_sipush dX6_init_53 (by decide) (by decide) ?_
  obtain ⟨q18, h⟩ := h
  refine p_X6_30 rfl dX6_init_56 (fun _ => q18) (tru hg) ?_
  obtain ⟨q19, h⟩ := h
  exact a_ret dX6_init_59 rfl q19.1 q19.2 h
abbrev B_X7_init_27 (G : GT) (Q : Nat → Mem → Prop) (c0 s0 : Nat) (n : Nat) (μ : Mem) (v0 : Int) (v1 : Int) (v2 : Int) : Prop := Wa G Y_X7_init (ZV G Y_X7_init Q) c0 s0 n μ 27 [(0, .inr v0), (1, .inr v1), (2, .inl v2)] []
set_option maxRecDepth 100000 in
theorem m_X7_init {G : GT} (hg : gx G = fun _ _ => True) {n : Nat} {μ : Mem} {Q : Nat → Mem → Prop} {v0 v1 : Int}  (h : (((0 : Int) ≤ v0) ∧ ((SH ((n : Nat) : Int) = (0, 9) ∧ 0 + 1 ≤ 28 ∧ 0 + 9 ≤ 7316) ∧ ((0 + 1 + 2 ≤ 28 ∧ 0 + 9 + 803 ≤ 7316) ∧ (CV G Y_X0_init [.inr (n : Int), .inr v1] (n + 1) (nw μ n (objD 0)) (fun (n4 : Nat) (μ5 : Mem) => ((Oc n4 v0 7 5) ∧ ((SH ((n4 : Nat) : Int) = (22, 8) ∧ (0 + 1) + 2 + 1 ≤ 28 ∧ (0 + 9) + 803 + 8 ≤ 7316) ∧ ((Oc (n4 + 1) v0 7 5) ∧ (B_X7_init_27 G Q (((0 + 1) + 2) + 1) (((0 + 9) + 803) + 8) (n4 + 1) (up (nw (up μ5 v0 0 (n : Int)) n4 nullD) v0 1 (n4 : Int)) v0 v1 0)))))))))) : CV G Y_X7_init [.inr v0, .inr v1] n μ Q := by
  refine e_V (by decide) (Nat.le_of_ble_eq_true rfl) ?_
  show Wa G Y_X7_init (ZV G Y_X7_init Q) 0 0 n μ 0 [(0, .inr v0), (1, .inr v1)] []
  refine a_aload_n (k := 0) dX7_init_0 rfl rfl ?_
  obtain ⟨q1, h⟩ := h
  refine k_X7_3 rfl dX7_init_1 q1 (Nat.le_of_ble_eq_true rfl) rfl rfl ?_
  refine a_aload_n (k := 0) dX7_init_4 rfl rfl ?_
  obtain ⟨q2, h⟩ := h
  refine n_X7_9 rfl dX7_init_5 q2.1 q2.2.1 q2.2.2 (tru hg) ?_
  refine a_dup dX7_init_8 ?_
  refine a_aload_n (k := 1) dX7_init_9 rfl rfl ?_
  obtain ⟨q9, h⟩ := h
  refine k_X7_11 rfl dX7_init_10 (Nat.le_of_ble_eq_true rfl) rfl q9.1 q9.2 (Int.natCast_nonneg _) h (fun n4 μ5 h => ?_)
  obtain ⟨q6, h⟩ := h
  refine p_X7_14 rfl rfl dX7_init_13 (fun _ => q6) (tru hg) ?_
  refine a_aload_n (k := 0) dX7_init_16 rfl rfl ?_
  refine a_bipush dX7_init_17 (by decide) (by decide) ?_
  obtain ⟨q7, h⟩ := h
  refine na_X7_9 (N := 8) rfl dX7_init_19 (by decide) q7.1 q7.2.1 q7.2.2 (tru hg) ?_
  obtain ⟨q8, h⟩ := h
  refine p_X7_20 rfl rfl dX7_init_22 (fun _ => q8) (tru hg) ?_
  refine a_iconst dX7_init_25 (by decide) ?_
  refine b_istore_n (L' := [(0, .inr v0), (1, .inr v1), (2, .inl 0)]) [1, 2, 0] dX7_init_26 rfl (Nat.le_of_ble_eq_true rfl) rfl ?_
  exact h
set_option maxRecDepth 100000 in
theorem b_X7_init_27 {G : GT} (hg : gx G = fun _ _ => True) {c0 s0 : Nat} {n : Nat} {μ : Mem} {Q : Nat → Mem → Prop} {v0 v1 v2 : Int}  (h : ((Oc n v0 7 5) ∧ ((Oc n (μ v0 1) 22 8) ∧ ((8 ≤ v2 → ((Oc n v0 7 5) ∧ ((Oc n v0 7 5) ∧ ((Oc n v0 7 5) ∧ ((c0 ≤ 28 ∧ s0 ≤ 7316) ∧ (Q n (up (up (up μ v0 2 0) v0 3 0) v0 4 0))))))) ∧ (¬ (8 ≤ v2) → ((Oc n v0 7 5) ∧ ((SH ((n : Nat) : Int) = (0, 9) ∧ c0 + 1 ≤ 28 ∧ s0 + 9 ≤ 7316) ∧ ((c0 + 1 + 2 ≤ 28 ∧ s0 + 9 + 803 ≤ 7316) ∧ (CV G Y_X0_init [.inr (n : Int), .inr v1] (n + 1) (nw μ n (objD 0)) (fun (n11 : Nat) (μ12 : Mem) => ((Oc n11 (μ v0 1) 22 8 ∧ (0 ≤ v2 ∧ v2 < 8) ∧ Oc n11 (n : Int) 0 9) ∧ ((inR (v2 + 1)) ∧ (B_X7_init_27 G Q ((c0 + 1) + 2) ((s0 + 9) + 803) n11 (up μ12 (μ v0 1) v2 (n : Int)) v0 v1 (v2 + 1)))))))))))))) : B_X7_init_27 G Q c0 s0 n μ v0 v1 v2 := by
  show Wa G Y_X7_init (ZV G Y_X7_init Q) c0 s0 n μ 27 [(0, .inr v0), (1, .inr v1), (2, .inl v2)] []
  refine a_iload_n (k := 2) dX7_init_27 rfl rfl ?_
  refine a_aload_n (k := 0) dX7_init_28 rfl rfl ?_
  obtain ⟨q1, h⟩ := h
  refine g_X7_20 rfl dX7_init_29 (fun _ => q1) ?_
  obtain ⟨q2, h⟩ := h
  refine a_alen (N := 8) (t0 := 2) dX7_init_32 (by decide) (by decide) rfl (fun _ => q2) ?_
  refine a_icmp_ge (tgt := 56) dX7_init_33 (by decide) (fun c3 => ?_) (fun c3 => ?_)
  · replace h := h.1 c3
    refine a_aload_n (k := 0) dX7_init_56 rfl rfl ?_
    refine a_iconst dX7_init_57 (by decide) ?_
    obtain ⟨q4, h⟩ := h
    refine p_X7_24 rfl dX7_init_58 (fun _ => q4) (tru hg) ?_
    refine a_aload_n (k := 0) dX7_init_61 rfl rfl ?_
    refine a_iconst dX7_init_62 (by decide) ?_
    obtain ⟨q5, h⟩ := h
    refine p_X7_28 rfl dX7_init_63 (fun _ => q5) (tru hg) ?_
    refine a_aload_n (k := 0) dX7_init_66 rfl rfl ?_
    refine a_iconst dX7_init_67 (by decide) ?_
    obtain ⟨q6, h⟩ := h
    refine p_X7_31 rfl dX7_init_68 (fun _ => q6) (tru hg) ?_
    obtain ⟨q7, h⟩ := h
    exact a_ret dX7_init_71 rfl q7.1 q7.2 h
  · replace h := h.2 c3
    refine a_aload_n (k := 0) dX7_init_36 rfl rfl ?_
    obtain ⟨q8, h⟩ := h
    refine g_X7_20 rfl dX7_init_37 (fun _ => q8) ?_
    refine a_iload_n (k := 2) dX7_init_40 rfl rfl ?_
    obtain ⟨q9, h⟩ := h
    refine n_X7_9 rfl dX7_init_41 q9.1 q9.2.1 q9.2.2 (tru hg) ?_
    refine a_dup dX7_init_44 ?_
    refine a_aload_n (k := 1) dX7_init_45 rfl rfl ?_
    obtain ⟨q15, h⟩ := h
    refine k_X7_11 rfl dX7_init_46 (Nat.le_of_ble_eq_true rfl) rfl q15.1 q15.2 (Int.natCast_nonneg _) h (fun n11 μ12 h => ?_)
    obtain ⟨q13, h⟩ := h
    refine a_aastore (N := 8) (kd := 22) (t0 := 2) dX7_init_49 (by decide) rfl (fun _ => q13.1) q13.2.1.1 q13.2.1.2 cf_0 (fun _ => q13.2.2) (tru hg) ?_
    obtain ⟨q14, h⟩ := h
    refine b_iinc (L' := [(0, .inr v0), (1, .inr v1), (2, .inl (v2 + 1))]) (k := 2) [1, 2, 0] dX7_init_50 rfl q14 (Nat.le_of_ble_eq_true rfl) rfl ?_
    refine a_goto (tgt := 27) dX7_init_53 (by decide) ?_
    exact h
set_option maxRecDepth 100000 in
theorem m_X8_init {G : GT} (hg : gx G = fun _ _ => True) {n : Nat} {μ : Mem} {Q : Nat → Mem → Prop} {v0 v1 v2 : Int}  (h : (((0 : Int) ≤ v0) ∧ ((Oc n v0 8 3) ∧ ((inR (v1 * v2)) ∧ ((0 ≤ 1 ∧ 0 ≤ 800) ∧ (∃ N5 : Nat, (if v1 * v2 < 0 then 0 else v1 * v2) = (N5 : Int) ∧ (N5 < 1000000 ∧ SH ((n : Nat) : Int) = (20, N5) ∧ 0 + 1 ≤ 1 ∧ 0 + N5 ≤ 800) ∧ ((Oc (n + 1) v0 8 3) ∧ ((Oc (n + 1) v0 8 3) ∧ ((0 + 1 ≤ 1 ∧ 0 + N5 ≤ 800) ∧ (Q (n + 1) (up (up (nw (up μ v0 0 v2) n zeroD) v0 1 (n : Int)) v0 2 0))))))))))) : CV G Y_X8_init [.inr v0, .inl v1, .inl v2] n μ Q := by
  refine e_V (by decide) (Nat.le_of_ble_eq_true rfl) ?_
  show Wa G Y_X8_init (ZV G Y_X8_init Q) 0 0 n μ 0 [(0, .inr v0), (1, .inl v1), (2, .inl v2)] []
  refine a_aload_n (k := 0) dX8_init_0 rfl rfl ?_
  obtain ⟨q1, h⟩ := h
  refine k_X8_3 rfl dX8_init_1 q1 (Nat.le_of_ble_eq_true rfl) rfl rfl ?_
  refine a_aload_n (k := 0) dX8_init_4 rfl rfl ?_
  refine a_iload_n (k := 2) dX8_init_5 rfl rfl ?_
  obtain ⟨q2, h⟩ := h
  refine p_X8_9 rfl rfl dX8_init_6 (fun _ => q2) (tru hg) ?_
  refine a_aload_n (k := 0) dX8_init_9 rfl rfl ?_
  refine a_iload_n (k := 1) dX8_init_10 rfl rfl ?_
  refine a_iload_n (k := 2) dX8_init_11 rfl rfl ?_
  obtain ⟨q3, h⟩ := h
  refine a_imul dX8_init_12 q3 ?_
  refine a_iconst dX8_init_13 (by decide) ?_
  obtain ⟨q4, h⟩ := h
  refine k_X8_15 rfl dX8_init_14 (Nat.le_of_ble_eq_true rfl) rfl rfl q4.1 q4.2 ?_
  obtain ⟨N5, e7, q6, h⟩ := h
  refine a_top e7 ?_
  refine a_newint (N := N5) dX8_init_17 ar_int q6.1 q6.2.1 q6.2.2.1 q6.2.2.2 (tru hg) ?_
  obtain ⟨q8, h⟩ := h
  refine p_X8_21 rfl rfl dX8_init_19 (fun _ => q8) (tru hg) ?_
  refine a_aload_n (k := 0) dX8_init_22 rfl rfl ?_
  refine a_iconst dX8_init_23 (by decide) ?_
  obtain ⟨q9, h⟩ := h
  refine p_X8_25 rfl dX8_init_24 (fun _ => q9) (tru hg) ?_
  obtain ⟨q10, h⟩ := h
  exact a_ret dX8_init_27 rfl q10.1 q10.2 h
set_option maxRecDepth 100000 in
theorem m_X9_init {G : GT} (hg : gx G = fun _ _ => True) {n : Nat} {μ : Mem} {Q : Nat → Mem → Prop} {v0 : Int}  (h : (((0 : Int) ≤ v0) ∧ ((SH ((n : Nat) : Int) = (20, 150) ∧ 0 + 1 ≤ 1 ∧ 0 + 150 ≤ 150) ∧ ((Oc (n + 1) v0 9 2) ∧ ((Oc (n + 1) v0 9 2) ∧ ((0 + 1 ≤ 1 ∧ 0 + 150 ≤ 150) ∧ (Q (n + 1) (up (up (nw μ n zeroD) v0 0 (n : Int)) v0 1 0)))))))) : CV G Y_X9_init [.inr v0] n μ Q := by
  refine e_V (by decide) (Nat.le_of_ble_eq_true rfl) ?_
  show Wa G Y_X9_init (ZV G Y_X9_init Q) 0 0 n μ 0 [(0, .inr v0)] []
  refine a_aload_n (k := 0) dX9_init_0 rfl rfl ?_
  obtain ⟨q1, h⟩ := h
  refine k_X9_3 rfl dX9_init_1 q1 (Nat.le_of_ble_eq_true rfl) rfl rfl ?_
  refine a_aload_n (k := 0) dX9_init_4 rfl rfl ?_
  refine a_sipush dX9_init_5 (by decide) (by decide) ?_
  obtain ⟨q2, h⟩ := h
  refine a_newint (N := 150) dX9_init_8 ar_int (by decide) q2.1 q2.2.1 q2.2.2 (tru hg) ?_
  obtain ⟨q3, h⟩ := h
  refine p_X9_9 rfl rfl dX9_init_10 (fun _ => q3) (tru hg) ?_
  refine a_aload_n (k := 0) dX9_init_13 rfl rfl ?_
  refine a_iconst dX9_init_14 (by decide) ?_
  obtain ⟨q4, h⟩ := h
  refine p_X9_15 rfl dX9_init_15 (fun _ => q4) (tru hg) ?_
  obtain ⟨q5, h⟩ := h
  exact a_ret dX9_init_18 rfl q5.1 q5.2 h
set_option maxRecDepth 100000 in
theorem m_X10_init {G : GT} (hg : gx G = fun _ _ => True) {n : Nat} {μ : Mem} {Q : Nat → Mem → Prop} {v0 : Int}  (h : (((0 : Int) ≤ v0) ∧ ((SH ((n : Nat) : Int) = (9, 2) ∧ 0 + 1 ≤ 398 ∧ 0 + 2 ≤ 98598) ∧ ((0 + 1 + 1 ≤ 398 ∧ 0 + 2 + 150 ≤ 98598) ∧ (CV G Y_X9_init [.inr (n : Int)] (n + 1) (nw μ n (objD 9)) (fun (n4 : Nat) (μ5 : Mem) => ((Oc n4 v0 10 12) ∧ ((SH ((n4 : Nat) : Int) = (4, 4) ∧ (0 + 1) + 1 + 1 ≤ 398 ∧ (0 + 2) + 150 + 4 ≤ 98598) ∧ ((Oc (n4 + 1) v0 10 12) ∧ ((((0 + 1) + 1) + 1 + 3 ≤ 398 ∧ ((0 + 2) + 150) + 4 + 18 ≤ 98598) ∧ (CV G Y_X4_init [.inr (n4 : Int), .inr ((nw (up μ5 v0 0 (n : Int)) n4 (objD 4)) v0 0)] (n4 + 1) (nw (up μ5 v0 0 (n : Int)) n4 (objD 4)) (fun (n10 : Nat) (μ11 : Mem) => ((Oc n10 v0 10 12) ∧ ((SH ((n10 : Nat) : Int) = (3, 4) ∧ (((0 + 1) + 1) + 1) + 3 + 1 ≤ 398 ∧ (((0 + 2) + 150) + 4) + 18 + 4 ≤ 98598) ∧ ((((((0 + 1) + 1) + 1) + 3) + 1 + 2 ≤ 398 ∧ ((((0 + 2) + 150) + 4) + 18) + 4 + 14 ≤ 98598) ∧ (CV G Y_X3_init [.inr (n10 : Int)] (n10 + 1) (nw (up μ11 v0 1 (n4 : Int)) n10 (objD 3)) (fun (n15 : Nat) (μ16 : Mem) => ((Oc n15 v0 10 12) ∧ ((SH ((n15 : Nat) : Int) = (6, 8) ∧ (((((0 + 1) + 1) + 1) + 3) + 1) + 2 + 1 ≤ 398 ∧ (((((0 + 2) + 150) + 4) + 18) + 4) + 14 + 8 ≤ 98598) ∧ ((Oc (n15 + 1) v0 10 12) ∧ ((((((((0 + 1) + 1) + 1) + 3) + 1) + 2) + 1 + 6 ≤ 398 ∧ ((((((0 + 2) + 150) + 4) + 18) + 4) + 14) + 8 + 2409 ≤ 98598) ∧ (CV G Y_X6_init [.inr (n15 : Int), .inr ((nw (up μ16 v0 2 (n10 : Int)) n15 (objD 6)) v0 2)] (n15 + 1) (nw (up μ16 v0 2 (n10 : Int)) n15 (objD 6)) (fun (n21 : Nat) (μ22 : Mem) => ((Oc n21 v0 10 12) ∧ ((SH ((n21 : Nat) : Int) = (5, 1) ∧ (((((((0 + 1) + 1) + 1) + 3) + 1) + 2) + 1) + 6 + 1 ≤ 398 ∧ (((((((0 + 2) + 150) + 4) + 18) + 4) + 14) + 8) + 2409 + 1 ≤ 98598) ∧ ((Oc (n21 + 1) v0 10 12) ∧ ((((((((((0 + 1) + 1) + 1) + 3) + 1) + 2) + 1) + 6) + 1 ≤ 398 ∧ ((((((((0 + 2) + 150) + 4) + 18) + 4) + 14) + 8) + 2409) + 1 ≤ 98598) ∧ (CV G Y_X5_init [.inr (n21 : Int), .inr ((nw (up μ22 v0 3 (n15 : Int)) n21 (objD 5)) v0 3)] (n21 + 1) (nw (up μ22 v0 3 (n15 : Int)) n21 (objD 5)) (fun (n27 : Nat) (μ28 : Mem) => ((Oc n27 v0 10 12) ∧ ((SH ((n27 : Nat) : Int) = (7, 5) ∧ ((((((((0 + 1) + 1) + 1) + 3) + 1) + 2) + 1) + 6) + 1 + 1 ≤ 398 ∧ ((((((((0 + 2) + 150) + 4) + 18) + 4) + 14) + 8) + 2409) + 1 + 5 ≤ 98598) ∧ ((Oc (n27 + 1) v0 10 12) ∧ (((((((((((0 + 1) + 1) + 1) + 3) + 1) + 2) + 1) + 6) + 1) + 1 + 28 ≤ 398 ∧ (((((((((0 + 2) + 150) + 4) + 18) + 4) + 14) + 8) + 2409) + 1) + 5 + 7316 ≤ 98598) ∧ (CV G Y_X7_init [.inr (n27 : Int), .inr ((nw (up μ28 v0 4 (n21 : Int)) n27 (objD 7)) v0 2)] (n27 + 1) (nw (up μ28 v0 4 (n21 : Int)) n27 (objD 7)) (fun (n33 : Nat) (μ34 : Mem) => ((Oc n33 v0 10 12) ∧ ((SH ((n33 : Nat) : Int) = (7, 5) ∧ ((((((((((0 + 1) + 1) + 1) + 3) + 1) + 2) + 1) + 6) + 1) + 1) + 28 + 1 ≤ 398 ∧ ((((((((((0 + 2) + 150) + 4) + 18) + 4) + 14) + 8) + 2409) + 1) + 5) + 7316 + 5 ≤ 98598) ∧ ((Oc (n33 + 1) v0 10 12) ∧ (((((((((((((0 + 1) + 1) + 1) + 3) + 1) + 2) + 1) + 6) + 1) + 1) + 28) + 1 + 28 ≤ 398 ∧ (((((((((((0 + 2) + 150) + 4) + 18) + 4) + 14) + 8) + 2409) + 1) + 5) + 7316) + 5 + 7316 ≤ 98598) ∧ (CV G Y_X7_init [.inr (n33 : Int), .inr ((nw (up μ34 v0 5 (n27 : Int)) n33 (objD 7)) v0 2)] (n33 + 1) (nw (up μ34 v0 5 (n27 : Int)) n33 (objD 7)) (fun (n39 : Nat) (μ40 : Mem) => ((Oc n39 v0 10 12) ∧ ((SH ((n39 : Nat) : Int) = (2, 4) ∧ ((((((((((((0 + 1) + 1) + 1) + 3) + 1) + 2) + 1) + 6) + 1) + 1) + 28) + 1) + 28 + 1 ≤ 398 ∧ ((((((((((((0 + 2) + 150) + 4) + 18) + 4) + 14) + 8) + 2409) + 1) + 5) + 7316) + 5) + 7316 + 4 ≤ 98598) ∧ ((Oc (n39 + 1) v0 10 12) ∧ (((((((((((((((0 + 1) + 1) + 1) + 3) + 1) + 2) + 1) + 6) + 1) + 1) + 28) + 1) + 28) + 1 + 262 ≤ 398 ∧ (((((((((((((0 + 2) + 150) + 4) + 18) + 4) + 14) + 8) + 2409) + 1) + 5) + 7316) + 5) + 7316) + 4 + 65897 ≤ 98598) ∧ (CV G Y_X2_init [.inr (n39 : Int), .inr ((nw (up μ40 v0 6 (n33 : Int)) n39 (objD 2)) v0 2)] (n39 + 1) (nw (up μ40 v0 6 (n33 : Int)) n39 (objD 2)) (fun (n45 : Nat) (μ46 : Mem) => ((Oc n45 v0 10 12) ∧ ((SH ((n45 : Nat) : Int) = (7, 5) ∧ ((((((((((((((0 + 1) + 1) + 1) + 3) + 1) + 2) + 1) + 6) + 1) + 1) + 28) + 1) + 28) + 1) + 262 + 1 ≤ 398 ∧ ((((((((((((((0 + 2) + 150) + 4) + 18) + 4) + 14) + 8) + 2409) + 1) + 5) + 7316) + 5) + 7316) + 4) + 65897 + 5 ≤ 98598) ∧ ((Oc (n45 + 1) v0 10 12) ∧ (((((((((((((((((0 + 1) + 1) + 1) + 3) + 1) + 2) + 1) + 6) + 1) + 1) + 28) + 1) + 28) + 1) + 262) + 1 + 28 ≤ 398 ∧ (((((((((((((((0 + 2) + 150) + 4) + 18) + 4) + 14) + 8) + 2409) + 1) + 5) + 7316) + 5) + 7316) + 4) + 65897) + 5 + 7316 ≤ 98598) ∧ (CV G Y_X7_init [.inr (n45 : Int), .inr ((nw (up μ46 v0 7 (n39 : Int)) n45 (objD 7)) v0 2)] (n45 + 1) (nw (up μ46 v0 7 (n39 : Int)) n45 (objD 7)) (fun (n51 : Nat) (μ52 : Mem) => ((Oc n51 v0 10 12) ∧ ((SH ((n51 : Nat) : Int) = (7, 5) ∧ ((((((((((((((((0 + 1) + 1) + 1) + 3) + 1) + 2) + 1) + 6) + 1) + 1) + 28) + 1) + 28) + 1) + 262) + 1) + 28 + 1 ≤ 398 ∧ ((((((((((((((((0 + 2) + 150) + 4) + 18) + 4) + 14) + 8) + 2409) + 1) + 5) + 7316) + 5) + 7316) + 4) + 65897) + 5) + 7316 + 5 ≤ 98598) ∧ ((Oc (n51 + 1) v0 10 12) ∧ (((((((((((((((((((0 + 1) + 1) + 1) + 3) + 1) + 2) + 1) + 6) + 1) + 1) + 28) + 1) + 28) + 1) + 262) + 1) + 28) + 1 + 28 ≤ 398 ∧ (((((((((((((((((0 + 2) + 150) + 4) + 18) + 4) + 14) + 8) + 2409) + 1) + 5) + 7316) + 5) + 7316) + 4) + 65897) + 5) + 7316) + 5 + 7316 ≤ 98598) ∧ (CV G Y_X7_init [.inr (n51 : Int), .inr ((nw (up μ52 v0 8 (n45 : Int)) n51 (objD 7)) v0 2)] (n51 + 1) (nw (up μ52 v0 8 (n45 : Int)) n51 (objD 7)) (fun (n57 : Nat) (μ58 : Mem) => ((Oc n57 v0 10 12) ∧ ((SH ((n57 : Nat) : Int) = (8, 3) ∧ ((((((((((((((((((0 + 1) + 1) + 1) + 3) + 1) + 2) + 1) + 6) + 1) + 1) + 28) + 1) + 28) + 1) + 262) + 1) + 28) + 1) + 28 + 1 ≤ 398 ∧ ((((((((((((((((((0 + 2) + 150) + 4) + 18) + 4) + 14) + 8) + 2409) + 1) + 5) + 7316) + 5) + 7316) + 4) + 65897) + 5) + 7316) + 5) + 7316 + 3 ≤ 98598) ∧ (((((((((((((((((((((0 + 1) + 1) + 1) + 3) + 1) + 2) + 1) + 6) + 1) + 1) + 28) + 1) + 28) + 1) + 262) + 1) + 28) + 1) + 28) + 1 + 1 ≤ 398 ∧ (((((((((((((((((((0 + 2) + 150) + 4) + 18) + 4) + 14) + 8) + 2409) + 1) + 5) + 7316) + 5) + 7316) + 4) + 65897) + 5) + 7316) + 5) + 7316) + 3 + 800 ≤ 98598) ∧ (CV G Y_X8_init [.inr (n57 : Int), .inl 6, .inl 3] (n57 + 1) (nw (up μ58 v0 9 (n51 : Int)) n57 (objD 8)) (fun (n62 : Nat) (μ63 : Mem) => ((Oc n62 v0 10 12) ∧ ((Oc n62 v0 10 12) ∧ ((((((((((((((((((((((0 + 1) + 1) + 1) + 3) + 1) + 2) + 1) + 6) + 1) + 1) + 28) + 1) + 28) + 1) + 262) + 1) + 28) + 1) + 28) + 1) + 1 ≤ 398 ∧ ((((((((((((((((((((0 + 2) + 150) + 4) + 18) + 4) + 14) + 8) + 2409) + 1) + 5) + 7316) + 5) + 7316) + 4) + 65897) + 5) + 7316) + 5) + 7316) + 3) + 800 ≤ 98598) ∧ (Q n62 (up (up μ63 v0 10 (n57 : Int)) v0 11 0))))))))))))))))))))))))))))))))))))))))))))))))))))))))))))))))))))) : CV G Y_X10_init [.inr v0] n μ Q := by
  refine e_V (by decide) (Nat.le_of_ble_eq_true rfl) ?_
  show Wa G Y_X10_init (ZV G Y_X10_init Q) 0 0 n μ 0 [(0, .inr v0)] []
  refine a_aload_n (k := 0) dX10_init_0 rfl rfl ?_
  obtain ⟨q1, h⟩ := h
  refine k_X10_3 rfl dX10_init_1 q1 (Nat.le_of_ble_eq_true rfl) rfl rfl ?_
  refine a_aload_n (k := 0) dX10_init_4 rfl rfl ?_
  obtain ⟨q2, h⟩ := h
  refine n_X10_9 rfl dX10_init_5 q2.1 q2.2.1 q2.2.2 (tru hg) ?_
  refine a_dup dX10_init_8 ?_
  obtain ⟨q77, h⟩ := h
  refine k_X10_11 rfl dX10_init_9 (Nat.le_of_ble_eq_true rfl) rfl q77.1 q77.2 (Int.natCast_nonneg _) h (fun n4 μ5 h => ?_)
  obtain ⟨q6, h⟩ := h
  refine p_X10_12 rfl rfl dX10_init_12 (fun _ => q6) (tru hg) ?_
  refine a_aload_n (k := 0) dX10_init_15 rfl rfl ?_
  obtain ⟨q7, h⟩ := h
  refine n_X10_16 rfl dX10_init_16 q7.1 q7.2.1 q7.2.2 (tru hg) ?_
  refine a_dup dX10_init_19 ?_
  refine a_aload_n (k := 0) dX10_init_20 rfl rfl ?_
  obtain ⟨q8, h⟩ := h
  refine g_X10_12 rfl dX10_init_21 (fun _ => q8) ?_
  obtain ⟨q76, h⟩ := h
  refine k_X10_18 rfl dX10_init_24 (Nat.le_of_ble_eq_true rfl) rfl q76.1 q76.2 (Int.natCast_nonneg _) h (fun n10 μ11 h => ?_)
  obtain ⟨q12, h⟩ := h
  refine p_X10_21 rfl rfl dX10_init_27 (fun _ => q12) (tru hg) ?_
  refine a_aload_n (k := 0) dX10_init_30 rfl rfl ?_
  obtain ⟨q13, h⟩ := h
  refine n_X10_25 rfl dX10_init_31 q13.1 q13.2.1 q13.2.2 (tru hg) ?_
  refine a_dup dX10_init_34 ?_
  obtain ⟨q75, h⟩ := h
  refine k_X10_27 rfl dX10_init_35 (Nat.le_of_ble_eq_true rfl) rfl q75.1 q75.2 (Int.natCast_nonneg _) h (fun n15 μ16 h => ?_)
  obtain ⟨q17, h⟩ := h
  refine p_X10_28 rfl rfl dX10_init_38 (fun _ => q17) (tru hg) ?_
  refine a_aload_n (k := 0) dX10_init_41 rfl rfl ?_
  obtain ⟨q18, h⟩ := h
  refine n_X10_32 rfl dX10_init_42 q18.1 q18.2.1 q18.2.2 (tru hg) ?_
  refine a_dup dX10_init_45 ?_
  refine a_aload_n (k := 0) dX10_init_46 rfl rfl ?_
  obtain ⟨q19, h⟩ := h
  refine g_X10_28 rfl dX10_init_47 (fun _ => q19) ?_
  obtain ⟨q74, h⟩ := h
  refine k_X10_34 rfl dX10_init_50 (Nat.le_of_ble_eq_true rfl) rfl q74.1 q74.2 (Int.natCast_nonneg _) h (fun n21 μ22 h => ?_)
  obtain ⟨q23, h⟩ := h
  refine p_X10_37 rfl rfl dX10_init_53 (fun _ => q23) (tru hg) ?_
  refine a_aload_n (k := 0) dX10_init_56 rfl rfl ?_
  obtain ⟨q24, h⟩ := h
  refine n_X10_41 rfl dX10_init_57 q24.1 q24.2.1 q24.2.2 (tru hg) ?_
  refine a_dup dX10_init_60 ?_
  refine a_aload_n (k := 0) dX10_init_61 rfl rfl ?_
  obtain ⟨q25, h⟩ := h
  refine g_X10_37 rfl dX10_init_62 (fun _ => q25) ?_
  obtain ⟨q73, h⟩ := h
  refine k_X10_43 rfl dX10_init_65 (Nat.le_of_ble_eq_true rfl) rfl q73.1 q73.2 (Int.natCast_nonneg _) h (fun n27 μ28 h => ?_)
  obtain ⟨q29, h⟩ := h
  refine p_X10_46 rfl rfl dX10_init_68 (fun _ => q29) (tru hg) ?_
  refine a_aload_n (k := 0) dX10_init_71 rfl rfl ?_
  obtain ⟨q30, h⟩ := h
  refine n_X10_50 rfl dX10_init_72 q30.1 q30.2.1 q30.2.2 (tru hg) ?_
  refine a_dup dX10_init_75 ?_
  refine a_aload_n (k := 0) dX10_init_76 rfl rfl ?_
  obtain ⟨q31, h⟩ := h
  refine g_X10_28 rfl dX10_init_77 (fun _ => q31) ?_
  obtain ⟨q72, h⟩ := h
  refine k_X10_52 rfl dX10_init_80 (Nat.le_of_ble_eq_true rfl) rfl q72.1 q72.2 (Int.natCast_nonneg _) h (fun n33 μ34 h => ?_)
  obtain ⟨q35, h⟩ := h
  refine p_X10_53 rfl rfl dX10_init_83 (fun _ => q35) (tru hg) ?_
  refine a_aload_n (k := 0) dX10_init_86 rfl rfl ?_
  obtain ⟨q36, h⟩ := h
  refine n_X10_50 rfl dX10_init_87 q36.1 q36.2.1 q36.2.2 (tru hg) ?_
  refine a_dup dX10_init_90 ?_
  refine a_aload_n (k := 0) dX10_init_91 rfl rfl ?_
  obtain ⟨q37, h⟩ := h
  refine g_X10_28 rfl dX10_init_92 (fun _ => q37) ?_
  obtain ⟨q71, h⟩ := h
  refine k_X10_52 rfl dX10_init_95 (Nat.le_of_ble_eq_true rfl) rfl q71.1 q71.2 (Int.natCast_nonneg _) h (fun n39 μ40 h => ?_)
  obtain ⟨q41, h⟩ := h
  refine p_X10_57 rfl rfl dX10_init_98 (fun _ => q41) (tru hg) ?_
  refine a_aload_n (k := 0) dX10_init_101 rfl rfl ?_
  obtain ⟨q42, h⟩ := h
  refine n_X10_60 rfl dX10_init_102 q42.1 q42.2.1 q42.2.2 (tru hg) ?_
  refine a_dup dX10_init_105 ?_
  refine a_aload_n (k := 0) dX10_init_106 rfl rfl ?_
  obtain ⟨q43, h⟩ := h
  refine g_X10_28 rfl dX10_init_107 (fun _ => q43) ?_
  obtain ⟨q70, h⟩ := h
  refine k_X10_62 rfl dX10_init_110 (Nat.le_of_ble_eq_true rfl) rfl q70.1 q70.2 (Int.natCast_nonneg _) h (fun n45 μ46 h => ?_)
  obtain ⟨q47, h⟩ := h
  refine p_X10_63 rfl rfl dX10_init_113 (fun _ => q47) (tru hg) ?_
  refine a_aload_n (k := 0) dX10_init_116 rfl rfl ?_
  obtain ⟨q48, h⟩ := h
  refine n_X10_50 rfl dX10_init_117 q48.1 q48.2.1 q48.2.2 (tru hg) ?_
  refine a_dup dX10_init_120 ?_
  refine a_aload_n (k := 0) dX10_init_121 rfl rfl ?_
  obtain ⟨q49, h⟩ := h
  refine g_X10_28 rfl dX10_init_122 (fun _ => q49) ?_
  obtain ⟨q69, h⟩ := h
  refine k_X10_52 rfl dX10_init_125 (Nat.le_of_ble_eq_true rfl) rfl q69.1 q69.2 (Int.natCast_nonneg _) h (fun n51 μ52 h => ?_)
  obtain ⟨q53, h⟩ := h
  refine p_X10_67 rfl rfl dX10_init_128 (fun _ => q53) (tru hg) ?_
  refine a_aload_n (k := 0) dX10_init_131 rfl rfl ?_
  obtain ⟨q54, h⟩ := h
  refine n_X10_50 rfl dX10_init_132 q54.1 q54.2.1 q54.2.2 (tru hg) ?_
  refine a_dup dX10_init_135 ?_
  refine a_aload_n (k := 0) dX10_init_136 rfl rfl ?_
  obtain ⟨q55, h⟩ := h
  refine g_X10_28 rfl dX10_init_137 (fun _ => q55) ?_
  obtain ⟨q68, h⟩ := h
  refine k_X10_52 rfl dX10_init_140 (Nat.le_of_ble_eq_true rfl) rfl q68.1 q68.2 (Int.natCast_nonneg _) h (fun n57 μ58 h => ?_)
  obtain ⟨q59, h⟩ := h
  refine p_X10_70 rfl rfl dX10_init_143 (fun _ => q59) (tru hg) ?_
  refine a_aload_n (k := 0) dX10_init_146 rfl rfl ?_
  obtain ⟨q60, h⟩ := h
  refine n_X10_73 rfl dX10_init_147 q60.1 q60.2.1 q60.2.2 (tru hg) ?_
  refine a_dup dX10_init_150 ?_
  refine a_bipush dX10_init_151 (by decide) (by decide) ?_
  refine a_iconst dX10_init_153 (by decide) ?_
  obtain ⟨q67, h⟩ := h
  refine k_X10_75 rfl dX10_init_154 (Nat.le_of_ble_eq_true rfl) rfl q67.1 q67.2 (Int.natCast_nonneg _) h (fun n62 μ63 h => ?_)
  obtain ⟨q64, h⟩ := h
  refine p_X10_78 rfl rfl dX10_init_157 (fun _ => q64) (tru hg) ?_
  refine a_aload_n (k := 0) dX10_init_160 rfl rfl ?_
  refine a_iconst dX10_init_161 (by decide) ?_
  obtain ⟨q65, h⟩ := h
  refine p_X10_82 rfl dX10_init_162 (fun _ => q65) (tru hg) ?_
  obtain ⟨q66, h⟩ := h
  exact a_ret dX10_init_165 rfl q66.1 q66.2 h
set_option maxRecDepth 100000 in
theorem m_X11_init {G : GT} (hg : gx G = fun _ _ => True) {n : Nat} {μ : Mem} {Q : Nat → Mem → Prop} {v0 : Int}  (h : (((0 : Int) ≤ v0) ∧ ((SH ((n : Nat) : Int) = (20, 48) ∧ 0 + 1 ≤ 15 ∧ 0 + 48 ≤ 3068) ∧ ((Oc (n + 1) v0 11 28) ∧ ((SH ((n + 1 : Nat) : Int) = (20, 48) ∧ 0 + 1 + 1 ≤ 15 ∧ 0 + 48 + 48 ≤ 3068) ∧ ((Oc ((n + 1) + 1) v0 11 28) ∧ ((SH (((n + 1) + 1 : Nat) : Int) = (20, 163) ∧ (0 + 1) + 1 + 1 ≤ 15 ∧ (0 + 48) + 48 + 163 ≤ 3068) ∧ ((Oc (((n + 1) + 1) + 1) v0 11 28) ∧ ((SH ((((n + 1) + 1) + 1 : Nat) : Int) = (20, 1304) ∧ ((0 + 1) + 1) + 1 + 1 ≤ 15 ∧ ((0 + 48) + 48) + 163 + 1304 ≤ 3068) ∧ ((Oc ((((n + 1) + 1) + 1) + 1) v0 11 28) ∧ ((SH (((((n + 1) + 1) + 1) + 1 : Nat) : Int) = (20, 326) ∧ (((0 + 1) + 1) + 1) + 1 + 1 ≤ 15 ∧ (((0 + 48) + 48) + 163) + 1304 + 326 ≤ 3068) ∧ ((Oc (((((n + 1) + 1) + 1) + 1) + 1) v0 11 28) ∧ ((SH ((((((n + 1) + 1) + 1) + 1) + 1 : Nat) : Int) = (21, 2) ∧ ((((0 + 1) + 1) + 1) + 1) + 1 + 1 ≤ 15 ∧ ((((0 + 48) + 48) + 163) + 1304) + 326 + 2 ≤ 3068) ∧ ((Oc ((((((n + 1) + 1) + 1) + 1) + 1) + 1) v0 11 28) ∧ ((SH (((((((n + 1) + 1) + 1) + 1) + 1) + 1 : Nat) : Int) = (20, 163) ∧ (((((0 + 1) + 1) + 1) + 1) + 1) + 1 + 1 ≤ 15 ∧ (((((0 + 48) + 48) + 163) + 1304) + 326) + 2 + 163 ≤ 3068) ∧ ((Oc (((((((n + 1) + 1) + 1) + 1) + 1) + 1) + 1) v0 11 28) ∧ ((SH ((((((((n + 1) + 1) + 1) + 1) + 1) + 1) + 1 : Nat) : Int) = (20, 6) ∧ ((((((0 + 1) + 1) + 1) + 1) + 1) + 1) + 1 + 1 ≤ 15 ∧ ((((((0 + 48) + 48) + 163) + 1304) + 326) + 2) + 163 + 6 ≤ 3068) ∧ ((Oc ((((((((n + 1) + 1) + 1) + 1) + 1) + 1) + 1) + 1) v0 11 28) ∧ ((SH (((((((((n + 1) + 1) + 1) + 1) + 1) + 1) + 1) + 1 : Nat) : Int) = (20, 6) ∧ (((((((0 + 1) + 1) + 1) + 1) + 1) + 1) + 1) + 1 + 1 ≤ 15 ∧ (((((((0 + 48) + 48) + 163) + 1304) + 326) + 2) + 163) + 6 + 6 ≤ 3068) ∧ ((Oc (((((((((n + 1) + 1) + 1) + 1) + 1) + 1) + 1) + 1) + 1) v0 11 28) ∧ ((SH ((((((((((n + 1) + 1) + 1) + 1) + 1) + 1) + 1) + 1) + 1 : Nat) : Int) = (20, 6) ∧ ((((((((0 + 1) + 1) + 1) + 1) + 1) + 1) + 1) + 1) + 1 + 1 ≤ 15 ∧ ((((((((0 + 48) + 48) + 163) + 1304) + 326) + 2) + 163) + 6) + 6 + 6 ≤ 3068) ∧ ((Oc ((((((((((n + 1) + 1) + 1) + 1) + 1) + 1) + 1) + 1) + 1) + 1) v0 11 28) ∧ ((SH (((((((((((n + 1) + 1) + 1) + 1) + 1) + 1) + 1) + 1) + 1) + 1 : Nat) : Int) = (20, 150) ∧ (((((((((0 + 1) + 1) + 1) + 1) + 1) + 1) + 1) + 1) + 1) + 1 + 1 ≤ 15 ∧ (((((((((0 + 48) + 48) + 163) + 1304) + 326) + 2) + 163) + 6) + 6) + 6 + 150 ≤ 3068) ∧ ((Oc (((((((((((n + 1) + 1) + 1) + 1) + 1) + 1) + 1) + 1) + 1) + 1) + 1) v0 11 28) ∧ ((SH ((((((((((((n + 1) + 1) + 1) + 1) + 1) + 1) + 1) + 1) + 1) + 1) + 1 : Nat) : Int) = (21, 800) ∧ ((((((((((0 + 1) + 1) + 1) + 1) + 1) + 1) + 1) + 1) + 1) + 1) + 1 + 1 ≤ 15 ∧ ((((((((((0 + 48) + 48) + 163) + 1304) + 326) + 2) + 163) + 6) + 6) + 6) + 150 + 800 ≤ 3068) ∧ ((Oc ((((((((((((n + 1) + 1) + 1) + 1) + 1) + 1) + 1) + 1) + 1) + 1) + 1) + 1) v0 11 28) ∧ ((SH (((((((((((((n + 1) + 1) + 1) + 1) + 1) + 1) + 1) + 1) + 1) + 1) + 1) + 1 : Nat) : Int) = (20, 36) ∧ (((((((((((0 + 1) + 1) + 1) + 1) + 1) + 1) + 1) + 1) + 1) + 1) + 1) + 1 + 1 ≤ 15 ∧ (((((((((((0 + 48) + 48) + 163) + 1304) + 326) + 2) + 163) + 6) + 6) + 6) + 150) + 800 + 36 ≤ 3068) ∧ ((Oc (((((((((((((n + 1) + 1) + 1) + 1) + 1) + 1) + 1) + 1) + 1) + 1) + 1) + 1) + 1) v0 11 28) ∧ ((SH ((((((((((((((n + 1) + 1) + 1) + 1) + 1) + 1) + 1) + 1) + 1) + 1) + 1) + 1) + 1 : Nat) : Int) = (20, 5) ∧ ((((((((((((0 + 1) + 1) + 1) + 1) + 1) + 1) + 1) + 1) + 1) + 1) + 1) + 1) + 1 + 1 ≤ 15 ∧ ((((((((((((0 + 48) + 48) + 163) + 1304) + 326) + 2) + 163) + 6) + 6) + 6) + 150) + 800) + 36 + 5 ≤ 3068) ∧ ((Oc ((((((((((((((n + 1) + 1) + 1) + 1) + 1) + 1) + 1) + 1) + 1) + 1) + 1) + 1) + 1) + 1) v0 11 28) ∧ ((SH (((((((((((((((n + 1) + 1) + 1) + 1) + 1) + 1) + 1) + 1) + 1) + 1) + 1) + 1) + 1) + 1 : Nat) : Int) = (20, 5) ∧ (((((((((((((0 + 1) + 1) + 1) + 1) + 1) + 1) + 1) + 1) + 1) + 1) + 1) + 1) + 1) + 1 + 1 ≤ 15 ∧ (((((((((((((0 + 48) + 48) + 163) + 1304) + 326) + 2) + 163) + 6) + 6) + 6) + 150) + 800) + 36) + 5 + 5 ≤ 3068) ∧ ((Oc (((((((((((((((n + 1) + 1) + 1) + 1) + 1) + 1) + 1) + 1) + 1) + 1) + 1) + 1) + 1) + 1) + 1) v0 11 28) ∧ ((((((((((((((((0 + 1) + 1) + 1) + 1) + 1) + 1) + 1) + 1) + 1) + 1) + 1) + 1) + 1) + 1) + 1 ≤ 15 ∧ ((((((((((((((0 + 48) + 48) + 163) + 1304) + 326) + 2) + 163) + 6) + 6) + 6) + 150) + 800) + 36) + 5) + 5 ≤ 3068) ∧ ((Oc (((((((((((((((n + 1) + 1) + 1) + 1) + 1) + 1) + 1) + 1) + 1) + 1) + 1) + 1) + 1) + 1) + 1) v0 11 28) ∧ (CV G Y_X11_begins [.inr v0] (((((((((((((((n + 1) + 1) + 1) + 1) + 1) + 1) + 1) + 1) + 1) + 1) + 1) + 1) + 1) + 1) + 1) (up (nw (up (nw (up (nw (up (nw (up (nw (up (nw (up (nw (up (nw (up (nw (up (nw (up (nw (up (nw (up (nw (up (nw (up (nw μ n zeroD) v0 3 (n : Int)) (n + 1) zeroD) v0 6 ((n + 1 : Nat) : Int)) ((n + 1) + 1) zeroD) v0 7 (((n + 1) + 1 : Nat) : Int)) (((n + 1) + 1) + 1) zeroD) v0 9 ((((n + 1) + 1) + 1 : Nat) : Int)) ((((n + 1) + 1) + 1) + 1) zeroD) v0 10 (((((n + 1) + 1) + 1) + 1 : Nat) : Int)) (((((n + 1) + 1) + 1) + 1) + 1) zeroD) v0 11 ((((((n + 1) + 1) + 1) + 1) + 1 : Nat) : Int)) ((((((n + 1) + 1) + 1) + 1) + 1) + 1) zeroD) v0 12 (((((((n + 1) + 1) + 1) + 1) + 1) + 1 : Nat) : Int)) (((((((n + 1) + 1) + 1) + 1) + 1) + 1) + 1) zeroD) v0 14 ((((((((n + 1) + 1) + 1) + 1) + 1) + 1) + 1 : Nat) : Int)) ((((((((n + 1) + 1) + 1) + 1) + 1) + 1) + 1) + 1) zeroD) v0 15 (((((((((n + 1) + 1) + 1) + 1) + 1) + 1) + 1) + 1 : Nat) : Int)) (((((((((n + 1) + 1) + 1) + 1) + 1) + 1) + 1) + 1) + 1) zeroD) v0 16 ((((((((((n + 1) + 1) + 1) + 1) + 1) + 1) + 1) + 1) + 1 : Nat) : Int)) ((((((((((n + 1) + 1) + 1) + 1) + 1) + 1) + 1) + 1) + 1) + 1) zeroD) v0 18 (((((((((((n + 1) + 1) + 1) + 1) + 1) + 1) + 1) + 1) + 1) + 1 : Nat) : Int)) (((((((((((n + 1) + 1) + 1) + 1) + 1) + 1) + 1) + 1) + 1) + 1) + 1) zeroD) v0 22 ((((((((((((n + 1) + 1) + 1) + 1) + 1) + 1) + 1) + 1) + 1) + 1) + 1 : Nat) : Int)) ((((((((((((n + 1) + 1) + 1) + 1) + 1) + 1) + 1) + 1) + 1) + 1) + 1) + 1) zeroD) v0 23 (((((((((((((n + 1) + 1) + 1) + 1) + 1) + 1) + 1) + 1) + 1) + 1) + 1) + 1 : Nat) : Int)) (((((((((((((n + 1) + 1) + 1) + 1) + 1) + 1) + 1) + 1) + 1) + 1) + 1) + 1) + 1) zeroD) v0 25 ((((((((((((((n + 1) + 1) + 1) + 1) + 1) + 1) + 1) + 1) + 1) + 1) + 1) + 1) + 1 : Nat) : Int)) ((((((((((((((n + 1) + 1) + 1) + 1) + 1) + 1) + 1) + 1) + 1) + 1) + 1) + 1) + 1) + 1) zeroD) v0 26 (((((((((((((((n + 1) + 1) + 1) + 1) + 1) + 1) + 1) + 1) + 1) + 1) + 1) + 1) + 1) + 1 : Nat) : Int)) (fun (n33 : Nat) (μ34 : Mem) => ((((((((((((((((0 + 1) + 1) + 1) + 1) + 1) + 1) + 1) + 1) + 1) + 1) + 1) + 1) + 1) + 1) + 1 ≤ 15 ∧ ((((((((((((((0 + 48) + 48) + 163) + 1304) + 326) + 2) + 163) + 6) + 6) + 6) + 150) + 800) + 36) + 5) + 5 ≤ 3068) ∧ ((Oc n33 v0 11 28) ∧ (CV G Y_X11_becomes [.inr v0] n33 μ34 (fun (n36 : Nat) (μ37 : Mem) => ((((((((((((((((0 + 1) + 1) + 1) + 1) + 1) + 1) + 1) + 1) + 1) + 1) + 1) + 1) + 1) + 1) + 1 ≤ 15 ∧ ((((((((((((((0 + 48) + 48) + 163) + 1304) + 326) + 2) + 163) + 6) + 6) + 6) + 150) + 800) + 36) + 5) + 5 ≤ 3068) ∧ (Q n36 μ37)))))))))))))))))))))))))))))))))))))))))) : CV G Y_X11_init [.inr v0] n μ Q := by
  refine e_V (by decide) (Nat.le_of_ble_eq_true rfl) ?_
  show Wa G Y_X11_init (ZV G Y_X11_init Q) 0 0 n μ 0 [(0, .inr v0)] []
  refine a_aload_n (k := 0) dX11_init_0 rfl rfl ?_
  obtain ⟨q1, h⟩ := h
  refine k_X11_1 rfl dX11_init_1 q1 (Nat.le_of_ble_eq_true rfl) rfl rfl ?_
  refine a_aload_n (k := 0) dX11_init_4 rfl rfl ?_
  refine a_bipush dX11_init_5 (by decide) (by decide) ?_
  obtain ⟨q2, h⟩ := h
  refine a_newint (N := 48) dX11_init_7 ar_int (by decide) q2.1 q2.2.1 q2.2.2 (tru hg) ?_
  obtain ⟨q3, h⟩ := h
  refine p_X11_7 rfl rfl dX11_init_9 (fun _ => q3) (tru hg) ?_
  refine a_aload_n (k := 0) dX11_init_12 rfl rfl ?_
  refine a_bipush dX11_init_13 (by decide) (by decide) ?_
  obtain ⟨q4, h⟩ := h
  refine a_newint (N := 48) dX11_init_15 ar_int (by decide) q4.1 q4.2.1 q4.2.2 (tru hg) ?_
  obtain ⟨q5, h⟩ := h
  refine p_X11_13 rfl rfl dX11_init_17 (fun _ => q5) (tru hg) ?_
  refine a_aload_n (k := 0) dX11_init_20 rfl rfl ?_
  refine a_sipush dX11_init_21 (by decide) (by decide) ?_
  obtain ⟨q6, h⟩ := h
  refine a_newint (N := 163) dX11_init_24 ar_int (by decide) q6.1 q6.2.1 q6.2.2 (tru hg) ?_
  obtain ⟨q7, h⟩ := h
  refine p_X11_16 rfl rfl dX11_init_26 (fun _ => q7) (tru hg) ?_
  refine a_aload_n (k := 0) dX11_init_29 rfl rfl ?_
  refine a_sipush dX11_init_30 (by decide) (by decide) ?_
  obtain ⟨q8, h⟩ := h
  refine a_newint (N := 1304) dX11_init_33 ar_int (by decide) q8.1 q8.2.1 q8.2.2 (tru hg) ?_
  obtain ⟨q9, h⟩ := h
  refine p_X11_19 rfl rfl dX11_init_35 (fun _ => q9) (tru hg) ?_
  refine a_aload_n (k := 0) dX11_init_38 rfl rfl ?_
  refine a_sipush dX11_init_39 (by decide) (by decide) ?_
  obtain ⟨q10, h⟩ := h
  refine a_newint (N := 326) dX11_init_42 ar_int (by decide) q10.1 q10.2.1 q10.2.2 (tru hg) ?_
  obtain ⟨q11, h⟩ := h
  refine p_X11_22 rfl rfl dX11_init_44 (fun _ => q11) (tru hg) ?_
  refine a_aload_n (k := 0) dX11_init_47 rfl rfl ?_
  refine a_iconst dX11_init_48 (by decide) ?_
  obtain ⟨q12, h⟩ := h
  refine a_newbool (N := 2) dX11_init_49 ar_boolean (by decide) q12.1 q12.2.1 q12.2.2 (tru hg) ?_
  obtain ⟨q13, h⟩ := h
  refine p_X11_25 rfl rfl dX11_init_51 (fun _ => q13) (tru hg) ?_
  refine a_aload_n (k := 0) dX11_init_54 rfl rfl ?_
  refine a_sipush dX11_init_55 (by decide) (by decide) ?_
  obtain ⟨q14, h⟩ := h
  refine a_newint (N := 163) dX11_init_58 ar_int (by decide) q14.1 q14.2.1 q14.2.2 (tru hg) ?_
  obtain ⟨q15, h⟩ := h
  refine p_X11_29 rfl rfl dX11_init_60 (fun _ => q15) (tru hg) ?_
  refine a_aload_n (k := 0) dX11_init_63 rfl rfl ?_
  refine a_bipush dX11_init_64 (by decide) (by decide) ?_
  obtain ⟨q16, h⟩ := h
  refine a_newint (N := 6) dX11_init_66 ar_int (by decide) q16.1 q16.2.1 q16.2.2 (tru hg) ?_
  obtain ⟨q17, h⟩ := h
  refine p_X11_32 rfl rfl dX11_init_68 (fun _ => q17) (tru hg) ?_
  refine a_aload_n (k := 0) dX11_init_71 rfl rfl ?_
  refine a_bipush dX11_init_72 (by decide) (by decide) ?_
  obtain ⟨q18, h⟩ := h
  refine a_newint (N := 6) dX11_init_74 ar_int (by decide) q18.1 q18.2.1 q18.2.2 (tru hg) ?_
  obtain ⟨q19, h⟩ := h
  refine p_X11_35 rfl rfl dX11_init_76 (fun _ => q19) (tru hg) ?_
  refine a_aload_n (k := 0) dX11_init_79 rfl rfl ?_
  refine a_bipush dX11_init_80 (by decide) (by decide) ?_
  obtain ⟨q20, h⟩ := h
  refine a_newint (N := 6) dX11_init_82 ar_int (by decide) q20.1 q20.2.1 q20.2.2 (tru hg) ?_
  obtain ⟨q21, h⟩ := h
  refine p_X11_38 rfl rfl dX11_init_84 (fun _ => q21) (tru hg) ?_
  refine a_aload_n (k := 0) dX11_init_87 rfl rfl ?_
  refine a_sipush dX11_init_88 (by decide) (by decide) ?_
  obtain ⟨q22, h⟩ := h
  refine a_newint (N := 150) dX11_init_91 ar_int (by decide) q22.1 q22.2.1 q22.2.2 (tru hg) ?_
  obtain ⟨q23, h⟩ := h
  refine p_X11_41 rfl rfl dX11_init_93 (fun _ => q23) (tru hg) ?_
  refine a_aload_n (k := 0) dX11_init_96 rfl rfl ?_
  refine a_sipush dX11_init_97 (by decide) (by decide) ?_
  obtain ⟨q24, h⟩ := h
  refine a_newbool (N := 800) dX11_init_100 ar_boolean (by decide) q24.1 q24.2.1 q24.2.2 (tru hg) ?_
  obtain ⟨q25, h⟩ := h
  refine p_X11_44 rfl rfl dX11_init_102 (fun _ => q25) (tru hg) ?_
  refine a_aload_n (k := 0) dX11_init_105 rfl rfl ?_
  refine a_bipush dX11_init_106 (by decide) (by decide) ?_
  obtain ⟨q26, h⟩ := h
  refine a_newint (N := 36) dX11_init_108 ar_int (by decide) q26.1 q26.2.1 q26.2.2 (tru hg) ?_
  obtain ⟨q27, h⟩ := h
  refine p_X11_47 rfl rfl dX11_init_110 (fun _ => q27) (tru hg) ?_
  refine a_aload_n (k := 0) dX11_init_113 rfl rfl ?_
  refine a_iconst dX11_init_114 (by decide) ?_
  obtain ⟨q28, h⟩ := h
  refine a_newint (N := 5) dX11_init_115 ar_int (by decide) q28.1 q28.2.1 q28.2.2 (tru hg) ?_
  obtain ⟨q29, h⟩ := h
  refine p_X11_50 rfl rfl dX11_init_117 (fun _ => q29) (tru hg) ?_
  refine a_aload_n (k := 0) dX11_init_120 rfl rfl ?_
  refine a_iconst dX11_init_121 (by decide) ?_
  obtain ⟨q30, h⟩ := h
  refine a_newint (N := 5) dX11_init_122 ar_int (by decide) q30.1 q30.2.1 q30.2.2 (tru hg) ?_
  obtain ⟨q31, h⟩ := h
  refine p_X11_53 rfl rfl dX11_init_124 (fun _ => q31) (tru hg) ?_
  refine a_aload_n (k := 0) dX11_init_127 rfl rfl ?_
  obtain ⟨q41, h⟩ := h
  obtain ⟨q42, h⟩ := h
  refine k_X11_56 rfl dX11_init_128 (Nat.le_of_ble_eq_true rfl) rfl q41.1 q41.2 (fun _ => q42) h (fun n33 μ34 h => ?_)
  refine a_aload_n (k := 0) dX11_init_131 rfl rfl ?_
  obtain ⟨q39, h⟩ := h
  obtain ⟨q40, h⟩ := h
  refine k_X11_59 rfl dX11_init_132 (Nat.le_of_ble_eq_true rfl) rfl q39.1 q39.2 (fun _ => q40) h (fun n36 μ37 h => ?_)
  obtain ⟨q38, h⟩ := h
  exact a_ret dX11_init_135 rfl q38.1 q38.2 h
