theorem dX5_init_0 : decode cX5_init 0 = .ok (.aload_n 0, 1) := by decide +kernel
theorem dX5_init_1 : decode cX5_init 1 = .ok (.invokespecial 3, 3) := by decide +kernel
theorem dX5_init_4 : decode cX5_init 4 = .ok (.aload_n 0, 1) := by decide +kernel
theorem dX5_init_5 : decode cX5_init 5 = .ok (.bipush 32, 2) := by decide +kernel
theorem dX5_init_7 : decode cX5_init 7 = .ok (.newarray .int, 2) := by decide +kernel
theorem dX5_init_9 : decode cX5_init 9 = .ok (.putfield 9, 3) := by decide +kernel
theorem dX5_init_12 : decode cX5_init 12 = .ok (.aload_n 0, 1) := by decide +kernel
theorem dX5_init_13 : decode cX5_init 13 = .ok (.iconst 0, 1) := by decide +kernel
theorem dX5_init_14 : decode cX5_init 14 = .ok (.putfield 15, 3) := by decide +kernel
theorem dX5_init_17 : decode cX5_init 17 = .ok (.return_, 1) := by decide +kernel
theorem dX0_init_0 : decode cX0_init 0 = .ok (.aload_n 0, 1) := by decide +kernel
theorem dX0_init_1 : decode cX0_init 1 = .ok (.invokespecial 1, 3) := by decide +kernel
theorem dX0_init_4 : decode cX0_init 4 = .ok (.aload_n 0, 1) := by decide +kernel
theorem dX0_init_5 : decode cX0_init 5 = .ok (.iconst 0, 1) := by decide +kernel
theorem dX0_init_6 : decode cX0_init 6 = .ok (.putfield 7, 3) := by decide +kernel
theorem dX0_init_9 : decode cX0_init 9 = .ok (.aload_n 0, 1) := by decide +kernel
theorem dX0_init_10 : decode cX0_init 10 = .ok (.iconst 4, 1) := by decide +kernel
theorem dX0_init_11 : decode cX0_init 11 = .ok (.newarray .int, 2) := by decide +kernel
theorem dX0_init_13 : decode cX0_init 13 = .ok (.putfield 13, 3) := by decide +kernel
theorem dX0_init_16 : decode cX0_init 16 = .ok (.return_, 1) := by decide +kernel
theorem dX3_init_0 : decode cX3_init 0 = .ok (.aload_n 0, 1) := by decide +kernel
theorem dX3_init_1 : decode cX3_init 1 = .ok (.invokespecial 1, 3) := by decide +kernel
theorem dX3_init_4 : decode cX3_init 4 = .ok (.aload_n 0, 1) := by decide +kernel
theorem dX3_init_5 : decode cX3_init 5 = .ok (.new 7, 3) := by decide +kernel
theorem dX3_init_8 : decode cX3_init 8 = .ok (.dup, 1) := by decide +kernel
theorem dX3_init_9 : decode cX3_init 9 = .ok (.invokespecial 9, 3) := by decide +kernel
theorem dX3_init_12 : decode cX3_init 12 = .ok (.putfield 10, 3) := by decide +kernel
theorem dX3_init_15 : decode cX3_init 15 = .ok (.aload_n 0, 1) := by decide +kernel
theorem dX3_init_16 : decode cX3_init 16 = .ok (.new 16, 3) := by decide +kernel
theorem dX3_init_19 : decode cX3_init 19 = .ok (.dup, 1) := by decide +kernel
theorem dX3_init_20 : decode cX3_init 20 = .ok (.invokespecial 18, 3) := by decide +kernel
theorem dX3_init_23 : decode cX3_init 23 = .ok (.putfield 19, 3) := by decide +kernel
theorem dX3_init_26 : decode cX3_init 26 = .ok (.return_, 1) := by decide +kernel
theorem dX4_init_0 : decode cX4_init 0 = .ok (.aload_n 0, 1) := by decide +kernel
theorem dX4_init_1 : decode cX4_init 1 = .ok (.invokespecial 3, 3) := by decide +kernel
theorem dX4_init_4 : decode cX4_init 4 = .ok (.aload_n 0, 1) := by decide +kernel
theorem dX4_init_5 : decode cX4_init 5 = .ok (.new 9, 3) := by decide +kernel
theorem dX4_init_8 : decode cX4_init 8 = .ok (.dup, 1) := by decide +kernel
theorem dX4_init_9 : decode cX4_init 9 = .ok (.invokespecial 11, 3) := by decide +kernel
theorem dX4_init_12 : decode cX4_init 12 = .ok (.putfield 12, 3) := by decide +kernel
theorem dX4_init_15 : decode cX4_init 15 = .ok (.aload_n 0, 1) := by decide +kernel
theorem dX4_init_16 : decode cX4_init 16 = .ok (.bipush 8, 2) := by decide +kernel
theorem dX4_init_18 : decode cX4_init 18 = .ok (.newarray .int, 2) := by decide +kernel
theorem dX4_init_20 : decode cX4_init 20 = .ok (.putfield 18, 3) := by decide +kernel
theorem dX4_init_23 : decode cX4_init 23 = .ok (.aload_n 0, 1) := by decide +kernel
theorem dX4_init_24 : decode cX4_init 24 = .ok (.iconst 0, 1) := by decide +kernel
theorem dX4_init_25 : decode cX4_init 25 = .ok (.putfield 22, 3) := by decide +kernel
theorem dX4_init_28 : decode cX4_init 28 = .ok (.return_, 1) := by decide +kernel
theorem dX7_init_0 : decode cX7_init 0 = .ok (.aload_n 0, 1) := by decide +kernel
theorem dX7_init_1 : decode cX7_init 1 = .ok (.invokespecial 3, 3) := by decide +kernel
theorem dX7_init_4 : decode cX7_init 4 = .ok (.aload_n 0, 1) := by decide +kernel
theorem dX7_init_5 : decode cX7_init 5 = .ok (.new 9, 3) := by decide +kernel
theorem dX7_init_8 : decode cX7_init 8 = .ok (.dup, 1) := by decide +kernel
theorem dX7_init_9 : decode cX7_init 9 = .ok (.invokespecial 11, 3) := by decide +kernel
theorem dX7_init_12 : decode cX7_init 12 = .ok (.putfield 12, 3) := by decide +kernel
theorem dX7_init_15 : decode cX7_init 15 = .ok (.aload_n 0, 1) := by decide +kernel
theorem dX7_init_16 : decode cX7_init 16 = .ok (.iconst 0, 1) := by decide +kernel
theorem dX7_init_17 : decode cX7_init 17 = .ok (.putfield 18, 3) := by decide +kernel
theorem dX7_init_20 : decode cX7_init 20 = .ok (.aload_n 0, 1) := by decide +kernel
theorem dX7_init_21 : decode cX7_init 21 = .ok (.iconst 0, 1) := by decide +kernel
theorem dX7_init_22 : decode cX7_init 22 = .ok (.putfield 22, 3) := by decide +kernel
theorem dX7_init_25 : decode cX7_init 25 = .ok (.aload_n 0, 1) := by decide +kernel
theorem dX7_init_26 : decode cX7_init 26 = .ok (.iconst 0, 1) := by decide +kernel
theorem dX7_init_27 : decode cX7_init 27 = .ok (.putfield 25, 3) := by decide +kernel
theorem dX7_init_30 : decode cX7_init 30 = .ok (.return_, 1) := by decide +kernel
theorem dX2_init_0 : decode cX2_init 0 = .ok (.aload_n 0, 1) := by decide +kernel
theorem dX2_init_1 : decode cX2_init 1 = .ok (.invokespecial 3, 3) := by decide +kernel
theorem dX2_init_4 : decode cX2_init 4 = .ok (.aload_n 0, 1) := by decide +kernel
theorem dX2_init_5 : decode cX2_init 5 = .ok (.bipush 12, 2) := by decide +kernel
theorem dX2_init_7 : decode cX2_init 7 = .ok (.anewarray 11, 3) := by decide +kernel
theorem dX2_init_10 : decode cX2_init 10 = .ok (.putfield 13, 3) := by decide +kernel
theorem dX2_init_13 : decode cX2_init 13 = .ok (.aload_n 0, 1) := by decide +kernel
theorem dX2_init_14 : decode cX2_init 14 = .ok (.bipush 12, 2) := by decide +kernel
theorem dX2_init_16 : decode cX2_init 16 = .ok (.newarray .boolean, 2) := by decide +kernel
theorem dX2_init_18 : decode cX2_init 18 = .ok (.putfield 17, 3) := by decide +kernel
theorem dX2_init_21 : decode cX2_init 21 = .ok (.aload_n 0, 1) := by decide +kernel
theorem dX2_init_22 : decode cX2_init 22 = .ok (.iconst 0, 1) := by decide +kernel
theorem dX2_init_23 : decode cX2_init 23 = .ok (.putfield 21, 3) := by decide +kernel
theorem dX2_init_26 : decode cX2_init 26 = .ok (.aload_n 0, 1) := by decide +kernel
theorem dX2_init_27 : decode cX2_init 27 = .ok (.bipush 16, 2) := by decide +kernel
theorem dX2_init_29 : decode cX2_init 29 = .ok (.anewarray 25, 3) := by decide +kernel
theorem dX2_init_32 : decode cX2_init 32 = .ok (.putfield 27, 3) := by decide +kernel
theorem dX2_init_35 : decode cX2_init 35 = .ok (.aload_n 0, 1) := by decide +kernel
theorem dX2_init_36 : decode cX2_init 36 = .ok (.bipush 16, 2) := by decide +kernel
theorem dX2_init_38 : decode cX2_init 38 = .ok (.anewarray 31, 3) := by decide +kernel
theorem dX2_init_41 : decode cX2_init 41 = .ok (.putfield 33, 3) := by decide +kernel
theorem dX2_init_44 : decode cX2_init 44 = .ok (.aload_n 0, 1) := by decide +kernel
theorem dX2_init_45 : decode cX2_init 45 = .ok (.iconst 0, 1) := by decide +kernel
theorem dX2_init_46 : decode cX2_init 46 = .ok (.putfield 37, 3) := by decide +kernel
theorem dX2_init_49 : decode cX2_init 49 = .ok (.aload_n 0, 1) := by decide +kernel
theorem dX2_init_50 : decode cX2_init 50 = .ok (.bipush 12, 2) := by decide +kernel
theorem dX2_init_52 : decode cX2_init 52 = .ok (.anewarray 31, 3) := by decide +kernel
theorem dX2_init_55 : decode cX2_init 55 = .ok (.putfield 40, 3) := by decide +kernel
theorem dX2_init_58 : decode cX2_init 58 = .ok (.aload_n 0, 1) := by decide +kernel
theorem dX2_init_59 : decode cX2_init 59 = .ok (.bipush 12, 2) := by decide +kernel
theorem dX2_init_61 : decode cX2_init 61 = .ok (.newarray .int, 2) := by decide +kernel
theorem dX2_init_63 : decode cX2_init 63 = .ok (.putfield 43, 3) := by decide +kernel
theorem dX2_init_66 : decode cX2_init 66 = .ok (.aload_n 0, 1) := by decide +kernel
theorem dX2_init_67 : decode cX2_init 67 = .ok (.iconst 0, 1) := by decide +kernel
theorem dX2_init_68 : decode cX2_init 68 = .ok (.putfield 47, 3) := by decide +kernel
theorem dX2_init_71 : decode cX2_init 71 = .ok (.return_, 1) := by decide +kernel
theorem dX6_init_0 : decode cX6_init 0 = .ok (.aload_n 0, 1) := by decide +kernel
theorem dX6_init_1 : decode cX6_init 1 = .ok (.invokespecial 3, 3) := by decide +kernel
theorem dX6_init_4 : decode cX6_init 4 = .ok (.aload_n 0, 1) := by decide +kernel
theorem dX6_init_5 : decode cX6_init 5 = .ok (.iconst 0, 1) := by decide +kernel
theorem dX6_init_6 : decode cX6_init 6 = .ok (.putfield 11, 3) := by decide +kernel
theorem dX6_init_9 : decode cX6_init 9 = .ok (.aload_n 0, 1) := by decide +kernel
theorem dX6_init_10 : decode cX6_init 10 = .ok (.new 15, 3) := by decide +kernel
theorem dX6_init_13 : decode cX6_init 13 = .ok (.dup, 1) := by decide +kernel
theorem dX6_init_14 : decode cX6_init 14 = .ok (.invokespecial 17, 3) := by decide +kernel
theorem dX6_init_17 : decode cX6_init 17 = .ok (.putfield 18, 3) := by decide +kernel
theorem dX6_init_20 : decode cX6_init 20 = .ok (.aload_n 0, 1) := by decide +kernel
theorem dX6_init_21 : decode cX6_init 21 = .ok (.new 15, 3) := by decide +kernel
theorem dX6_init_24 : decode cX6_init 24 = .ok (.dup, 1) := by decide +kernel
theorem dX6_init_25 : decode cX6_init 25 = .ok (.invokespecial 17, 3) := by decide +kernel
theorem dX6_init_28 : decode cX6_init 28 = .ok (.putfield 22, 3) := by decide +kernel
theorem dX6_init_31 : decode cX6_init 31 = .ok (.aload_n 0, 1) := by decide +kernel
theorem dX6_init_32 : decode cX6_init 32 = .ok (.new 15, 3) := by decide +kernel
theorem dX6_init_35 : decode cX6_init 35 = .ok (.dup, 1) := by decide +kernel
theorem dX6_init_36 : decode cX6_init 36 = .ok (.invokespecial 17, 3) := by decide +kernel
theorem dX6_init_39 : decode cX6_init 39 = .ok (.putfield 25, 3) := by decide +kernel
theorem dX6_init_42 : decode cX6_init 42 = .ok (.aload_n 0, 1) := by decide +kernel
theorem dX6_init_43 : decode cX6_init 43 = .ok (.new 28, 3) := by decide +kernel
theorem dX6_init_46 : decode cX6_init 46 = .ok (.dup, 1) := by decide +kernel
theorem dX6_init_47 : decode cX6_init 47 = .ok (.invokespecial 30, 3) := by decide +kernel
theorem dX6_init_50 : decode cX6_init 50 = .ok (.putfield 31, 3) := by decide +kernel
theorem dX6_init_53 : decode cX6_init 53 = .ok (.aload_n 0, 1) := by decide +kernel
theorem dX6_init_54 : decode cX6_init 54 = .ok (.iconst (-1), 1) := by decide +kernel
theorem dX6_init_55 : decode cX6_init 55 = .ok (.putfield 35, 3) := by decide +kernel
theorem dX6_init_58 : decode cX6_init 58 = .ok (.aload_n 0, 1) := by decide +kernel
theorem dX6_init_59 : decode cX6_init 59 = .ok (.new 15, 3) := by decide +kernel
theorem dX6_init_62 : decode cX6_init 62 = .ok (.dup, 1) := by decide +kernel
theorem dX6_init_63 : decode cX6_init 63 = .ok (.invokespecial 17, 3) := by decide +kernel
theorem dX6_init_66 : decode cX6_init 66 = .ok (.putfield 38, 3) := by decide +kernel
theorem dX6_init_69 : decode cX6_init 69 = .ok (.aload_n 0, 1) := by decide +kernel
theorem dX6_init_70 : decode cX6_init 70 = .ok (.iconst 0, 1) := by decide +kernel
theorem dX6_init_71 : decode cX6_init 71 = .ok (.putfield 41, 3) := by decide +kernel
theorem dX6_init_74 : decode cX6_init 74 = .ok (.aload_n 0, 1) := by decide +kernel
theorem dX6_init_75 : decode cX6_init 75 = .ok (.new 15, 3) := by decide +kernel
theorem dX6_init_78 : decode cX6_init 78 = .ok (.dup, 1) := by decide +kernel
theorem dX6_init_79 : decode cX6_init 79 = .ok (.invokespecial 17, 3) := by decide +kernel
theorem dX6_init_82 : decode cX6_init 82 = .ok (.putfield 44, 3) := by decide +kernel
theorem dX6_init_85 : decode cX6_init 85 = .ok (.aload_n 0, 1) := by decide +kernel
theorem dX6_init_86 : decode cX6_init 86 = .ok (.iconst 0, 1) := by decide +kernel
theorem dX6_init_87 : decode cX6_init 87 = .ok (.putfield 47, 3) := by decide +kernel
theorem dX6_init_90 : decode cX6_init 90 = .ok (.aload_n 0, 1) := by decide +kernel
theorem dX6_init_91 : decode cX6_init 91 = .ok (.new 15, 3) := by decide +kernel
theorem dX6_init_94 : decode cX6_init 94 = .ok (.dup, 1) := by decide +kernel
theorem dX6_init_95 : decode cX6_init 95 = .ok (.invokespecial 17, 3) := by decide +kernel
theorem dX6_init_98 : decode cX6_init 98 = .ok (.putfield 51, 3) := by decide +kernel
theorem dX6_init_101 : decode cX6_init 101 = .ok (.aload_n 0, 1) := by decide +kernel
theorem dX6_init_102 : decode cX6_init 102 = .ok (.iconst 0, 1) := by decide +kernel
theorem dX6_init_103 : decode cX6_init 103 = .ok (.putfield 54, 3) := by decide +kernel
theorem dX6_init_106 : decode cX6_init 106 = .ok (.return_, 1) := by decide +kernel
theorem dX8_init_0 : decode cX8_init 0 = .ok (.aload_n 0, 1) := by decide +kernel
theorem dX8_init_1 : decode cX8_init 1 = .ok (.invokespecial 1, 3) := by decide +kernel
theorem dX8_init_4 : decode cX8_init 4 = .ok (.aload_n 0, 1) := by decide +kernel
theorem dX8_init_5 : decode cX8_init 5 = .ok (.new 7, 3) := by decide +kernel
theorem dX8_init_8 : decode cX8_init 8 = .ok (.dup, 1) := by decide +kernel
theorem dX8_init_9 : decode cX8_init 9 = .ok (.invokespecial 9, 3) := by decide +kernel
theorem dX8_init_12 : decode cX8_init 12 = .ok (.putfield 10, 3) := by decide +kernel
theorem dX8_init_15 : decode cX8_init 15 = .ok (.aload_n 0, 1) := by decide +kernel
theorem dX8_init_16 : decode cX8_init 16 = .ok (.new 7, 3) := by decide +kernel
theorem dX8_init_19 : decode cX8_init 19 = .ok (.dup, 1) := by decide +kernel
theorem dX8_init_20 : decode cX8_init 20 = .ok (.invokespecial 9, 3) := by decide +kernel
theorem dX8_init_23 : decode cX8_init 23 = .ok (.putfield 16, 3) := by decide +kernel
theorem dX8_init_26 : decode cX8_init 26 = .ok (.aload_n 0, 1) := by decide +kernel
theorem dX8_init_27 : decode cX8_init 27 = .ok (.iconst 4, 1) := by decide +kernel
theorem dX8_init_28 : decode cX8_init 28 = .ok (.anewarray 19, 3) := by decide +kernel
theorem dX8_init_31 : decode cX8_init 31 = .ok (.putfield 21, 3) := by decide +kernel
theorem dX8_init_34 : decode cX8_init 34 = .ok (.aload_n 0, 1) := by decide +kernel
theorem dX8_init_35 : decode cX8_init 35 = .ok (.new 25, 3) := by decide +kernel
theorem dX8_init_38 : decode cX8_init 38 = .ok (.dup, 1) := by decide +kernel
theorem dX8_init_39 : decode cX8_init 39 = .ok (.invokespecial 27, 3) := by decide +kernel
theorem dX8_init_42 : decode cX8_init 42 = .ok (.putfield 28, 3) := by decide +kernel
theorem dX8_init_45 : decode cX8_init 45 = .ok (.aload_n 0, 1) := by decide +kernel
theorem dX8_init_46 : decode cX8_init 46 = .ok (.new 32, 3) := by decide +kernel
theorem dX8_init_49 : decode cX8_init 49 = .ok (.dup, 1) := by decide +kernel
theorem dX8_init_50 : decode cX8_init 50 = .ok (.invokespecial 34, 3) := by decide +kernel
theorem dX8_init_53 : decode cX8_init 53 = .ok (.putfield 35, 3) := by decide +kernel
theorem dX8_init_56 : decode cX8_init 56 = .ok (.aload_n 0, 1) := by decide +kernel
theorem dX8_init_57 : decode cX8_init 57 = .ok (.new 39, 3) := by decide +kernel
theorem dX8_init_60 : decode cX8_init 60 = .ok (.dup, 1) := by decide +kernel
theorem dX8_init_61 : decode cX8_init 61 = .ok (.invokespecial 41, 3) := by decide +kernel
theorem dX8_init_64 : decode cX8_init 64 = .ok (.putfield 42, 3) := by decide +kernel
theorem dX8_init_67 : decode cX8_init 67 = .ok (.aload_n 0, 1) := by decide +kernel
theorem dX8_init_68 : decode cX8_init 68 = .ok (.new 46, 3) := by decide +kernel
theorem dX8_init_71 : decode cX8_init 71 = .ok (.dup, 1) := by decide +kernel
theorem dX8_init_72 : decode cX8_init 72 = .ok (.invokespecial 48, 3) := by decide +kernel
theorem dX8_init_75 : decode cX8_init 75 = .ok (.putfield 49, 3) := by decide +kernel
theorem dX8_init_78 : decode cX8_init 78 = .ok (.aload_n 0, 1) := by decide +kernel
theorem dX8_init_79 : decode cX8_init 79 = .ok (.new 19, 3) := by decide +kernel
theorem dX8_init_82 : decode cX8_init 82 = .ok (.dup, 1) := by decide +kernel
theorem dX8_init_83 : decode cX8_init 83 = .ok (.invokespecial 53, 3) := by decide +kernel
theorem dX8_init_86 : decode cX8_init 86 = .ok (.putfield 54, 3) := by decide +kernel
theorem dX8_init_89 : decode cX8_init 89 = .ok (.return_, 1) := by decide +kernel
theorem dJ7_copyOf_59c91_0 : decode cJ7_copyOf_59c91 0 = .ok (.iload_n 1, 1) := by decide +kernel
theorem dJ7_copyOf_59c91_1 : decode cJ7_copyOf_59c91 1 = .ok (.aload_n 0, 1) := by decide +kernel
theorem dJ7_copyOf_59c91_2 : decode cJ7_copyOf_59c91 2 = .ok (.arraylength, 1) := by decide +kernel
theorem dJ7_copyOf_59c91_3 : decode cJ7_copyOf_59c91 3 = .ok (.if_icmp .ne 11, 3) := by decide +kernel
theorem dJ7_copyOf_59c91_14 : decode cJ7_copyOf_59c91 14 = .ok (.iload_n 1, 1) := by decide +kernel
theorem dJ7_copyOf_59c91_15 : decode cJ7_copyOf_59c91 15 = .ok (.newarray .int, 2) := by decide +kernel
theorem dJ7_copyOf_59c91_17 : decode cJ7_copyOf_59c91 17 = .ok (.astore_n 2, 1) := by decide +kernel
theorem dJ7_copyOf_59c91_18 : decode cJ7_copyOf_59c91 18 = .ok (.aload_n 0, 1) := by decide +kernel
theorem dJ7_copyOf_59c91_19 : decode cJ7_copyOf_59c91 19 = .ok (.iconst 0, 1) := by decide +kernel
theorem dJ7_copyOf_59c91_20 : decode cJ7_copyOf_59c91 20 = .ok (.aload_n 2, 1) := by decide +kernel
theorem dJ7_copyOf_59c91_21 : decode cJ7_copyOf_59c91 21 = .ok (.iconst 0, 1) := by decide +kernel
theorem dJ7_copyOf_59c91_22 : decode cJ7_copyOf_59c91 22 = .ok (.aload_n 0, 1) := by decide +kernel
theorem dJ7_copyOf_59c91_23 : decode cJ7_copyOf_59c91 23 = .ok (.arraylength, 1) := by decide +kernel
theorem dJ7_copyOf_59c91_24 : decode cJ7_copyOf_59c91 24 = .ok (.iload_n 1, 1) := by decide +kernel
theorem dJ7_copyOf_59c91_25 : decode cJ7_copyOf_59c91 25 = .ok (.invokestatic 304, 3) := by decide +kernel
theorem dJ7_copyOf_59c91_28 : decode cJ7_copyOf_59c91 28 = .ok (.invokestatic 150, 3) := by decide +kernel
theorem dJ7_copyOf_59c91_31 : decode cJ7_copyOf_59c91 31 = .ok (.aload_n 2, 1) := by decide +kernel
theorem dJ7_copyOf_59c91_32 : decode cJ7_copyOf_59c91 32 = .ok (.areturn, 1) := by decide +kernel
theorem dX5_add_0 : decode cX5_add 0 = .ok (.aload_n 0, 1) := by decide +kernel
theorem dX5_add_1 : decode cX5_add 1 = .ok (.getfield 15, 3) := by decide +kernel
theorem dX5_add_4 : decode cX5_add 4 = .ok (.sipush 4096, 3) := by decide +kernel
theorem dX5_add_7 : decode cX5_add 7 = .ok (.if_icmp .lt 4, 3) := by decide +kernel
theorem dX5_add_10 : decode cX5_add 10 = .ok (.return_, 1) := by decide +kernel
theorem dX5_add_11 : decode cX5_add 11 = .ok (.aload_n 0, 1) := by decide +kernel
theorem dX5_add_12 : decode cX5_add 12 = .ok (.getfield 15, 3) := by decide +kernel
theorem dX5_add_15 : decode cX5_add 15 = .ok (.aload_n 0, 1) := by decide +kernel
theorem dX5_add_16 : decode cX5_add 16 = .ok (.getfield 9, 3) := by decide +kernel
theorem dX5_add_19 : decode cX5_add 19 = .ok (.arraylength, 1) := by decide +kernel
theorem dX5_add_20 : decode cX5_add 20 = .ok (.if_icmp .lt 20, 3) := by decide +kernel
theorem dX5_add_23 : decode cX5_add 23 = .ok (.aload_n 0, 1) := by decide +kernel
theorem dX5_add_24 : decode cX5_add 24 = .ok (.aload_n 0, 1) := by decide +kernel
theorem dX5_add_25 : decode cX5_add 25 = .ok (.getfield 9, 3) := by decide +kernel
theorem dX5_add_28 : decode cX5_add 28 = .ok (.iconst 2, 1) := by decide +kernel
theorem dX5_add_29 : decode cX5_add 29 = .ok (.aload_n 0, 1) := by decide +kernel
theorem dX5_add_30 : decode cX5_add 30 = .ok (.getfield 15, 3) := by decide +kernel
theorem dX5_add_33 : decode cX5_add 33 = .ok (.imul, 1) := by decide +kernel
theorem dX5_add_34 : decode cX5_add 34 = .ok (.invokestatic 19, 3) := by decide +kernel
theorem dX5_add_37 : decode cX5_add 37 = .ok (.putfield 9, 3) := by decide +kernel
theorem dX5_add_40 : decode cX5_add 40 = .ok (.aload_n 0, 1) := by decide +kernel
theorem dX5_add_41 : decode cX5_add 41 = .ok (.getfield 9, 3) := by decide +kernel
theorem dX5_add_44 : decode cX5_add 44 = .ok (.aload_n 0, 1) := by decide +kernel
theorem dX5_add_45 : decode cX5_add 45 = .ok (.getfield 15, 3) := by decide +kernel
theorem dX5_add_48 : decode cX5_add 48 = .ok (.iload_n 1, 1) := by decide +kernel
theorem dX5_add_49 : decode cX5_add 49 = .ok (.iastore, 1) := by decide +kernel
theorem dX5_add_50 : decode cX5_add 50 = .ok (.aload_n 0, 1) := by decide +kernel
theorem dX5_add_51 : decode cX5_add 51 = .ok (.dup, 1) := by decide +kernel
theorem dX5_add_52 : decode cX5_add 52 = .ok (.getfield 15, 3) := by decide +kernel
theorem dX5_add_55 : decode cX5_add 55 = .ok (.iconst 1, 1) := by decide +kernel
theorem dX5_add_56 : decode cX5_add 56 = .ok (.iadd, 1) := by decide +kernel
theorem dX5_add_57 : decode cX5_add 57 = .ok (.putfield 15, 3) := by decide +kernel
theorem dX5_add_60 : decode cX5_add 60 = .ok (.return_, 1) := by decide +kernel
theorem dX8_type_0 : decode cX8_type 0 = .ok (.iload_n 3, 1) := by decide +kernel
theorem dX8_type_1 : decode cX8_type 1 = .ok (.iconst 1, 1) := by decide +kernel
theorem dX8_type_2 : decode cX8_type 2 = .ok (.if_icmp .lt 9, 3) := by decide +kernel
theorem dX8_type_5 : decode cX8_type 5 = .ok (.iload_n 3, 1) := by decide +kernel
theorem dX8_type_6 : decode cX8_type 6 = .ok (.bipush 8, 2) := by decide +kernel
theorem dX8_type_8 : decode cX8_type 8 = .ok (.if_icmp .le 6, 3) := by decide +kernel
theorem dX8_type_11 : decode cX8_type 11 = .ok (.bipush (-2), 2) := by decide +kernel
theorem dX8_type_13 : decode cX8_type 13 = .ok (.ireturn, 1) := by decide +kernel
theorem dX8_type_14 : decode cX8_type 14 = .ok (.aload_n 0, 1) := by decide +kernel
theorem dX8_type_15 : decode cX8_type 15 = .ok (.getfield 10, 3) := by decide +kernel
theorem dX8_type_18 : decode cX8_type 18 = .ok (.getfield 58, 3) := by decide +kernel
theorem dX8_type_21 : decode cX8_type 21 = .ok (.iload_n 3, 1) := by decide +kernel
theorem dX8_type_22 : decode cX8_type 22 = .ok (.iadd, 1) := by decide +kernel
theorem dX8_type_23 : decode cX8_type 23 = .ok (.sipush 300, 3) := by decide +kernel
theorem dX8_type_26 : decode cX8_type 26 = .ok (.if_icmp .le 6, 3) := by decide +kernel
theorem dX8_type_29 : decode cX8_type 29 = .ok (.bipush (-3), 2) := by decide +kernel
theorem dX8_type_31 : decode cX8_type 31 = .ok (.ireturn, 1) := by decide +kernel
theorem dX8_type_32 : decode cX8_type 32 = .ok (.iconst 0, 1) := by decide +kernel
theorem dX8_type_33 : decode cX8_type 33 = .ok (.istore 4, 2) := by decide +kernel
theorem dX8_type_35 : decode cX8_type 35 = .ok (.iload 4, 2) := by decide +kernel
theorem dX8_type_37 : decode cX8_type 37 = .ok (.iload_n 3, 1) := by decide +kernel
theorem dX8_type_38 : decode cX8_type 38 = .ok (.if_icmp .ge 28, 3) := by decide +kernel
theorem dX8_type_41 : decode cX8_type 41 = .ok (.aload_n 0, 1) := by decide +kernel
theorem dX8_type_42 : decode cX8_type 42 = .ok (.getfield 10, 3) := by decide +kernel
theorem dX8_type_45 : decode cX8_type 45 = .ok (.lload_n 1, 1) := by decide +kernel
theorem dX8_type_46 : decode cX8_type 46 = .ok (.bipush 8, 2) := by decide +kernel
theorem dX8_type_48 : decode cX8_type 48 = .ok (.iload 4, 2) := by decide +kernel
theorem dX8_type_50 : decode cX8_type 50 = .ok (.imul, 1) := by decide +kernel
theorem dX8_type_51 : decode cX8_type 51 = .ok (.lushr, 1) := by decide +kernel
theorem dX8_type_52 : decode cX8_type 52 = .ok (.l2i, 1) := by decide +kernel
theorem dX8_type_53 : decode cX8_type 53 = .ok (.sipush 255, 3) := by decide +kernel
theorem dX8_type_56 : decode cX8_type 56 = .ok (.iand, 1) := by decide +kernel
theorem dX8_type_57 : decode cX8_type 57 = .ok (.invokevirtual 62, 3) := by decide +kernel
theorem dX8_type_60 : decode cX8_type 60 = .ok (.iinc 4 1, 3) := by decide +kernel
theorem dX8_type_63 : decode cX8_type 63 = .ok (.goto (-28), 3) := by decide +kernel
theorem dX8_type_66 : decode cX8_type 66 = .ok (.aload_n 0, 1) := by decide +kernel
theorem dX8_type_67 : decode cX8_type 67 = .ok (.getfield 10, 3) := by decide +kernel
theorem dX8_type_70 : decode cX8_type 70 = .ok (.getfield 58, 3) := by decide +kernel
theorem dX8_type_73 : decode cX8_type 73 = .ok (.ireturn, 1) := by decide +kernel
theorem dX5_cutTo_0 : decode cX5_cutTo 0 = .ok (.iload_n 1, 1) := by decide +kernel
theorem dX5_cutTo_1 : decode cX5_cutTo 1 = .ok (.ifCond .lt 16, 3) := by decide +kernel
theorem dX5_cutTo_4 : decode cX5_cutTo 4 = .ok (.iload_n 1, 1) := by decide +kernel
theorem dX5_cutTo_5 : decode cX5_cutTo 5 = .ok (.aload_n 0, 1) := by decide +kernel
theorem dX5_cutTo_6 : decode cX5_cutTo 6 = .ok (.getfield 15, 3) := by decide +kernel
theorem dX5_cutTo_9 : decode cX5_cutTo 9 = .ok (.if_icmp .ge 8, 3) := by decide +kernel
theorem dX5_cutTo_12 : decode cX5_cutTo 12 = .ok (.aload_n 0, 1) := by decide +kernel
theorem dX5_cutTo_13 : decode cX5_cutTo 13 = .ok (.iload_n 1, 1) := by decide +kernel
theorem dX5_cutTo_14 : decode cX5_cutTo 14 = .ok (.putfield 15, 3) := by decide +kernel
theorem dX5_cutTo_17 : decode cX5_cutTo 17 = .ok (.return_, 1) := by decide +kernel
theorem dX8_erase_0 : decode cX8_erase 0 = .ok (.aload_n 0, 1) := by decide +kernel
theorem dX8_erase_1 : decode cX8_erase 1 = .ok (.getfield 10, 3) := by decide +kernel
theorem dX8_erase_4 : decode cX8_erase 4 = .ok (.getfield 58, 3) := by decide +kernel
theorem dX8_erase_7 : decode cX8_erase 7 = .ok (.istore_n 1, 1) := by decide +kernel
theorem dX8_erase_8 : decode cX8_erase 8 = .ok (.aload_n 0, 1) := by decide +kernel
theorem dX8_erase_9 : decode cX8_erase 9 = .ok (.getfield 10, 3) := by decide +kernel
theorem dX8_erase_12 : decode cX8_erase 12 = .ok (.iconst 0, 1) := by decide +kernel
theorem dX8_erase_13 : decode cX8_erase 13 = .ok (.invokevirtual 66, 3) := by decide +kernel
theorem dX8_erase_16 : decode cX8_erase 16 = .ok (.iload_n 1, 1) := by decide +kernel
theorem dX8_erase_17 : decode cX8_erase 17 = .ok (.ireturn, 1) := by decide +kernel
theorem dX8_recordAt_0 : decode cX8_recordAt 0 = .ok (.iload_n 1, 1) := by decide +kernel
theorem dX8_recordAt_1 : decode cX8_recordAt 1 = .ok (.ifCond .lt 8, 3) := by decide +kernel
theorem dX8_recordAt_4 : decode cX8_recordAt 4 = .ok (.iload_n 1, 1) := by decide +kernel
theorem dX8_recordAt_5 : decode cX8_recordAt 5 = .ok (.iconst 4, 1) := by decide +kernel
theorem dX8_recordAt_6 : decode cX8_recordAt 6 = .ok (.if_icmp .lt 7, 3) := by decide +kernel
theorem dX8_recordAt_9 : decode cX8_recordAt 9 = .ok (.aconst_null, 1) := by decide +kernel
theorem dX8_recordAt_10 : decode cX8_recordAt 10 = .ok (.goto 9, 3) := by decide +kernel
theorem dX8_recordAt_13 : decode cX8_recordAt 13 = .ok (.aload_n 0, 1) := by decide +kernel
theorem dX8_recordAt_14 : decode cX8_recordAt 14 = .ok (.getfield 21, 3) := by decide +kernel
theorem dX8_recordAt_17 : decode cX8_recordAt 17 = .ok (.iload_n 1, 1) := by decide +kernel
theorem dX8_recordAt_18 : decode cX8_recordAt 18 = .ok (.aaload, 1) := by decide +kernel
theorem dX8_recordAt_19 : decode cX8_recordAt 19 = .ok (.areturn, 1) := by decide +kernel
theorem dX5_byteAt_0 : decode cX5_byteAt 0 = .ok (.iload_n 1, 1) := by decide +kernel
theorem dX5_byteAt_1 : decode cX5_byteAt 1 = .ok (.ifCond .lt 20, 3) := by decide +kernel
theorem dX5_byteAt_4 : decode cX5_byteAt 4 = .ok (.iload_n 1, 1) := by decide +kernel
theorem dX5_byteAt_5 : decode cX5_byteAt 5 = .ok (.aload_n 0, 1) := by decide +kernel
theorem dX5_byteAt_6 : decode cX5_byteAt 6 = .ok (.getfield 15, 3) := by decide +kernel
theorem dX5_byteAt_9 : decode cX5_byteAt 9 = .ok (.if_icmp .ge 12, 3) := by decide +kernel
theorem dX5_byteAt_12 : decode cX5_byteAt 12 = .ok (.iload_n 1, 1) := by decide +kernel
theorem dX5_byteAt_13 : decode cX5_byteAt 13 = .ok (.aload_n 0, 1) := by decide +kernel
theorem dX5_byteAt_14 : decode cX5_byteAt 14 = .ok (.getfield 9, 3) := by decide +kernel
theorem dX5_byteAt_17 : decode cX5_byteAt 17 = .ok (.arraylength, 1) := by decide +kernel
theorem dX5_byteAt_18 : decode cX5_byteAt 18 = .ok (.if_icmp .lt 7, 3) := by decide +kernel
theorem dX5_byteAt_21 : decode cX5_byteAt 21 = .ok (.iconst (-1), 1) := by decide +kernel
theorem dX5_byteAt_22 : decode cX5_byteAt 22 = .ok (.goto 9, 3) := by decide +kernel
theorem dX5_byteAt_25 : decode cX5_byteAt 25 = .ok (.aload_n 0, 1) := by decide +kernel
theorem dX5_byteAt_26 : decode cX5_byteAt 26 = .ok (.getfield 9, 3) := by decide +kernel
theorem dX5_byteAt_29 : decode cX5_byteAt 29 = .ok (.iload_n 1, 1) := by decide +kernel
theorem dX5_byteAt_30 : decode cX5_byteAt 30 = .ok (.iaload, 1) := by decide +kernel
theorem dX5_byteAt_31 : decode cX5_byteAt 31 = .ok (.ireturn, 1) := by decide +kernel
theorem dX7_tidy_0 : decode cX7_tidy 0 = .ok (.iconst 0, 1) := by decide +kernel
theorem dX7_tidy_1 : decode cX7_tidy 1 = .ok (.istore_n 2, 1) := by decide +kernel
theorem dX7_tidy_2 : decode cX7_tidy 2 = .ok (.aload_n 1, 1) := by decide +kernel
theorem dX7_tidy_3 : decode cX7_tidy 3 = .ok (.getfield 81, 3) := by decide +kernel
theorem dX7_tidy_6 : decode cX7_tidy 6 = .ok (.istore_n 3, 1) := by decide +kernel
theorem dX7_tidy_7 : decode cX7_tidy 7 = .ok (.iload_n 2, 1) := by decide +kernel
theorem dX7_tidy_8 : decode cX7_tidy 8 = .ok (.iload_n 3, 1) := by decide +kernel
theorem dX7_tidy_9 : decode cX7_tidy 9 = .ok (.if_icmp .ge 19, 3) := by decide +kernel
theorem dX7_tidy_12 : decode cX7_tidy 12 = .ok (.aload_n 1, 1) := by decide +kernel
theorem dX7_tidy_13 : decode cX7_tidy 13 = .ok (.iload_n 2, 1) := by decide +kernel
theorem dX7_tidy_14 : decode cX7_tidy 14 = .ok (.invokevirtual 61, 3) := by decide +kernel
theorem dX7_tidy_17 : decode cX7_tidy 17 = .ok (.bipush 32, 2) := by decide +kernel
theorem dX7_tidy_19 : decode cX7_tidy 19 = .ok (.if_icmp .gt 9, 3) := by decide +kernel
theorem dX7_tidy_22 : decode cX7_tidy 22 = .ok (.iinc 2 1, 3) := by decide +kernel
theorem dX7_tidy_25 : decode cX7_tidy 25 = .ok (.goto (-18), 3) := by decide +kernel
theorem dX7_tidy_28 : decode cX7_tidy 28 = .ok (.iload_n 3, 1) := by decide +kernel
theorem dX7_tidy_29 : decode cX7_tidy 29 = .ok (.iload_n 2, 1) := by decide +kernel
theorem dX7_tidy_30 : decode cX7_tidy 30 = .ok (.if_icmp .le 21, 3) := by decide +kernel
theorem dX7_tidy_33 : decode cX7_tidy 33 = .ok (.aload_n 1, 1) := by decide +kernel
theorem dX7_tidy_34 : decode cX7_tidy 34 = .ok (.iload_n 3, 1) := by decide +kernel
theorem dX7_tidy_35 : decode cX7_tidy 35 = .ok (.iconst 1, 1) := by decide +kernel
theorem dX7_tidy_36 : decode cX7_tidy 36 = .ok (.isub, 1) := by decide +kernel
theorem dX7_tidy_37 : decode cX7_tidy 37 = .ok (.invokevirtual 61, 3) := by decide +kernel
theorem dX7_tidy_40 : decode cX7_tidy 40 = .ok (.bipush 32, 2) := by decide +kernel
theorem dX7_tidy_42 : decode cX7_tidy 42 = .ok (.if_icmp .gt 9, 3) := by decide +kernel
theorem dX7_tidy_45 : decode cX7_tidy 45 = .ok (.iinc 3 (-1), 3) := by decide +kernel
theorem dX7_tidy_48 : decode cX7_tidy 48 = .ok (.goto (-20), 3) := by decide +kernel
theorem dX7_tidy_51 : decode cX7_tidy 51 = .ok (.aload_n 0, 1) := by decide +kernel
theorem dX7_tidy_52 : decode cX7_tidy 52 = .ok (.getfield 12, 3) := by decide +kernel
theorem dX7_tidy_55 : decode cX7_tidy 55 = .ok (.iconst 0, 1) := by decide +kernel
theorem dX7_tidy_56 : decode cX7_tidy 56 = .ok (.invokevirtual 84, 3) := by decide +kernel
theorem dX7_tidy_59 : decode cX7_tidy 59 = .ok (.iload_n 2, 1) := by decide +kernel
theorem dX7_tidy_60 : decode cX7_tidy 60 = .ok (.istore 4, 2) := by decide +kernel
theorem dX7_tidy_62 : decode cX7_tidy 62 = .ok (.iload 4, 2) := by decide +kernel
theorem dX7_tidy_64 : decode cX7_tidy 64 = .ok (.iload_n 3, 1) := by decide +kernel
theorem dX7_tidy_65 : decode cX7_tidy 65 = .ok (.if_icmp .ge 47, 3) := by decide +kernel
theorem dX7_tidy_68 : decode cX7_tidy 68 = .ok (.aload_n 1, 1) := by decide +kernel
theorem dX7_tidy_69 : decode cX7_tidy 69 = .ok (.iload 4, 2) := by decide +kernel
theorem dX7_tidy_71 : decode cX7_tidy 71 = .ok (.invokevirtual 61, 3) := by decide +kernel
theorem dX7_tidy_74 : decode cX7_tidy 74 = .ok (.istore 5, 2) := by decide +kernel
theorem dX7_tidy_76 : decode cX7_tidy 76 = .ok (.iload 5, 2) := by decide +kernel
theorem dX7_tidy_78 : decode cX7_tidy 78 = .ok (.bipush 9, 2) := by decide +kernel
theorem dX7_tidy_80 : decode cX7_tidy 80 = .ok (.if_icmp .eq 26, 3) := by decide +kernel
theorem dX7_tidy_83 : decode cX7_tidy 83 = .ok (.iload 5, 2) := by decide +kernel
theorem dX7_tidy_85 : decode cX7_tidy 85 = .ok (.bipush 10, 2) := by decide +kernel
theorem dX7_tidy_87 : decode cX7_tidy 87 = .ok (.if_icmp .eq 19, 3) := by decide +kernel
theorem dX7_tidy_90 : decode cX7_tidy 90 = .ok (.iload 5, 2) := by decide +kernel
theorem dX7_tidy_92 : decode cX7_tidy 92 = .ok (.bipush 13, 2) := by decide +kernel
theorem dX7_tidy_94 : decode cX7_tidy 94 = .ok (.if_icmp .eq 12, 3) := by decide +kernel
theorem dX7_tidy_97 : decode cX7_tidy 97 = .ok (.aload_n 0, 1) := by decide +kernel
theorem dX7_tidy_98 : decode cX7_tidy 98 = .ok (.getfield 12, 3) := by decide +kernel
theorem dX7_tidy_101 : decode cX7_tidy 101 = .ok (.iload 5, 2) := by decide +kernel
theorem dX7_tidy_103 : decode cX7_tidy 103 = .ok (.invokevirtual 88, 3) := by decide +kernel
theorem dX7_tidy_106 : decode cX7_tidy 106 = .ok (.iinc 4 1, 3) := by decide +kernel
theorem dX7_tidy_109 : decode cX7_tidy 109 = .ok (.goto (-47), 3) := by decide +kernel
theorem dX7_tidy_112 : decode cX7_tidy 112 = .ok (.return_, 1) := by decide +kernel
theorem dX6_empty_0 : decode cX6_empty 0 = .ok (.aload_n 0, 1) := by decide +kernel
theorem dX6_empty_1 : decode cX6_empty 1 = .ok (.getfield 22, 3) := by decide +kernel
theorem dX6_empty_4 : decode cX6_empty 4 = .ok (.iconst 0, 1) := by decide +kernel
theorem dX6_empty_5 : decode cX6_empty 5 = .ok (.invokevirtual 67, 3) := by decide +kernel
theorem dX6_empty_8 : decode cX6_empty 8 = .ok (.aload_n 0, 1) := by decide +kernel
theorem dX6_empty_9 : decode cX6_empty 9 = .ok (.getfield 25, 3) := by decide +kernel
theorem dX6_empty_12 : decode cX6_empty 12 = .ok (.iconst 0, 1) := by decide +kernel
theorem dX6_empty_13 : decode cX6_empty 13 = .ok (.invokevirtual 67, 3) := by decide +kernel
theorem dX6_empty_16 : decode cX6_empty 16 = .ok (.aload_n 0, 1) := by decide +kernel
theorem dX6_empty_17 : decode cX6_empty 17 = .ok (.iconst (-1), 1) := by decide +kernel
theorem dX6_empty_18 : decode cX6_empty 18 = .ok (.putfield 35, 3) := by decide +kernel
theorem dX6_empty_21 : decode cX6_empty 21 = .ok (.aload_n 0, 1) := by decide +kernel
theorem dX6_empty_22 : decode cX6_empty 22 = .ok (.getfield 38, 3) := by decide +kernel
theorem dX6_empty_25 : decode cX6_empty 25 = .ok (.iconst 0, 1) := by decide +kernel
theorem dX6_empty_26 : decode cX6_empty 26 = .ok (.invokevirtual 67, 3) := by decide +kernel
theorem dX6_empty_29 : decode cX6_empty 29 = .ok (.aload_n 0, 1) := by decide +kernel
theorem dX6_empty_30 : decode cX6_empty 30 = .ok (.iconst 0, 1) := by decide +kernel
theorem dX6_empty_31 : decode cX6_empty 31 = .ok (.putfield 41, 3) := by decide +kernel
theorem dX6_empty_34 : decode cX6_empty 34 = .ok (.aload_n 0, 1) := by decide +kernel
theorem dX6_empty_35 : decode cX6_empty 35 = .ok (.getfield 44, 3) := by decide +kernel
theorem dX6_empty_38 : decode cX6_empty 38 = .ok (.iconst 0, 1) := by decide +kernel
theorem dX6_empty_39 : decode cX6_empty 39 = .ok (.invokevirtual 67, 3) := by decide +kernel
theorem dX6_empty_42 : decode cX6_empty 42 = .ok (.aload_n 0, 1) := by decide +kernel
theorem dX6_empty_43 : decode cX6_empty 43 = .ok (.iconst 0, 1) := by decide +kernel
theorem dX6_empty_44 : decode cX6_empty 44 = .ok (.putfield 47, 3) := by decide +kernel
theorem dX6_empty_47 : decode cX6_empty 47 = .ok (.aload_n 0, 1) := by decide +kernel
theorem dX6_empty_48 : decode cX6_empty 48 = .ok (.getfield 51, 3) := by decide +kernel
theorem dX6_empty_51 : decode cX6_empty 51 = .ok (.iconst 0, 1) := by decide +kernel
theorem dX6_empty_52 : decode cX6_empty 52 = .ok (.invokevirtual 67, 3) := by decide +kernel
theorem dX6_empty_55 : decode cX6_empty 55 = .ok (.aload_n 0, 1) := by decide +kernel
theorem dX6_empty_56 : decode cX6_empty 56 = .ok (.iconst 0, 1) := by decide +kernel
theorem dX6_empty_57 : decode cX6_empty 57 = .ok (.putfield 54, 3) := by decide +kernel
theorem dX6_empty_60 : decode cX6_empty 60 = .ok (.return_, 1) := by decide +kernel
theorem dX1_isLetter_0 : decode cX1_isLetter 0 = .ok (.iload_n 0, 1) := by decide +kernel
theorem dX1_isLetter_1 : decode cX1_isLetter 1 = .ok (.bipush 97, 2) := by decide +kernel
theorem dX1_isLetter_3 : decode cX1_isLetter 3 = .ok (.if_icmp .lt 9, 3) := by decide +kernel
theorem dX1_isLetter_6 : decode cX1_isLetter 6 = .ok (.iload_n 0, 1) := by decide +kernel
theorem dX1_isLetter_7 : decode cX1_isLetter 7 = .ok (.bipush 122, 2) := by decide +kernel
theorem dX1_isLetter_9 : decode cX1_isLetter 9 = .ok (.if_icmp .le 15, 3) := by decide +kernel
theorem dX1_isLetter_12 : decode cX1_isLetter 12 = .ok (.iload_n 0, 1) := by decide +kernel
theorem dX1_isLetter_13 : decode cX1_isLetter 13 = .ok (.bipush 65, 2) := by decide +kernel
theorem dX1_isLetter_15 : decode cX1_isLetter 15 = .ok (.if_icmp .lt 13, 3) := by decide +kernel
theorem dX1_isLetter_18 : decode cX1_isLetter 18 = .ok (.iload_n 0, 1) := by decide +kernel
theorem dX1_isLetter_19 : decode cX1_isLetter 19 = .ok (.bipush 90, 2) := by decide +kernel
theorem dX1_isLetter_21 : decode cX1_isLetter 21 = .ok (.if_icmp .gt 7, 3) := by decide +kernel
theorem dX1_isLetter_24 : decode cX1_isLetter 24 = .ok (.iconst 1, 1) := by decide +kernel
theorem dX1_isLetter_25 : decode cX1_isLetter 25 = .ok (.goto 4, 3) := by decide +kernel
theorem dX1_isLetter_28 : decode cX1_isLetter 28 = .ok (.iconst 0, 1) := by decide +kernel
theorem dX1_isLetter_29 : decode cX1_isLetter 29 = .ok (.ireturn, 1) := by decide +kernel
theorem dX1_isDigit_0 : decode cX1_isDigit 0 = .ok (.iload_n 0, 1) := by decide +kernel
theorem dX1_isDigit_1 : decode cX1_isDigit 1 = .ok (.bipush 48, 2) := by decide +kernel
theorem dX1_isDigit_3 : decode cX1_isDigit 3 = .ok (.if_icmp .lt 13, 3) := by decide +kernel
theorem dX1_isDigit_6 : decode cX1_isDigit 6 = .ok (.iload_n 0, 1) := by decide +kernel
theorem dX1_isDigit_7 : decode cX1_isDigit 7 = .ok (.bipush 57, 2) := by decide +kernel
theorem dX1_isDigit_9 : decode cX1_isDigit 9 = .ok (.if_icmp .gt 7, 3) := by decide +kernel
theorem dX1_isDigit_12 : decode cX1_isDigit 12 = .ok (.iconst 1, 1) := by decide +kernel
theorem dX1_isDigit_13 : decode cX1_isDigit 13 = .ok (.goto 4, 3) := by decide +kernel
theorem dX1_isDigit_16 : decode cX1_isDigit 16 = .ok (.iconst 0, 1) := by decide +kernel
theorem dX1_isDigit_17 : decode cX1_isDigit 17 = .ok (.ireturn, 1) := by decide +kernel
def f_X5_init  (a0 : Option Nat) : gM Unit := if a0 = none then gno else (gb (nA 1 32) fun v1 => gb (wR 4 0 a0 v1) fun _ => gb (wI 4 1 a0 0) fun _ => gp ())
section S_X5_init
variable {G : gX} {p : Program} {l : Launch} {e : Env} {s : State} {m : MethodId} {args : Array Value} {below : List Frame} {meth : Method} {c : Code} {mc ms : Nat} {y : Unit × gS}
set_option maxHeartbeats 4000000 in
set_option maxRecDepth 100000 in
theorem w_X5_init_0 (C : gC G p s m args meth c cX5_init 1 RX5) (hr : meth.sig.returnType = none) (hnm : meth.name = "<init>")  (a0 : Option Nat) : gJ G p l e 1 20 mc ms s m args below meth c grv y 1 0 [(0, va_rf a0)] [] (f_X5_init  a0) := by
  have hx := C.1
  have hb := C.2.1
  intro σ H locs cells slots ls hf I hl
  unfold f_X5_init at hf
  refine gw_aload_n hx hb dX5_init_0 rfl (lv_at hl 0 rfl) ?_
  refine gw_obj (rest := []) C hl.1 ⟨kw_0, kw_1, kw_2⟩ ⟨Nat.le_of_ble_eq_true rfl, Nat.le_of_ble_eq_true rfl⟩ (gc4 (Nat.le_of_ble_eq_true rfl)) dX5_init_1 hf (fun hf => ?_)
  refine gw_aload_n hx hb dX5_init_4 rfl (lv_at hl 0 rfl) ?_
  refine lv_bipush (v := 32) hx hb dX5_init_5 kc_b_32 ?_
  refine gw_newa (t := 1) (ty := .int) C I (by decide) rfl rfl rfl (by decide) kw_3 dX5_init_7 hf (fun v1 σ H locs cells slots I hf => ?_)
  refine gw_putr (k := 0) (ty := .array (.int)) C I gcls_4 (by decide) rfl kw_4 (Or.inl rfl) (by decide +kernel) (gty_a _) dX5_init_9 hf (fun σ H locs I hf => ?_)
  refine gw_aload_n hx hb dX5_init_12 rfl (lv_at hl 0 rfl) ?_
  refine lv_iconst (v := 0) hx hb dX5_init_13 kc_i_0 ?_
  refine gw_puti (k := 1) C I gcls_4 (by decide) rfl kw_5 (Or.inl rfl) (by decide +kernel) dX5_init_14 hf (fun σ H locs I hf => ?_)
  exact gw_vret C I hr dX5_init_17 hf
end S_X5_init
theorem m_X5_init (G : gX) (l : Launch) (a0 : Option Nat) : gMet G l yX5_init cX5_init 1 none 1 20 [va_rf a0] grv (f_X5_init a0) := by
  refine gMet_of (by decide) ?_
  intro σ y p e s m below meth c mc ms hf C hr hnm I
  obtain ⟨ls, e1, hl⟩ := gentry m [va_rf a0] 1 [(0, va_rf a0)] (by simp [lg_sl, grc, gcat_i, gcat_l]) (by simp [lv_args, grc, gcat_i, gcat_l])
  rw [e1]
  exact w_X5_init_0 C hr hnm a0 _ _ _ _ _ _ hf I hl
def f_X0_init  (a0 : Option Nat) : gM Unit := if a0 = none then gno else (gb (wI 0 0 a0 0) fun _ => gb (nA 1 4) fun v1 => gb (wR 0 1 a0 v1) fun _ => gp ())
section S_X0_init
variable {G : gX} {p : Program} {l : Launch} {e : Env} {s : State} {m : MethodId} {args : Array Value} {below : List Frame} {meth : Method} {c : Code} {mc ms : Nat} {y : Unit × gS}
set_option maxHeartbeats 4000000 in
set_option maxRecDepth 100000 in
theorem w_X0_init_0 (C : gC G p s m args meth c cX0_init 1 RX0) (hr : meth.sig.returnType = none) (hnm : meth.name = "<init>")  (a0 : Option Nat) : gJ G p l e 1 20 mc ms s m args below meth c grv y 1 0 [(0, va_rf a0)] [] (f_X0_init  a0) := by
  have hx := C.1
  have hb := C.2.1
  intro σ H locs cells slots ls hf I hl
  unfold f_X0_init at hf
  refine gw_aload_n hx hb dX0_init_0 rfl (lv_at hl 0 rfl) ?_
  refine gw_obj (rest := []) C hl.1 ⟨kw_6, kw_1, kw_2⟩ ⟨Nat.le_of_ble_eq_true rfl, Nat.le_of_ble_eq_true rfl⟩ (gc4 (Nat.le_of_ble_eq_true rfl)) dX0_init_1 hf (fun hf => ?_)
  refine gw_aload_n hx hb dX0_init_4 rfl (lv_at hl 0 rfl) ?_
  refine lv_iconst (v := 0) hx hb dX0_init_5 kc_i_0 ?_
  refine gw_puti (k := 0) C I gcls_0 (by decide) rfl kw_7 (Or.inl rfl) (by decide +kernel) dX0_init_6 hf (fun σ H locs I hf => ?_)
  refine gw_aload_n hx hb dX0_init_9 rfl (lv_at hl 0 rfl) ?_
  refine lv_iconst (v := 4) hx hb dX0_init_10 kc_i_4 ?_
  refine gw_newa (t := 1) (ty := .int) C I (by decide) rfl rfl rfl (by decide) kw_3 dX0_init_11 hf (fun v1 σ H locs cells slots I hf => ?_)
  refine gw_putr (k := 1) (ty := .array (.int)) C I gcls_0 (by decide) rfl kw_8 (Or.inr ⟨rfl, hnm, rfl⟩) (by decide +kernel) (gty_a _) dX0_init_13 hf (fun σ H locs I hf => ?_)
  exact gw_vret C I hr dX0_init_16 hf
end S_X0_init
theorem m_X0_init (G : gX) (l : Launch) (a0 : Option Nat) : gMet G l yX0_init cX0_init 1 none 1 20 [va_rf a0] grv (f_X0_init a0) := by
  refine gMet_of (by decide) ?_
  intro σ y p e s m below meth c mc ms hf C hr hnm I
  obtain ⟨ls, e1, hl⟩ := gentry m [va_rf a0] 1 [(0, va_rf a0)] (by simp [lg_sl, grc, gcat_i, gcat_l]) (by simp [lv_args, grc, gcat_i, gcat_l])
  rw [e1]
  exact w_X0_init_0 C hr hnm a0 _ _ _ _ _ _ hf I hl
def f_X3_init  (a0 : Option Nat) : gM Unit := if a0 = none then gno else (gb (nO 0) fun v1 => gb (nn 0 v1) fun _ => gb (f_X0_init v1) fun _ => gb (wR 2 0 a0 v1) fun _ => gb (nO 4) fun v2 => gb (nn 4 v2) fun _ => gb (f_X5_init v2) fun _ => gb (wR 2 1 a0 v2) fun _ => gp ())
section S_X3_init
variable {G : gX} {p : Program} {l : Launch} {e : Env} {s : State} {m : MethodId} {args : Array Value} {below : List Frame} {meth : Method} {c : Code} {mc ms : Nat} {y : Unit × gS}
set_option maxHeartbeats 4000000 in
set_option maxRecDepth 100000 in
theorem w_X3_init_0 (C : gC G p s m args meth c cX3_init 1 RX3) (hr : meth.sig.returnType = none) (hnm : meth.name = "<init>")  (a0 : Option Nat) : gJ G p l e 2 40 mc ms s m args below meth c grv y 1 0 [(0, va_rf a0)] [] (f_X3_init  a0) := by
  have hx := C.1
  have hb := C.2.1
  intro σ H locs cells slots ls hf I hl
  unfold f_X3_init at hf
  refine gw_aload_n hx hb dX3_init_0 rfl (lv_at hl 0 rfl) ?_
  refine gw_obj (rest := []) C hl.1 ⟨kw_9, kw_1, kw_2⟩ ⟨Nat.le_of_ble_eq_true rfl, Nat.le_of_ble_eq_true rfl⟩ (gc4 (Nat.le_of_ble_eq_true rfl)) dX3_init_1 hf (fun hf => ?_)
  refine gw_aload_n hx hb dX3_init_4 rfl (lv_at hl 0 rfl) ?_
  refine gw_new C I gcls_0 gdf_0 kw_10 dX3_init_5 hf (fun v1 σ H locs cells slots I hf => ?_)
  refine lv_dup hx hb dX3_init_8 (grc _) ?_
  refine gw_callN (rest := [va_rf v1, va_rf a0]) (ci := 0) C I hl.1 (m_X0_init G l v1) (host := "UrlGate") (by decide) ⟨kw_11, kw_12⟩ ⟨by decide, by decide, rfl⟩ ⟨rfl, kw_13⟩ ⟨Nat.le_of_ble_eq_true rfl, Nat.le_of_ble_eq_true rfl⟩ rfl (gc4 (Nat.le_of_ble_eq_true rfl)) rfl dX3_init_9 hf (fun _ σ H locs cells slots I hf => ?_)
  refine W.eq (g2 := F0 m 12 ls [va_rf v1, va_rf a0]) rfl ?_
  refine gw_putr (k := 0) (ty := .object "UrlGate$Address") C I gcls_2 (by decide) rfl kw_14 (Or.inr ⟨rfl, hnm, rfl⟩) (by decide +kernel) (gty_o _) dX3_init_12 hf (fun σ H locs I hf => ?_)
  refine gw_aload_n hx hb dX3_init_15 rfl (lv_at hl 0 rfl) ?_
  refine gw_new C I gcls_4 gdf_4 kw_15 dX3_init_16 hf (fun v2 σ H locs cells slots I hf => ?_)
  refine lv_dup hx hb dX3_init_19 (grc _) ?_
  refine gw_callN (rest := [va_rf v2, va_rf a0]) (ci := 4) C I hl.1 (m_X5_init G l v2) (host := "UrlGate") (by decide) ⟨kw_16, kw_17⟩ ⟨by decide, by decide, rfl⟩ ⟨rfl, kw_18⟩ ⟨Nat.le_of_ble_eq_true rfl, Nat.le_of_ble_eq_true rfl⟩ rfl (gc4 (Nat.le_of_ble_eq_true rfl)) rfl dX3_init_20 hf (fun _ σ H locs cells slots I hf => ?_)
  refine W.eq (g2 := F0 m 23 ls [va_rf v2, va_rf a0]) rfl ?_
  refine gw_putr (k := 1) (ty := .object "UrlGate$Row") C I gcls_2 (by decide) rfl kw_19 (Or.inr ⟨rfl, hnm, rfl⟩) (by decide +kernel) (gty_o _) dX3_init_23 hf (fun σ H locs I hf => ?_)
  exact gw_vret C I hr dX3_init_26 hf
end S_X3_init
theorem m_X3_init (G : gX) (l : Launch) (a0 : Option Nat) : gMet G l yX3_init cX3_init 1 none 2 40 [va_rf a0] grv (f_X3_init a0) := by
  refine gMet_of (by decide) ?_
  intro σ y p e s m below meth c mc ms hf C hr hnm I
  obtain ⟨ls, e1, hl⟩ := gentry m [va_rf a0] 1 [(0, va_rf a0)] (by simp [lg_sl, grc, gcat_i, gcat_l]) (by simp [lv_args, grc, gcat_i, gcat_l])
  rw [e1]
  exact w_X3_init_0 C hr hnm a0 _ _ _ _ _ _ hf I hl
def f_X4_init  (a0 : Option Nat) : gM Unit := if a0 = none then gno else (gb (nO 4) fun v1 => gb (nn 4 v1) fun _ => gb (f_X5_init v1) fun _ => gb (wR 3 0 a0 v1) fun _ => gb (nA 1 8) fun v2 => gb (wR 3 1 a0 v2) fun _ => gb (wI 3 2 a0 0) fun _ => gp ())
section S_X4_init
variable {G : gX} {p : Program} {l : Launch} {e : Env} {s : State} {m : MethodId} {args : Array Value} {below : List Frame} {meth : Method} {c : Code} {mc ms : Nat} {y : Unit × gS}
set_option maxHeartbeats 4000000 in
set_option maxRecDepth 100000 in
theorem w_X4_init_0 (C : gC G p s m args meth c cX4_init 1 RX4) (hr : meth.sig.returnType = none) (hnm : meth.name = "<init>")  (a0 : Option Nat) : gJ G p l e 2 40 mc ms s m args below meth c grv y 1 0 [(0, va_rf a0)] [] (f_X4_init  a0) := by
  have hx := C.1
  have hb := C.2.1
  intro σ H locs cells slots ls hf I hl
  unfold f_X4_init at hf
  refine gw_aload_n hx hb dX4_init_0 rfl (lv_at hl 0 rfl) ?_
  refine gw_obj (rest := []) C hl.1 ⟨kw_20, kw_1, kw_2⟩ ⟨Nat.le_of_ble_eq_true rfl, Nat.le_of_ble_eq_true rfl⟩ (gc4 (Nat.le_of_ble_eq_true rfl)) dX4_init_1 hf (fun hf => ?_)
  refine gw_aload_n hx hb dX4_init_4 rfl (lv_at hl 0 rfl) ?_
  refine gw_new C I gcls_4 gdf_4 kw_21 dX4_init_5 hf (fun v1 σ H locs cells slots I hf => ?_)
  refine lv_dup hx hb dX4_init_8 (grc _) ?_
  refine gw_callN (rest := [va_rf v1, va_rf a0]) (ci := 4) C I hl.1 (m_X5_init G l v1) (host := "UrlGate") (by decide) ⟨kw_16, kw_17⟩ ⟨by decide, by decide, rfl⟩ ⟨rfl, kw_18⟩ ⟨Nat.le_of_ble_eq_true rfl, Nat.le_of_ble_eq_true rfl⟩ rfl (gc4 (Nat.le_of_ble_eq_true rfl)) rfl dX4_init_9 hf (fun _ σ H locs cells slots I hf => ?_)
  refine W.eq (g2 := F0 m 12 ls [va_rf v1, va_rf a0]) rfl ?_
  refine gw_putr (k := 0) (ty := .object "UrlGate$Row") C I gcls_3 (by decide) rfl kw_22 (Or.inr ⟨rfl, hnm, rfl⟩) (by decide +kernel) (gty_o _) dX4_init_12 hf (fun σ H locs I hf => ?_)
  refine gw_aload_n hx hb dX4_init_15 rfl (lv_at hl 0 rfl) ?_
  refine lv_bipush (v := 8) hx hb dX4_init_16 kc_b_8 ?_
  refine gw_newa (t := 1) (ty := .int) C I (by decide) rfl rfl rfl (by decide) kw_3 dX4_init_18 hf (fun v2 σ H locs cells slots I hf => ?_)
  refine gw_putr (k := 1) (ty := .array (.int)) C I gcls_3 (by decide) rfl kw_23 (Or.inr ⟨rfl, hnm, rfl⟩) (by decide +kernel) (gty_a _) dX4_init_20 hf (fun σ H locs I hf => ?_)
  refine gw_aload_n hx hb dX4_init_23 rfl (lv_at hl 0 rfl) ?_
  refine lv_iconst (v := 0) hx hb dX4_init_24 kc_i_0 ?_
  refine gw_puti (k := 2) C I gcls_3 (by decide) rfl kw_24 (Or.inl rfl) (by decide +kernel) dX4_init_25 hf (fun σ H locs I hf => ?_)
  exact gw_vret C I hr dX4_init_28 hf
end S_X4_init
theorem m_X4_init (G : gX) (l : Launch) (a0 : Option Nat) : gMet G l yX4_init cX4_init 1 none 2 40 [va_rf a0] grv (f_X4_init a0) := by
  refine gMet_of (by decide) ?_
  intro σ y p e s m below meth c mc ms hf C hr hnm I
  obtain ⟨ls, e1, hl⟩ := gentry m [va_rf a0] 1 [(0, va_rf a0)] (by simp [lg_sl, grc, gcat_i, gcat_l]) (by simp [lv_args, grc, gcat_i, gcat_l])
  rw [e1]
  exact w_X4_init_0 C hr hnm a0 _ _ _ _ _ _ hf I hl
def f_X7_init  (a0 : Option Nat) : gM Unit := if a0 = none then gno else (gb (nO 4) fun v1 => gb (nn 4 v1) fun _ => gb (f_X5_init v1) fun _ => gb (wR 6 0 a0 v1) fun _ => gb (wI 6 1 a0 0) fun _ => gb (wI 6 2 a0 0) fun _ => gb (wI 6 3 a0 0) fun _ => gp ())
section S_X7_init
variable {G : gX} {p : Program} {l : Launch} {e : Env} {s : State} {m : MethodId} {args : Array Value} {below : List Frame} {meth : Method} {c : Code} {mc ms : Nat} {y : Unit × gS}
set_option maxHeartbeats 4000000 in
set_option maxRecDepth 100000 in
theorem w_X7_init_0 (C : gC G p s m args meth c cX7_init 1 RX7) (hr : meth.sig.returnType = none) (hnm : meth.name = "<init>")  (a0 : Option Nat) : gJ G p l e 2 40 mc ms s m args below meth c grv y 1 0 [(0, va_rf a0)] [] (f_X7_init  a0) := by
  have hx := C.1
  have hb := C.2.1
  intro σ H locs cells slots ls hf I hl
  unfold f_X7_init at hf
  refine gw_aload_n hx hb dX7_init_0 rfl (lv_at hl 0 rfl) ?_
  refine gw_obj (rest := []) C hl.1 ⟨kw_25, kw_1, kw_2⟩ ⟨Nat.le_of_ble_eq_true rfl, Nat.le_of_ble_eq_true rfl⟩ (gc4 (Nat.le_of_ble_eq_true rfl)) dX7_init_1 hf (fun hf => ?_)
  refine gw_aload_n hx hb dX7_init_4 rfl (lv_at hl 0 rfl) ?_
  refine gw_new C I gcls_4 gdf_4 kw_26 dX7_init_5 hf (fun v1 σ H locs cells slots I hf => ?_)
  refine lv_dup hx hb dX7_init_8 (grc _) ?_
  refine gw_callN (rest := [va_rf v1, va_rf a0]) (ci := 4) C I hl.1 (m_X5_init G l v1) (host := "UrlGate") (by decide) ⟨kw_16, kw_17⟩ ⟨by decide, by decide, rfl⟩ ⟨rfl, kw_18⟩ ⟨Nat.le_of_ble_eq_true rfl, Nat.le_of_ble_eq_true rfl⟩ rfl (gc4 (Nat.le_of_ble_eq_true rfl)) rfl dX7_init_9 hf (fun _ σ H locs cells slots I hf => ?_)
  refine W.eq (g2 := F0 m 12 ls [va_rf v1, va_rf a0]) rfl ?_
  refine gw_putr (k := 0) (ty := .object "UrlGate$Row") C I gcls_6 (by decide) rfl kw_27 (Or.inr ⟨rfl, hnm, rfl⟩) (by decide +kernel) (gty_o _) dX7_init_12 hf (fun σ H locs I hf => ?_)
  refine gw_aload_n hx hb dX7_init_15 rfl (lv_at hl 0 rfl) ?_
  refine lv_iconst (v := 0) hx hb dX7_init_16 kc_i_0 ?_
  refine gw_puti (k := 1) C I gcls_6 (by decide) rfl kw_28 (Or.inl rfl) (by decide +kernel) dX7_init_17 hf (fun σ H locs I hf => ?_)
  refine gw_aload_n hx hb dX7_init_20 rfl (lv_at hl 0 rfl) ?_
  refine lv_iconst (v := 0) hx hb dX7_init_21 kc_i_0 ?_
  refine gw_puti (k := 2) C I gcls_6 (by decide) rfl kw_29 (Or.inl rfl) (by decide +kernel) dX7_init_22 hf (fun σ H locs I hf => ?_)
  refine gw_aload_n hx hb dX7_init_25 rfl (lv_at hl 0 rfl) ?_
  refine lv_iconst (v := 0) hx hb dX7_init_26 kc_i_0 ?_
  refine gw_puti (k := 3) C I gcls_6 (by decide) rfl kw_30 (Or.inl rfl) (by decide +kernel) dX7_init_27 hf (fun σ H locs I hf => ?_)
  exact gw_vret C I hr dX7_init_30 hf
end S_X7_init
theorem m_X7_init (G : gX) (l : Launch) (a0 : Option Nat) : gMet G l yX7_init cX7_init 1 none 2 40 [va_rf a0] grv (f_X7_init a0) := by
  refine gMet_of (by decide) ?_
  intro σ y p e s m below meth c mc ms hf C hr hnm I
  obtain ⟨ls, e1, hl⟩ := gentry m [va_rf a0] 1 [(0, va_rf a0)] (by simp [lg_sl, grc, gcat_i, gcat_l]) (by simp [lv_args, grc, gcat_i, gcat_l])
  rw [e1]
  exact w_X7_init_0 C hr hnm a0 _ _ _ _ _ _ hf I hl
def f_X2_init  (a0 : Option Nat) : gM Unit := if a0 = none then gno else (gb (nA 4 12) fun v1 => gb (wR 1 0 a0 v1) fun _ => gb (nA 2 12) fun v2 => gb (wR 1 1 a0 v2) fun _ => gb (wI 1 2 a0 0) fun _ => gb (nA 5 16) fun v3 => gb (wR 1 3 a0 v3) fun _ => gb (nA 3 16) fun v4 => gb (wR 1 4 a0 v4) fun _ => gb (wI 1 5 a0 0) fun _ => gb (nA 3 12) fun v5 => gb (wR 1 6 a0 v5) fun _ => gb (nA 1 12) fun v6 => gb (wR 1 7 a0 v6) fun _ => gb (wI 1 8 a0 0) fun _ => gp ())
section S_X2_init
variable {G : gX} {p : Program} {l : Launch} {e : Env} {s : State} {m : MethodId} {args : Array Value} {below : List Frame} {meth : Method} {c : Code} {mc ms : Nat} {y : Unit × gS}
set_option maxHeartbeats 4000000 in
set_option maxRecDepth 100000 in
theorem w_X2_init_0 (C : gC G p s m args meth c cX2_init 1 RX2) (hr : meth.sig.returnType = none) (hnm : meth.name = "<init>")  (a0 : Option Nat) : gJ G p l e 1 20 mc ms s m args below meth c grv y 1 0 [(0, va_rf a0)] [] (f_X2_init  a0) := by
  have hx := C.1
  have hb := C.2.1
  intro σ H locs cells slots ls hf I hl
  unfold f_X2_init at hf
  refine gw_aload_n hx hb dX2_init_0 rfl (lv_at hl 0 rfl) ?_
  refine gw_obj (rest := []) C hl.1 ⟨kw_31, kw_1, kw_2⟩ ⟨Nat.le_of_ble_eq_true rfl, Nat.le_of_ble_eq_true rfl⟩ (gc4 (Nat.le_of_ble_eq_true rfl)) dX2_init_1 hf (fun hf => ?_)
  refine gw_aload_n hx hb dX2_init_4 rfl (lv_at hl 0 rfl) ?_
  refine lv_bipush (v := 12) hx hb dX2_init_5 kc_b_12 ?_
  refine gw_newq (t := 4) (Cn := RX3) C I (by decide) rfl kw_32 (by decide) dX2_init_7 hf (fun v1 σ H locs cells slots I hf => ?_)
  refine gw_putr (k := 0) (ty := .array (.object "UrlGate$Host")) C I gcls_1 (by decide) rfl kw_33 (Or.inr ⟨rfl, hnm, rfl⟩) (by decide +kernel) (gty_a _) dX2_init_10 hf (fun σ H locs I hf => ?_)
  refine gw_aload_n hx hb dX2_init_13 rfl (lv_at hl 0 rfl) ?_
  refine lv_bipush (v := 12) hx hb dX2_init_14 kc_b_12 ?_
  refine gw_newa (t := 2) (ty := .boolean) C I (by decide) rfl rfl rfl (by decide) kw_34 dX2_init_16 hf (fun v2 σ H locs cells slots I hf => ?_)
  refine gw_putr (k := 1) (ty := .array (.boolean)) C I gcls_1 (by decide) rfl kw_35 (Or.inr ⟨rfl, hnm, rfl⟩) (by decide +kernel) (gty_a _) dX2_init_18 hf (fun σ H locs I hf => ?_)
  refine gw_aload_n hx hb dX2_init_21 rfl (lv_at hl 0 rfl) ?_
  refine lv_iconst (v := 0) hx hb dX2_init_22 kc_i_0 ?_
  refine gw_puti (k := 2) C I gcls_1 (by decide) rfl kw_36 (Or.inl rfl) (by decide +kernel) dX2_init_23 hf (fun σ H locs I hf => ?_)
  refine gw_aload_n hx hb dX2_init_26 rfl (lv_at hl 0 rfl) ?_
  refine lv_bipush (v := 16) hx hb dX2_init_27 kc_b_16 ?_
  refine gw_newq (t := 5) (Cn := RX5) C I (by decide) rfl kw_37 (by decide) dX2_init_29 hf (fun v3 σ H locs cells slots I hf => ?_)
  refine gw_putr (k := 3) (ty := .array (.object "UrlGate$Row")) C I gcls_1 (by decide) rfl kw_38 (Or.inr ⟨rfl, hnm, rfl⟩) (by decide +kernel) (gty_a _) dX2_init_32 hf (fun σ H locs I hf => ?_)
  refine gw_aload_n hx hb dX2_init_35 rfl (lv_at hl 0 rfl) ?_
  refine lv_bipush (v := 16) hx hb dX2_init_36 kc_b_16 ?_
  refine gw_newq (t := 3) (Cn := RX0) C I (by decide) rfl kw_39 (by decide) dX2_init_38 hf (fun v4 σ H locs cells slots I hf => ?_)
  refine gw_putr (k := 4) (ty := .array (.object "UrlGate$Address")) C I gcls_1 (by decide) rfl kw_40 (Or.inr ⟨rfl, hnm, rfl⟩) (by decide +kernel) (gty_a _) dX2_init_41 hf (fun σ H locs I hf => ?_)
  refine gw_aload_n hx hb dX2_init_44 rfl (lv_at hl 0 rfl) ?_
  refine lv_iconst (v := 0) hx hb dX2_init_45 kc_i_0 ?_
  refine gw_puti (k := 5) C I gcls_1 (by decide) rfl kw_41 (Or.inl rfl) (by decide +kernel) dX2_init_46 hf (fun σ H locs I hf => ?_)
  refine gw_aload_n hx hb dX2_init_49 rfl (lv_at hl 0 rfl) ?_
  refine lv_bipush (v := 12) hx hb dX2_init_50 kc_b_12 ?_
  refine gw_newq (t := 3) (Cn := RX0) C I (by decide) rfl kw_39 (by decide) dX2_init_52 hf (fun v5 σ H locs cells slots I hf => ?_)
  refine gw_putr (k := 6) (ty := .array (.object "UrlGate$Address")) C I gcls_1 (by decide) rfl kw_42 (Or.inr ⟨rfl, hnm, rfl⟩) (by decide +kernel) (gty_a _) dX2_init_55 hf (fun σ H locs I hf => ?_)
  refine gw_aload_n hx hb dX2_init_58 rfl (lv_at hl 0 rfl) ?_
  refine lv_bipush (v := 12) hx hb dX2_init_59 kc_b_12 ?_
  refine gw_newa (t := 1) (ty := .int) C I (by decide) rfl rfl rfl (by decide) kw_3 dX2_init_61 hf (fun v6 σ H locs cells slots I hf => ?_)
  refine gw_putr (k := 7) (ty := .array (.int)) C I gcls_1 (by decide) rfl kw_43 (Or.inr ⟨rfl, hnm, rfl⟩) (by decide +kernel) (gty_a _) dX2_init_63 hf (fun σ H locs I hf => ?_)
  refine gw_aload_n hx hb dX2_init_66 rfl (lv_at hl 0 rfl) ?_
  refine lv_iconst (v := 0) hx hb dX2_init_67 kc_i_0 ?_
  refine gw_puti (k := 8) C I gcls_1 (by decide) rfl kw_44 (Or.inl rfl) (by decide +kernel) dX2_init_68 hf (fun σ H locs I hf => ?_)
  exact gw_vret C I hr dX2_init_71 hf
end S_X2_init
theorem m_X2_init (G : gX) (l : Launch) (a0 : Option Nat) : gMet G l yX2_init cX2_init 1 none 1 20 [va_rf a0] grv (f_X2_init a0) := by
  refine gMet_of (by decide) ?_
  intro σ y p e s m below meth c mc ms hf C hr hnm I
  obtain ⟨ls, e1, hl⟩ := gentry m [va_rf a0] 1 [(0, va_rf a0)] (by simp [lg_sl, grc, gcat_i, gcat_l]) (by simp [lv_args, grc, gcat_i, gcat_l])
  rw [e1]
  exact w_X2_init_0 C hr hnm a0 _ _ _ _ _ _ hf I hl
def f_X6_init  (a0 : Option Nat) : gM Unit := if a0 = none then gno else (gb (wI 5 0 a0 0) fun _ => gb (nO 4) fun v1 => gb (nn 4 v1) fun _ => gb (f_X5_init v1) fun _ => gb (wR 5 1 a0 v1) fun _ => gb (nO 4) fun v2 => gb (nn 4 v2) fun _ => gb (f_X5_init v2) fun _ => gb (wR 5 2 a0 v2) fun _ => gb (nO 4) fun v3 => gb (nn 4 v3) fun _ => gb (f_X5_init v3) fun _ => gb (wR 5 3 a0 v3) fun _ => gb (nO 2) fun v4 => gb (nn 2 v4) fun _ => gb (f_X3_init v4) fun _ => gb (wR 5 4 a0 v4) fun _ => gb (wI 5 5 a0 (-1)) fun _ => gb (nO 4) fun v5 => gb (nn 4 v5) fun _ => gb (f_X5_init v5) fun _ => gb (wR 5 6 a0 v5) fun _ => gb (wI 5 7 a0 0) fun _ => gb (nO 4) fun v6 => gb (nn 4 v6) fun _ => gb (f_X5_init v6) fun _ => gb (wR 5 8 a0 v6) fun _ => gb (wZ 5 9 a0 0) fun _ => gb (nO 4) fun v7 => gb (nn 4 v7) fun _ => gb (f_X5_init v7) fun _ => gb (wR 5 10 a0 v7) fun _ => gb (wZ 5 11 a0 0) fun _ => gp ())
section S_X6_init
variable {G : gX} {p : Program} {l : Launch} {e : Env} {s : State} {m : MethodId} {args : Array Value} {below : List Frame} {meth : Method} {c : Code} {mc ms : Nat} {y : Unit × gS}
set_option maxHeartbeats 4000000 in
set_option maxRecDepth 100000 in
theorem w_X6_init_0 (C : gC G p s m args meth c cX6_init 1 RX6) (hr : meth.sig.returnType = none) (hnm : meth.name = "<init>")  (a0 : Option Nat) : gJ G p l e 3 60 mc ms s m args below meth c grv y 1 0 [(0, va_rf a0)] [] (f_X6_init  a0) := by
  have hx := C.1
  have hb := C.2.1
  intro σ H locs cells slots ls hf I hl
  unfold f_X6_init at hf
  refine gw_aload_n hx hb dX6_init_0 rfl (lv_at hl 0 rfl) ?_
  refine gw_obj (rest := []) C hl.1 ⟨kw_45, kw_1, kw_2⟩ ⟨Nat.le_of_ble_eq_true rfl, Nat.le_of_ble_eq_true rfl⟩ (gc4 (Nat.le_of_ble_eq_true rfl)) dX6_init_1 hf (fun hf => ?_)
  refine gw_aload_n hx hb dX6_init_4 rfl (lv_at hl 0 rfl) ?_
  refine lv_iconst (v := 0) hx hb dX6_init_5 kc_i_0 ?_
  refine gw_puti (k := 0) C I gcls_5 (by decide) rfl kw_46 (Or.inl rfl) (by decide +kernel) dX6_init_6 hf (fun σ H locs I hf => ?_)
  refine gw_aload_n hx hb dX6_init_9 rfl (lv_at hl 0 rfl) ?_
  refine gw_new C I gcls_4 gdf_4 kw_47 dX6_init_10 hf (fun v1 σ H locs cells slots I hf => ?_)
  refine lv_dup hx hb dX6_init_13 (grc _) ?_
  refine gw_callN (rest := [va_rf v1, va_rf a0]) (ci := 4) C I hl.1 (m_X5_init G l v1) (host := "UrlGate") (by decide) ⟨kw_16, kw_17⟩ ⟨by decide, by decide, rfl⟩ ⟨rfl, kw_18⟩ ⟨Nat.le_of_ble_eq_true rfl, Nat.le_of_ble_eq_true rfl⟩ rfl (gc4 (Nat.le_of_ble_eq_true rfl)) rfl dX6_init_14 hf (fun _ σ H locs cells slots I hf => ?_)
  refine W.eq (g2 := F0 m 17 ls [va_rf v1, va_rf a0]) rfl ?_
  refine gw_putr (k := 1) (ty := .object "UrlGate$Row") C I gcls_5 (by decide) rfl kw_48 (Or.inr ⟨rfl, hnm, rfl⟩) (by decide +kernel) (gty_o _) dX6_init_17 hf (fun σ H locs I hf => ?_)
  refine gw_aload_n hx hb dX6_init_20 rfl (lv_at hl 0 rfl) ?_
  refine gw_new C I gcls_4 gdf_4 kw_47 dX6_init_21 hf (fun v2 σ H locs cells slots I hf => ?_)
  refine lv_dup hx hb dX6_init_24 (grc _) ?_
  refine gw_callN (rest := [va_rf v2, va_rf a0]) (ci := 4) C I hl.1 (m_X5_init G l v2) (host := "UrlGate") (by decide) ⟨kw_16, kw_17⟩ ⟨by decide, by decide, rfl⟩ ⟨rfl, kw_18⟩ ⟨Nat.le_of_ble_eq_true rfl, Nat.le_of_ble_eq_true rfl⟩ rfl (gc4 (Nat.le_of_ble_eq_true rfl)) rfl dX6_init_25 hf (fun _ σ H locs cells slots I hf => ?_)
  refine W.eq (g2 := F0 m 28 ls [va_rf v2, va_rf a0]) rfl ?_
  refine gw_putr (k := 2) (ty := .object "UrlGate$Row") C I gcls_5 (by decide) rfl kw_49 (Or.inr ⟨rfl, hnm, rfl⟩) (by decide +kernel) (gty_o _) dX6_init_28 hf (fun σ H locs I hf => ?_)
  refine gw_aload_n hx hb dX6_init_31 rfl (lv_at hl 0 rfl) ?_
  refine gw_new C I gcls_4 gdf_4 kw_47 dX6_init_32 hf (fun v3 σ H locs cells slots I hf => ?_)
  refine lv_dup hx hb dX6_init_35 (grc _) ?_
  refine gw_callN (rest := [va_rf v3, va_rf a0]) (ci := 4) C I hl.1 (m_X5_init G l v3) (host := "UrlGate") (by decide) ⟨kw_16, kw_17⟩ ⟨by decide, by decide, rfl⟩ ⟨rfl, kw_18⟩ ⟨Nat.le_of_ble_eq_true rfl, Nat.le_of_ble_eq_true rfl⟩ rfl (gc4 (Nat.le_of_ble_eq_true rfl)) rfl dX6_init_36 hf (fun _ σ H locs cells slots I hf => ?_)
  refine W.eq (g2 := F0 m 39 ls [va_rf v3, va_rf a0]) rfl ?_
  refine gw_putr (k := 3) (ty := .object "UrlGate$Row") C I gcls_5 (by decide) rfl kw_50 (Or.inr ⟨rfl, hnm, rfl⟩) (by decide +kernel) (gty_o _) dX6_init_39 hf (fun σ H locs I hf => ?_)
  refine gw_aload_n hx hb dX6_init_42 rfl (lv_at hl 0 rfl) ?_
  refine gw_new C I gcls_2 gdf_2 kw_51 dX6_init_43 hf (fun v4 σ H locs cells slots I hf => ?_)
  refine lv_dup hx hb dX6_init_46 (grc _) ?_
  refine gw_callN (rest := [va_rf v4, va_rf a0]) (ci := 2) C I hl.1 (m_X3_init G l v4) (host := "UrlGate") (by decide) ⟨kw_52, kw_53⟩ ⟨by decide, by decide, rfl⟩ ⟨rfl, kw_54⟩ ⟨Nat.le_of_ble_eq_true rfl, Nat.le_of_ble_eq_true rfl⟩ rfl (gc4 (Nat.le_of_ble_eq_true rfl)) rfl dX6_init_47 hf (fun _ σ H locs cells slots I hf => ?_)
  refine W.eq (g2 := F0 m 50 ls [va_rf v4, va_rf a0]) rfl ?_
  refine gw_putr (k := 4) (ty := .object "UrlGate$Host") C I gcls_5 (by decide) rfl kw_55 (Or.inr ⟨rfl, hnm, rfl⟩) (by decide +kernel) (gty_o _) dX6_init_50 hf (fun σ H locs I hf => ?_)
  refine gw_aload_n hx hb dX6_init_53 rfl (lv_at hl 0 rfl) ?_
  refine lv_iconst (v := (-1)) hx hb dX6_init_54 kc_i_m1 ?_
  refine gw_puti (k := 5) C I gcls_5 (by decide) rfl kw_56 (Or.inl rfl) (by decide +kernel) dX6_init_55 hf (fun σ H locs I hf => ?_)
  refine gw_aload_n hx hb dX6_init_58 rfl (lv_at hl 0 rfl) ?_
  refine gw_new C I gcls_4 gdf_4 kw_47 dX6_init_59 hf (fun v5 σ H locs cells slots I hf => ?_)
  refine lv_dup hx hb dX6_init_62 (grc _) ?_
  refine gw_callN (rest := [va_rf v5, va_rf a0]) (ci := 4) C I hl.1 (m_X5_init G l v5) (host := "UrlGate") (by decide) ⟨kw_16, kw_17⟩ ⟨by decide, by decide, rfl⟩ ⟨rfl, kw_18⟩ ⟨Nat.le_of_ble_eq_true rfl, Nat.le_of_ble_eq_true rfl⟩ rfl (gc4 (Nat.le_of_ble_eq_true rfl)) rfl dX6_init_63 hf (fun _ σ H locs cells slots I hf => ?_)
  refine W.eq (g2 := F0 m 66 ls [va_rf v5, va_rf a0]) rfl ?_
  refine gw_putr (k := 6) (ty := .object "UrlGate$Row") C I gcls_5 (by decide) rfl kw_57 (Or.inr ⟨rfl, hnm, rfl⟩) (by decide +kernel) (gty_o _) dX6_init_66 hf (fun σ H locs I hf => ?_)
  refine gw_aload_n hx hb dX6_init_69 rfl (lv_at hl 0 rfl) ?_
  refine lv_iconst (v := 0) hx hb dX6_init_70 kc_i_0 ?_
  refine gw_puti (k := 7) C I gcls_5 (by decide) rfl kw_58 (Or.inl rfl) (by decide +kernel) dX6_init_71 hf (fun σ H locs I hf => ?_)
  refine gw_aload_n hx hb dX6_init_74 rfl (lv_at hl 0 rfl) ?_
  refine gw_new C I gcls_4 gdf_4 kw_47 dX6_init_75 hf (fun v6 σ H locs cells slots I hf => ?_)
  refine lv_dup hx hb dX6_init_78 (grc _) ?_
  refine gw_callN (rest := [va_rf v6, va_rf a0]) (ci := 4) C I hl.1 (m_X5_init G l v6) (host := "UrlGate") (by decide) ⟨kw_16, kw_17⟩ ⟨by decide, by decide, rfl⟩ ⟨rfl, kw_18⟩ ⟨Nat.le_of_ble_eq_true rfl, Nat.le_of_ble_eq_true rfl⟩ rfl (gc4 (Nat.le_of_ble_eq_true rfl)) rfl dX6_init_79 hf (fun _ σ H locs cells slots I hf => ?_)
  refine W.eq (g2 := F0 m 82 ls [va_rf v6, va_rf a0]) rfl ?_
  refine gw_putr (k := 8) (ty := .object "UrlGate$Row") C I gcls_5 (by decide) rfl kw_59 (Or.inr ⟨rfl, hnm, rfl⟩) (by decide +kernel) (gty_o _) dX6_init_82 hf (fun σ H locs I hf => ?_)
  refine gw_aload_n hx hb dX6_init_85 rfl (lv_at hl 0 rfl) ?_
  refine lv_iconst (v := 0) hx hb dX6_init_86 kc_i_0 ?_
  refine gw_putz (k := 9) C I gcls_5 (by decide) rfl kw_60 (Or.inl rfl) (by decide +kernel) dX6_init_87 hf (fun σ H locs I hf => ?_)
  refine gw_aload_n hx hb dX6_init_90 rfl (lv_at hl 0 rfl) ?_
  refine gw_new C I gcls_4 gdf_4 kw_47 dX6_init_91 hf (fun v7 σ H locs cells slots I hf => ?_)
  refine lv_dup hx hb dX6_init_94 (grc _) ?_
  refine gw_callN (rest := [va_rf v7, va_rf a0]) (ci := 4) C I hl.1 (m_X5_init G l v7) (host := "UrlGate") (by decide) ⟨kw_16, kw_17⟩ ⟨by decide, by decide, rfl⟩ ⟨rfl, kw_18⟩ ⟨Nat.le_of_ble_eq_true rfl, Nat.le_of_ble_eq_true rfl⟩ rfl (gc4 (Nat.le_of_ble_eq_true rfl)) rfl dX6_init_95 hf (fun _ σ H locs cells slots I hf => ?_)
  refine W.eq (g2 := F0 m 98 ls [va_rf v7, va_rf a0]) rfl ?_
  refine gw_putr (k := 10) (ty := .object "UrlGate$Row") C I gcls_5 (by decide) rfl kw_61 (Or.inr ⟨rfl, hnm, rfl⟩) (by decide +kernel) (gty_o _) dX6_init_98 hf (fun σ H locs I hf => ?_)
  refine gw_aload_n hx hb dX6_init_101 rfl (lv_at hl 0 rfl) ?_
  refine lv_iconst (v := 0) hx hb dX6_init_102 kc_i_0 ?_
  refine gw_putz (k := 11) C I gcls_5 (by decide) rfl kw_62 (Or.inl rfl) (by decide +kernel) dX6_init_103 hf (fun σ H locs I hf => ?_)
  exact gw_vret C I hr dX6_init_106 hf
end S_X6_init
theorem m_X6_init (G : gX) (l : Launch) (a0 : Option Nat) : gMet G l yX6_init cX6_init 1 none 3 60 [va_rf a0] grv (f_X6_init a0) := by
  refine gMet_of (by decide) ?_
  intro σ y p e s m below meth c mc ms hf C hr hnm I
  obtain ⟨ls, e1, hl⟩ := gentry m [va_rf a0] 1 [(0, va_rf a0)] (by simp [lg_sl, grc, gcat_i, gcat_l]) (by simp [lv_args, grc, gcat_i, gcat_l])
  rw [e1]
  exact w_X6_init_0 C hr hnm a0 _ _ _ _ _ _ hf I hl
def f_X8_init  (a0 : Option Nat) : gM Unit := if a0 = none then gno else (gb (nO 4) fun v1 => gb (nn 4 v1) fun _ => gb (f_X5_init v1) fun _ => gb (wR 7 0 a0 v1) fun _ => gb (nO 4) fun v2 => gb (nn 4 v2) fun _ => gb (f_X5_init v2) fun _ => gb (wR 7 1 a0 v2) fun _ => gb (nA 6 4) fun v3 => gb (wR 7 2 a0 v3) fun _ => gb (nO 2) fun v4 => gb (nn 2 v4) fun _ => gb (f_X3_init v4) fun _ => gb (wR 7 3 a0 v4) fun _ => gb (nO 3) fun v5 => gb (nn 3 v5) fun _ => gb (f_X4_init v5) fun _ => gb (wR 7 4 a0 v5) fun _ => gb (nO 6) fun v6 => gb (nn 6 v6) fun _ => gb (f_X7_init v6) fun _ => gb (wR 7 5 a0 v6) fun _ => gb (nO 1) fun v7 => gb (nn 1 v7) fun _ => gb (f_X2_init v7) fun _ => gb (wR 7 6 a0 v7) fun _ => gb (nO 5) fun v8 => gb (nn 5 v8) fun _ => gb (f_X6_init v8) fun _ => gb (wR 7 7 a0 v8) fun _ => gp ())
section S_X8_init
variable {G : gX} {p : Program} {l : Launch} {e : Env} {s : State} {m : MethodId} {args : Array Value} {below : List Frame} {meth : Method} {c : Code} {mc ms : Nat} {y : Unit × gS}
set_option maxHeartbeats 4000000 in
set_option maxRecDepth 100000 in
theorem w_X8_init_0 (C : gC G p s m args meth c cX8_init 1 RX8) (hr : meth.sig.returnType = none) (hnm : meth.name = "<init>")  (a0 : Option Nat) : gJ G p l e 4 80 mc ms s m args below meth c grv y 1 0 [(0, va_rf a0)] [] (f_X8_init  a0) := by
  have hx := C.1
  have hb := C.2.1
  intro σ H locs cells slots ls hf I hl
  unfold f_X8_init at hf
  refine gw_aload_n hx hb dX8_init_0 rfl (lv_at hl 0 rfl) ?_
  refine gw_obj (rest := []) C hl.1 ⟨kw_63, kw_1, kw_2⟩ ⟨Nat.le_of_ble_eq_true rfl, Nat.le_of_ble_eq_true rfl⟩ (gc4 (Nat.le_of_ble_eq_true rfl)) dX8_init_1 hf (fun hf => ?_)
  refine gw_aload_n hx hb dX8_init_4 rfl (lv_at hl 0 rfl) ?_
  refine gw_new C I gcls_4 gdf_4 kw_64 dX8_init_5 hf (fun v1 σ H locs cells slots I hf => ?_)
  refine lv_dup hx hb dX8_init_8 (grc _) ?_
  refine gw_callN (rest := [va_rf v1, va_rf a0]) (ci := 4) C I hl.1 (m_X5_init G l v1) (host := "UrlGate") (by decide) ⟨kw_16, kw_17⟩ ⟨by decide, by decide, rfl⟩ ⟨rfl, kw_18⟩ ⟨Nat.le_of_ble_eq_true rfl, Nat.le_of_ble_eq_true rfl⟩ rfl (gc4 (Nat.le_of_ble_eq_true rfl)) rfl dX8_init_9 hf (fun _ σ H locs cells slots I hf => ?_)
  refine W.eq (g2 := F0 m 12 ls [va_rf v1, va_rf a0]) rfl ?_
  refine gw_putr (k := 0) (ty := .object "UrlGate$Row") C I gcls_7 (by decide) rfl kw_65 (Or.inr ⟨rfl, hnm, rfl⟩) (by decide +kernel) (gty_o _) dX8_init_12 hf (fun σ H locs I hf => ?_)
  refine gw_aload_n hx hb dX8_init_15 rfl (lv_at hl 0 rfl) ?_
  refine gw_new C I gcls_4 gdf_4 kw_64 dX8_init_16 hf (fun v2 σ H locs cells slots I hf => ?_)
  refine lv_dup hx hb dX8_init_19 (grc _) ?_
  refine gw_callN (rest := [va_rf v2, va_rf a0]) (ci := 4) C I hl.1 (m_X5_init G l v2) (host := "UrlGate") (by decide) ⟨kw_16, kw_17⟩ ⟨by decide, by decide, rfl⟩ ⟨rfl, kw_18⟩ ⟨Nat.le_of_ble_eq_true rfl, Nat.le_of_ble_eq_true rfl⟩ rfl (gc4 (Nat.le_of_ble_eq_true rfl)) rfl dX8_init_20 hf (fun _ σ H locs cells slots I hf => ?_)
  refine W.eq (g2 := F0 m 23 ls [va_rf v2, va_rf a0]) rfl ?_
  refine gw_putr (k := 1) (ty := .object "UrlGate$Row") C I gcls_7 (by decide) rfl kw_66 (Or.inr ⟨rfl, hnm, rfl⟩) (by decide +kernel) (gty_o _) dX8_init_23 hf (fun σ H locs I hf => ?_)
  refine gw_aload_n hx hb dX8_init_26 rfl (lv_at hl 0 rfl) ?_
  refine lv_iconst (v := 4) hx hb dX8_init_27 kc_i_4 ?_
  refine gw_newq (t := 6) (Cn := RX6) C I (by decide) rfl kw_67 (by decide) dX8_init_28 hf (fun v3 σ H locs cells slots I hf => ?_)
  refine gw_putr (k := 2) (ty := .array (.object "UrlGate$Url")) C I gcls_7 (by decide) rfl kw_68 (Or.inr ⟨rfl, hnm, rfl⟩) (by decide +kernel) (gty_a _) dX8_init_31 hf (fun σ H locs I hf => ?_)
  refine gw_aload_n hx hb dX8_init_34 rfl (lv_at hl 0 rfl) ?_
  refine gw_new C I gcls_2 gdf_2 kw_69 dX8_init_35 hf (fun v4 σ H locs cells slots I hf => ?_)
  refine lv_dup hx hb dX8_init_38 (grc _) ?_
  refine gw_callN (rest := [va_rf v4, va_rf a0]) (ci := 2) C I hl.1 (m_X3_init G l v4) (host := "UrlGate") (by decide) ⟨kw_52, kw_53⟩ ⟨by decide, by decide, rfl⟩ ⟨rfl, kw_54⟩ ⟨Nat.le_of_ble_eq_true rfl, Nat.le_of_ble_eq_true rfl⟩ rfl (gc4 (Nat.le_of_ble_eq_true rfl)) rfl dX8_init_39 hf (fun _ σ H locs cells slots I hf => ?_)
  refine W.eq (g2 := F0 m 42 ls [va_rf v4, va_rf a0]) rfl ?_
  refine gw_putr (k := 3) (ty := .object "UrlGate$Host") C I gcls_7 (by decide) rfl kw_70 (Or.inr ⟨rfl, hnm, rfl⟩) (by decide +kernel) (gty_o _) dX8_init_42 hf (fun σ H locs I hf => ?_)
  refine gw_aload_n hx hb dX8_init_45 rfl (lv_at hl 0 rfl) ?_
  refine gw_new C I gcls_3 gdf_3 kw_71 dX8_init_46 hf (fun v5 σ H locs cells slots I hf => ?_)
  refine lv_dup hx hb dX8_init_49 (grc _) ?_
  refine gw_callN (rest := [va_rf v5, va_rf a0]) (ci := 3) C I hl.1 (m_X4_init G l v5) (host := "UrlGate") (by decide) ⟨kw_72, kw_73⟩ ⟨by decide, by decide, rfl⟩ ⟨rfl, kw_74⟩ ⟨Nat.le_of_ble_eq_true rfl, Nat.le_of_ble_eq_true rfl⟩ rfl (gc4 (Nat.le_of_ble_eq_true rfl)) rfl dX8_init_50 hf (fun _ σ H locs cells slots I hf => ?_)
  refine W.eq (g2 := F0 m 53 ls [va_rf v5, va_rf a0]) rfl ?_
  refine gw_putr (k := 4) (ty := .object "UrlGate$HostReader") C I gcls_7 (by decide) rfl kw_75 (Or.inr ⟨rfl, hnm, rfl⟩) (by decide +kernel) (gty_o _) dX8_init_53 hf (fun σ H locs I hf => ?_)
  refine gw_aload_n hx hb dX8_init_56 rfl (lv_at hl 0 rfl) ?_
  refine gw_new C I gcls_6 gdf_6 kw_76 dX8_init_57 hf (fun v6 σ H locs cells slots I hf => ?_)
  refine lv_dup hx hb dX8_init_60 (grc _) ?_
  refine gw_callN (rest := [va_rf v6, va_rf a0]) (ci := 6) C I hl.1 (m_X7_init G l v6) (host := "UrlGate") (by decide) ⟨kw_77, kw_78⟩ ⟨by decide, by decide, rfl⟩ ⟨rfl, kw_79⟩ ⟨Nat.le_of_ble_eq_true rfl, Nat.le_of_ble_eq_true rfl⟩ rfl (gc4 (Nat.le_of_ble_eq_true rfl)) rfl dX8_init_61 hf (fun _ σ H locs cells slots I hf => ?_)
  refine W.eq (g2 := F0 m 64 ls [va_rf v6, va_rf a0]) rfl ?_
  refine gw_putr (k := 5) (ty := .object "UrlGate$UrlReader") C I gcls_7 (by decide) rfl kw_80 (Or.inr ⟨rfl, hnm, rfl⟩) (by decide +kernel) (gty_o _) dX8_init_64 hf (fun σ H locs I hf => ?_)
  refine gw_aload_n hx hb dX8_init_67 rfl (lv_at hl 0 rfl) ?_
  refine gw_new C I gcls_1 gdf_1 kw_81 dX8_init_68 hf (fun v7 σ H locs cells slots I hf => ?_)
  refine lv_dup hx hb dX8_init_71 (grc _) ?_
  refine gw_callN (rest := [va_rf v7, va_rf a0]) (ci := 1) C I hl.1 (m_X2_init G l v7) (host := "UrlGate") (by decide) ⟨kw_82, kw_83⟩ ⟨by decide, by decide, rfl⟩ ⟨rfl, kw_84⟩ ⟨Nat.le_of_ble_eq_true rfl, Nat.le_of_ble_eq_true rfl⟩ rfl (gc4 (Nat.le_of_ble_eq_true rfl)) rfl dX8_init_72 hf (fun _ σ H locs cells slots I hf => ?_)
  refine W.eq (g2 := F0 m 75 ls [va_rf v7, va_rf a0]) rfl ?_
  refine gw_putr (k := 6) (ty := .object "UrlGate$Gate") C I gcls_7 (by decide) rfl kw_85 (Or.inr ⟨rfl, hnm, rfl⟩) (by decide +kernel) (gty_o _) dX8_init_75 hf (fun σ H locs I hf => ?_)
  refine gw_aload_n hx hb dX8_init_78 rfl (lv_at hl 0 rfl) ?_
  refine gw_new C I gcls_5 gdf_5 kw_67 dX8_init_79 hf (fun v8 σ H locs cells slots I hf => ?_)
  refine lv_dup hx hb dX8_init_82 (grc _) ?_
  refine gw_callN (rest := [va_rf v8, va_rf a0]) (ci := 5) C I hl.1 (m_X6_init G l v8) (host := "UrlGate") (by decide) ⟨kw_86, kw_87⟩ ⟨by decide, by decide, rfl⟩ ⟨rfl, kw_88⟩ ⟨Nat.le_of_ble_eq_true rfl, Nat.le_of_ble_eq_true rfl⟩ rfl (gc4 (Nat.le_of_ble_eq_true rfl)) rfl dX8_init_83 hf (fun _ σ H locs cells slots I hf => ?_)
  refine W.eq (g2 := F0 m 86 ls [va_rf v8, va_rf a0]) rfl ?_
  refine gw_putr (k := 7) (ty := .object "UrlGate$Url") C I gcls_7 (by decide) rfl kw_89 (Or.inl rfl) (by decide +kernel) (gty_o _) dX8_init_86 hf (fun σ H locs I hf => ?_)
  exact gw_vret C I hr dX8_init_89 hf
end S_X8_init
theorem m_X8_init (G : gX) (l : Launch) (a0 : Option Nat) : gMet G l yX8_init cX8_init 1 none 4 80 [va_rf a0] grv (f_X8_init a0) := by
  refine gMet_of (by decide) ?_
  intro σ y p e s m below meth c mc ms hf C hr hnm I
  obtain ⟨ls, e1, hl⟩ := gentry m [va_rf a0] 1 [(0, va_rf a0)] (by simp [lg_sl, grc, gcat_i, gcat_l]) (by simp [lv_args, grc, gcat_i, gcat_l])
  rw [e1]
  exact w_X8_init_0 C hr hnm a0 _ _ _ _ _ _ hf I hl
def f_J7_copyOf_59c91  (a0 : Option Nat) (a1 : Int32) : gM (Option Nat) := gb (aL 1 a0) fun v1 => if a1 = v1 then (gno) else (gb (nA 1 a1) fun v2 => gb (aL 1 a0) fun v3 => gb (cp a0 v2 (if a1 < v3 then a1 else v3)) fun _ => gp v2)
section S_J7_copyOf_59c91
variable {G : gX} {p : Program} {l : Launch} {e : Env} {s : State} {m : MethodId} {args : Array Value} {below : List Frame} {meth : Method} {c : Code} {mc ms : Nat} {y : (Option Nat) × gS}
set_option maxHeartbeats 4000000 in
set_option maxRecDepth 100000 in
theorem w_J7_copyOf_59c91_0 (C : gC G p s m args meth c cJ7_copyOf_59c91 3 RJ7) (hr : meth.sig.returnType = (some (.array .int)))  (a0 : Option Nat) (a1 : Int32) : gJ G p l e 1 40 mc ms s m args below meth c grq y 3 0 [(0, va_rf a0), (1, .int a1)] [] (f_J7_copyOf_59c91  a0 a1) := by
  have hx := C.1
  have hb := C.2.1
  intro σ H locs cells slots ls hf I hl
  unfold f_J7_copyOf_59c91 at hf
  refine lv_iload_n hx hb dJ7_copyOf_59c91_0 rfl (lv_at hl 1 rfl) ?_
  refine gw_aload_n hx hb dJ7_copyOf_59c91_1 rfl (lv_at hl 0 rfl) ?_
  refine gw_aL (t := 1) C I rfl dJ7_copyOf_59c91_2 hf (fun v1 hf => ?_)
  refine lv_icmp_ne (tgt := 14) hx hb dJ7_copyOf_59c91_3 (by decide) (fun hq => ?_) (fun hq => ?_)
  · have hf := giff hq hf
    refine lv_iload_n hx hb dJ7_copyOf_59c91_14 rfl (lv_at hl 1 rfl) ?_
    refine gw_newa (t := 1) (ty := .int) C I (by decide) rfl rfl rfl (by decide) kw_3 dJ7_copyOf_59c91_15 hf (fun v2 σ H locs cells slots I hf => ?_)
    refine gw_astore_n (lv' := [(2, va_rf v2), (0, va_rf a0), (1, .int a1)]) hx hb dJ7_copyOf_59c91_17 rfl hl (by decide) rfl (fun ls hl => ?_)
    refine gw_aload_n hx hb dJ7_copyOf_59c91_18 rfl (lv_at hl 1 rfl) ?_
    refine lv_iconst (v := 0) hx hb dJ7_copyOf_59c91_19 kc_i_0 ?_
    refine gw_aload_n hx hb dJ7_copyOf_59c91_20 rfl (lv_at hl 0 rfl) ?_
    refine lv_iconst (v := 0) hx hb dJ7_copyOf_59c91_21 kc_i_0 ?_
    refine gw_aload_n hx hb dJ7_copyOf_59c91_22 rfl (lv_at hl 1 rfl) ?_
    refine gw_aL (t := 1) C I rfl dJ7_copyOf_59c91_23 hf (fun v3 hf => ?_)
    refine lv_iload_n hx hb dJ7_copyOf_59c91_24 rfl (lv_at hl 2 rfl) ?_
    refine gw_mmin (rest := [.int 0, va_rf v2, .int 0, va_rf a0]) C I hl.1 ⟨kw_90, kw_91, kw_92, kw_93⟩ ⟨Nat.le_of_ble_eq_true rfl, Nat.le_of_ble_eq_true rfl⟩ (gc4 (Nat.le_of_ble_eq_true rfl)) dJ7_copyOf_59c91_25 hf ?_
    refine gw_copy (rest := []) C I hl.1 ⟨kw_94, kw_95, kw_96, kw_97⟩ ⟨Nat.le_of_ble_eq_true rfl, Nat.le_of_ble_eq_true rfl⟩ (gc4 (Nat.le_of_ble_eq_true rfl)) dJ7_copyOf_59c91_28 hf (fun σ H locs I hf => ?_)
    refine gw_aload_n hx hb dJ7_copyOf_59c91_31 rfl (lv_at hl 0 rfl) ?_
    exact gw_aret C I hr (Or.inr ⟨_, rfl⟩) dJ7_copyOf_59c91_32 hf
  · have hf := gift hq hf
    exact (gno_some hf).elim
end S_J7_copyOf_59c91
theorem m_J7_copyOf_59c91 (G : gX) (l : Launch) (a0 : Option Nat) (a1 : Int32) : gMet G l yJ7_copyOf_59c91 cJ7_copyOf_59c91 3 (some (.array .int)) 1 40 [va_rf a0, .int a1] grq (f_J7_copyOf_59c91 a0 a1) := by
  refine gMet_of (by decide) ?_
  intro σ y p e s m below meth c mc ms hf C hr hnm I
  obtain ⟨ls, e1, hl⟩ := gentry m [va_rf a0, .int a1] 3 [(0, va_rf a0), (1, .int a1)] (by simp [lg_sl, grc, gcat_i, gcat_l]) (by simp [lv_args, grc, gcat_i, gcat_l])
  rw [e1]
  exact w_J7_copyOf_59c91_0 C hr a0 a1 _ _ _ _ _ _ hf I hl
def f_X5_add_40  (x0 : Option Nat) (x1 : Int32) : gM Unit := gb (rR 4 0 x0) fun v1 => gb (rI 4 1 x0) fun v2 => gb (sI 1 v1 v2 x1) fun _ => gb (rI 4 1 x0) fun v3 => gb (wI 4 1 x0 (v3 + 1)) fun _ => gp ()
def f_X5_add  (a0 : Option Nat) (a1 : Int32) : gM Unit := gb (rI 4 1 a0) fun v1 => if v1 < 4096 then (gb (rI 4 1 a0) fun v2 => gb (rR 4 0 a0) fun v3 => gb (aL 1 v3) fun v4 => if v2 < v4 then (f_X5_add_40  a0 a1) else (gb (rR 4 0 a0) fun v5 => gb (rI 4 1 a0) fun v6 => gb (f_J7_copyOf_59c91 v5 (2 * v6)) fun v7 => gb (wR 4 0 a0 v7) fun _ => f_X5_add_40  a0 a1)) else (gp ())
section S_X5_add
variable {G : gX} {p : Program} {l : Launch} {e : Env} {s : State} {m : MethodId} {args : Array Value} {below : List Frame} {meth : Method} {c : Code} {mc ms : Nat} {y : Unit × gS}
set_option maxHeartbeats 4000000 in
set_option maxRecDepth 100000 in
theorem w_X5_add_40 (C : gC G p s m args meth c cX5_add 2 RX5) (hr : meth.sig.returnType = none)  (x0 : Option Nat) (x1 : Int32) : gJ G p l e 2 62 mc ms s m args below meth c grv y 2 40 [(0, va_rf x0), (1, .int x1)] [] (f_X5_add_40  x0 x1) := by
  have hx := C.1
  have hb := C.2.1
  intro σ H locs cells slots ls hf I hl
  unfold f_X5_add_40 at hf
  refine gw_aload_n hx hb dX5_add_40 rfl (lv_at hl 0 rfl) ?_
  refine gw_getr (k := 0) C I gcls_4 (by decide) rfl kw_4 dX5_add_41 hf (fun v1 hf => ?_)
  refine gw_aload_n hx hb dX5_add_44 rfl (lv_at hl 0 rfl) ?_
  refine gw_geti (k := 1) C I gcls_4 (by decide) rfl kw_5 dX5_add_45 hf (fun v2 hf => ?_)
  refine lv_iload_n hx hb dX5_add_48 rfl (lv_at hl 1 rfl) ?_
  refine gw_iast C I dX5_add_49 hf (fun σ H locs I hf => ?_)
  refine gw_aload_n hx hb dX5_add_50 rfl (lv_at hl 0 rfl) ?_
  refine lv_dup hx hb dX5_add_51 (grc _) ?_
  refine gw_geti (k := 1) C I gcls_4 (by decide) rfl kw_5 dX5_add_52 hf (fun v3 hf => ?_)
  refine lv_iconst (v := 1) hx hb dX5_add_55 kc_i_1 ?_
  refine lv_iadd hx hb dX5_add_56 ?_
  refine gw_puti (k := 1) C I gcls_4 (by decide) rfl kw_5 (Or.inl rfl) (by decide +kernel) dX5_add_57 hf (fun σ H locs I hf => ?_)
  exact gw_vret C I hr dX5_add_60 hf
set_option maxHeartbeats 4000000 in
set_option maxRecDepth 100000 in
theorem w_X5_add_0 (C : gC G p s m args meth c cX5_add 2 RX5) (hr : meth.sig.returnType = none)  (a0 : Option Nat) (a1 : Int32) : gJ G p l e 2 62 mc ms s m args below meth c grv y 2 0 [(0, va_rf a0), (1, .int a1)] [] (f_X5_add  a0 a1) := by
  have hx := C.1
  have hb := C.2.1
  intro σ H locs cells slots ls hf I hl
  unfold f_X5_add at hf
  refine gw_aload_n hx hb dX5_add_0 rfl (lv_at hl 0 rfl) ?_
  refine gw_geti (k := 1) C I gcls_4 (by decide) rfl kw_5 dX5_add_1 hf (fun v1 hf => ?_)
  refine lv_sipush (v := 4096) hx hb dX5_add_4 kc_s_4096 ?_
  refine lv_icmp_lt (tgt := 11) hx hb dX5_add_7 (by decide) (fun hq => ?_) (fun hq => ?_)
  · have hf := gift hq hf
    refine gw_aload_n hx hb dX5_add_11 rfl (lv_at hl 0 rfl) ?_
    refine gw_geti (k := 1) C I gcls_4 (by decide) rfl kw_5 dX5_add_12 hf (fun v2 hf => ?_)
    refine gw_aload_n hx hb dX5_add_15 rfl (lv_at hl 0 rfl) ?_
    refine gw_getr (k := 0) C I gcls_4 (by decide) rfl kw_4 dX5_add_16 hf (fun v3 hf => ?_)
    refine gw_aL (t := 1) C I rfl dX5_add_19 hf (fun v4 hf => ?_)
    refine lv_icmp_lt (tgt := 40) hx hb dX5_add_20 (by decide) (fun hq => ?_) (fun hq => ?_)
    · have hf := gift hq hf
      exact w_X5_add_40 C hr  a0 a1 _ _ _ _ _ _ hf I (lv_sub hl [0, 1] rfl)
    · have hf := giff hq hf
      refine gw_aload_n hx hb dX5_add_23 rfl (lv_at hl 0 rfl) ?_
      refine gw_aload_n hx hb dX5_add_24 rfl (lv_at hl 0 rfl) ?_
      refine gw_getr (k := 0) C I gcls_4 (by decide) rfl kw_4 dX5_add_25 hf (fun v5 hf => ?_)
      refine lv_iconst (v := 2) hx hb dX5_add_28 kc_i_2 ?_
      refine gw_aload_n hx hb dX5_add_29 rfl (lv_at hl 0 rfl) ?_
      refine gw_geti (k := 1) C I gcls_4 (by decide) rfl kw_5 dX5_add_30 hf (fun v6 hf => ?_)
      refine lv_imul hx hb dX5_add_33 ?_
      refine gw_callS (rest := [va_rf a0]) C I hl.1 (m_J7_copyOf_59c91 G l v5 (2 * v6)) gl_RX5_19 kw_98 ⟨Nat.le_of_ble_eq_true rfl, Nat.le_of_ble_eq_true rfl⟩ rfl (gc4 (Nat.le_of_ble_eq_true rfl)) rfl dX5_add_34 hf (fun v7 σ H locs cells slots I hf => ?_)
      refine W.eq (g2 := F0 m 37 ls [va_rf v7, va_rf a0]) rfl ?_
      refine gw_putr (k := 0) (ty := .array (.int)) C I gcls_4 (by decide) rfl kw_4 (Or.inl rfl) (by decide +kernel) (gty_a _) dX5_add_37 hf (fun σ H locs I hf => ?_)
      exact w_X5_add_40 C hr  a0 a1 _ _ _ _ _ _ hf I (lv_sub hl [0, 1] rfl)
  · have hf := giff hq hf
    exact gw_vret C I hr dX5_add_10 hf
end S_X5_add
theorem m_X5_add (G : gX) (l : Launch) (a0 : Option Nat) (a1 : Int32) : gMet G l yX5_add cX5_add 2 none 2 62 [va_rf a0, .int a1] grv (f_X5_add a0 a1) := by
  refine gMet_of (by decide) ?_
  intro σ y p e s m below meth c mc ms hf C hr hnm I
  obtain ⟨ls, e1, hl⟩ := gentry m [va_rf a0, .int a1] 2 [(0, va_rf a0), (1, .int a1)] (by simp [lg_sl, grc, gcat_i, gcat_l]) (by simp [lv_args, grc, gcat_i, gcat_l])
  rw [e1]
  exact w_X5_add_0 C hr a0 a1 _ _ _ _ _ _ hf I hl
def f_X8_type_35 (rec35 : Option Nat → Int64 → Int32 → Int32 → gM Int32) (x0 : Option Nat) (x1 : Int64) (x3 : Int32) (x4 : Int32) : gM Int32 := if x3 ≤ x4 then (gb (rR 7 0 x0) fun v1 => gb (rI 4 1 v1) fun v2 => gp v2) else (gb (rR 7 0 x0) fun v3 => gb (nn 4 v3) fun _ => gb (f_X5_add v3 ((((x1.toUInt64 >>> ((8 * x4).toInt64.toUInt64 &&& Int64.toUInt64 63)).toInt64).toInt32) &&& 255)) fun _ => rec35 x0 x1 x3 (x4 + 1))
def f_X8_type_L35  : Nat → Option Nat → Int64 → Int32 → Int32 → gM Int32
  | 0, _, _, _, _ => gno
  | n + 1, x0, x1, x3, x4 => f_X8_type_35  (f_X8_type_L35  n) x0 x1 x3 x4
def f_X8_type  (a0 : Option Nat) (a1 : Int64) (a3 : Int32) : gM Int32 := if a3 < 1 then (gp (-2)) else (if a3 ≤ 8 then (gb (rR 7 0 a0) fun v1 => gb (rI 4 1 v1) fun v2 => if (v2 + a3) ≤ 300 then (f_X8_type_L35  gF a0 a1 a3 0) else (gp (-3))) else (gp (-2)))
section S_X8_type
variable {G : gX} {p : Program} {l : Launch} {e : Env} {s : State} {m : MethodId} {args : Array Value} {below : List Frame} {meth : Method} {c : Code} {mc ms : Nat} {y : Int32 × gS}
set_option maxHeartbeats 4000000 in
set_option maxRecDepth 100000 in
theorem w_X8_type_35 (C : gC G p s m args meth c cX8_type 5 RX8) (hr : meth.sig.returnType = (some .int)) {rec35 : Option Nat → Int64 → Int32 → Int32 → gM Int32} (hrec35 : ∀ (x0 : Option Nat) (x1 : Int64) (x3 : Int32) (x4 : Int32), gJ G p l e 3 83 mc ms s m args below meth c gri y 5 35 [(0, va_rf x0), (1, .long x1), (3, .int x3), (4, .int x4)] [] (rec35 x0 x1 x3 x4)) (x0 : Option Nat) (x1 : Int64) (x3 : Int32) (x4 : Int32) : gJ G p l e 3 83 mc ms s m args below meth c gri y 5 35 [(0, va_rf x0), (1, .long x1), (3, .int x3), (4, .int x4)] [] (f_X8_type_35 rec35 x0 x1 x3 x4) := by
  have hx := C.1
  have hb := C.2.1
  intro σ H locs cells slots ls hf I hl
  unfold f_X8_type_35 at hf
  refine lv_iload hx hb dX8_type_35 (lv_at hl 3 rfl) ?_
  refine lv_iload_n hx hb dX8_type_37 rfl (lv_at hl 2 rfl) ?_
  refine lv_icmp_ge (tgt := 66) hx hb dX8_type_38 (by decide) (fun hq => ?_) (fun hq => ?_)
  · have hf := gift hq hf
    refine gw_aload_n hx hb dX8_type_66 rfl (lv_at hl 0 rfl) ?_
    refine gw_getr (k := 0) C I gcls_7 (by decide) rfl kw_65 dX8_type_67 hf (fun v1 hf => ?_)
    refine gw_geti (k := 1) C I gcls_4 (by decide) rfl kw_99 dX8_type_70 hf (fun v2 hf => ?_)
    exact gw_iret C I hr dX8_type_73 hf
  · have hf := giff hq hf
    refine gw_aload_n hx hb dX8_type_41 rfl (lv_at hl 0 rfl) ?_
    refine gw_getr (k := 0) C I gcls_7 (by decide) rfl kw_65 dX8_type_42 hf (fun v3 hf => ?_)
    refine lv_lload_n hx hb dX8_type_45 rfl (lv_at hl 1 rfl) ?_
    refine lv_bipush (v := 8) hx hb dX8_type_46 kc_b_8 ?_
    refine lv_iload hx hb dX8_type_48 (lv_at hl 3 rfl) ?_
    refine lv_imul hx hb dX8_type_50 ?_
    refine lv_lushr hx hb dX8_type_51 rfl ?_
    refine lv_l2i hx hb dX8_type_52 rfl ?_
    refine lv_sipush (v := 255) hx hb dX8_type_53 kc_s_255 ?_
    refine lv_iand hx hb dX8_type_56 ?_
    refine gw_callV (rest := []) C I hl.1 gcls_4 (m_X5_add G l v3 ((((x1.toUInt64 >>> ((8 * x4).toInt64.toUInt64 &&& Int64.toUInt64 63)).toInt64).toInt32) &&& 255)) gl_RX8_62 gn_X5_add ⟨Nat.le_of_ble_eq_true rfl, Nat.le_of_ble_eq_true rfl⟩ rfl (gc4 (Nat.le_of_ble_eq_true rfl)) rfl dX8_type_57 hf (fun _ σ H locs cells slots I hf => ?_)
    refine W.eq (g2 := F0 m 60 ls []) rfl ?_
    refine lv_iinc (v := x4 + 1) (lv' := [(4, .int (x4 + 1)), (0, va_rf x0), (1, .long x1), (3, .int x3)]) hx hb dX8_type_60 hl (k := 3) rfl rfl (by decide) rfl (fun ls hl => ?_)
    refine lv_goto (tgt := 35) hx hb dX8_type_63 (by decide) ?_
    exact hrec35 x0 x1 x3 (x4 + 1) _ _ _ _ _ _ hf I (lv_sub hl [1, 2, 3, 0] rfl)
theorem w_X8_type_L35 (C : gC G p s m args meth c cX8_type 5 RX8) (hr : meth.sig.returnType = (some .int))  : ∀ (n : Nat) (x0 : Option Nat) (x1 : Int64) (x3 : Int32) (x4 : Int32), gJ G p l e 3 83 mc ms s m args below meth c gri y 5 35 [(0, va_rf x0), (1, .long x1), (3, .int x3), (4, .int x4)] [] (f_X8_type_L35  n x0 x1 x3 x4) := by
  intro n
  induction n with
  | zero => intro x0 x1 x3 x4 σ H locs cells slots ls hf; exact (gno_some hf).elim
  | succ n ih => intro x0 x1 x3 x4; exact w_X8_type_35 C hr  ih x0 x1 x3 x4
set_option maxHeartbeats 4000000 in
set_option maxRecDepth 100000 in
theorem w_X8_type_0 (C : gC G p s m args meth c cX8_type 5 RX8) (hr : meth.sig.returnType = (some .int))  (a0 : Option Nat) (a1 : Int64) (a3 : Int32) : gJ G p l e 3 83 mc ms s m args below meth c gri y 5 0 [(0, va_rf a0), (1, .long a1), (3, .int a3)] [] (f_X8_type  a0 a1 a3) := by
  have hx := C.1
  have hb := C.2.1
  intro σ H locs cells slots ls hf I hl
  unfold f_X8_type at hf
  refine lv_iload_n hx hb dX8_type_0 rfl (lv_at hl 2 rfl) ?_
  refine lv_iconst (v := 1) hx hb dX8_type_1 kc_i_1 ?_
  refine lv_icmp_lt (tgt := 11) hx hb dX8_type_2 (by decide) (fun hq => ?_) (fun hq => ?_)
  · have hf := gift hq hf
    refine lv_bipush (v := (-2)) hx hb dX8_type_11 kc_b_m2 ?_
    exact gw_iret C I hr dX8_type_13 hf
  · have hf := giff hq hf
    refine lv_iload_n hx hb dX8_type_5 rfl (lv_at hl 2 rfl) ?_
    refine lv_bipush (v := 8) hx hb dX8_type_6 kc_b_8 ?_
    refine lv_icmp_le (tgt := 14) hx hb dX8_type_8 (by decide) (fun hq => ?_) (fun hq => ?_)
    · have hf := gift hq hf
      refine gw_aload_n hx hb dX8_type_14 rfl (lv_at hl 0 rfl) ?_
      refine gw_getr (k := 0) C I gcls_7 (by decide) rfl kw_65 dX8_type_15 hf (fun v1 hf => ?_)
      refine gw_geti (k := 1) C I gcls_4 (by decide) rfl kw_99 dX8_type_18 hf (fun v2 hf => ?_)
      refine lv_iload_n hx hb dX8_type_21 rfl (lv_at hl 2 rfl) ?_
      refine lv_iadd hx hb dX8_type_22 ?_
      refine lv_sipush (v := 300) hx hb dX8_type_23 kc_s_300 ?_
      refine lv_icmp_le (tgt := 32) hx hb dX8_type_26 (by decide) (fun hq => ?_) (fun hq => ?_)
      · have hf := gift hq hf
        refine lv_iconst (v := 0) hx hb dX8_type_32 kc_i_0 ?_
        refine lv_istore (lv' := [(4, .int 0), (0, va_rf a0), (1, .long a1), (3, .int a3)]) hx hb dX8_type_33 hl (by decide) rfl (fun ls hl => ?_)
        exact w_X8_type_L35 C hr  _ a0 a1 a3 0 _ _ _ _ _ _ hf I (lv_sub hl [1, 2, 3, 0] rfl)
      · have hf := giff hq hf
        refine lv_bipush (v := (-3)) hx hb dX8_type_29 kc_b_m3 ?_
        exact gw_iret C I hr dX8_type_31 hf
    · have hf := giff hq hf
      refine lv_bipush (v := (-2)) hx hb dX8_type_11 kc_b_m2 ?_
      exact gw_iret C I hr dX8_type_13 hf
end S_X8_type
theorem m_X8_type (G : gX) (l : Launch) (a0 : Option Nat) (a1 : Int64) (a3 : Int32) : gMet G l yX8_type cX8_type 5 (some .int) 3 83 [va_rf a0, .long a1, .int a3] gri (f_X8_type a0 a1 a3) := by
  refine gMet_of (by decide) ?_
  intro σ y p e s m below meth c mc ms hf C hr hnm I
  obtain ⟨ls, e1, hl⟩ := gentry m [va_rf a0, .long a1, .int a3] 5 [(0, va_rf a0), (1, .long a1), (3, .int a3)] (by simp [lg_sl, grc, gcat_i, gcat_l]) (by simp [lv_args, grc, gcat_i, gcat_l])
  rw [e1]
  exact w_X8_type_0 C hr a0 a1 a3 _ _ _ _ _ _ hf I hl
def f_X5_cutTo  (a0 : Option Nat) (a1 : Int32) : gM Unit := if a1 < 0 then (gp ()) else (gb (rI 4 1 a0) fun v1 => if v1 ≤ a1 then (gp ()) else (gb (wI 4 1 a0 a1) fun _ => gp ()))
section S_X5_cutTo
variable {G : gX} {p : Program} {l : Launch} {e : Env} {s : State} {m : MethodId} {args : Array Value} {below : List Frame} {meth : Method} {c : Code} {mc ms : Nat} {y : Unit × gS}
set_option maxHeartbeats 4000000 in
set_option maxRecDepth 100000 in
theorem w_X5_cutTo_0 (C : gC G p s m args meth c cX5_cutTo 2 RX5) (hr : meth.sig.returnType = none)  (a0 : Option Nat) (a1 : Int32) : gJ G p l e 0 0 mc ms s m args below meth c grv y 2 0 [(0, va_rf a0), (1, .int a1)] [] (f_X5_cutTo  a0 a1) := by
  have hx := C.1
  have hb := C.2.1
  intro σ H locs cells slots ls hf I hl
  unfold f_X5_cutTo at hf
  refine lv_iload_n hx hb dX5_cutTo_0 rfl (lv_at hl 1 rfl) ?_
  refine lv_if_lt (tgt := 17) hx hb dX5_cutTo_1 (by decide) (fun hq => ?_) (fun hq => ?_)
  · have hf := gift hq hf
    exact gw_vret C I hr dX5_cutTo_17 hf
  · have hf := giff hq hf
    refine lv_iload_n hx hb dX5_cutTo_4 rfl (lv_at hl 1 rfl) ?_
    refine gw_aload_n hx hb dX5_cutTo_5 rfl (lv_at hl 0 rfl) ?_
    refine gw_geti (k := 1) C I gcls_4 (by decide) rfl kw_5 dX5_cutTo_6 hf (fun v1 hf => ?_)
    refine lv_icmp_ge (tgt := 17) hx hb dX5_cutTo_9 (by decide) (fun hq => ?_) (fun hq => ?_)
    · have hf := gift hq hf
      exact gw_vret C I hr dX5_cutTo_17 hf
    · have hf := giff hq hf
      refine gw_aload_n hx hb dX5_cutTo_12 rfl (lv_at hl 0 rfl) ?_
      refine lv_iload_n hx hb dX5_cutTo_13 rfl (lv_at hl 1 rfl) ?_
      refine gw_puti (k := 1) C I gcls_4 (by decide) rfl kw_5 (Or.inl rfl) (by decide +kernel) dX5_cutTo_14 hf (fun σ H locs I hf => ?_)
      exact gw_vret C I hr dX5_cutTo_17 hf
end S_X5_cutTo
theorem m_X5_cutTo (G : gX) (l : Launch) (a0 : Option Nat) (a1 : Int32) : gMet G l yX5_cutTo cX5_cutTo 2 none 0 0 [va_rf a0, .int a1] grv (f_X5_cutTo a0 a1) := by
  refine gMet_of (by decide) ?_
  intro σ y p e s m below meth c mc ms hf C hr hnm I
  obtain ⟨ls, e1, hl⟩ := gentry m [va_rf a0, .int a1] 2 [(0, va_rf a0), (1, .int a1)] (by simp [lg_sl, grc, gcat_i, gcat_l]) (by simp [lv_args, grc, gcat_i, gcat_l])
  rw [e1]
  exact w_X5_cutTo_0 C hr a0 a1 _ _ _ _ _ _ hf I hl
def f_X8_erase  (a0 : Option Nat) : gM Int32 := gb (rR 7 0 a0) fun v1 => gb (rI 4 1 v1) fun v2 => gb (rR 7 0 a0) fun v3 => gb (nn 4 v3) fun _ => gb (f_X5_cutTo v3 0) fun _ => gp v2
section S_X8_erase
variable {G : gX} {p : Program} {l : Launch} {e : Env} {s : State} {m : MethodId} {args : Array Value} {below : List Frame} {meth : Method} {c : Code} {mc ms : Nat} {y : Int32 × gS}
set_option maxHeartbeats 4000000 in
set_option maxRecDepth 100000 in
theorem w_X8_erase_0 (C : gC G p s m args meth c cX8_erase 2 RX8) (hr : meth.sig.returnType = (some .int))  (a0 : Option Nat) : gJ G p l e 1 21 mc ms s m args below meth c gri y 2 0 [(0, va_rf a0)] [] (f_X8_erase  a0) := by
  have hx := C.1
  have hb := C.2.1
  intro σ H locs cells slots ls hf I hl
  unfold f_X8_erase at hf
  refine gw_aload_n hx hb dX8_erase_0 rfl (lv_at hl 0 rfl) ?_
  refine gw_getr (k := 0) C I gcls_7 (by decide) rfl kw_65 dX8_erase_1 hf (fun v1 hf => ?_)
  refine gw_geti (k := 1) C I gcls_4 (by decide) rfl kw_99 dX8_erase_4 hf (fun v2 hf => ?_)
  refine lv_istore_n (lv' := [(1, .int v2), (0, va_rf a0)]) hx hb dX8_erase_7 rfl hl (by decide) (by cases a0 <;> rfl) (fun ls hl => ?_)
  refine gw_aload_n hx hb dX8_erase_8 rfl (lv_at hl 1 rfl) ?_
  refine gw_getr (k := 0) C I gcls_7 (by decide) rfl kw_65 dX8_erase_9 hf (fun v3 hf => ?_)
  refine lv_iconst (v := 0) hx hb dX8_erase_12 kc_i_0 ?_
  refine gw_callV (rest := []) C I hl.1 gcls_4 (m_X5_cutTo G l v3 0) gl_RX8_66 gn_X5_cutTo ⟨Nat.le_of_ble_eq_true rfl, Nat.le_of_ble_eq_true rfl⟩ rfl (gc4 (Nat.le_of_ble_eq_true rfl)) rfl dX8_erase_13 hf (fun _ σ H locs cells slots I hf => ?_)
  refine W.eq (g2 := F0 m 16 ls []) rfl ?_
  refine lv_iload_n hx hb dX8_erase_16 rfl (lv_at hl 0 rfl) ?_
  exact gw_iret C I hr dX8_erase_17 hf
end S_X8_erase
theorem m_X8_erase (G : gX) (l : Launch) (a0 : Option Nat) : gMet G l yX8_erase cX8_erase 2 (some .int) 1 21 [va_rf a0] gri (f_X8_erase a0) := by
  refine gMet_of (by decide) ?_
  intro σ y p e s m below meth c mc ms hf C hr hnm I
  obtain ⟨ls, e1, hl⟩ := gentry m [va_rf a0] 2 [(0, va_rf a0)] (by simp [lg_sl, grc, gcat_i, gcat_l]) (by simp [lv_args, grc, gcat_i, gcat_l])
  rw [e1]
  exact w_X8_erase_0 C hr a0 _ _ _ _ _ _ hf I hl
def f_X8_recordAt_9   : gM (Option Nat) := gp none
def f_X8_recordAt  (a0 : Option Nat) (a1 : Int32) : gM (Option Nat) := if a1 < 0 then (f_X8_recordAt_9  ) else (if a1 < 4 then (gb (rR 7 2 a0) fun v1 => gb (aR 6 v1 a1) fun v2 => gp v2) else (f_X8_recordAt_9  ))
section S_X8_recordAt
variable {G : gX} {p : Program} {l : Launch} {e : Env} {s : State} {m : MethodId} {args : Array Value} {below : List Frame} {meth : Method} {c : Code} {mc ms : Nat} {y : (Option Nat) × gS}
set_option maxHeartbeats 4000000 in
set_option maxRecDepth 100000 in
theorem w_X8_recordAt_9 (C : gC G p s m args meth c cX8_recordAt 2 RX8) (hr : meth.sig.returnType = (some (.object "UrlGate$Url")))   : gJ G p l e 0 0 mc ms s m args below meth c grq y 2 9 [] [] (f_X8_recordAt_9  ) := by
  have hx := C.1
  have hb := C.2.1
  intro σ H locs cells slots ls hf I hl
  unfold f_X8_recordAt_9 at hf
  refine gw_null hx hb dX8_recordAt_9 ?_
  refine lv_goto (tgt := 19) hx hb dX8_recordAt_10 (by decide) ?_
  exact gw_aret C I hr (Or.inl ⟨_, rfl⟩) dX8_recordAt_19 hf
set_option maxHeartbeats 4000000 in
set_option maxRecDepth 100000 in
theorem w_X8_recordAt_0 (C : gC G p s m args meth c cX8_recordAt 2 RX8) (hr : meth.sig.returnType = (some (.object "UrlGate$Url")))  (a0 : Option Nat) (a1 : Int32) : gJ G p l e 0 0 mc ms s m args below meth c grq y 2 0 [(0, va_rf a0), (1, .int a1)] [] (f_X8_recordAt  a0 a1) := by
  have hx := C.1
  have hb := C.2.1
  intro σ H locs cells slots ls hf I hl
  unfold f_X8_recordAt at hf
  refine lv_iload_n hx hb dX8_recordAt_0 rfl (lv_at hl 1 rfl) ?_
  refine lv_if_lt (tgt := 9) hx hb dX8_recordAt_1 (by decide) (fun hq => ?_) (fun hq => ?_)
  · have hf := gift hq hf
    exact w_X8_recordAt_9 C hr   _ _ _ _ _ _ hf I (lv_sub hl [] rfl)
  · have hf := giff hq hf
    refine lv_iload_n hx hb dX8_recordAt_4 rfl (lv_at hl 1 rfl) ?_
    refine lv_iconst (v := 4) hx hb dX8_recordAt_5 kc_i_4 ?_
    refine lv_icmp_lt (tgt := 13) hx hb dX8_recordAt_6 (by decide) (fun hq => ?_) (fun hq => ?_)
    · have hf := gift hq hf
      refine gw_aload_n hx hb dX8_recordAt_13 rfl (lv_at hl 0 rfl) ?_
      refine gw_getr (k := 2) C I gcls_7 (by decide) rfl kw_68 dX8_recordAt_14 hf (fun v1 hf => ?_)
      refine lv_iload_n hx hb dX8_recordAt_17 rfl (lv_at hl 1 rfl) ?_
      refine gw_aald (t := 6) C I (by decide) rfl dX8_recordAt_18 hf (fun v2 hf => ?_)
      exact gw_aret C I hr (Or.inl ⟨_, rfl⟩) dX8_recordAt_19 hf
    · have hf := giff hq hf
      exact w_X8_recordAt_9 C hr   _ _ _ _ _ _ hf I (lv_sub hl [] rfl)
end S_X8_recordAt
theorem m_X8_recordAt (G : gX) (l : Launch) (a0 : Option Nat) (a1 : Int32) : gMet G l yX8_recordAt cX8_recordAt 2 (some (.object "UrlGate$Url")) 0 0 [va_rf a0, .int a1] grq (f_X8_recordAt a0 a1) := by
  refine gMet_of (by decide) ?_
  intro σ y p e s m below meth c mc ms hf C hr hnm I
  obtain ⟨ls, e1, hl⟩ := gentry m [va_rf a0, .int a1] 2 [(0, va_rf a0), (1, .int a1)] (by simp [lg_sl, grc, gcat_i, gcat_l]) (by simp [lv_args, grc, gcat_i, gcat_l])
  rw [e1]
  exact w_X8_recordAt_0 C hr a0 a1 _ _ _ _ _ _ hf I hl
def f_X5_byteAt  (a0 : Option Nat) (a1 : Int32) : gM Int32 := if a1 < 0 then (gp (-1)) else (gb (rI 4 1 a0) fun v1 => if v1 ≤ a1 then (gp (-1)) else (gb (rR 4 0 a0) fun v2 => gb (aL 1 v2) fun v3 => if a1 < v3 then (gb (rR 4 0 a0) fun v4 => gb (aI 1 v4 a1) fun v5 => gp v5) else (gp (-1))))
section S_X5_byteAt
variable {G : gX} {p : Program} {l : Launch} {e : Env} {s : State} {m : MethodId} {args : Array Value} {below : List Frame} {meth : Method} {c : Code} {mc ms : Nat} {y : Int32 × gS}
set_option maxHeartbeats 4000000 in
set_option maxRecDepth 100000 in
theorem w_X5_byteAt_0 (C : gC G p s m args meth c cX5_byteAt 2 RX5) (hr : meth.sig.returnType = (some .int))  (a0 : Option Nat) (a1 : Int32) : gJ G p l e 0 0 mc ms s m args below meth c gri y 2 0 [(0, va_rf a0), (1, .int a1)] [] (f_X5_byteAt  a0 a1) := by
  have hx := C.1
  have hb := C.2.1
  intro σ H locs cells slots ls hf I hl
  unfold f_X5_byteAt at hf
  refine lv_iload_n hx hb dX5_byteAt_0 rfl (lv_at hl 1 rfl) ?_
  refine lv_if_lt (tgt := 21) hx hb dX5_byteAt_1 (by decide) (fun hq => ?_) (fun hq => ?_)
  · have hf := gift hq hf
    refine lv_iconst (v := (-1)) hx hb dX5_byteAt_21 kc_i_m1 ?_
    refine lv_goto (tgt := 31) hx hb dX5_byteAt_22 (by decide) ?_
    exact gw_iret C I hr dX5_byteAt_31 hf
  · have hf := giff hq hf
    refine lv_iload_n hx hb dX5_byteAt_4 rfl (lv_at hl 1 rfl) ?_
    refine gw_aload_n hx hb dX5_byteAt_5 rfl (lv_at hl 0 rfl) ?_
    refine gw_geti (k := 1) C I gcls_4 (by decide) rfl kw_5 dX5_byteAt_6 hf (fun v1 hf => ?_)
    refine lv_icmp_ge (tgt := 21) hx hb dX5_byteAt_9 (by decide) (fun hq => ?_) (fun hq => ?_)
    · have hf := gift hq hf
      refine lv_iconst (v := (-1)) hx hb dX5_byteAt_21 kc_i_m1 ?_
      refine lv_goto (tgt := 31) hx hb dX5_byteAt_22 (by decide) ?_
      exact gw_iret C I hr dX5_byteAt_31 hf
    · have hf := giff hq hf
      refine lv_iload_n hx hb dX5_byteAt_12 rfl (lv_at hl 1 rfl) ?_
      refine gw_aload_n hx hb dX5_byteAt_13 rfl (lv_at hl 0 rfl) ?_
      refine gw_getr (k := 0) C I gcls_4 (by decide) rfl kw_4 dX5_byteAt_14 hf (fun v2 hf => ?_)
      refine gw_aL (t := 1) C I rfl dX5_byteAt_17 hf (fun v3 hf => ?_)
      refine lv_icmp_lt (tgt := 25) hx hb dX5_byteAt_18 (by decide) (fun hq => ?_) (fun hq => ?_)
      · have hf := gift hq hf
        refine gw_aload_n hx hb dX5_byteAt_25 rfl (lv_at hl 0 rfl) ?_
        refine gw_getr (k := 0) C I gcls_4 (by decide) rfl kw_4 dX5_byteAt_26 hf (fun v4 hf => ?_)
        refine lv_iload_n hx hb dX5_byteAt_29 rfl (lv_at hl 1 rfl) ?_
        refine gw_iald C I dX5_byteAt_30 hf (fun v5 hf => ?_)
        exact gw_iret C I hr dX5_byteAt_31 hf
      · have hf := giff hq hf
        refine lv_iconst (v := (-1)) hx hb dX5_byteAt_21 kc_i_m1 ?_
        refine lv_goto (tgt := 31) hx hb dX5_byteAt_22 (by decide) ?_
        exact gw_iret C I hr dX5_byteAt_31 hf
end S_X5_byteAt
theorem m_X5_byteAt (G : gX) (l : Launch) (a0 : Option Nat) (a1 : Int32) : gMet G l yX5_byteAt cX5_byteAt 2 (some .int) 0 0 [va_rf a0, .int a1] gri (f_X5_byteAt a0 a1) := by
  refine gMet_of (by decide) ?_
  intro σ y p e s m below meth c mc ms hf C hr hnm I
  obtain ⟨ls, e1, hl⟩ := gentry m [va_rf a0, .int a1] 2 [(0, va_rf a0), (1, .int a1)] (by simp [lg_sl, grc, gcat_i, gcat_l]) (by simp [lv_args, grc, gcat_i, gcat_l])
  rw [e1]
  exact w_X5_byteAt_0 C hr a0 a1 _ _ _ _ _ _ hf I hl
def f_X7_tidy_62 (rec62 : Option Nat → Option Nat → Int32 → Int32 → gM Unit) (x0 : Option Nat) (x1 : Option Nat) (x3 : Int32) (x4 : Int32) : gM Unit := if x3 ≤ x4 then (gp ()) else (gb (nn 4 x1) fun _ => gb (f_X5_byteAt x1 x4) fun v1 => if v1 = 9 then (rec62 x0 x1 x3 (x4 + 1)) else (if v1 = 10 then (rec62 x0 x1 x3 (x4 + 1)) else (if v1 = 13 then (rec62 x0 x1 x3 (x4 + 1)) else (gb (rR 6 0 x0) fun v2 => gb (nn 4 v2) fun _ => gb (f_X5_add v2 v1) fun _ => rec62 x0 x1 x3 (x4 + 1)))))
def f_X7_tidy_L62  : Nat → Option Nat → Option Nat → Int32 → Int32 → gM Unit
  | 0, _, _, _, _ => gno
  | n + 1, x0, x1, x3, x4 => f_X7_tidy_62  (f_X7_tidy_L62  n) x0 x1 x3 x4
def f_X7_tidy_51  (x0 : Option Nat) (x1 : Option Nat) (x2 : Int32) (x3 : Int32) : gM Unit := gb (rR 6 0 x0) fun v1 => gb (nn 4 v1) fun _ => gb (f_X5_cutTo v1 0) fun _ => f_X7_tidy_L62  gF x0 x1 x3 x2
def f_X7_tidy_28 (rec28 : Option Nat → Option Nat → Int32 → Int32 → gM Unit) (x0 : Option Nat) (x1 : Option Nat) (x2 : Int32) (x3 : Int32) : gM Unit := if x3 ≤ x2 then (f_X7_tidy_51  x0 x1 x2 x3) else (gb (nn 4 x1) fun _ => gb (f_X5_byteAt x1 (x3 - 1)) fun v1 => if 32 < v1 then (f_X7_tidy_51  x0 x1 x2 x3) else (rec28 x0 x1 x2 (x3 + (-1))))
def f_X7_tidy_L28  : Nat → Option Nat → Option Nat → Int32 → Int32 → gM Unit
  | 0, _, _, _, _ => gno
  | n + 1, x0, x1, x2, x3 => f_X7_tidy_28  (f_X7_tidy_L28  n) x0 x1 x2 x3
def f_X7_tidy_7 (rec7 : Option Nat → Option Nat → Int32 → Int32 → gM Unit) (x0 : Option Nat) (x1 : Option Nat) (x2 : Int32) (x3 : Int32) : gM Unit := if x3 ≤ x2 then (f_X7_tidy_L28  gF x0 x1 x2 x3) else (gb (nn 4 x1) fun _ => gb (f_X5_byteAt x1 x2) fun v1 => if 32 < v1 then (f_X7_tidy_L28  gF x0 x1 x2 x3) else (rec7 x0 x1 (x2 + 1) x3))
def f_X7_tidy_L7  : Nat → Option Nat → Option Nat → Int32 → Int32 → gM Unit
  | 0, _, _, _, _ => gno
  | n + 1, x0, x1, x2, x3 => f_X7_tidy_7  (f_X7_tidy_L7  n) x0 x1 x2 x3
def f_X7_tidy  (a0 : Option Nat) (a1 : Option Nat) : gM Unit := gb (rI 4 1 a1) fun v1 => f_X7_tidy_L7  gF a0 a1 0 v1
section S_X7_tidy
variable {G : gX} {p : Program} {l : Launch} {e : Env} {s : State} {m : MethodId} {args : Array Value} {below : List Frame} {meth : Method} {c : Code} {mc ms : Nat} {y : Unit × gS}
set_option maxHeartbeats 4000000 in
set_option maxRecDepth 100000 in
theorem w_X7_tidy_62 (C : gC G p s m args meth c cX7_tidy 6 RX7) (hr : meth.sig.returnType = none) {rec62 : Option Nat → Option Nat → Int32 → Int32 → gM Unit} (hrec62 : ∀ (x0 : Option Nat) (x1 : Option Nat) (x3 : Int32) (x4 : Int32), gJ G p l e 3 83 mc ms s m args below meth c grv y 6 62 [(0, va_rf x0), (1, va_rf x1), (3, .int x3), (4, .int x4)] [] (rec62 x0 x1 x3 x4)) (x0 : Option Nat) (x1 : Option Nat) (x3 : Int32) (x4 : Int32) : gJ G p l e 3 83 mc ms s m args below meth c grv y 6 62 [(0, va_rf x0), (1, va_rf x1), (3, .int x3), (4, .int x4)] [] (f_X7_tidy_62 rec62 x0 x1 x3 x4) := by
  have hx := C.1
  have hb := C.2.1
  intro σ H locs cells slots ls hf I hl
  unfold f_X7_tidy_62 at hf
  refine lv_iload hx hb dX7_tidy_62 (lv_at hl 3 rfl) ?_
  refine lv_iload_n hx hb dX7_tidy_64 rfl (lv_at hl 2 rfl) ?_
  refine lv_icmp_ge (tgt := 112) hx hb dX7_tidy_65 (by decide) (fun hq => ?_) (fun hq => ?_)
  · have hf := gift hq hf
    exact gw_vret C I hr dX7_tidy_112 hf
  · have hf := giff hq hf
    refine gw_aload_n hx hb dX7_tidy_68 rfl (lv_at hl 1 rfl) ?_
    refine lv_iload hx hb dX7_tidy_69 (lv_at hl 3 rfl) ?_
    refine gw_callV (rest := []) C I hl.1 gcls_4 (m_X5_byteAt G l x1 x4) gl_RX7_61 gn_X5_byteAt ⟨Nat.le_of_ble_eq_true rfl, Nat.le_of_ble_eq_true rfl⟩ rfl (gc4 (Nat.le_of_ble_eq_true rfl)) rfl dX7_tidy_71 hf (fun v1 σ H locs cells slots I hf => ?_)
    refine W.eq (g2 := F0 m 74 ls [.int v1]) rfl ?_
    refine lv_istore (lv' := [(5, .int v1), (0, va_rf x0), (1, va_rf x1), (3, .int x3), (4, .int x4)]) hx hb dX7_tidy_74 hl (by decide) rfl (fun ls hl => ?_)
    refine lv_iload hx hb dX7_tidy_76 (lv_at hl 0 rfl) ?_
    refine lv_bipush (v := 9) hx hb dX7_tidy_78 kc_b_9 ?_
    refine lv_icmp_eq (tgt := 106) hx hb dX7_tidy_80 (by decide) (fun hq => ?_) (fun hq => ?_)
    · have hf := gift hq hf
      refine lv_iinc (v := x4 + 1) (lv' := [(4, .int (x4 + 1)), (5, .int v1), (0, va_rf x0), (1, va_rf x1), (3, .int x3)]) hx hb dX7_tidy_106 hl (k := 4) rfl rfl (by decide) rfl (fun ls hl => ?_)
      refine lv_goto (tgt := 62) hx hb dX7_tidy_109 (by decide) ?_
      exact hrec62 x0 x1 x3 (x4 + 1) _ _ _ _ _ _ hf I (lv_sub hl [2, 3, 4, 0] rfl)
    · have hf := giff hq hf
      refine lv_iload hx hb dX7_tidy_83 (lv_at hl 0 rfl) ?_
      refine lv_bipush (v := 10) hx hb dX7_tidy_85 kc_b_10 ?_
      refine lv_icmp_eq (tgt := 106) hx hb dX7_tidy_87 (by decide) (fun hq => ?_) (fun hq => ?_)
      · have hf := gift hq hf
        refine lv_iinc (v := x4 + 1) (lv' := [(4, .int (x4 + 1)), (5, .int v1), (0, va_rf x0), (1, va_rf x1), (3, .int x3)]) hx hb dX7_tidy_106 hl (k := 4) rfl rfl (by decide) rfl (fun ls hl => ?_)
        refine lv_goto (tgt := 62) hx hb dX7_tidy_109 (by decide) ?_
        exact hrec62 x0 x1 x3 (x4 + 1) _ _ _ _ _ _ hf I (lv_sub hl [2, 3, 4, 0] rfl)
      · have hf := giff hq hf
        refine lv_iload hx hb dX7_tidy_90 (lv_at hl 0 rfl) ?_
        refine lv_bipush (v := 13) hx hb dX7_tidy_92 kc_b_13 ?_
        refine lv_icmp_eq (tgt := 106) hx hb dX7_tidy_94 (by decide) (fun hq => ?_) (fun hq => ?_)
        · have hf := gift hq hf
          refine lv_iinc (v := x4 + 1) (lv' := [(4, .int (x4 + 1)), (5, .int v1), (0, va_rf x0), (1, va_rf x1), (3, .int x3)]) hx hb dX7_tidy_106 hl (k := 4) rfl rfl (by decide) rfl (fun ls hl => ?_)
          refine lv_goto (tgt := 62) hx hb dX7_tidy_109 (by decide) ?_
          exact hrec62 x0 x1 x3 (x4 + 1) _ _ _ _ _ _ hf I (lv_sub hl [2, 3, 4, 0] rfl)
        · have hf := giff hq hf
          refine gw_aload_n hx hb dX7_tidy_97 rfl (lv_at hl 1 rfl) ?_
          refine gw_getr (k := 0) C I gcls_6 (by decide) rfl kw_27 dX7_tidy_98 hf (fun v2 hf => ?_)
          refine lv_iload hx hb dX7_tidy_101 (lv_at hl 0 rfl) ?_
          refine gw_callV (rest := []) C I hl.1 gcls_4 (m_X5_add G l v2 v1) gl_RX7_88 gn_X5_add ⟨Nat.le_of_ble_eq_true rfl, Nat.le_of_ble_eq_true rfl⟩ rfl (gc4 (Nat.le_of_ble_eq_true rfl)) rfl dX7_tidy_103 hf (fun _ σ H locs cells slots I hf => ?_)
          refine W.eq (g2 := F0 m 106 ls []) rfl ?_
          refine lv_iinc (v := x4 + 1) (lv' := [(4, .int (x4 + 1)), (5, .int v1), (0, va_rf x0), (1, va_rf x1), (3, .int x3)]) hx hb dX7_tidy_106 hl (k := 4) rfl rfl (by decide) rfl (fun ls hl => ?_)
          refine lv_goto (tgt := 62) hx hb dX7_tidy_109 (by decide) ?_
          exact hrec62 x0 x1 x3 (x4 + 1) _ _ _ _ _ _ hf I (lv_sub hl [2, 3, 4, 0] rfl)
theorem w_X7_tidy_L62 (C : gC G p s m args meth c cX7_tidy 6 RX7) (hr : meth.sig.returnType = none)  : ∀ (n : Nat) (x0 : Option Nat) (x1 : Option Nat) (x3 : Int32) (x4 : Int32), gJ G p l e 3 83 mc ms s m args below meth c grv y 6 62 [(0, va_rf x0), (1, va_rf x1), (3, .int x3), (4, .int x4)] [] (f_X7_tidy_L62  n x0 x1 x3 x4) := by
  intro n
  induction n with
  | zero => intro x0 x1 x3 x4 σ H locs cells slots ls hf; exact (gno_some hf).elim
  | succ n ih => intro x0 x1 x3 x4; exact w_X7_tidy_62 C hr  ih x0 x1 x3 x4
set_option maxHeartbeats 4000000 in
set_option maxRecDepth 100000 in
theorem w_X7_tidy_51 (C : gC G p s m args meth c cX7_tidy 6 RX7) (hr : meth.sig.returnType = none)  (x0 : Option Nat) (x1 : Option Nat) (x2 : Int32) (x3 : Int32) : gJ G p l e 3 83 mc ms s m args below meth c grv y 6 51 [(0, va_rf x0), (1, va_rf x1), (2, .int x2), (3, .int x3)] [] (f_X7_tidy_51  x0 x1 x2 x3) := by
  have hx := C.1
  have hb := C.2.1
  intro σ H locs cells slots ls hf I hl
  unfold f_X7_tidy_51 at hf
  refine gw_aload_n hx hb dX7_tidy_51 rfl (lv_at hl 0 rfl) ?_
  refine gw_getr (k := 0) C I gcls_6 (by decide) rfl kw_27 dX7_tidy_52 hf (fun v1 hf => ?_)
  refine lv_iconst (v := 0) hx hb dX7_tidy_55 kc_i_0 ?_
  refine gw_callV (rest := []) C I hl.1 gcls_4 (m_X5_cutTo G l v1 0) gl_RX7_84 gn_X5_cutTo ⟨Nat.le_of_ble_eq_true rfl, Nat.le_of_ble_eq_true rfl⟩ rfl (gc4 (Nat.le_of_ble_eq_true rfl)) rfl dX7_tidy_56 hf (fun _ σ H locs cells slots I hf => ?_)
  refine W.eq (g2 := F0 m 59 ls []) rfl ?_
  refine lv_iload_n hx hb dX7_tidy_59 rfl (lv_at hl 2 rfl) ?_
  refine lv_istore (lv' := [(4, .int x2), (0, va_rf x0), (1, va_rf x1), (2, .int x2), (3, .int x3)]) hx hb dX7_tidy_60 hl (by decide) rfl (fun ls hl => ?_)
  exact w_X7_tidy_L62 C hr  _ x0 x1 x3 x2 _ _ _ _ _ _ hf I (lv_sub hl [1, 2, 4, 0] rfl)
set_option maxHeartbeats 4000000 in
set_option maxRecDepth 100000 in
theorem w_X7_tidy_28 (C : gC G p s m args meth c cX7_tidy 6 RX7) (hr : meth.sig.returnType = none) {rec28 : Option Nat → Option Nat → Int32 → Int32 → gM Unit} (hrec28 : ∀ (x0 : Option Nat) (x1 : Option Nat) (x2 : Int32) (x3 : Int32), gJ G p l e 3 83 mc ms s m args below meth c grv y 6 28 [(0, va_rf x0), (1, va_rf x1), (2, .int x2), (3, .int x3)] [] (rec28 x0 x1 x2 x3)) (x0 : Option Nat) (x1 : Option Nat) (x2 : Int32) (x3 : Int32) : gJ G p l e 3 83 mc ms s m args below meth c grv y 6 28 [(0, va_rf x0), (1, va_rf x1), (2, .int x2), (3, .int x3)] [] (f_X7_tidy_28 rec28 x0 x1 x2 x3) := by
  have hx := C.1
  have hb := C.2.1
  intro σ H locs cells slots ls hf I hl
  unfold f_X7_tidy_28 at hf
  refine lv_iload_n hx hb dX7_tidy_28 rfl (lv_at hl 3 rfl) ?_
  refine lv_iload_n hx hb dX7_tidy_29 rfl (lv_at hl 2 rfl) ?_
  refine lv_icmp_le (tgt := 51) hx hb dX7_tidy_30 (by decide) (fun hq => ?_) (fun hq => ?_)
  · have hf := gift hq hf
    exact w_X7_tidy_51 C hr  x0 x1 x2 x3 _ _ _ _ _ _ hf I (lv_sub hl [0, 1, 2, 3] rfl)
  · have hf := giff hq hf
    refine gw_aload_n hx hb dX7_tidy_33 rfl (lv_at hl 1 rfl) ?_
    refine lv_iload_n hx hb dX7_tidy_34 rfl (lv_at hl 3 rfl) ?_
    refine lv_iconst (v := 1) hx hb dX7_tidy_35 kc_i_1 ?_
    refine lv_isub hx hb dX7_tidy_36 ?_
    refine gw_callV (rest := []) C I hl.1 gcls_4 (m_X5_byteAt G l x1 (x3 - 1)) gl_RX7_61 gn_X5_byteAt ⟨Nat.le_of_ble_eq_true rfl, Nat.le_of_ble_eq_true rfl⟩ rfl (gc4 (Nat.le_of_ble_eq_true rfl)) rfl dX7_tidy_37 hf (fun v1 σ H locs cells slots I hf => ?_)
    refine W.eq (g2 := F0 m 40 ls [.int v1]) rfl ?_
    refine lv_bipush (v := 32) hx hb dX7_tidy_40 kc_b_32 ?_
    refine lv_icmp_gt (tgt := 51) hx hb dX7_tidy_42 (by decide) (fun hq => ?_) (fun hq => ?_)
    · have hf := gift hq hf
      exact w_X7_tidy_51 C hr  x0 x1 x2 x3 _ _ _ _ _ _ hf I (lv_sub hl [0, 1, 2, 3] rfl)
    · have hf := giff hq hf
      refine lv_iinc (v := x3 + (-1)) (lv' := [(3, .int (x3 + (-1))), (0, va_rf x0), (1, va_rf x1), (2, .int x2)]) hx hb dX7_tidy_45 hl (k := 3) rfl rfl (by decide) rfl (fun ls hl => ?_)
      refine lv_goto (tgt := 28) hx hb dX7_tidy_48 (by decide) ?_
      exact hrec28 x0 x1 x2 (x3 + (-1)) _ _ _ _ _ _ hf I (lv_sub hl [1, 2, 3, 0] rfl)
theorem w_X7_tidy_L28 (C : gC G p s m args meth c cX7_tidy 6 RX7) (hr : meth.sig.returnType = none)  : ∀ (n : Nat) (x0 : Option Nat) (x1 : Option Nat) (x2 : Int32) (x3 : Int32), gJ G p l e 3 83 mc ms s m args below meth c grv y 6 28 [(0, va_rf x0), (1, va_rf x1), (2, .int x2), (3, .int x3)] [] (f_X7_tidy_L28  n x0 x1 x2 x3) := by
  intro n
  induction n with
  | zero => intro x0 x1 x2 x3 σ H locs cells slots ls hf; exact (gno_some hf).elim
  | succ n ih => intro x0 x1 x2 x3; exact w_X7_tidy_28 C hr  ih x0 x1 x2 x3
set_option maxHeartbeats 4000000 in
set_option maxRecDepth 100000 in
theorem w_X7_tidy_7 (C : gC G p s m args meth c cX7_tidy 6 RX7) (hr : meth.sig.returnType = none) {rec7 : Option Nat → Option Nat → Int32 → Int32 → gM Unit} (hrec7 : ∀ (x0 : Option Nat) (x1 : Option Nat) (x2 : Int32) (x3 : Int32), gJ G p l e 3 83 mc ms s m args below meth c grv y 6 7 [(0, va_rf x0), (1, va_rf x1), (2, .int x2), (3, .int x3)] [] (rec7 x0 x1 x2 x3)) (x0 : Option Nat) (x1 : Option Nat) (x2 : Int32) (x3 : Int32) : gJ G p l e 3 83 mc ms s m args below meth c grv y 6 7 [(0, va_rf x0), (1, va_rf x1), (2, .int x2), (3, .int x3)] [] (f_X7_tidy_7 rec7 x0 x1 x2 x3) := by
  have hx := C.1
  have hb := C.2.1
  intro σ H locs cells slots ls hf I hl
  unfold f_X7_tidy_7 at hf
  refine lv_iload_n hx hb dX7_tidy_7 rfl (lv_at hl 2 rfl) ?_
  refine lv_iload_n hx hb dX7_tidy_8 rfl (lv_at hl 3 rfl) ?_
  refine lv_icmp_ge (tgt := 28) hx hb dX7_tidy_9 (by decide) (fun hq => ?_) (fun hq => ?_)
  · have hf := gift hq hf
    exact w_X7_tidy_L28 C hr  _ x0 x1 x2 x3 _ _ _ _ _ _ hf I (lv_sub hl [0, 1, 2, 3] rfl)
  · have hf := giff hq hf
    refine gw_aload_n hx hb dX7_tidy_12 rfl (lv_at hl 1 rfl) ?_
    refine lv_iload_n hx hb dX7_tidy_13 rfl (lv_at hl 2 rfl) ?_
    refine gw_callV (rest := []) C I hl.1 gcls_4 (m_X5_byteAt G l x1 x2) gl_RX7_61 gn_X5_byteAt ⟨Nat.le_of_ble_eq_true rfl, Nat.le_of_ble_eq_true rfl⟩ rfl (gc4 (Nat.le_of_ble_eq_true rfl)) rfl dX7_tidy_14 hf (fun v1 σ H locs cells slots I hf => ?_)
    refine W.eq (g2 := F0 m 17 ls [.int v1]) rfl ?_
    refine lv_bipush (v := 32) hx hb dX7_tidy_17 kc_b_32 ?_
    refine lv_icmp_gt (tgt := 28) hx hb dX7_tidy_19 (by decide) (fun hq => ?_) (fun hq => ?_)
    · have hf := gift hq hf
      exact w_X7_tidy_L28 C hr  _ x0 x1 x2 x3 _ _ _ _ _ _ hf I (lv_sub hl [0, 1, 2, 3] rfl)
    · have hf := giff hq hf
      refine lv_iinc (v := x2 + 1) (lv' := [(2, .int (x2 + 1)), (0, va_rf x0), (1, va_rf x1), (3, .int x3)]) hx hb dX7_tidy_22 hl (k := 2) rfl rfl (by decide) (by cases x1 <;> rfl) (fun ls hl => ?_)
      refine lv_goto (tgt := 7) hx hb dX7_tidy_25 (by decide) ?_
      exact hrec7 x0 x1 (x2 + 1) x3 _ _ _ _ _ _ hf I (lv_sub hl [1, 2, 0, 3] rfl)
theorem w_X7_tidy_L7 (C : gC G p s m args meth c cX7_tidy 6 RX7) (hr : meth.sig.returnType = none)  : ∀ (n : Nat) (x0 : Option Nat) (x1 : Option Nat) (x2 : Int32) (x3 : Int32), gJ G p l e 3 83 mc ms s m args below meth c grv y 6 7 [(0, va_rf x0), (1, va_rf x1), (2, .int x2), (3, .int x3)] [] (f_X7_tidy_L7  n x0 x1 x2 x3) := by
  intro n
  induction n with
  | zero => intro x0 x1 x2 x3 σ H locs cells slots ls hf; exact (gno_some hf).elim
  | succ n ih => intro x0 x1 x2 x3; exact w_X7_tidy_7 C hr  ih x0 x1 x2 x3
set_option maxHeartbeats 4000000 in
set_option maxRecDepth 100000 in
theorem w_X7_tidy_0 (C : gC G p s m args meth c cX7_tidy 6 RX7) (hr : meth.sig.returnType = none)  (a0 : Option Nat) (a1 : Option Nat) : gJ G p l e 3 83 mc ms s m args below meth c grv y 6 0 [(0, va_rf a0), (1, va_rf a1)] [] (f_X7_tidy  a0 a1) := by
  have hx := C.1
  have hb := C.2.1
  intro σ H locs cells slots ls hf I hl
  unfold f_X7_tidy at hf
  refine lv_iconst (v := 0) hx hb dX7_tidy_0 kc_i_0 ?_
  refine lv_istore_n (lv' := [(2, .int 0), (0, va_rf a0), (1, va_rf a1)]) hx hb dX7_tidy_1 rfl hl (by decide) (by cases a1 <;> rfl) (fun ls hl => ?_)
  refine gw_aload_n hx hb dX7_tidy_2 rfl (lv_at hl 2 rfl) ?_
  refine gw_geti (k := 1) C I gcls_4 (by decide) rfl kw_100 dX7_tidy_3 hf (fun v1 hf => ?_)
  refine lv_istore_n (lv' := [(3, .int v1), (2, .int 0), (0, va_rf a0), (1, va_rf a1)]) hx hb dX7_tidy_6 rfl hl (by decide) rfl (fun ls hl => ?_)
  exact w_X7_tidy_L7 C hr  _ a0 a1 0 v1 _ _ _ _ _ _ hf I (lv_sub hl [2, 3, 1, 0] rfl)
end S_X7_tidy
theorem m_X7_tidy (G : gX) (l : Launch) (a0 : Option Nat) (a1 : Option Nat) : gMet G l yX7_tidy cX7_tidy 6 none 3 83 [va_rf a0, va_rf a1] grv (f_X7_tidy a0 a1) := by
  refine gMet_of (by decide) ?_
  intro σ y p e s m below meth c mc ms hf C hr hnm I
  obtain ⟨ls, e1, hl⟩ := gentry m [va_rf a0, va_rf a1] 6 [(0, va_rf a0), (1, va_rf a1)] (by simp [lg_sl, grc, gcat_i, gcat_l]) (by simp [lv_args, grc, gcat_i, gcat_l])
  rw [e1]
  exact w_X7_tidy_0 C hr a0 a1 _ _ _ _ _ _ hf I hl
def f_X6_empty  (a0 : Option Nat) : gM Unit := gb (rR 5 2 a0) fun v1 => gb (nn 4 v1) fun _ => gb (f_X5_cutTo v1 0) fun _ => gb (rR 5 3 a0) fun v2 => gb (nn 4 v2) fun _ => gb (f_X5_cutTo v2 0) fun _ => gb (wI 5 5 a0 (-1)) fun _ => gb (rR 5 6 a0) fun v3 => gb (nn 4 v3) fun _ => gb (f_X5_cutTo v3 0) fun _ => gb (wI 5 7 a0 0) fun _ => gb (rR 5 8 a0) fun v4 => gb (nn 4 v4) fun _ => gb (f_X5_cutTo v4 0) fun _ => gb (wZ 5 9 a0 0) fun _ => gb (rR 5 10 a0) fun v5 => gb (nn 4 v5) fun _ => gb (f_X5_cutTo v5 0) fun _ => gb (wZ 5 11 a0 0) fun _ => gp ()
section S_X6_empty
variable {G : gX} {p : Program} {l : Launch} {e : Env} {s : State} {m : MethodId} {args : Array Value} {below : List Frame} {meth : Method} {c : Code} {mc ms : Nat} {y : Unit × gS}
set_option maxHeartbeats 4000000 in
set_option maxRecDepth 100000 in
theorem w_X6_empty_0 (C : gC G p s m args meth c cX6_empty 1 RX6) (hr : meth.sig.returnType = none)  (a0 : Option Nat) : gJ G p l e 1 21 mc ms s m args below meth c grv y 1 0 [(0, va_rf a0)] [] (f_X6_empty  a0) := by
  have hx := C.1
  have hb := C.2.1
  intro σ H locs cells slots ls hf I hl
  unfold f_X6_empty at hf
  refine gw_aload_n hx hb dX6_empty_0 rfl (lv_at hl 0 rfl) ?_
  refine gw_getr (k := 2) C I gcls_5 (by decide) rfl kw_49 dX6_empty_1 hf (fun v1 hf => ?_)
  refine lv_iconst (v := 0) hx hb dX6_empty_4 kc_i_0 ?_
  refine gw_callV (rest := []) C I hl.1 gcls_4 (m_X5_cutTo G l v1 0) gl_RX6_67 gn_X5_cutTo ⟨Nat.le_of_ble_eq_true rfl, Nat.le_of_ble_eq_true rfl⟩ rfl (gc4 (Nat.le_of_ble_eq_true rfl)) rfl dX6_empty_5 hf (fun _ σ H locs cells slots I hf => ?_)
  refine W.eq (g2 := F0 m 8 ls []) rfl ?_
  refine gw_aload_n hx hb dX6_empty_8 rfl (lv_at hl 0 rfl) ?_
  refine gw_getr (k := 3) C I gcls_5 (by decide) rfl kw_50 dX6_empty_9 hf (fun v2 hf => ?_)
  refine lv_iconst (v := 0) hx hb dX6_empty_12 kc_i_0 ?_
  refine gw_callV (rest := []) C I hl.1 gcls_4 (m_X5_cutTo G l v2 0) gl_RX6_67 gn_X5_cutTo ⟨Nat.le_of_ble_eq_true rfl, Nat.le_of_ble_eq_true rfl⟩ rfl (gc4 (Nat.le_of_ble_eq_true rfl)) rfl dX6_empty_13 hf (fun _ σ H locs cells slots I hf => ?_)
  refine W.eq (g2 := F0 m 16 ls []) rfl ?_
  refine gw_aload_n hx hb dX6_empty_16 rfl (lv_at hl 0 rfl) ?_
  refine lv_iconst (v := (-1)) hx hb dX6_empty_17 kc_i_m1 ?_
  refine gw_puti (k := 5) C I gcls_5 (by decide) rfl kw_56 (Or.inl rfl) (by decide +kernel) dX6_empty_18 hf (fun σ H locs I hf => ?_)
  refine gw_aload_n hx hb dX6_empty_21 rfl (lv_at hl 0 rfl) ?_
  refine gw_getr (k := 6) C I gcls_5 (by decide) rfl kw_57 dX6_empty_22 hf (fun v3 hf => ?_)
  refine lv_iconst (v := 0) hx hb dX6_empty_25 kc_i_0 ?_
  refine gw_callV (rest := []) C I hl.1 gcls_4 (m_X5_cutTo G l v3 0) gl_RX6_67 gn_X5_cutTo ⟨Nat.le_of_ble_eq_true rfl, Nat.le_of_ble_eq_true rfl⟩ rfl (gc4 (Nat.le_of_ble_eq_true rfl)) rfl dX6_empty_26 hf (fun _ σ H locs cells slots I hf => ?_)
  refine W.eq (g2 := F0 m 29 ls []) rfl ?_
  refine gw_aload_n hx hb dX6_empty_29 rfl (lv_at hl 0 rfl) ?_
  refine lv_iconst (v := 0) hx hb dX6_empty_30 kc_i_0 ?_
  refine gw_puti (k := 7) C I gcls_5 (by decide) rfl kw_58 (Or.inl rfl) (by decide +kernel) dX6_empty_31 hf (fun σ H locs I hf => ?_)
  refine gw_aload_n hx hb dX6_empty_34 rfl (lv_at hl 0 rfl) ?_
  refine gw_getr (k := 8) C I gcls_5 (by decide) rfl kw_59 dX6_empty_35 hf (fun v4 hf => ?_)
  refine lv_iconst (v := 0) hx hb dX6_empty_38 kc_i_0 ?_
  refine gw_callV (rest := []) C I hl.1 gcls_4 (m_X5_cutTo G l v4 0) gl_RX6_67 gn_X5_cutTo ⟨Nat.le_of_ble_eq_true rfl, Nat.le_of_ble_eq_true rfl⟩ rfl (gc4 (Nat.le_of_ble_eq_true rfl)) rfl dX6_empty_39 hf (fun _ σ H locs cells slots I hf => ?_)
  refine W.eq (g2 := F0 m 42 ls []) rfl ?_
  refine gw_aload_n hx hb dX6_empty_42 rfl (lv_at hl 0 rfl) ?_
  refine lv_iconst (v := 0) hx hb dX6_empty_43 kc_i_0 ?_
  refine gw_putz (k := 9) C I gcls_5 (by decide) rfl kw_60 (Or.inl rfl) (by decide +kernel) dX6_empty_44 hf (fun σ H locs I hf => ?_)
  refine gw_aload_n hx hb dX6_empty_47 rfl (lv_at hl 0 rfl) ?_
  refine gw_getr (k := 10) C I gcls_5 (by decide) rfl kw_61 dX6_empty_48 hf (fun v5 hf => ?_)
  refine lv_iconst (v := 0) hx hb dX6_empty_51 kc_i_0 ?_
  refine gw_callV (rest := []) C I hl.1 gcls_4 (m_X5_cutTo G l v5 0) gl_RX6_67 gn_X5_cutTo ⟨Nat.le_of_ble_eq_true rfl, Nat.le_of_ble_eq_true rfl⟩ rfl (gc4 (Nat.le_of_ble_eq_true rfl)) rfl dX6_empty_52 hf (fun _ σ H locs cells slots I hf => ?_)
  refine W.eq (g2 := F0 m 55 ls []) rfl ?_
  refine gw_aload_n hx hb dX6_empty_55 rfl (lv_at hl 0 rfl) ?_
  refine lv_iconst (v := 0) hx hb dX6_empty_56 kc_i_0 ?_
  refine gw_putz (k := 11) C I gcls_5 (by decide) rfl kw_62 (Or.inl rfl) (by decide +kernel) dX6_empty_57 hf (fun σ H locs I hf => ?_)
  exact gw_vret C I hr dX6_empty_60 hf
end S_X6_empty
theorem m_X6_empty (G : gX) (l : Launch) (a0 : Option Nat) : gMet G l yX6_empty cX6_empty 1 none 1 21 [va_rf a0] grv (f_X6_empty a0) := by
  refine gMet_of (by decide) ?_
  intro σ y p e s m below meth c mc ms hf C hr hnm I
  obtain ⟨ls, e1, hl⟩ := gentry m [va_rf a0] 1 [(0, va_rf a0)] (by simp [lg_sl, grc, gcat_i, gcat_l]) (by simp [lv_args, grc, gcat_i, gcat_l])
  rw [e1]
  exact w_X6_empty_0 C hr a0 _ _ _ _ _ _ hf I hl
def f_X1_isLetter_12  (x0 : Int32) : gM Int32 := if x0 < 65 then (gz 0) else (if 90 < x0 then (gz 0) else (gz 1))
def f_X1_isLetter  (a0 : Int32) : gM Int32 := if a0 < 97 then (f_X1_isLetter_12  a0) else (if a0 ≤ 122 then (gz 1) else (f_X1_isLetter_12  a0))
section S_X1_isLetter
variable {G : gX} {p : Program} {l : Launch} {e : Env} {s : State} {m : MethodId} {args : Array Value} {below : List Frame} {meth : Method} {c : Code} {mc ms : Nat} {y : Int32 × gS}
set_option maxHeartbeats 4000000 in
set_option maxRecDepth 100000 in
theorem w_X1_isLetter_12 (C : gC G p s m args meth c cX1_isLetter 1 RX1) (hr : meth.sig.returnType = (some .boolean))  (x0 : Int32) : gJ G p l e 0 0 mc ms s m args below meth c gri y 1 12 [(0, .int x0)] [] (f_X1_isLetter_12  x0) := by
  have hx := C.1
  have hb := C.2.1
  intro σ H locs cells slots ls hf I hl
  unfold f_X1_isLetter_12 at hf
  refine lv_iload_n hx hb dX1_isLetter_12 rfl (lv_at hl 0 rfl) ?_
  refine lv_bipush (v := 65) hx hb dX1_isLetter_13 kc_b_65 ?_
  refine lv_icmp_lt (tgt := 28) hx hb dX1_isLetter_15 (by decide) (fun hq => ?_) (fun hq => ?_)
  · have hf := gift hq hf
    refine lv_iconst (v := 0) hx hb dX1_isLetter_28 kc_i_0 ?_
    exact gw_zret C I hr dX1_isLetter_29 hf
  · have hf := giff hq hf
    refine lv_iload_n hx hb dX1_isLetter_18 rfl (lv_at hl 0 rfl) ?_
    refine lv_bipush (v := 90) hx hb dX1_isLetter_19 kc_b_90 ?_
    refine lv_icmp_gt (tgt := 28) hx hb dX1_isLetter_21 (by decide) (fun hq => ?_) (fun hq => ?_)
    · have hf := gift hq hf
      refine lv_iconst (v := 0) hx hb dX1_isLetter_28 kc_i_0 ?_
      exact gw_zret C I hr dX1_isLetter_29 hf
    · have hf := giff hq hf
      refine lv_iconst (v := 1) hx hb dX1_isLetter_24 kc_i_1 ?_
      refine lv_goto (tgt := 29) hx hb dX1_isLetter_25 (by decide) ?_
      exact gw_zret C I hr dX1_isLetter_29 hf
set_option maxHeartbeats 4000000 in
set_option maxRecDepth 100000 in
theorem w_X1_isLetter_0 (C : gC G p s m args meth c cX1_isLetter 1 RX1) (hr : meth.sig.returnType = (some .boolean))  (a0 : Int32) : gJ G p l e 0 0 mc ms s m args below meth c gri y 1 0 [(0, .int a0)] [] (f_X1_isLetter  a0) := by
  have hx := C.1
  have hb := C.2.1
  intro σ H locs cells slots ls hf I hl
  unfold f_X1_isLetter at hf
  refine lv_iload_n hx hb dX1_isLetter_0 rfl (lv_at hl 0 rfl) ?_
  refine lv_bipush (v := 97) hx hb dX1_isLetter_1 kc_b_97 ?_
  refine lv_icmp_lt (tgt := 12) hx hb dX1_isLetter_3 (by decide) (fun hq => ?_) (fun hq => ?_)
  · have hf := gift hq hf
    exact w_X1_isLetter_12 C hr  a0 _ _ _ _ _ _ hf I (lv_sub hl [0] rfl)
  · have hf := giff hq hf
    refine lv_iload_n hx hb dX1_isLetter_6 rfl (lv_at hl 0 rfl) ?_
    refine lv_bipush (v := 122) hx hb dX1_isLetter_7 kc_b_122 ?_
    refine lv_icmp_le (tgt := 24) hx hb dX1_isLetter_9 (by decide) (fun hq => ?_) (fun hq => ?_)
    · have hf := gift hq hf
      refine lv_iconst (v := 1) hx hb dX1_isLetter_24 kc_i_1 ?_
      refine lv_goto (tgt := 29) hx hb dX1_isLetter_25 (by decide) ?_
      exact gw_zret C I hr dX1_isLetter_29 hf
    · have hf := giff hq hf
      exact w_X1_isLetter_12 C hr  a0 _ _ _ _ _ _ hf I (lv_sub hl [0] rfl)
end S_X1_isLetter
theorem m_X1_isLetter (G : gX) (l : Launch) (a0 : Int32) : gMet G l yX1_isLetter cX1_isLetter 1 (some .boolean) 0 0 [.int a0] gri (f_X1_isLetter a0) := by
  refine gMet_of (by decide) ?_
  intro σ y p e s m below meth c mc ms hf C hr hnm I
  obtain ⟨ls, e1, hl⟩ := gentry m [.int a0] 1 [(0, .int a0)] (by simp [lg_sl, grc, gcat_i, gcat_l]) (by simp [lv_args, grc, gcat_i, gcat_l])
  rw [e1]
  exact w_X1_isLetter_0 C hr a0 _ _ _ _ _ _ hf I hl
def f_X1_isDigit  (a0 : Int32) : gM Int32 := if a0 < 48 then (gz 0) else (if 57 < a0 then (gz 0) else (gz 1))
section S_X1_isDigit
variable {G : gX} {p : Program} {l : Launch} {e : Env} {s : State} {m : MethodId} {args : Array Value} {below : List Frame} {meth : Method} {c : Code} {mc ms : Nat} {y : Int32 × gS}
set_option maxHeartbeats 4000000 in
set_option maxRecDepth 100000 in
theorem w_X1_isDigit_0 (C : gC G p s m args meth c cX1_isDigit 1 RX1) (hr : meth.sig.returnType = (some .boolean))  (a0 : Int32) : gJ G p l e 0 0 mc ms s m args below meth c gri y 1 0 [(0, .int a0)] [] (f_X1_isDigit  a0) := by
  have hx := C.1
  have hb := C.2.1
  intro σ H locs cells slots ls hf I hl
  unfold f_X1_isDigit at hf
  refine lv_iload_n hx hb dX1_isDigit_0 rfl (lv_at hl 0 rfl) ?_
  refine lv_bipush (v := 48) hx hb dX1_isDigit_1 kc_b_48 ?_
  refine lv_icmp_lt (tgt := 16) hx hb dX1_isDigit_3 (by decide) (fun hq => ?_) (fun hq => ?_)
  · have hf := gift hq hf
    refine lv_iconst (v := 0) hx hb dX1_isDigit_16 kc_i_0 ?_
    exact gw_zret C I hr dX1_isDigit_17 hf
  · have hf := giff hq hf
    refine lv_iload_n hx hb dX1_isDigit_6 rfl (lv_at hl 0 rfl) ?_
    refine lv_bipush (v := 57) hx hb dX1_isDigit_7 kc_b_57 ?_
    refine lv_icmp_gt (tgt := 16) hx hb dX1_isDigit_9 (by decide) (fun hq => ?_) (fun hq => ?_)
    · have hf := gift hq hf
      refine lv_iconst (v := 0) hx hb dX1_isDigit_16 kc_i_0 ?_
      exact gw_zret C I hr dX1_isDigit_17 hf
    · have hf := giff hq hf
      refine lv_iconst (v := 1) hx hb dX1_isDigit_12 kc_i_1 ?_
      refine lv_goto (tgt := 17) hx hb dX1_isDigit_13 (by decide) ?_
      exact gw_zret C I hr dX1_isDigit_17 hf
end S_X1_isDigit
theorem m_X1_isDigit (G : gX) (l : Launch) (a0 : Int32) : gMet G l yX1_isDigit cX1_isDigit 1 (some .boolean) 0 0 [.int a0] gri (f_X1_isDigit a0) := by
  refine gMet_of (by decide) ?_
  intro σ y p e s m below meth c mc ms hf C hr hnm I
  obtain ⟨ls, e1, hl⟩ := gentry m [.int a0] 1 [(0, .int a0)] (by simp [lg_sl, grc, gcat_i, gcat_l]) (by simp [lv_args, grc, gcat_i, gcat_l])
  rw [e1]
  exact w_X1_isDigit_0 C hr a0 _ _ _ _ _ _ hf I hl
