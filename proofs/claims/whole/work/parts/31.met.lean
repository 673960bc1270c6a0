theorem dX9_readPort_0 : decode cX9_readPort 0 = .ok (.iconst 0, 1) := by decide +kernel
theorem dX9_readPort_1 : decode cX9_readPort 1 = .ok (.istore_n 3, 1) := by decide +kernel
theorem dX9_readPort_2 : decode cX9_readPort 2 = .ok (.iload_n 1, 1) := by decide +kernel
theorem dX9_readPort_3 : decode cX9_readPort 3 = .ok (.istore 4, 2) := by decide +kernel
theorem dX9_readPort_5 : decode cX9_readPort 5 = .ok (.iload 4, 2) := by decide +kernel
theorem dX9_readPort_7 : decode cX9_readPort 7 = .ok (.iload_n 2, 1) := by decide +kernel
theorem dX9_readPort_8 : decode cX9_readPort 8 = .ok (.if_icmp .ge 48, 3) := by decide +kernel
theorem dX9_readPort_11 : decode cX9_readPort 11 = .ok (.aload_n 0, 1) := by decide +kernel
theorem dX9_readPort_12 : decode cX9_readPort 12 = .ok (.iload 4, 2) := by decide +kernel
theorem dX9_readPort_14 : decode cX9_readPort 14 = .ok (.invokevirtual 151, 3) := by decide +kernel
theorem dX9_readPort_17 : decode cX9_readPort 17 = .ok (.invokestatic 95, 3) := by decide +kernel
theorem dX9_readPort_20 : decode cX9_readPort 20 = .ok (.ifCond .ne 10, 3) := by decide +kernel
theorem dX9_readPort_23 : decode cX9_readPort 23 = .ok (.aload_n 0, 1) := by decide +kernel
theorem dX9_readPort_24 : decode cX9_readPort 24 = .ok (.bipush (-17), 2) := by decide +kernel
theorem dX9_readPort_26 : decode cX9_readPort 26 = .ok (.putfield 163, 3) := by decide +kernel
theorem dX9_readPort_29 : decode cX9_readPort 29 = .ok (.return_, 1) := by decide +kernel
theorem dX9_readPort_30 : decode cX9_readPort 30 = .ok (.ldc 223, 2) := by decide +kernel
theorem dX9_readPort_32 : decode cX9_readPort 32 = .ok (.bipush 10, 2) := by decide +kernel
theorem dX9_readPort_34 : decode cX9_readPort 34 = .ok (.iload_n 3, 1) := by decide +kernel
theorem dX9_readPort_35 : decode cX9_readPort 35 = .ok (.imul, 1) := by decide +kernel
theorem dX9_readPort_36 : decode cX9_readPort 36 = .ok (.aload_n 0, 1) := by decide +kernel
theorem dX9_readPort_37 : decode cX9_readPort 37 = .ok (.iload 4, 2) := by decide +kernel
theorem dX9_readPort_39 : decode cX9_readPort 39 = .ok (.invokevirtual 151, 3) := by decide +kernel
theorem dX9_readPort_42 : decode cX9_readPort 42 = .ok (.iadd, 1) := by decide +kernel
theorem dX9_readPort_43 : decode cX9_readPort 43 = .ok (.bipush 48, 2) := by decide +kernel
theorem dX9_readPort_45 : decode cX9_readPort 45 = .ok (.isub, 1) := by decide +kernel
theorem dX9_readPort_46 : decode cX9_readPort 46 = .ok (.invokestatic 224, 3) := by decide +kernel
theorem dX9_readPort_49 : decode cX9_readPort 49 = .ok (.istore_n 3, 1) := by decide +kernel
theorem dX9_readPort_50 : decode cX9_readPort 50 = .ok (.iinc 4 1, 3) := by decide +kernel
theorem dX9_readPort_53 : decode cX9_readPort 53 = .ok (.goto (-48), 3) := by decide +kernel
theorem dX9_readPort_56 : decode cX9_readPort 56 = .ok (.iload_n 3, 1) := by decide +kernel
theorem dX9_readPort_57 : decode cX9_readPort 57 = .ok (.ldc 227, 2) := by decide +kernel
theorem dX9_readPort_59 : decode cX9_readPort 59 = .ok (.if_icmp .le 10, 3) := by decide +kernel
theorem dX9_readPort_62 : decode cX9_readPort 62 = .ok (.aload_n 0, 1) := by decide +kernel
theorem dX9_readPort_63 : decode cX9_readPort 63 = .ok (.bipush (-17), 2) := by decide +kernel
theorem dX9_readPort_65 : decode cX9_readPort 65 = .ok (.putfield 163, 3) := by decide +kernel
theorem dX9_readPort_68 : decode cX9_readPort 68 = .ok (.return_, 1) := by decide +kernel
theorem dX9_readPort_69 : decode cX9_readPort 69 = .ok (.aload_n 0, 1) := by decide +kernel
theorem dX9_readPort_70 : decode cX9_readPort 70 = .ok (.getfield 21, 3) := by decide +kernel
theorem dX9_readPort_73 : decode cX9_readPort 73 = .ok (.iconst 4, 1) := by decide +kernel
theorem dX9_readPort_74 : decode cX9_readPort 74 = .ok (.iload_n 1, 1) := by decide +kernel
theorem dX9_readPort_75 : decode cX9_readPort 75 = .ok (.iload_n 2, 1) := by decide +kernel
theorem dX9_readPort_76 : decode cX9_readPort 76 = .ok (.if_icmp .ge 16, 3) := by decide +kernel
theorem dX9_readPort_79 : decode cX9_readPort 79 = .ok (.iload_n 3, 1) := by decide +kernel
theorem dX9_readPort_80 : decode cX9_readPort 80 = .ok (.aload_n 0, 1) := by decide +kernel
theorem dX9_readPort_81 : decode cX9_readPort 81 = .ok (.getfield 17, 3) := by decide +kernel
theorem dX9_readPort_84 : decode cX9_readPort 84 = .ok (.iconst 4, 1) := by decide +kernel
theorem dX9_readPort_85 : decode cX9_readPort 85 = .ok (.iaload, 1) := by decide +kernel
theorem dX9_readPort_86 : decode cX9_readPort 86 = .ok (.invokestatic 228, 3) := by decide +kernel
theorem dX9_readPort_89 : decode cX9_readPort 89 = .ok (.if_icmp .ne 7, 3) := by decide +kernel
theorem dX9_readPort_92 : decode cX9_readPort 92 = .ok (.iconst (-1), 1) := by decide +kernel
theorem dX9_readPort_93 : decode cX9_readPort 93 = .ok (.goto 4, 3) := by decide +kernel
theorem dX9_readPort_96 : decode cX9_readPort 96 = .ok (.iload_n 3, 1) := by decide +kernel
theorem dX9_readPort_97 : decode cX9_readPort 97 = .ok (.iastore, 1) := by decide +kernel
theorem dX9_readPort_98 : decode cX9_readPort 98 = .ok (.return_, 1) := by decide +kernel
theorem dX9_points_0 : decode cX9_points 0 = .ok (.iconst 0, 1) := by decide +kernel
theorem dX9_points_1 : decode cX9_points 1 = .ok (.istore_n 3, 1) := by decide +kernel
theorem dX9_points_2 : decode cX9_points 2 = .ok (.iload_n 1, 1) := by decide +kernel
theorem dX9_points_3 : decode cX9_points 3 = .ok (.istore 4, 2) := by decide +kernel
theorem dX9_points_5 : decode cX9_points 5 = .ok (.iload 4, 2) := by decide +kernel
theorem dX9_points_7 : decode cX9_points 7 = .ok (.iload_n 2, 1) := by decide +kernel
theorem dX9_points_8 : decode cX9_points 8 = .ok (.if_icmp .ge 82, 3) := by decide +kernel
theorem dX9_points_11 : decode cX9_points 11 = .ok (.aload_n 0, 1) := by decide +kernel
theorem dX9_points_12 : decode cX9_points 12 = .ok (.iload 4, 2) := by decide +kernel
theorem dX9_points_14 : decode cX9_points 14 = .ok (.invokevirtual 151, 3) := by decide +kernel
theorem dX9_points_17 : decode cX9_points 17 = .ok (.bipush 46, 2) := by decide +kernel
theorem dX9_points_19 : decode cX9_points 19 = .ok (.if_icmp .ne 9, 3) := by decide +kernel
theorem dX9_points_22 : decode cX9_points 22 = .ok (.iinc 4 1, 3) := by decide +kernel
theorem dX9_points_25 : decode cX9_points 25 = .ok (.goto 59, 3) := by decide +kernel
theorem dX9_points_28 : decode cX9_points 28 = .ok (.iload 4, 2) := by decide +kernel
theorem dX9_points_30 : decode cX9_points 30 = .ok (.iconst 2, 1) := by decide +kernel
theorem dX9_points_31 : decode cX9_points 31 = .ok (.iadd, 1) := by decide +kernel
theorem dX9_points_32 : decode cX9_points 32 = .ok (.iload_n 2, 1) := by decide +kernel
theorem dX9_points_33 : decode cX9_points 33 = .ok (.if_icmp .ge 49, 3) := by decide +kernel
theorem dX9_points_36 : decode cX9_points 36 = .ok (.aload_n 0, 1) := by decide +kernel
theorem dX9_points_37 : decode cX9_points 37 = .ok (.iload 4, 2) := by decide +kernel
theorem dX9_points_39 : decode cX9_points 39 = .ok (.invokevirtual 151, 3) := by decide +kernel
theorem dX9_points_42 : decode cX9_points 42 = .ok (.bipush 37, 2) := by decide +kernel
theorem dX9_points_44 : decode cX9_points 44 = .ok (.if_icmp .ne 38, 3) := by decide +kernel
theorem dX9_points_47 : decode cX9_points 47 = .ok (.aload_n 0, 1) := by decide +kernel
theorem dX9_points_48 : decode cX9_points 48 = .ok (.iload 4, 2) := by decide +kernel
theorem dX9_points_50 : decode cX9_points 50 = .ok (.iconst 1, 1) := by decide +kernel
theorem dX9_points_51 : decode cX9_points 51 = .ok (.iadd, 1) := by decide +kernel
theorem dX9_points_52 : decode cX9_points 52 = .ok (.invokevirtual 151, 3) := by decide +kernel
theorem dX9_points_55 : decode cX9_points 55 = .ok (.bipush 50, 2) := by decide +kernel
theorem dX9_points_57 : decode cX9_points 57 = .ok (.if_icmp .ne 25, 3) := by decide +kernel
theorem dX9_points_60 : decode cX9_points 60 = .ok (.aload_n 0, 1) := by decide +kernel
theorem dX9_points_61 : decode cX9_points 61 = .ok (.iload 4, 2) := by decide +kernel
theorem dX9_points_63 : decode cX9_points 63 = .ok (.iconst 2, 1) := by decide +kernel
theorem dX9_points_64 : decode cX9_points 64 = .ok (.iadd, 1) := by decide +kernel
theorem dX9_points_65 : decode cX9_points 65 = .ok (.invokevirtual 151, 3) := by decide +kernel
theorem dX9_points_68 : decode cX9_points 68 = .ok (.invokestatic 99, 3) := by decide +kernel
theorem dX9_points_71 : decode cX9_points 71 = .ok (.bipush 101, 2) := by decide +kernel
theorem dX9_points_73 : decode cX9_points 73 = .ok (.if_icmp .ne 9, 3) := by decide +kernel
theorem dX9_points_76 : decode cX9_points 76 = .ok (.iinc 4 3, 3) := by decide +kernel
theorem dX9_points_79 : decode cX9_points 79 = .ok (.goto 5, 3) := by decide +kernel
theorem dX9_points_82 : decode cX9_points 82 = .ok (.iconst 0, 1) := by decide +kernel
theorem dX9_points_83 : decode cX9_points 83 = .ok (.ireturn, 1) := by decide +kernel
theorem dX9_points_84 : decode cX9_points 84 = .ok (.iinc 3 1, 3) := by decide +kernel
theorem dX9_points_87 : decode cX9_points 87 = .ok (.goto (-82), 3) := by decide +kernel
theorem dX9_points_90 : decode cX9_points 90 = .ok (.iload_n 3, 1) := by decide +kernel
theorem dX9_points_91 : decode cX9_points 91 = .ok (.iconst 2, 1) := by decide +kernel
theorem dX9_points_92 : decode cX9_points 92 = .ok (.if_icmp .le 7, 3) := by decide +kernel
theorem dX9_points_95 : decode cX9_points 95 = .ok (.iconst 0, 1) := by decide +kernel
theorem dX9_points_96 : decode cX9_points 96 = .ok (.goto 4, 3) := by decide +kernel
theorem dX9_points_99 : decode cX9_points 99 = .ok (.iload_n 3, 1) := by decide +kernel
theorem dX9_points_100 : decode cX9_points 100 = .ok (.ireturn, 1) := by decide +kernel
theorem dX9_dropSegment_0 : decode cX9_dropSegment 0 = .ok (.bipush 27, 2) := by decide +kernel
theorem dX9_dropSegment_2 : decode cX9_dropSegment 2 = .ok (.istore_n 1, 1) := by decide +kernel
theorem dX9_dropSegment_3 : decode cX9_dropSegment 3 = .ok (.aload_n 0, 1) := by decide +kernel
theorem dX9_dropSegment_4 : decode cX9_dropSegment 4 = .ok (.getfield 40, 3) := by decide +kernel
theorem dX9_dropSegment_7 : decode cX9_dropSegment 7 = .ok (.iload_n 1, 1) := by decide +kernel
theorem dX9_dropSegment_8 : decode cX9_dropSegment 8 = .ok (.iaload, 1) := by decide +kernel
theorem dX9_dropSegment_9 : decode cX9_dropSegment 9 = .ok (.istore_n 2, 1) := by decide +kernel
theorem dX9_dropSegment_10 : decode cX9_dropSegment 10 = .ok (.iload_n 2, 1) := by decide +kernel
theorem dX9_dropSegment_11 : decode cX9_dropSegment 11 = .ok (.ifCond .le 29, 3) := by decide +kernel
theorem dX9_dropSegment_14 : decode cX9_dropSegment 14 = .ok (.aload_n 0, 1) := by decide +kernel
theorem dX9_dropSegment_15 : decode cX9_dropSegment 15 = .ok (.getfield 37, 3) := by decide +kernel
theorem dX9_dropSegment_18 : decode cX9_dropSegment 18 = .ok (.aload_n 0, 1) := by decide +kernel
theorem dX9_dropSegment_19 : decode cX9_dropSegment 19 = .ok (.iconst 4, 1) := by decide +kernel
theorem dX9_dropSegment_20 : decode cX9_dropSegment 20 = .ok (.iconst 3, 1) := by decide +kernel
theorem dX9_dropSegment_21 : decode cX9_dropSegment 21 = .ok (.invokevirtual 111, 3) := by decide +kernel
theorem dX9_dropSegment_24 : decode cX9_dropSegment 24 = .ok (.iload_n 2, 1) := by decide +kernel
theorem dX9_dropSegment_25 : decode cX9_dropSegment 25 = .ok (.iadd, 1) := by decide +kernel
theorem dX9_dropSegment_26 : decode cX9_dropSegment 26 = .ok (.iconst 1, 1) := by decide +kernel
theorem dX9_dropSegment_27 : decode cX9_dropSegment 27 = .ok (.isub, 1) := by decide +kernel
theorem dX9_dropSegment_28 : decode cX9_dropSegment 28 = .ok (.baload, 1) := by decide +kernel
theorem dX9_dropSegment_29 : decode cX9_dropSegment 29 = .ok (.bipush 47, 2) := by decide +kernel
theorem dX9_dropSegment_31 : decode cX9_dropSegment 31 = .ok (.if_icmp .eq 9, 3) := by decide +kernel
theorem dX9_dropSegment_34 : decode cX9_dropSegment 34 = .ok (.iinc 2 (-1), 3) := by decide +kernel
theorem dX9_dropSegment_37 : decode cX9_dropSegment 37 = .ok (.goto (-27), 3) := by decide +kernel
theorem dX9_dropSegment_40 : decode cX9_dropSegment 40 = .ok (.aload_n 0, 1) := by decide +kernel
theorem dX9_dropSegment_41 : decode cX9_dropSegment 41 = .ok (.getfield 40, 3) := by decide +kernel
theorem dX9_dropSegment_44 : decode cX9_dropSegment 44 = .ok (.iload_n 1, 1) := by decide +kernel
theorem dX9_dropSegment_45 : decode cX9_dropSegment 45 = .ok (.iconst 0, 1) := by decide +kernel
theorem dX9_dropSegment_46 : decode cX9_dropSegment 46 = .ok (.iload_n 2, 1) := by decide +kernel
theorem dX9_dropSegment_47 : decode cX9_dropSegment 47 = .ok (.iconst 1, 1) := by decide +kernel
theorem dX9_dropSegment_48 : decode cX9_dropSegment 48 = .ok (.isub, 1) := by decide +kernel
theorem dX9_dropSegment_49 : decode cX9_dropSegment 49 = .ok (.invokestatic 200, 3) := by decide +kernel
theorem dX9_dropSegment_52 : decode cX9_dropSegment 52 = .ok (.iastore, 1) := by decide +kernel
theorem dX9_dropSegment_53 : decode cX9_dropSegment 53 = .ok (.return_, 1) := by decide +kernel
theorem dX9_readTail_0 : decode cX9_readTail 0 = .ok (.iload_n 1, 1) := by decide +kernel
theorem dX9_readTail_1 : decode cX9_readTail 1 = .ok (.istore_n 2, 1) := by decide +kernel
theorem dX9_readTail_2 : decode cX9_readTail 2 = .ok (.aload_n 0, 1) := by decide +kernel
theorem dX9_readTail_3 : decode cX9_readTail 3 = .ok (.iload_n 2, 1) := by decide +kernel
theorem dX9_readTail_4 : decode cX9_readTail 4 = .ok (.invokevirtual 151, 3) := by decide +kernel
theorem dX9_readTail_7 : decode cX9_readTail 7 = .ok (.bipush 63, 2) := by decide +kernel
theorem dX9_readTail_9 : decode cX9_readTail 9 = .ok (.if_icmp .ne 48, 3) := by decide +kernel
theorem dX9_readTail_12 : decode cX9_readTail 12 = .ok (.aload_n 0, 1) := by decide +kernel
theorem dX9_readTail_13 : decode cX9_readTail 13 = .ok (.getfield 30, 3) := by decide +kernel
theorem dX9_readTail_16 : decode cX9_readTail 16 = .ok (.iconst 4, 1) := by decide +kernel
theorem dX9_readTail_17 : decode cX9_readTail 17 = .ok (.iconst 1, 1) := by decide +kernel
theorem dX9_readTail_18 : decode cX9_readTail 18 = .ok (.bastore, 1) := by decide +kernel
theorem dX9_readTail_19 : decode cX9_readTail 19 = .ok (.iinc 2 1, 3) := by decide +kernel
theorem dX9_readTail_22 : decode cX9_readTail 22 = .ok (.aload_n 0, 1) := by decide +kernel
theorem dX9_readTail_23 : decode cX9_readTail 23 = .ok (.iload_n 2, 1) := by decide +kernel
theorem dX9_readTail_24 : decode cX9_readTail 24 = .ok (.invokevirtual 151, 3) := by decide +kernel
theorem dX9_readTail_27 : decode cX9_readTail 27 = .ok (.ifCond .lt 30, 3) := by decide +kernel
theorem dX9_readTail_30 : decode cX9_readTail 30 = .ok (.aload_n 0, 1) := by decide +kernel
theorem dX9_readTail_31 : decode cX9_readTail 31 = .ok (.iload_n 2, 1) := by decide +kernel
theorem dX9_readTail_32 : decode cX9_readTail 32 = .ok (.invokevirtual 151, 3) := by decide +kernel
theorem dX9_readTail_35 : decode cX9_readTail 35 = .ok (.bipush 35, 2) := by decide +kernel
theorem dX9_readTail_37 : decode cX9_readTail 37 = .ok (.if_icmp .eq 20, 3) := by decide +kernel
theorem dX9_readTail_40 : decode cX9_readTail 40 = .ok (.aload_n 0, 1) := by decide +kernel
theorem dX9_readTail_41 : decode cX9_readTail 41 = .ok (.iconst 4, 1) := by decide +kernel
theorem dX9_readTail_42 : decode cX9_readTail 42 = .ok (.aload_n 0, 1) := by decide +kernel
theorem dX9_readTail_43 : decode cX9_readTail 43 = .ok (.iload_n 2, 1) := by decide +kernel
theorem dX9_readTail_44 : decode cX9_readTail 44 = .ok (.invokevirtual 151, 3) := by decide +kernel
theorem dX9_readTail_47 : decode cX9_readTail 47 = .ok (.iconst 1, 1) := by decide +kernel
theorem dX9_readTail_48 : decode cX9_readTail 48 = .ok (.invokevirtual 208, 3) := by decide +kernel
theorem dX9_readTail_51 : decode cX9_readTail 51 = .ok (.iinc 2 1, 3) := by decide +kernel
theorem dX9_readTail_54 : decode cX9_readTail 54 = .ok (.goto (-32), 3) := by decide +kernel
theorem dX9_readTail_57 : decode cX9_readTail 57 = .ok (.aload_n 0, 1) := by decide +kernel
theorem dX9_readTail_58 : decode cX9_readTail 58 = .ok (.iload_n 2, 1) := by decide +kernel
theorem dX9_readTail_59 : decode cX9_readTail 59 = .ok (.invokevirtual 151, 3) := by decide +kernel
theorem dX9_readTail_62 : decode cX9_readTail 62 = .ok (.bipush 35, 2) := by decide +kernel
theorem dX9_readTail_64 : decode cX9_readTail 64 = .ok (.if_icmp .ne 38, 3) := by decide +kernel
theorem dX9_readTail_67 : decode cX9_readTail 67 = .ok (.aload_n 0, 1) := by decide +kernel
theorem dX9_readTail_68 : decode cX9_readTail 68 = .ok (.getfield 33, 3) := by decide +kernel
theorem dX9_readTail_71 : decode cX9_readTail 71 = .ok (.iconst 4, 1) := by decide +kernel
theorem dX9_readTail_72 : decode cX9_readTail 72 = .ok (.iconst 1, 1) := by decide +kernel
theorem dX9_readTail_73 : decode cX9_readTail 73 = .ok (.bastore, 1) := by decide +kernel
theorem dX9_readTail_74 : decode cX9_readTail 74 = .ok (.iinc 2 1, 3) := by decide +kernel
theorem dX9_readTail_77 : decode cX9_readTail 77 = .ok (.aload_n 0, 1) := by decide +kernel
theorem dX9_readTail_78 : decode cX9_readTail 78 = .ok (.iload_n 2, 1) := by decide +kernel
theorem dX9_readTail_79 : decode cX9_readTail 79 = .ok (.invokevirtual 151, 3) := by decide +kernel
theorem dX9_readTail_82 : decode cX9_readTail 82 = .ok (.ifCond .lt 20, 3) := by decide +kernel
theorem dX9_readTail_85 : decode cX9_readTail 85 = .ok (.aload_n 0, 1) := by decide +kernel
theorem dX9_readTail_86 : decode cX9_readTail 86 = .ok (.iconst 5, 1) := by decide +kernel
theorem dX9_readTail_87 : decode cX9_readTail 87 = .ok (.aload_n 0, 1) := by decide +kernel
theorem dX9_readTail_88 : decode cX9_readTail 88 = .ok (.iload_n 2, 1) := by decide +kernel
theorem dX9_readTail_89 : decode cX9_readTail 89 = .ok (.invokevirtual 151, 3) := by decide +kernel
theorem dX9_readTail_92 : decode cX9_readTail 92 = .ok (.iconst 0, 1) := by decide +kernel
theorem dX9_readTail_93 : decode cX9_readTail 93 = .ok (.invokevirtual 208, 3) := by decide +kernel
theorem dX9_readTail_96 : decode cX9_readTail 96 = .ok (.iinc 2 1, 3) := by decide +kernel
theorem dX9_readTail_99 : decode cX9_readTail 99 = .ok (.goto (-22), 3) := by decide +kernel
theorem dX9_readTail_102 : decode cX9_readTail 102 = .ok (.return_, 1) := by decide +kernel
theorem dX9_readPath_0 : decode cX9_readPath 0 = .ok (.aload_n 0, 1) := by decide +kernel
theorem dX9_readPath_1 : decode cX9_readPath 1 = .ok (.iload_n 1, 1) := by decide +kernel
theorem dX9_readPath_2 : decode cX9_readPath 2 = .ok (.invokevirtual 151, 3) := by decide +kernel
theorem dX9_readPath_5 : decode cX9_readPath 5 = .ok (.invokestatic 188, 3) := by decide +kernel
theorem dX9_readPath_8 : decode cX9_readPath 8 = .ok (.ifCond .eq 9, 3) := by decide +kernel
theorem dX9_readPath_11 : decode cX9_readPath 11 = .ok (.iload_n 1, 1) := by decide +kernel
theorem dX9_readPath_12 : decode cX9_readPath 12 = .ok (.iconst 1, 1) := by decide +kernel
theorem dX9_readPath_13 : decode cX9_readPath 13 = .ok (.iadd, 1) := by decide +kernel
theorem dX9_readPath_14 : decode cX9_readPath 14 = .ok (.goto 4, 3) := by decide +kernel
theorem dX9_readPath_17 : decode cX9_readPath 17 = .ok (.iload_n 1, 1) := by decide +kernel
theorem dX9_readPath_18 : decode cX9_readPath 18 = .ok (.istore_n 2, 1) := by decide +kernel
theorem dX9_readPath_19 : decode cX9_readPath 19 = .ok (.iconst 1, 1) := by decide +kernel
theorem dX9_readPath_20 : decode cX9_readPath 20 = .ok (.istore_n 3, 1) := by decide +kernel
theorem dX9_readPath_21 : decode cX9_readPath 21 = .ok (.iload_n 3, 1) := by decide +kernel
theorem dX9_readPath_22 : decode cX9_readPath 22 = .ok (.ifCond .eq 116, 3) := by decide +kernel
theorem dX9_readPath_25 : decode cX9_readPath 25 = .ok (.iload_n 2, 1) := by decide +kernel
theorem dX9_readPath_26 : decode cX9_readPath 26 = .ok (.istore 4, 2) := by decide +kernel
theorem dX9_readPath_28 : decode cX9_readPath 28 = .ok (.aload_n 0, 1) := by decide +kernel
theorem dX9_readPath_29 : decode cX9_readPath 29 = .ok (.iload 4, 2) := by decide +kernel
theorem dX9_readPath_31 : decode cX9_readPath 31 = .ok (.invokevirtual 205, 3) := by decide +kernel
theorem dX9_readPath_34 : decode cX9_readPath 34 = .ok (.ifCond .ne 9, 3) := by decide +kernel
theorem dX9_readPath_37 : decode cX9_readPath 37 = .ok (.iinc 4 1, 3) := by decide +kernel
theorem dX9_readPath_40 : decode cX9_readPath 40 = .ok (.goto (-12), 3) := by decide +kernel
theorem dX9_readPath_43 : decode cX9_readPath 43 = .ok (.aload_n 0, 1) := by decide +kernel
theorem dX9_readPath_44 : decode cX9_readPath 44 = .ok (.iload 4, 2) := by decide +kernel
theorem dX9_readPath_46 : decode cX9_readPath 46 = .ok (.invokevirtual 151, 3) := by decide +kernel
theorem dX9_readPath_49 : decode cX9_readPath 49 = .ok (.invokestatic 188, 3) := by decide +kernel
theorem dX9_readPath_52 : decode cX9_readPath 52 = .ok (.istore_n 3, 1) := by decide +kernel
theorem dX9_readPath_53 : decode cX9_readPath 53 = .ok (.aload_n 0, 1) := by decide +kernel
theorem dX9_readPath_54 : decode cX9_readPath 54 = .ok (.iload_n 2, 1) := by decide +kernel
theorem dX9_readPath_55 : decode cX9_readPath 55 = .ok (.iload 4, 2) := by decide +kernel
theorem dX9_readPath_57 : decode cX9_readPath 57 = .ok (.invokevirtual 231, 3) := by decide +kernel
theorem dX9_readPath_60 : decode cX9_readPath 60 = .ok (.istore 5, 2) := by decide +kernel
theorem dX9_readPath_62 : decode cX9_readPath 62 = .ok (.iload 5, 2) := by decide +kernel
theorem dX9_readPath_64 : decode cX9_readPath 64 = .ok (.iconst 2, 1) := by decide +kernel
theorem dX9_readPath_65 : decode cX9_readPath 65 = .ok (.if_icmp .ne 7, 3) := by decide +kernel
theorem dX9_readPath_68 : decode cX9_readPath 68 = .ok (.aload_n 0, 1) := by decide +kernel
theorem dX9_readPath_69 : decode cX9_readPath 69 = .ok (.invokevirtual 197, 3) := by decide +kernel
theorem dX9_readPath_72 : decode cX9_readPath 72 = .ok (.iload 5, 2) := by decide +kernel
theorem dX9_readPath_74 : decode cX9_readPath 74 = .ok (.ifCond .eq 7, 3) := by decide +kernel
theorem dX9_readPath_77 : decode cX9_readPath 77 = .ok (.iload_n 3, 1) := by decide +kernel
theorem dX9_readPath_78 : decode cX9_readPath 78 = .ok (.ifCond .ne 10, 3) := by decide +kernel
theorem dX9_readPath_81 : decode cX9_readPath 81 = .ok (.aload_n 0, 1) := by decide +kernel
theorem dX9_readPath_82 : decode cX9_readPath 82 = .ok (.iconst 3, 1) := by decide +kernel
theorem dX9_readPath_83 : decode cX9_readPath 83 = .ok (.bipush 47, 2) := by decide +kernel
theorem dX9_readPath_85 : decode cX9_readPath 85 = .ok (.invokevirtual 122, 3) := by decide +kernel
theorem dX9_readPath_88 : decode cX9_readPath 88 = .ok (.iload_n 2, 1) := by decide +kernel
theorem dX9_readPath_89 : decode cX9_readPath 89 = .ok (.istore 6, 2) := by decide +kernel
theorem dX9_readPath_91 : decode cX9_readPath 91 = .ok (.iload 6, 2) := by decide +kernel
theorem dX9_readPath_93 : decode cX9_readPath 93 = .ok (.iload 4, 2) := by decide +kernel
theorem dX9_readPath_95 : decode cX9_readPath 95 = .ok (.if_icmp .ge 26, 3) := by decide +kernel
theorem dX9_readPath_98 : decode cX9_readPath 98 = .ok (.iload 5, 2) := by decide +kernel
theorem dX9_readPath_100 : decode cX9_readPath 100 = .ok (.ifCond .ne 21, 3) := by decide +kernel
theorem dX9_readPath_103 : decode cX9_readPath 103 = .ok (.aload_n 0, 1) := by decide +kernel
theorem dX9_readPath_104 : decode cX9_readPath 104 = .ok (.iconst 3, 1) := by decide +kernel
theorem dX9_readPath_105 : decode cX9_readPath 105 = .ok (.aload_n 0, 1) := by decide +kernel
theorem dX9_readPath_106 : decode cX9_readPath 106 = .ok (.iload 6, 2) := by decide +kernel
theorem dX9_readPath_108 : decode cX9_readPath 108 = .ok (.invokevirtual 151, 3) := by decide +kernel
theorem dX9_readPath_111 : decode cX9_readPath 111 = .ok (.iconst 2, 1) := by decide +kernel
theorem dX9_readPath_112 : decode cX9_readPath 112 = .ok (.invokevirtual 208, 3) := by decide +kernel
theorem dX9_readPath_115 : decode cX9_readPath 115 = .ok (.iinc 6 1, 3) := by decide +kernel
theorem dX9_readPath_118 : decode cX9_readPath 118 = .ok (.goto (-27), 3) := by decide +kernel
theorem dX9_readPath_121 : decode cX9_readPath 121 = .ok (.iload_n 3, 1) := by decide +kernel
theorem dX9_readPath_122 : decode cX9_readPath 122 = .ok (.ifCond .eq 10, 3) := by decide +kernel
theorem dX9_readPath_125 : decode cX9_readPath 125 = .ok (.iload 4, 2) := by decide +kernel
theorem dX9_readPath_127 : decode cX9_readPath 127 = .ok (.iconst 1, 1) := by decide +kernel
theorem dX9_readPath_128 : decode cX9_readPath 128 = .ok (.iadd, 1) := by decide +kernel
theorem dX9_readPath_129 : decode cX9_readPath 129 = .ok (.goto 5, 3) := by decide +kernel
theorem dX9_readPath_132 : decode cX9_readPath 132 = .ok (.iload 4, 2) := by decide +kernel
theorem dX9_readPath_134 : decode cX9_readPath 134 = .ok (.istore_n 2, 1) := by decide +kernel
theorem dX9_readPath_135 : decode cX9_readPath 135 = .ok (.goto (-114), 3) := by decide +kernel
theorem dX9_readPath_138 : decode cX9_readPath 138 = .ok (.aload_n 0, 1) := by decide +kernel
theorem dX9_readPath_139 : decode cX9_readPath 139 = .ok (.iload_n 2, 1) := by decide +kernel
theorem dX9_readPath_140 : decode cX9_readPath 140 = .ok (.invokevirtual 194, 3) := by decide +kernel
theorem dX9_readPath_143 : decode cX9_readPath 143 = .ok (.return_, 1) := by decide +kernel
theorem dX9_readSlashes_0 : decode cX9_readSlashes 0 = .ok (.iload_n 1, 1) := by decide +kernel
theorem dX9_readSlashes_1 : decode cX9_readSlashes 1 = .ok (.istore_n 2, 1) := by decide +kernel
theorem dX9_readSlashes_2 : decode cX9_readSlashes 2 = .ok (.aload_n 0, 1) := by decide +kernel
theorem dX9_readSlashes_3 : decode cX9_readSlashes 3 = .ok (.iload_n 2, 1) := by decide +kernel
theorem dX9_readSlashes_4 : decode cX9_readSlashes 4 = .ok (.invokevirtual 151, 3) := by decide +kernel
theorem dX9_readSlashes_7 : decode cX9_readSlashes 7 = .ok (.invokestatic 188, 3) := by decide +kernel
theorem dX9_readSlashes_10 : decode cX9_readSlashes 10 = .ok (.ifCond .eq 9, 3) := by decide +kernel
theorem dX9_readSlashes_13 : decode cX9_readSlashes 13 = .ok (.iinc 2 1, 3) := by decide +kernel
theorem dX9_readSlashes_16 : decode cX9_readSlashes 16 = .ok (.goto (-14), 3) := by decide +kernel
theorem dX9_readSlashes_19 : decode cX9_readSlashes 19 = .ok (.iload_n 2, 1) := by decide +kernel
theorem dX9_readSlashes_20 : decode cX9_readSlashes 20 = .ok (.istore_n 3, 1) := by decide +kernel
theorem dX9_readSlashes_21 : decode cX9_readSlashes 21 = .ok (.aload_n 0, 1) := by decide +kernel
theorem dX9_readSlashes_22 : decode cX9_readSlashes 22 = .ok (.iload_n 3, 1) := by decide +kernel
theorem dX9_readSlashes_23 : decode cX9_readSlashes 23 = .ok (.invokevirtual 205, 3) := by decide +kernel
theorem dX9_readSlashes_26 : decode cX9_readSlashes 26 = .ok (.ifCond .ne 9, 3) := by decide +kernel
theorem dX9_readSlashes_29 : decode cX9_readSlashes 29 = .ok (.iinc 3 1, 3) := by decide +kernel
theorem dX9_readSlashes_32 : decode cX9_readSlashes 32 = .ok (.goto (-11), 3) := by decide +kernel
theorem dX9_readSlashes_35 : decode cX9_readSlashes 35 = .ok (.iconst (-1), 1) := by decide +kernel
theorem dX9_readSlashes_36 : decode cX9_readSlashes 36 = .ok (.istore 4, 2) := by decide +kernel
theorem dX9_readSlashes_38 : decode cX9_readSlashes 38 = .ok (.iload_n 2, 1) := by decide +kernel
theorem dX9_readSlashes_39 : decode cX9_readSlashes 39 = .ok (.istore 5, 2) := by decide +kernel
theorem dX9_readSlashes_41 : decode cX9_readSlashes 41 = .ok (.iload 5, 2) := by decide +kernel
theorem dX9_readSlashes_43 : decode cX9_readSlashes 43 = .ok (.iload_n 3, 1) := by decide +kernel
theorem dX9_readSlashes_44 : decode cX9_readSlashes 44 = .ok (.if_icmp .ge 29, 3) := by decide +kernel
theorem dX9_readSlashes_47 : decode cX9_readSlashes 47 = .ok (.aload_n 0, 1) := by decide +kernel
theorem dX9_readSlashes_48 : decode cX9_readSlashes 48 = .ok (.iload 5, 2) := by decide +kernel
theorem dX9_readSlashes_50 : decode cX9_readSlashes 50 = .ok (.invokevirtual 151, 3) := by decide +kernel
theorem dX9_readSlashes_53 : decode cX9_readSlashes 53 = .ok (.bipush 64, 2) := by decide +kernel
theorem dX9_readSlashes_55 : decode cX9_readSlashes 55 = .ok (.if_icmp .ne 8, 3) := by decide +kernel
theorem dX9_readSlashes_58 : decode cX9_readSlashes 58 = .ok (.iload 5, 2) := by decide +kernel
theorem dX9_readSlashes_60 : decode cX9_readSlashes 60 = .ok (.goto 5, 3) := by decide +kernel
theorem dX9_readSlashes_63 : decode cX9_readSlashes 63 = .ok (.iload 4, 2) := by decide +kernel
theorem dX9_readSlashes_65 : decode cX9_readSlashes 65 = .ok (.istore 4, 2) := by decide +kernel
theorem dX9_readSlashes_67 : decode cX9_readSlashes 67 = .ok (.iinc 5 1, 3) := by decide +kernel
theorem dX9_readSlashes_70 : decode cX9_readSlashes 70 = .ok (.goto (-29), 3) := by decide +kernel
theorem dX9_readSlashes_73 : decode cX9_readSlashes 73 = .ok (.iload 4, 2) := by decide +kernel
theorem dX9_readSlashes_75 : decode cX9_readSlashes 75 = .ok (.ifCond .lt 82, 3) := by decide +kernel
theorem dX9_readSlashes_78 : decode cX9_readSlashes 78 = .ok (.iconst 0, 1) := by decide +kernel
theorem dX9_readSlashes_79 : decode cX9_readSlashes 79 = .ok (.istore 5, 2) := by decide +kernel
theorem dX9_readSlashes_81 : decode cX9_readSlashes 81 = .ok (.iload_n 2, 1) := by decide +kernel
theorem dX9_readSlashes_82 : decode cX9_readSlashes 82 = .ok (.istore 6, 2) := by decide +kernel
theorem dX9_readSlashes_84 : decode cX9_readSlashes 84 = .ok (.iload 6, 2) := by decide +kernel
theorem dX9_readSlashes_86 : decode cX9_readSlashes 86 = .ok (.iload 4, 2) := by decide +kernel
theorem dX9_readSlashes_88 : decode cX9_readSlashes 88 = .ok (.if_icmp .ge 52, 3) := by decide +kernel
theorem dX9_readSlashes_91 : decode cX9_readSlashes 91 = .ok (.aload_n 0, 1) := by decide +kernel
theorem dX9_readSlashes_92 : decode cX9_readSlashes 92 = .ok (.iload 6, 2) := by decide +kernel
theorem dX9_readSlashes_94 : decode cX9_readSlashes 94 = .ok (.invokevirtual 151, 3) := by decide +kernel
theorem dX9_readSlashes_97 : decode cX9_readSlashes 97 = .ok (.bipush 58, 2) := by decide +kernel
theorem dX9_readSlashes_99 : decode cX9_readSlashes 99 = .ok (.if_icmp .ne 14, 3) := by decide +kernel
theorem dX9_readSlashes_102 : decode cX9_readSlashes 102 = .ok (.iload 5, 2) := by decide +kernel
theorem dX9_readSlashes_104 : decode cX9_readSlashes 104 = .ok (.ifCond .ne 9, 3) := by decide +kernel
theorem dX9_readSlashes_107 : decode cX9_readSlashes 107 = .ok (.iconst 1, 1) := by decide +kernel
theorem dX9_readSlashes_108 : decode cX9_readSlashes 108 = .ok (.istore 5, 2) := by decide +kernel
theorem dX9_readSlashes_110 : decode cX9_readSlashes 110 = .ok (.goto 24, 3) := by decide +kernel
theorem dX9_readSlashes_113 : decode cX9_readSlashes 113 = .ok (.aload_n 0, 1) := by decide +kernel
theorem dX9_readSlashes_114 : decode cX9_readSlashes 114 = .ok (.iload 5, 2) := by decide +kernel
theorem dX9_readSlashes_116 : decode cX9_readSlashes 116 = .ok (.ifCond .eq 7, 3) := by decide +kernel
theorem dX9_readSlashes_119 : decode cX9_readSlashes 119 = .ok (.iconst 1, 1) := by decide +kernel
theorem dX9_readSlashes_120 : decode cX9_readSlashes 120 = .ok (.goto 4, 3) := by decide +kernel
theorem dX9_readSlashes_123 : decode cX9_readSlashes 123 = .ok (.iconst 0, 1) := by decide +kernel
theorem dX9_readSlashes_124 : decode cX9_readSlashes 124 = .ok (.aload_n 0, 1) := by decide +kernel
theorem dX9_readSlashes_125 : decode cX9_readSlashes 125 = .ok (.iload 6, 2) := by decide +kernel
theorem dX9_readSlashes_127 : decode cX9_readSlashes 127 = .ok (.invokevirtual 151, 3) := by decide +kernel
theorem dX9_readSlashes_130 : decode cX9_readSlashes 130 = .ok (.iconst 3, 1) := by decide +kernel
theorem dX9_readSlashes_131 : decode cX9_readSlashes 131 = .ok (.invokevirtual 208, 3) := by decide +kernel
theorem dX9_readSlashes_134 : decode cX9_readSlashes 134 = .ok (.iinc 6 1, 3) := by decide +kernel
theorem dX9_readSlashes_137 : decode cX9_readSlashes 137 = .ok (.goto (-53), 3) := by decide +kernel
theorem dX9_readSlashes_140 : decode cX9_readSlashes 140 = .ok (.iload 4, 2) := by decide +kernel
theorem dX9_readSlashes_142 : decode cX9_readSlashes 142 = .ok (.iconst 1, 1) := by decide +kernel
theorem dX9_readSlashes_143 : decode cX9_readSlashes 143 = .ok (.iadd, 1) := by decide +kernel
theorem dX9_readSlashes_144 : decode cX9_readSlashes 144 = .ok (.istore_n 2, 1) := by decide +kernel
theorem dX9_readSlashes_145 : decode cX9_readSlashes 145 = .ok (.iload_n 2, 1) := by decide +kernel
theorem dX9_readSlashes_146 : decode cX9_readSlashes 146 = .ok (.iload_n 3, 1) := by decide +kernel
theorem dX9_readSlashes_147 : decode cX9_readSlashes 147 = .ok (.if_icmp .ne 10, 3) := by decide +kernel
theorem dX9_readSlashes_150 : decode cX9_readSlashes 150 = .ok (.aload_n 0, 1) := by decide +kernel
theorem dX9_readSlashes_151 : decode cX9_readSlashes 151 = .ok (.bipush (-13), 2) := by decide +kernel
theorem dX9_readSlashes_153 : decode cX9_readSlashes 153 = .ok (.putfield 163, 3) := by decide +kernel
theorem dX9_readSlashes_156 : decode cX9_readSlashes 156 = .ok (.return_, 1) := by decide +kernel
theorem dX9_readSlashes_157 : decode cX9_readSlashes 157 = .ok (.iconst 0, 1) := by decide +kernel
theorem dX9_readSlashes_158 : decode cX9_readSlashes 158 = .ok (.istore 5, 2) := by decide +kernel
theorem dX9_readSlashes_160 : decode cX9_readSlashes 160 = .ok (.iload_n 2, 1) := by decide +kernel
theorem dX9_readSlashes_161 : decode cX9_readSlashes 161 = .ok (.istore 6, 2) := by decide +kernel
theorem dX9_readSlashes_163 : decode cX9_readSlashes 163 = .ok (.iload 6, 2) := by decide +kernel
theorem dX9_readSlashes_165 : decode cX9_readSlashes 165 = .ok (.iload_n 3, 1) := by decide +kernel
theorem dX9_readSlashes_166 : decode cX9_readSlashes 166 = .ok (.if_icmp .ge 59, 3) := by decide +kernel
theorem dX9_readSlashes_169 : decode cX9_readSlashes 169 = .ok (.aload_n 0, 1) := by decide +kernel
theorem dX9_readSlashes_170 : decode cX9_readSlashes 170 = .ok (.iload 6, 2) := by decide +kernel
theorem dX9_readSlashes_172 : decode cX9_readSlashes 172 = .ok (.invokevirtual 151, 3) := by decide +kernel
theorem dX9_readSlashes_175 : decode cX9_readSlashes 175 = .ok (.bipush 58, 2) := by decide +kernel
theorem dX9_readSlashes_177 : decode cX9_readSlashes 177 = .ok (.if_icmp .ne 8, 3) := by decide +kernel
theorem dX9_readSlashes_180 : decode cX9_readSlashes 180 = .ok (.iload 5, 2) := by decide +kernel
theorem dX9_readSlashes_182 : decode cX9_readSlashes 182 = .ok (.ifCond .eq 43, 3) := by decide +kernel
theorem dX9_readSlashes_185 : decode cX9_readSlashes 185 = .ok (.aload_n 0, 1) := by decide +kernel
theorem dX9_readSlashes_186 : decode cX9_readSlashes 186 = .ok (.iload 6, 2) := by decide +kernel
theorem dX9_readSlashes_188 : decode cX9_readSlashes 188 = .ok (.invokevirtual 151, 3) := by decide +kernel
theorem dX9_readSlashes_191 : decode cX9_readSlashes 191 = .ok (.bipush 91, 2) := by decide +kernel
theorem dX9_readSlashes_193 : decode cX9_readSlashes 193 = .ok (.if_icmp .eq 19, 3) := by decide +kernel
theorem dX9_readSlashes_196 : decode cX9_readSlashes 196 = .ok (.iload 5, 2) := by decide +kernel
theorem dX9_readSlashes_198 : decode cX9_readSlashes 198 = .ok (.ifCond .eq 18, 3) := by decide +kernel
theorem dX9_readSlashes_201 : decode cX9_readSlashes 201 = .ok (.aload_n 0, 1) := by decide +kernel
theorem dX9_readSlashes_202 : decode cX9_readSlashes 202 = .ok (.iload 6, 2) := by decide +kernel
theorem dX9_readSlashes_204 : decode cX9_readSlashes 204 = .ok (.invokevirtual 151, 3) := by decide +kernel
theorem dX9_readSlashes_207 : decode cX9_readSlashes 207 = .ok (.bipush 93, 2) := by decide +kernel
theorem dX9_readSlashes_209 : decode cX9_readSlashes 209 = .ok (.if_icmp .eq 7, 3) := by decide +kernel
theorem dX9_readSlashes_212 : decode cX9_readSlashes 212 = .ok (.iconst 1, 1) := by decide +kernel
theorem dX9_readSlashes_213 : decode cX9_readSlashes 213 = .ok (.goto 4, 3) := by decide +kernel
theorem dX9_readSlashes_216 : decode cX9_readSlashes 216 = .ok (.iconst 0, 1) := by decide +kernel
theorem dX9_readSlashes_217 : decode cX9_readSlashes 217 = .ok (.istore 5, 2) := by decide +kernel
theorem dX9_readSlashes_219 : decode cX9_readSlashes 219 = .ok (.iinc 6 1, 3) := by decide +kernel
theorem dX9_readSlashes_222 : decode cX9_readSlashes 222 = .ok (.goto (-59), 3) := by decide +kernel
theorem dX9_readSlashes_225 : decode cX9_readSlashes 225 = .ok (.iload 6, 2) := by decide +kernel
theorem dX9_readSlashes_227 : decode cX9_readSlashes 227 = .ok (.iload_n 2, 1) := by decide +kernel
theorem dX9_readSlashes_228 : decode cX9_readSlashes 228 = .ok (.if_icmp .ne 10, 3) := by decide +kernel
theorem dX9_readSlashes_231 : decode cX9_readSlashes 231 = .ok (.aload_n 0, 1) := by decide +kernel
theorem dX9_readSlashes_232 : decode cX9_readSlashes 232 = .ok (.bipush (-13), 2) := by decide +kernel
theorem dX9_readSlashes_234 : decode cX9_readSlashes 234 = .ok (.putfield 163, 3) := by decide +kernel
theorem dX9_readSlashes_237 : decode cX9_readSlashes 237 = .ok (.return_, 1) := by decide +kernel
theorem dX9_readSlashes_238 : decode cX9_readSlashes 238 = .ok (.aload_n 0, 1) := by decide +kernel
theorem dX9_readSlashes_239 : decode cX9_readSlashes 239 = .ok (.aload_n 0, 1) := by decide +kernel
theorem dX9_readSlashes_240 : decode cX9_readSlashes 240 = .ok (.iload_n 2, 1) := by decide +kernel
theorem dX9_readSlashes_241 : decode cX9_readSlashes 241 = .ok (.iload 6, 2) := by decide +kernel
theorem dX9_readSlashes_243 : decode cX9_readSlashes 243 = .ok (.invokevirtual 211, 3) := by decide +kernel
theorem dX9_readSlashes_246 : decode cX9_readSlashes 246 = .ok (.putfield 163, 3) := by decide +kernel
theorem dX9_readSlashes_249 : decode cX9_readSlashes 249 = .ok (.aload_n 0, 1) := by decide +kernel
theorem dX9_readSlashes_250 : decode cX9_readSlashes 250 = .ok (.getfield 163, 3) := by decide +kernel
theorem dX9_readSlashes_253 : decode cX9_readSlashes 253 = .ok (.ifCond .eq 4, 3) := by decide +kernel
theorem dX9_readSlashes_256 : decode cX9_readSlashes 256 = .ok (.return_, 1) := by decide +kernel
theorem dX9_readSlashes_257 : decode cX9_readSlashes 257 = .ok (.aload_n 0, 1) := by decide +kernel
theorem dX9_readSlashes_258 : decode cX9_readSlashes 258 = .ok (.getfield 24, 3) := by decide +kernel
theorem dX9_readSlashes_261 : decode cX9_readSlashes 261 = .ok (.iconst 4, 1) := by decide +kernel
theorem dX9_readSlashes_262 : decode cX9_readSlashes 262 = .ok (.aload_n 0, 1) := by decide +kernel
theorem dX9_readSlashes_263 : decode cX9_readSlashes 263 = .ok (.getfield 214, 3) := by decide +kernel
theorem dX9_readSlashes_266 : decode cX9_readSlashes 266 = .ok (.iastore, 1) := by decide +kernel
theorem dX9_readSlashes_267 : decode cX9_readSlashes 267 = .ok (.iconst 0, 1) := by decide +kernel
theorem dX9_readSlashes_268 : decode cX9_readSlashes 268 = .ok (.istore 7, 2) := by decide +kernel
theorem dX9_readSlashes_270 : decode cX9_readSlashes 270 = .ok (.iload 7, 2) := by decide +kernel
theorem dX9_readSlashes_272 : decode cX9_readSlashes 272 = .ok (.bipush 8, 2) := by decide +kernel
theorem dX9_readSlashes_274 : decode cX9_readSlashes 274 = .ok (.if_icmp .ge 26, 3) := by decide +kernel
theorem dX9_readSlashes_277 : decode cX9_readSlashes 277 = .ok (.aload_n 0, 1) := by decide +kernel
theorem dX9_readSlashes_278 : decode cX9_readSlashes 278 = .ok (.getfield 27, 3) := by decide +kernel
theorem dX9_readSlashes_281 : decode cX9_readSlashes 281 = .ok (.bipush 32, 2) := by decide +kernel
theorem dX9_readSlashes_283 : decode cX9_readSlashes 283 = .ok (.iload 7, 2) := by decide +kernel
theorem dX9_readSlashes_285 : decode cX9_readSlashes 285 = .ok (.iadd, 1) := by decide +kernel
theorem dX9_readSlashes_286 : decode cX9_readSlashes 286 = .ok (.aload_n 0, 1) := by decide +kernel
theorem dX9_readSlashes_287 : decode cX9_readSlashes 287 = .ok (.getfield 49, 3) := by decide +kernel
theorem dX9_readSlashes_290 : decode cX9_readSlashes 290 = .ok (.iload 7, 2) := by decide +kernel
theorem dX9_readSlashes_292 : decode cX9_readSlashes 292 = .ok (.iaload, 1) := by decide +kernel
theorem dX9_readSlashes_293 : decode cX9_readSlashes 293 = .ok (.iastore, 1) := by decide +kernel
theorem dX9_readSlashes_294 : decode cX9_readSlashes 294 = .ok (.iinc 7 1, 3) := by decide +kernel
theorem dX9_readSlashes_297 : decode cX9_readSlashes 297 = .ok (.goto (-27), 3) := by decide +kernel
theorem dX9_readSlashes_300 : decode cX9_readSlashes 300 = .ok (.iconst 0, 1) := by decide +kernel
theorem dX9_readSlashes_301 : decode cX9_readSlashes 301 = .ok (.istore 7, 2) := by decide +kernel
theorem dX9_readSlashes_303 : decode cX9_readSlashes 303 = .ok (.iload 7, 2) := by decide +kernel
theorem dX9_readSlashes_305 : decode cX9_readSlashes 305 = .ok (.aload_n 0, 1) := by decide +kernel
theorem dX9_readSlashes_306 : decode cX9_readSlashes 306 = .ok (.getfield 217, 3) := by decide +kernel
theorem dX9_readSlashes_309 : decode cX9_readSlashes 309 = .ok (.if_icmp .ge 28, 3) := by decide +kernel
theorem dX9_readSlashes_312 : decode cX9_readSlashes 312 = .ok (.aload_n 0, 1) := by decide +kernel
theorem dX9_readSlashes_313 : decode cX9_readSlashes 313 = .ok (.getfield 214, 3) := by decide +kernel
theorem dX9_readSlashes_316 : decode cX9_readSlashes 316 = .ok (.ifCond .ne 21, 3) := by decide +kernel
theorem dX9_readSlashes_319 : decode cX9_readSlashes 319 = .ok (.aload_n 0, 1) := by decide +kernel
theorem dX9_readSlashes_320 : decode cX9_readSlashes 320 = .ok (.iconst 2, 1) := by decide +kernel
theorem dX9_readSlashes_321 : decode cX9_readSlashes 321 = .ok (.aload_n 0, 1) := by decide +kernel
theorem dX9_readSlashes_322 : decode cX9_readSlashes 322 = .ok (.getfield 46, 3) := by decide +kernel
theorem dX9_readSlashes_325 : decode cX9_readSlashes 325 = .ok (.iload 7, 2) := by decide +kernel
theorem dX9_readSlashes_327 : decode cX9_readSlashes 327 = .ok (.baload, 1) := by decide +kernel
theorem dX9_readSlashes_328 : decode cX9_readSlashes 328 = .ok (.invokevirtual 122, 3) := by decide +kernel
theorem dX9_readSlashes_331 : decode cX9_readSlashes 331 = .ok (.iinc 7 1, 3) := by decide +kernel
theorem dX9_readSlashes_334 : decode cX9_readSlashes 334 = .ok (.goto (-31), 3) := by decide +kernel
theorem dX9_readSlashes_337 : decode cX9_readSlashes 337 = .ok (.aload_n 0, 1) := by decide +kernel
theorem dX9_readSlashes_338 : decode cX9_readSlashes 338 = .ok (.iload 6, 2) := by decide +kernel
theorem dX9_readSlashes_340 : decode cX9_readSlashes 340 = .ok (.iconst 1, 1) := by decide +kernel
theorem dX9_readSlashes_341 : decode cX9_readSlashes 341 = .ok (.iadd, 1) := by decide +kernel
theorem dX9_readSlashes_342 : decode cX9_readSlashes 342 = .ok (.iload_n 3, 1) := by decide +kernel
theorem dX9_readSlashes_343 : decode cX9_readSlashes 343 = .ok (.invokevirtual 220, 3) := by decide +kernel
theorem dX9_readSlashes_346 : decode cX9_readSlashes 346 = .ok (.aload_n 0, 1) := by decide +kernel
theorem dX9_readSlashes_347 : decode cX9_readSlashes 347 = .ok (.getfield 163, 3) := by decide +kernel
theorem dX9_readSlashes_350 : decode cX9_readSlashes 350 = .ok (.ifCond .ne 8, 3) := by decide +kernel
theorem dX9_readSlashes_353 : decode cX9_readSlashes 353 = .ok (.aload_n 0, 1) := by decide +kernel
theorem dX9_readSlashes_354 : decode cX9_readSlashes 354 = .ok (.iload_n 3, 1) := by decide +kernel
theorem dX9_readSlashes_355 : decode cX9_readSlashes 355 = .ok (.invokevirtual 191, 3) := by decide +kernel
theorem dX9_readSlashes_358 : decode cX9_readSlashes 358 = .ok (.return_, 1) := by decide +kernel
def f_X9_readPort_97  (s0 : Option Nat) (s1 : Int32) (s2 : Int32) : gM Unit := gb (sI 1 s0 s1 s2) fun _ => gp ()
def f_X9_readPort_92  (s0 : Option Nat) (s1 : Int32) : gM Unit := f_X9_readPort_97  s0 s1 (-1)
def f_X9_readPort_5 (rec5 : Option Nat → Int32 → Int32 → Int32 → Int32 → gM Unit) (x0 : Option Nat) (x1 : Int32) (x2 : Int32) (x3 : Int32) (x4 : Int32) : gM Unit := if x2 ≤ x4 then (if x3 ≤ 65535 then (gb (rR 8 4 x0) fun v1 => if x2 ≤ x1 then (f_X9_readPort_92  v1 4) else (gb (rR 8 3 x0) fun v2 => gb (aI 1 v2 4) fun v3 => gb (f_X9_portOf v3) fun v4 => if x3 = v4 then (f_X9_readPort_92  v1 4) else (f_X9_readPort_97  v1 4 x3))) else (gb (wI 8 13 x0 (-17)) fun _ => gp ())) else (gb (nn 8 x0) fun _ => gb (f_X9_byteAt x0 x4) fun v5 => gb (f_X9_isDigit v5) fun v6 => if v6 = 0 then (gb (wI 8 13 x0 (-17)) fun _ => gp ()) else (gb (nn 8 x0) fun _ => gb (f_X9_byteAt x0 x4) fun v7 => rec5 x0 x1 x2 (if ((10 * x3) + v7) - 48 < 100000 then ((10 * x3) + v7) - 48 else 100000) (x4 + 1)))
def f_X9_readPort_L5  : Nat → Option Nat → Int32 → Int32 → Int32 → Int32 → gM Unit
  | 0, _, _, _, _, _ => gno
  | n + 1, x0, x1, x2, x3, x4 => f_X9_readPort_5  (f_X9_readPort_L5  n) x0 x1 x2 x3 x4
def f_X9_readPort  (a0 : Option Nat) (a1 : Int32) (a2 : Int32) : gM Unit := f_X9_readPort_L5  gF a0 a1 a2 0 a1
section S_X9_readPort
variable {G : gX} {p : Program} {l : Launch} {e : Env} {s : State} {m : MethodId} {args : Array Value} {below : List Frame} {meth : Method} {c : Code} {mc ms : Nat} {y : Unit × gS}
set_option maxHeartbeats 4000000 in
set_option maxRecDepth 100000 in
theorem w_X9_readPort_97 (C : gC G p s m args meth c cX9_readPort 5 RX9) (hr : meth.sig.returnType = none)  (s0 : Option Nat) (s1 : Int32) (s2 : Int32) : gJ G p l e 2 42 mc ms s m args below meth c grv y 5 97 [] [.int s2, .int s1, va_rf s0] (f_X9_readPort_97  s0 s1 s2) := by
  have hx := C.1
  have hb := C.2.1
  intro σ H locs cells slots ls hf I hl
  unfold f_X9_readPort_97 at hf
  refine gw_iast C I dX9_readPort_97 hf (fun σ H locs I hf => ?_)
  exact gw_vret C I hr dX9_readPort_98 hf
set_option maxHeartbeats 4000000 in
set_option maxRecDepth 100000 in
theorem w_X9_readPort_92 (C : gC G p s m args meth c cX9_readPort 5 RX9) (hr : meth.sig.returnType = none)  (s0 : Option Nat) (s1 : Int32) : gJ G p l e 2 42 mc ms s m args below meth c grv y 5 92 [] [.int s1, va_rf s0] (f_X9_readPort_92  s0 s1) := by
  have hx := C.1
  have hb := C.2.1
  intro σ H locs cells slots ls hf I hl
  unfold f_X9_readPort_92 at hf
  refine lv_iconst (v := (-1)) hx hb dX9_readPort_92 kc_i_m1 ?_
  refine lv_goto (tgt := 97) hx hb dX9_readPort_93 (by decide) ?_
  exact w_X9_readPort_97 C hr  s0 s1 (-1) _ _ _ _ _ _ hf I (lv_sub hl [] rfl)
set_option maxHeartbeats 4000000 in
set_option maxRecDepth 100000 in
theorem w_X9_readPort_5 (C : gC G p s m args meth c cX9_readPort 5 RX9) (hr : meth.sig.returnType = none) {rec5 : Option Nat → Int32 → Int32 → Int32 → Int32 → gM Unit} (hrec5 : ∀ (x0 : Option Nat) (x1 : Int32) (x2 : Int32) (x3 : Int32) (x4 : Int32), gJ G p l e 2 42 mc ms s m args below meth c grv y 5 5 [(0, va_rf x0), (1, .int x1), (2, .int x2), (3, .int x3), (4, .int x4)] [] (rec5 x0 x1 x2 x3 x4)) (x0 : Option Nat) (x1 : Int32) (x2 : Int32) (x3 : Int32) (x4 : Int32) : gJ G p l e 2 42 mc ms s m args below meth c grv y 5 5 [(0, va_rf x0), (1, .int x1), (2, .int x2), (3, .int x3), (4, .int x4)] [] (f_X9_readPort_5 rec5 x0 x1 x2 x3 x4) := by
  have hx := C.1
  have hb := C.2.1
  intro σ H locs cells slots ls hf I hl
  unfold f_X9_readPort_5 at hf
  refine lv_iload hx hb dX9_readPort_5 (lv_at hl 4 rfl) ?_
  refine lv_iload_n hx hb dX9_readPort_7 rfl (lv_at hl 2 rfl) ?_
  refine lv_icmp_ge (tgt := 56) hx hb dX9_readPort_8 (by decide) (fun hq => ?_) (fun hq => ?_)
  · have hf := gift hq hf
    refine lv_iload_n hx hb dX9_readPort_56 rfl (lv_at hl 3 rfl) ?_
    refine gw_ldc C (v := 65535) kw_212 dX9_readPort_57 ?_
    refine lv_icmp_le (tgt := 69) hx hb dX9_readPort_59 (by decide) (fun hq => ?_) (fun hq => ?_)
    · have hf := gift hq hf
      refine gw_aload_n hx hb dX9_readPort_69 rfl (lv_at hl 0 rfl) ?_
      refine gw_getr (k := 4) C I gcls_8 (by decide) rfl kw_168 dX9_readPort_70 hf (fun v1 hf => ?_)
      refine lv_iconst (v := 4) hx hb dX9_readPort_73 kc_i_4 ?_
      refine lv_iload_n hx hb dX9_readPort_74 rfl (lv_at hl 1 rfl) ?_
      refine lv_iload_n hx hb dX9_readPort_75 rfl (lv_at hl 2 rfl) ?_
      refine lv_icmp_ge (tgt := 92) hx hb dX9_readPort_76 (by decide) (fun hq => ?_) (fun hq => ?_)
      · have hf := gift hq hf
        exact w_X9_readPort_92 C hr  v1 4 _ _ _ _ _ _ hf I (lv_sub hl [] rfl)
      · have hf := giff hq hf
        refine lv_iload_n hx hb dX9_readPort_79 rfl (lv_at hl 3 rfl) ?_
        refine gw_aload_n hx hb dX9_readPort_80 rfl (lv_at hl 0 rfl) ?_
        refine gw_getr (k := 3) C I gcls_8 (by decide) rfl kw_167 dX9_readPort_81 hf (fun v2 hf => ?_)
        refine lv_iconst (v := 4) hx hb dX9_readPort_84 kc_i_4 ?_
        refine gw_iald C I dX9_readPort_85 hf (fun v3 hf => ?_)
        refine gw_callS (rest := [.int x3, .int 4, va_rf v1]) C I hl.1 (m_X9_portOf G l v3) gl_RX9_228 kw_213 ⟨Nat.le_of_ble_eq_true rfl, Nat.le_of_ble_eq_true rfl⟩ rfl (gc4 (Nat.le_of_ble_eq_true rfl)) rfl dX9_readPort_86 hf (fun v4 σ H locs cells slots I hf => ?_)
        refine W.eq (g2 := F0 m 89 ls [.int v4, .int x3, .int 4, va_rf v1]) rfl ?_
        refine lv_icmp_ne (tgt := 96) hx hb dX9_readPort_89 (by decide) (fun hq => ?_) (fun hq => ?_)
        · have hf := giff hq hf
          refine lv_iload_n hx hb dX9_readPort_96 rfl (lv_at hl 3 rfl) ?_
          exact w_X9_readPort_97 C hr  v1 4 x3 _ _ _ _ _ _ hf I (lv_sub hl [] rfl)
        · have hf := gift hq hf
          exact w_X9_readPort_92 C hr  v1 4 _ _ _ _ _ _ hf I (lv_sub hl [] rfl)
    · have hf := giff hq hf
      refine gw_aload_n hx hb dX9_readPort_62 rfl (lv_at hl 0 rfl) ?_
      refine lv_bipush (v := (-17)) hx hb dX9_readPort_63 kc_b_m17 ?_
      refine gw_puti (k := 13) C I gcls_8 (by decide) rfl kw_214 (Or.inl rfl) (by decide +kernel) dX9_readPort_65 hf (fun σ H locs I hf => ?_)
      exact gw_vret C I hr dX9_readPort_68 hf
  · have hf := giff hq hf
    refine gw_aload_n hx hb dX9_readPort_11 rfl (lv_at hl 0 rfl) ?_
    refine lv_iload hx hb dX9_readPort_12 (lv_at hl 4 rfl) ?_
    refine gw_callV (rest := []) C I hl.1 gcls_8 (m_X9_byteAt G l x0 x4) gl_RX9_151 gn_X9_byteAt ⟨Nat.le_of_ble_eq_true rfl, Nat.le_of_ble_eq_true rfl⟩ rfl (gc4 (Nat.le_of_ble_eq_true rfl)) rfl dX9_readPort_14 hf (fun v5 σ H locs cells slots I hf => ?_)
    refine W.eq (g2 := F0 m 17 ls [.int v5]) rfl ?_
    refine gw_callS (rest := []) C I hl.1 (m_X9_isDigit G l v5) gl_RX9_95 kw_193 ⟨Nat.le_of_ble_eq_true rfl, Nat.le_of_ble_eq_true rfl⟩ rfl (gc4 (Nat.le_of_ble_eq_true rfl)) rfl dX9_readPort_17 hf (fun v6 σ H locs cells slots I hf => ?_)
    refine W.eq (g2 := F0 m 20 ls [.int v6]) rfl ?_
    refine lv_if_ne (tgt := 30) hx hb dX9_readPort_20 (by decide) (fun hq => ?_) (fun hq => ?_)
    · have hf := giff hq hf
      refine gw_ldc C (v := 100000) kw_215 dX9_readPort_30 ?_
      refine lv_bipush (v := 10) hx hb dX9_readPort_32 kc_b_10 ?_
      refine lv_iload_n hx hb dX9_readPort_34 rfl (lv_at hl 3 rfl) ?_
      refine lv_imul hx hb dX9_readPort_35 ?_
      refine gw_aload_n hx hb dX9_readPort_36 rfl (lv_at hl 0 rfl) ?_
      refine lv_iload hx hb dX9_readPort_37 (lv_at hl 4 rfl) ?_
      refine gw_callV (rest := [.int (10 * x3), .int 100000]) C I hl.1 gcls_8 (m_X9_byteAt G l x0 x4) gl_RX9_151 gn_X9_byteAt ⟨Nat.le_of_ble_eq_true rfl, Nat.le_of_ble_eq_true rfl⟩ rfl (gc4 (Nat.le_of_ble_eq_true rfl)) rfl dX9_readPort_39 hf (fun v7 σ H locs cells slots I hf => ?_)
      refine W.eq (g2 := F0 m 42 ls [.int v7, .int (10 * x3), .int 100000]) rfl ?_
      refine lv_iadd hx hb dX9_readPort_42 ?_
      refine lv_bipush (v := 48) hx hb dX9_readPort_43 kc_b_48 ?_
      refine lv_isub hx hb dX9_readPort_45 ?_
      refine gw_mmin (rest := []) C I hl.1 ⟨kw_203, kw_91, kw_92, kw_93⟩ ⟨Nat.le_of_ble_eq_true rfl, Nat.le_of_ble_eq_true rfl⟩ (gc4 (Nat.le_of_ble_eq_true rfl)) dX9_readPort_46 hf ?_
      refine lv_istore_n (lv' := [(3, .int (if ((10 * x3) + v7) - 48 < 100000 then ((10 * x3) + v7) - 48 else 100000)), (0, va_rf x0), (1, .int x1), (2, .int x2), (4, .int x4)]) hx hb dX9_readPort_49 rfl hl (by decide) rfl (fun ls hl => ?_)
      refine lv_iinc (v := x4 + 1) (lv' := [(4, .int (x4 + 1)), (3, .int (if ((10 * x3) + v7) - 48 < 100000 then ((10 * x3) + v7) - 48 else 100000)), (0, va_rf x0), (1, .int x1), (2, .int x2)]) hx hb dX9_readPort_50 hl (k := 4) rfl rfl (by decide) rfl (fun ls hl => ?_)
      refine lv_goto (tgt := 5) hx hb dX9_readPort_53 (by decide) ?_
      exact hrec5 x0 x1 x2 (if ((10 * x3) + v7) - 48 < 100000 then ((10 * x3) + v7) - 48 else 100000) (x4 + 1) _ _ _ _ _ _ hf I (lv_sub hl [2, 3, 4, 1, 0] rfl)
    · have hf := gift hq hf
      refine gw_aload_n hx hb dX9_readPort_23 rfl (lv_at hl 0 rfl) ?_
      refine lv_bipush (v := (-17)) hx hb dX9_readPort_24 kc_b_m17 ?_
      refine gw_puti (k := 13) C I gcls_8 (by decide) rfl kw_214 (Or.inl rfl) (by decide +kernel) dX9_readPort_26 hf (fun σ H locs I hf => ?_)
      exact gw_vret C I hr dX9_readPort_29 hf
theorem w_X9_readPort_L5 (C : gC G p s m args meth c cX9_readPort 5 RX9) (hr : meth.sig.returnType = none)  : ∀ (n : Nat) (x0 : Option Nat) (x1 : Int32) (x2 : Int32) (x3 : Int32) (x4 : Int32), gJ G p l e 2 42 mc ms s m args below meth c grv y 5 5 [(0, va_rf x0), (1, .int x1), (2, .int x2), (3, .int x3), (4, .int x4)] [] (f_X9_readPort_L5  n x0 x1 x2 x3 x4) := by
  intro n
  induction n with
  | zero => intro x0 x1 x2 x3 x4 σ H locs cells slots ls hf; exact (gno_some hf).elim
  | succ n ih => intro x0 x1 x2 x3 x4; exact w_X9_readPort_5 C hr  ih x0 x1 x2 x3 x4
set_option maxHeartbeats 4000000 in
set_option maxRecDepth 100000 in
theorem w_X9_readPort_0 (C : gC G p s m args meth c cX9_readPort 5 RX9) (hr : meth.sig.returnType = none)  (a0 : Option Nat) (a1 : Int32) (a2 : Int32) : gJ G p l e 2 42 mc ms s m args below meth c grv y 5 0 [(0, va_rf a0), (1, .int a1), (2, .int a2)] [] (f_X9_readPort  a0 a1 a2) := by
  have hx := C.1
  have hb := C.2.1
  intro σ H locs cells slots ls hf I hl
  unfold f_X9_readPort at hf
  refine lv_iconst (v := 0) hx hb dX9_readPort_0 kc_i_0 ?_
  refine lv_istore_n (lv' := [(3, .int 0), (0, va_rf a0), (1, .int a1), (2, .int a2)]) hx hb dX9_readPort_1 rfl hl (by decide) rfl (fun ls hl => ?_)
  refine lv_iload_n hx hb dX9_readPort_2 rfl (lv_at hl 2 rfl) ?_
  refine lv_istore (lv' := [(4, .int a1), (3, .int 0), (0, va_rf a0), (1, .int a1), (2, .int a2)]) hx hb dX9_readPort_3 hl (by decide) rfl (fun ls hl => ?_)
  exact w_X9_readPort_L5 C hr  _ a0 a1 a2 0 a1 _ _ _ _ _ _ hf I (lv_sub hl [2, 3, 4, 1, 0] rfl)
end S_X9_readPort
theorem m_X9_readPort (G : gX) (l : Launch) (a0 : Option Nat) (a1 : Int32) (a2 : Int32) : gMet G l yX9_readPort cX9_readPort 5 none 2 42 [va_rf a0, .int a1, .int a2] grv (f_X9_readPort a0 a1 a2) := by
  refine gMet_of (by decide) ?_
  intro σ y p e s m below meth c mc ms hf C hr hnm I
  obtain ⟨ls, e1, hl⟩ := gentry m [va_rf a0, .int a1, .int a2] 5 [(0, va_rf a0), (1, .int a1), (2, .int a2)] (by simp [lg_sl, grc, gcat_i, gcat_l]) (by simp [lv_args, grc, gcat_i, gcat_l])
  rw [e1]
  exact w_X9_readPort_0 C hr a0 a1 a2 _ _ _ _ _ _ hf I hl
def f_X9_points_5 (rec5 : Option Nat → Int32 → Int32 → Int32 → gM Int32) (x0 : Option Nat) (x2 : Int32) (x3 : Int32) (x4 : Int32) : gM Int32 := if x2 ≤ x4 then (if x3 ≤ 2 then (gp x3) else (gp 0)) else (gb (nn 8 x0) fun _ => gb (f_X9_byteAt x0 x4) fun v1 => if v1 = 46 then (rec5 x0 x2 (x3 + 1) (x4 + 1)) else (if x2 ≤ (x4 + 2) then (gp 0) else (gb (nn 8 x0) fun _ => gb (f_X9_byteAt x0 x4) fun v2 => if v2 = 37 then (gb (nn 8 x0) fun _ => gb (f_X9_byteAt x0 (x4 + 1)) fun v3 => if v3 = 50 then (gb (nn 8 x0) fun _ => gb (f_X9_byteAt x0 (x4 + 2)) fun v4 => gb (f_X9_low v4) fun v5 => if v5 = 101 then (rec5 x0 x2 (x3 + 1) (x4 + 3)) else (gp 0)) else (gp 0)) else (gp 0))))
def f_X9_points_L5  : Nat → Option Nat → Int32 → Int32 → Int32 → gM Int32
  | 0, _, _, _, _ => gno
  | n + 1, x0, x2, x3, x4 => f_X9_points_5  (f_X9_points_L5  n) x0 x2 x3 x4
def f_X9_points  (a0 : Option Nat) (a1 : Int32) (a2 : Int32) : gM Int32 := f_X9_points_L5  gF a0 a2 0 a1
section S_X9_points
variable {G : gX} {p : Program} {l : Launch} {e : Env} {s : State} {m : MethodId} {args : Array Value} {below : List Frame} {meth : Method} {c : Code} {mc ms : Nat} {y : Int32 × gS}
set_option maxHeartbeats 4000000 in
set_option maxRecDepth 100000 in
theorem w_X9_points_5 (C : gC G p s m args meth c cX9_points 5 RX9) (hr : meth.sig.returnType = (some .int)) {rec5 : Option Nat → Int32 → Int32 → Int32 → gM Int32} (hrec5 : ∀ (x0 : Option Nat) (x2 : Int32) (x3 : Int32) (x4 : Int32), gJ G p l e 2 42 mc ms s m args below meth c gri y 5 5 [(0, va_rf x0), (2, .int x2), (3, .int x3), (4, .int x4)] [] (rec5 x0 x2 x3 x4)) (x0 : Option Nat) (x2 : Int32) (x3 : Int32) (x4 : Int32) : gJ G p l e 2 42 mc ms s m args below meth c gri y 5 5 [(0, va_rf x0), (2, .int x2), (3, .int x3), (4, .int x4)] [] (f_X9_points_5 rec5 x0 x2 x3 x4) := by
  have hx := C.1
  have hb := C.2.1
  intro σ H locs cells slots ls hf I hl
  unfold f_X9_points_5 at hf
  refine lv_iload hx hb dX9_points_5 (lv_at hl 3 rfl) ?_
  refine lv_iload_n hx hb dX9_points_7 rfl (lv_at hl 1 rfl) ?_
  refine lv_icmp_ge (tgt := 90) hx hb dX9_points_8 (by decide) (fun hq => ?_) (fun hq => ?_)
  · have hf := gift hq hf
    refine lv_iload_n hx hb dX9_points_90 rfl (lv_at hl 2 rfl) ?_
    refine lv_iconst (v := 2) hx hb dX9_points_91 kc_i_2 ?_
    refine lv_icmp_le (tgt := 99) hx hb dX9_points_92 (by decide) (fun hq => ?_) (fun hq => ?_)
    · have hf := gift hq hf
      refine lv_iload_n hx hb dX9_points_99 rfl (lv_at hl 2 rfl) ?_
      exact gw_iret C I hr dX9_points_100 hf
    · have hf := giff hq hf
      refine lv_iconst (v := 0) hx hb dX9_points_95 kc_i_0 ?_
      refine lv_goto (tgt := 100) hx hb dX9_points_96 (by decide) ?_
      exact gw_iret C I hr dX9_points_100 hf
  · have hf := giff hq hf
    refine gw_aload_n hx hb dX9_points_11 rfl (lv_at hl 0 rfl) ?_
    refine lv_iload hx hb dX9_points_12 (lv_at hl 3 rfl) ?_
    refine gw_callV (rest := []) C I hl.1 gcls_8 (m_X9_byteAt G l x0 x4) gl_RX9_151 gn_X9_byteAt ⟨Nat.le_of_ble_eq_true rfl, Nat.le_of_ble_eq_true rfl⟩ rfl (gc4 (Nat.le_of_ble_eq_true rfl)) rfl dX9_points_14 hf (fun v1 σ H locs cells slots I hf => ?_)
    refine W.eq (g2 := F0 m 17 ls [.int v1]) rfl ?_
    refine lv_bipush (v := 46) hx hb dX9_points_17 kc_b_46 ?_
    refine lv_icmp_ne (tgt := 28) hx hb dX9_points_19 (by decide) (fun hq => ?_) (fun hq => ?_)
    · have hf := giff hq hf
      refine lv_iload hx hb dX9_points_28 (lv_at hl 3 rfl) ?_
      refine lv_iconst (v := 2) hx hb dX9_points_30 kc_i_2 ?_
      refine lv_iadd hx hb dX9_points_31 ?_
      refine lv_iload_n hx hb dX9_points_32 rfl (lv_at hl 1 rfl) ?_
      refine lv_icmp_ge (tgt := 82) hx hb dX9_points_33 (by decide) (fun hq => ?_) (fun hq => ?_)
      · have hf := gift hq hf
        refine lv_iconst (v := 0) hx hb dX9_points_82 kc_i_0 ?_
        exact gw_iret C I hr dX9_points_83 hf
      · have hf := giff hq hf
        refine gw_aload_n hx hb dX9_points_36 rfl (lv_at hl 0 rfl) ?_
        refine lv_iload hx hb dX9_points_37 (lv_at hl 3 rfl) ?_
        refine gw_callV (rest := []) C I hl.1 gcls_8 (m_X9_byteAt G l x0 x4) gl_RX9_151 gn_X9_byteAt ⟨Nat.le_of_ble_eq_true rfl, Nat.le_of_ble_eq_true rfl⟩ rfl (gc4 (Nat.le_of_ble_eq_true rfl)) rfl dX9_points_39 hf (fun v2 σ H locs cells slots I hf => ?_)
        refine W.eq (g2 := F0 m 42 ls [.int v2]) rfl ?_
        refine lv_bipush (v := 37) hx hb dX9_points_42 kc_b_37 ?_
        refine lv_icmp_ne (tgt := 82) hx hb dX9_points_44 (by decide) (fun hq => ?_) (fun hq => ?_)
        · have hf := giff hq hf
          refine lv_iconst (v := 0) hx hb dX9_points_82 kc_i_0 ?_
          exact gw_iret C I hr dX9_points_83 hf
        · have hf := gift hq hf
          refine gw_aload_n hx hb dX9_points_47 rfl (lv_at hl 0 rfl) ?_
          refine lv_iload hx hb dX9_points_48 (lv_at hl 3 rfl) ?_
          refine lv_iconst (v := 1) hx hb dX9_points_50 kc_i_1 ?_
          refine lv_iadd hx hb dX9_points_51 ?_
          refine gw_callV (rest := []) C I hl.1 gcls_8 (m_X9_byteAt G l x0 (x4 + 1)) gl_RX9_151 gn_X9_byteAt ⟨Nat.le_of_ble_eq_true rfl, Nat.le_of_ble_eq_true rfl⟩ rfl (gc4 (Nat.le_of_ble_eq_true rfl)) rfl dX9_points_52 hf (fun v3 σ H locs cells slots I hf => ?_)
          refine W.eq (g2 := F0 m 55 ls [.int v3]) rfl ?_
          refine lv_bipush (v := 50) hx hb dX9_points_55 kc_b_50 ?_
          refine lv_icmp_ne (tgt := 82) hx hb dX9_points_57 (by decide) (fun hq => ?_) (fun hq => ?_)
          · have hf := giff hq hf
            refine lv_iconst (v := 0) hx hb dX9_points_82 kc_i_0 ?_
            exact gw_iret C I hr dX9_points_83 hf
          · have hf := gift hq hf
            refine gw_aload_n hx hb dX9_points_60 rfl (lv_at hl 0 rfl) ?_
            refine lv_iload hx hb dX9_points_61 (lv_at hl 3 rfl) ?_
            refine lv_iconst (v := 2) hx hb dX9_points_63 kc_i_2 ?_
            refine lv_iadd hx hb dX9_points_64 ?_
            refine gw_callV (rest := []) C I hl.1 gcls_8 (m_X9_byteAt G l x0 (x4 + 2)) gl_RX9_151 gn_X9_byteAt ⟨Nat.le_of_ble_eq_true rfl, Nat.le_of_ble_eq_true rfl⟩ rfl (gc4 (Nat.le_of_ble_eq_true rfl)) rfl dX9_points_65 hf (fun v4 σ H locs cells slots I hf => ?_)
            refine W.eq (g2 := F0 m 68 ls [.int v4]) rfl ?_
            refine gw_callS (rest := []) C I hl.1 (m_X9_low G l v4) gl_RX9_99 kw_194 ⟨Nat.le_of_ble_eq_true rfl, Nat.le_of_ble_eq_true rfl⟩ rfl (gc4 (Nat.le_of_ble_eq_true rfl)) rfl dX9_points_68 hf (fun v5 σ H locs cells slots I hf => ?_)
            refine W.eq (g2 := F0 m 71 ls [.int v5]) rfl ?_
            refine lv_bipush (v := 101) hx hb dX9_points_71 kc_b_101 ?_
            refine lv_icmp_ne (tgt := 82) hx hb dX9_points_73 (by decide) (fun hq => ?_) (fun hq => ?_)
            · have hf := giff hq hf
              refine lv_iconst (v := 0) hx hb dX9_points_82 kc_i_0 ?_
              exact gw_iret C I hr dX9_points_83 hf
            · have hf := gift hq hf
              refine lv_iinc (v := x4 + 3) (lv' := [(4, .int (x4 + 3)), (0, va_rf x0), (2, .int x2), (3, .int x3)]) hx hb dX9_points_76 hl (k := 3) rfl rfl (by decide) rfl (fun ls hl => ?_)
              refine lv_goto (tgt := 84) hx hb dX9_points_79 (by decide) ?_
              refine lv_iinc (v := x3 + 1) (lv' := [(3, .int (x3 + 1)), (4, .int (x4 + 3)), (0, va_rf x0), (2, .int x2)]) hx hb dX9_points_84 hl (k := 3) rfl rfl (by decide) rfl (fun ls hl => ?_)
              refine lv_goto (tgt := 5) hx hb dX9_points_87 (by decide) ?_
              exact hrec5 x0 x2 (x3 + 1) (x4 + 3) _ _ _ _ _ _ hf I (lv_sub hl [2, 3, 0, 1] rfl)
    · have hf := gift hq hf
      refine lv_iinc (v := x4 + 1) (lv' := [(4, .int (x4 + 1)), (0, va_rf x0), (2, .int x2), (3, .int x3)]) hx hb dX9_points_22 hl (k := 3) rfl rfl (by decide) rfl (fun ls hl => ?_)
      refine lv_goto (tgt := 84) hx hb dX9_points_25 (by decide) ?_
      refine lv_iinc (v := x3 + 1) (lv' := [(3, .int (x3 + 1)), (4, .int (x4 + 1)), (0, va_rf x0), (2, .int x2)]) hx hb dX9_points_84 hl (k := 3) rfl rfl (by decide) rfl (fun ls hl => ?_)
      refine lv_goto (tgt := 5) hx hb dX9_points_87 (by decide) ?_
      exact hrec5 x0 x2 (x3 + 1) (x4 + 1) _ _ _ _ _ _ hf I (lv_sub hl [2, 3, 0, 1] rfl)
theorem w_X9_points_L5 (C : gC G p s m args meth c cX9_points 5 RX9) (hr : meth.sig.returnType = (some .int))  : ∀ (n : Nat) (x0 : Option Nat) (x2 : Int32) (x3 : Int32) (x4 : Int32), gJ G p l e 2 42 mc ms s m args below meth c gri y 5 5 [(0, va_rf x0), (2, .int x2), (3, .int x3), (4, .int x4)] [] (f_X9_points_L5  n x0 x2 x3 x4) := by
  intro n
  induction n with
  | zero => intro x0 x2 x3 x4 σ H locs cells slots ls hf; exact (gno_some hf).elim
  | succ n ih => intro x0 x2 x3 x4; exact w_X9_points_5 C hr  ih x0 x2 x3 x4
set_option maxHeartbeats 4000000 in
set_option maxRecDepth 100000 in
theorem w_X9_points_0 (C : gC G p s m args meth c cX9_points 5 RX9) (hr : meth.sig.returnType = (some .int))  (a0 : Option Nat) (a1 : Int32) (a2 : Int32) : gJ G p l e 2 42 mc ms s m args below meth c gri y 5 0 [(0, va_rf a0), (1, .int a1), (2, .int a2)] [] (f_X9_points  a0 a1 a2) := by
  have hx := C.1
  have hb := C.2.1
  intro σ H locs cells slots ls hf I hl
  unfold f_X9_points at hf
  refine lv_iconst (v := 0) hx hb dX9_points_0 kc_i_0 ?_
  refine lv_istore_n (lv' := [(3, .int 0), (0, va_rf a0), (1, .int a1), (2, .int a2)]) hx hb dX9_points_1 rfl hl (by decide) rfl (fun ls hl => ?_)
  refine lv_iload_n hx hb dX9_points_2 rfl (lv_at hl 2 rfl) ?_
  refine lv_istore (lv' := [(4, .int a1), (3, .int 0), (0, va_rf a0), (1, .int a1), (2, .int a2)]) hx hb dX9_points_3 hl (by decide) rfl (fun ls hl => ?_)
  exact w_X9_points_L5 C hr  _ a0 a2 0 a1 _ _ _ _ _ _ hf I (lv_sub hl [2, 4, 1, 0] rfl)
end S_X9_points
theorem m_X9_points (G : gX) (l : Launch) (a0 : Option Nat) (a1 : Int32) (a2 : Int32) : gMet G l yX9_points cX9_points 5 (some .int) 2 42 [va_rf a0, .int a1, .int a2] gri (f_X9_points a0 a1 a2) := by
  refine gMet_of (by decide) ?_
  intro σ y p e s m below meth c mc ms hf C hr hnm I
  obtain ⟨ls, e1, hl⟩ := gentry m [va_rf a0, .int a1, .int a2] 5 [(0, va_rf a0), (1, .int a1), (2, .int a2)] (by simp [lg_sl, grc, gcat_i, gcat_l]) (by simp [lv_args, grc, gcat_i, gcat_l])
  rw [e1]
  exact w_X9_points_0 C hr a0 a1 a2 _ _ _ _ _ _ hf I hl
def f_X9_dropSegment_40  (x0 : Option Nat) (x1 : Int32) (x2 : Int32) : gM Unit := gb (rR 8 10 x0) fun v1 => gb (sI 1 v1 x1 (if 0 < x2 - 1 then x2 - 1 else 0)) fun _ => gp ()
def f_X9_dropSegment_10 (rec10 : Option Nat → Int32 → Int32 → gM Unit) (x0 : Option Nat) (x1 : Int32) (x2 : Int32) : gM Unit := if x2 ≤ 0 then (f_X9_dropSegment_40  x0 x1 x2) else (gb (rR 8 9 x0) fun v1 => gb (nn 8 x0) fun _ => gb (f_X9_row x0 4 3) fun v2 => gb (aI 0 v1 ((v2 + x2) - 1)) fun v3 => if v3 = 47 then (f_X9_dropSegment_40  x0 x1 x2) else (rec10 x0 x1 (x2 + (-1))))
def f_X9_dropSegment_L10  : Nat → Option Nat → Int32 → Int32 → gM Unit
  | 0, _, _, _ => gno
  | n + 1, x0, x1, x2 => f_X9_dropSegment_10  (f_X9_dropSegment_L10  n) x0 x1 x2
def f_X9_dropSegment  (a0 : Option Nat) : gM Unit := gb (rR 8 10 a0) fun v1 => gb (aI 1 v1 27) fun v2 => f_X9_dropSegment_L10  gF a0 27 v2
section S_X9_dropSegment
variable {G : gX} {p : Program} {l : Launch} {e : Env} {s : State} {m : MethodId} {args : Array Value} {below : List Frame} {meth : Method} {c : Code} {mc ms : Nat} {y : Unit × gS}
set_option maxHeartbeats 4000000 in
set_option maxRecDepth 100000 in
theorem w_X9_dropSegment_40 (C : gC G p s m args meth c cX9_dropSegment 3 RX9) (hr : meth.sig.returnType = none)  (x0 : Option Nat) (x1 : Int32) (x2 : Int32) : gJ G p l e 1 22 mc ms s m args below meth c grv y 3 40 [(0, va_rf x0), (1, .int x1), (2, .int x2)] [] (f_X9_dropSegment_40  x0 x1 x2) := by
  have hx := C.1
  have hb := C.2.1
  intro σ H locs cells slots ls hf I hl
  unfold f_X9_dropSegment_40 at hf
  refine gw_aload_n hx hb dX9_dropSegment_40 rfl (lv_at hl 0 rfl) ?_
  refine gw_getr (k := 10) C I gcls_8 (by decide) rfl kw_175 dX9_dropSegment_41 hf (fun v1 hf => ?_)
  refine lv_iload_n hx hb dX9_dropSegment_44 rfl (lv_at hl 1 rfl) ?_
  refine lv_iconst (v := 0) hx hb dX9_dropSegment_45 kc_i_0 ?_
  refine lv_iload_n hx hb dX9_dropSegment_46 rfl (lv_at hl 2 rfl) ?_
  refine lv_iconst (v := 1) hx hb dX9_dropSegment_47 kc_i_1 ?_
  refine lv_isub hx hb dX9_dropSegment_48 ?_
  refine gw_mmax (rest := [.int x1, va_rf v1]) C I hl.1 ⟨kw_216, kw_118, kw_92, kw_119⟩ ⟨Nat.le_of_ble_eq_true rfl, Nat.le_of_ble_eq_true rfl⟩ (gc4 (Nat.le_of_ble_eq_true rfl)) dX9_dropSegment_49 hf ?_
  refine gw_iast C I dX9_dropSegment_52 hf (fun σ H locs I hf => ?_)
  exact gw_vret C I hr dX9_dropSegment_53 hf
set_option maxHeartbeats 4000000 in
set_option maxRecDepth 100000 in
theorem w_X9_dropSegment_10 (C : gC G p s m args meth c cX9_dropSegment 3 RX9) (hr : meth.sig.returnType = none) {rec10 : Option Nat → Int32 → Int32 → gM Unit} (hrec10 : ∀ (x0 : Option Nat) (x1 : Int32) (x2 : Int32), gJ G p l e 1 22 mc ms s m args below meth c grv y 3 10 [(0, va_rf x0), (1, .int x1), (2, .int x2)] [] (rec10 x0 x1 x2)) (x0 : Option Nat) (x1 : Int32) (x2 : Int32) : gJ G p l e 1 22 mc ms s m args below meth c grv y 3 10 [(0, va_rf x0), (1, .int x1), (2, .int x2)] [] (f_X9_dropSegment_10 rec10 x0 x1 x2) := by
  have hx := C.1
  have hb := C.2.1
  intro σ H locs cells slots ls hf I hl
  unfold f_X9_dropSegment_10 at hf
  refine lv_iload_n hx hb dX9_dropSegment_10 rfl (lv_at hl 2 rfl) ?_
  refine lv_if_le (tgt := 40) hx hb dX9_dropSegment_11 (by decide) (fun hq => ?_) (fun hq => ?_)
  · have hf := gift hq hf
    exact w_X9_dropSegment_40 C hr  x0 x1 x2 _ _ _ _ _ _ hf I (lv_sub hl [0, 1, 2] rfl)
  · have hf := giff hq hf
    refine gw_aload_n hx hb dX9_dropSegment_14 rfl (lv_at hl 0 rfl) ?_
    refine gw_getr (k := 9) C I gcls_8 (by decide) rfl kw_174 dX9_dropSegment_15 hf (fun v1 hf => ?_)
    refine gw_aload_n hx hb dX9_dropSegment_18 rfl (lv_at hl 0 rfl) ?_
    refine lv_iconst (v := 4) hx hb dX9_dropSegment_19 kc_i_4 ?_
    refine lv_iconst (v := 3) hx hb dX9_dropSegment_20 kc_i_3 ?_
    refine gw_callV (rest := [va_rf v1]) C I hl.1 gcls_8 (m_X9_row G l x0 4 3) gl_RX9_111 gn_X9_row ⟨Nat.le_of_ble_eq_true rfl, Nat.le_of_ble_eq_true rfl⟩ rfl (gc4 (Nat.le_of_ble_eq_true rfl)) rfl dX9_dropSegment_21 hf (fun v2 σ H locs cells slots I hf => ?_)
    refine W.eq (g2 := F0 m 24 ls [.int v2, va_rf v1]) rfl ?_
    refine lv_iload_n hx hb dX9_dropSegment_24 rfl (lv_at hl 2 rfl) ?_
    refine lv_iadd hx hb dX9_dropSegment_25 ?_
    refine lv_iconst (v := 1) hx hb dX9_dropSegment_26 kc_i_1 ?_
    refine lv_isub hx hb dX9_dropSegment_27 ?_
    refine gw_bald C I dX9_dropSegment_28 hf (fun v3 hf => ?_)
    refine lv_bipush (v := 47) hx hb dX9_dropSegment_29 kc_b_47 ?_
    refine lv_icmp_eq (tgt := 40) hx hb dX9_dropSegment_31 (by decide) (fun hq => ?_) (fun hq => ?_)
    · have hf := gift hq hf
      exact w_X9_dropSegment_40 C hr  x0 x1 x2 _ _ _ _ _ _ hf I (lv_sub hl [0, 1, 2] rfl)
    · have hf := giff hq hf
      refine lv_iinc (v := x2 + (-1)) (lv' := [(2, .int (x2 + (-1))), (0, va_rf x0), (1, .int x1)]) hx hb dX9_dropSegment_34 hl (k := 2) rfl rfl (by decide) rfl (fun ls hl => ?_)
      refine lv_goto (tgt := 10) hx hb dX9_dropSegment_37 (by decide) ?_
      exact hrec10 x0 x1 (x2 + (-1)) _ _ _ _ _ _ hf I (lv_sub hl [1, 2, 0] rfl)
theorem w_X9_dropSegment_L10 (C : gC G p s m args meth c cX9_dropSegment 3 RX9) (hr : meth.sig.returnType = none)  : ∀ (n : Nat) (x0 : Option Nat) (x1 : Int32) (x2 : Int32), gJ G p l e 1 22 mc ms s m args below meth c grv y 3 10 [(0, va_rf x0), (1, .int x1), (2, .int x2)] [] (f_X9_dropSegment_L10  n x0 x1 x2) := by
  intro n
  induction n with
  | zero => intro x0 x1 x2 σ H locs cells slots ls hf; exact (gno_some hf).elim
  | succ n ih => intro x0 x1 x2; exact w_X9_dropSegment_10 C hr  ih x0 x1 x2
set_option maxHeartbeats 4000000 in
set_option maxRecDepth 100000 in
theorem w_X9_dropSegment_0 (C : gC G p s m args meth c cX9_dropSegment 3 RX9) (hr : meth.sig.returnType = none)  (a0 : Option Nat) : gJ G p l e 1 22 mc ms s m args below meth c grv y 3 0 [(0, va_rf a0)] [] (f_X9_dropSegment  a0) := by
  have hx := C.1
  have hb := C.2.1
  intro σ H locs cells slots ls hf I hl
  unfold f_X9_dropSegment at hf
  refine lv_bipush (v := 27) hx hb dX9_dropSegment_0 kc_b_27 ?_
  refine lv_istore_n (lv' := [(1, .int 27), (0, va_rf a0)]) hx hb dX9_dropSegment_2 rfl hl (by decide) (by cases a0 <;> rfl) (fun ls hl => ?_)
  refine gw_aload_n hx hb dX9_dropSegment_3 rfl (lv_at hl 1 rfl) ?_
  refine gw_getr (k := 10) C I gcls_8 (by decide) rfl kw_175 dX9_dropSegment_4 hf (fun v1 hf => ?_)
  refine lv_iload_n hx hb dX9_dropSegment_7 rfl (lv_at hl 0 rfl) ?_
  refine gw_iald C I dX9_dropSegment_8 hf (fun v2 hf => ?_)
  refine lv_istore_n (lv' := [(2, .int v2), (1, .int 27), (0, va_rf a0)]) hx hb dX9_dropSegment_9 rfl hl (by decide) rfl (fun ls hl => ?_)
  exact w_X9_dropSegment_L10 C hr  _ a0 27 v2 _ _ _ _ _ _ hf I (lv_sub hl [2, 1, 0] rfl)
end S_X9_dropSegment
theorem m_X9_dropSegment (G : gX) (l : Launch) (a0 : Option Nat) : gMet G l yX9_dropSegment cX9_dropSegment 3 none 1 22 [va_rf a0] grv (f_X9_dropSegment a0) := by
  refine gMet_of (by decide) ?_
  intro σ y p e s m below meth c mc ms hf C hr hnm I
  obtain ⟨ls, e1, hl⟩ := gentry m [va_rf a0] 3 [(0, va_rf a0)] (by simp [lg_sl, grc, gcat_i, gcat_l]) (by simp [lv_args, grc, gcat_i, gcat_l])
  rw [e1]
  exact w_X9_dropSegment_0 C hr a0 _ _ _ _ _ _ hf I hl
def f_X9_readTail_77 (rec77 : Option Nat → Int32 → gM Unit) (x0 : Option Nat) (x2 : Int32) : gM Unit := gb (nn 8 x0) fun _ => gb (f_X9_byteAt x0 x2) fun v1 => if v1 < 0 then (gp ()) else (gb (nn 8 x0) fun _ => gb (f_X9_byteAt x0 x2) fun v2 => gb (nn 8 x0) fun _ => gb (f_X9_addEscaped x0 5 v2 0) fun _ => rec77 x0 (x2 + 1))
def f_X9_readTail_L77  : Nat → Option Nat → Int32 → gM Unit
  | 0, _, _ => gno
  | n + 1, x0, x2 => f_X9_readTail_77  (f_X9_readTail_L77  n) x0 x2
def f_X9_readTail_57  (x0 : Option Nat) (x2 : Int32) : gM Unit := gb (nn 8 x0) fun _ => gb (f_X9_byteAt x0 x2) fun v1 => if v1 = 35 then (gb (rR 8 8 x0) fun v2 => gb (sI 2 v2 4 1) fun _ => f_X9_readTail_L77  gF x0 (x2 + 1)) else (gp ())
def f_X9_readTail_22 (rec22 : Option Nat → Int32 → gM Unit) (x0 : Option Nat) (x2 : Int32) : gM Unit := gb (nn 8 x0) fun _ => gb (f_X9_byteAt x0 x2) fun v1 => if v1 < 0 then (f_X9_readTail_57  x0 x2) else (gb (nn 8 x0) fun _ => gb (f_X9_byteAt x0 x2) fun v2 => if v2 = 35 then (f_X9_readTail_57  x0 x2) else (gb (nn 8 x0) fun _ => gb (f_X9_byteAt x0 x2) fun v3 => gb (nn 8 x0) fun _ => gb (f_X9_addEscaped x0 4 v3 1) fun _ => rec22 x0 (x2 + 1)))
def f_X9_readTail_L22  : Nat → Option Nat → Int32 → gM Unit
  | 0, _, _ => gno
  | n + 1, x0, x2 => f_X9_readTail_22  (f_X9_readTail_L22  n) x0 x2
def f_X9_readTail  (a0 : Option Nat) (a1 : Int32) : gM Unit := gb (nn 8 a0) fun _ => gb (f_X9_byteAt a0 a1) fun v1 => if v1 = 63 then (gb (rR 8 7 a0) fun v2 => gb (sI 2 v2 4 1) fun _ => f_X9_readTail_L22  gF a0 (a1 + 1)) else (f_X9_readTail_57  a0 a1)
section S_X9_readTail
variable {G : gX} {p : Program} {l : Launch} {e : Env} {s : State} {m : MethodId} {args : Array Value} {below : List Frame} {meth : Method} {c : Code} {mc ms : Nat} {y : Unit × gS}
set_option maxHeartbeats 4000000 in
set_option maxRecDepth 100000 in
theorem w_X9_readTail_77 (C : gC G p s m args meth c cX9_readTail 3 RX9) (hr : meth.sig.returnType = none) {rec77 : Option Nat → Int32 → gM Unit} (hrec77 : ∀ (x0 : Option Nat) (x2 : Int32), gJ G p l e 2 46 mc ms s m args below meth c grv y 3 77 [(0, va_rf x0), (2, .int x2)] [] (rec77 x0 x2)) (x0 : Option Nat) (x2 : Int32) : gJ G p l e 2 46 mc ms s m args below meth c grv y 3 77 [(0, va_rf x0), (2, .int x2)] [] (f_X9_readTail_77 rec77 x0 x2) := by
  have hx := C.1
  have hb := C.2.1
  intro σ H locs cells slots ls hf I hl
  unfold f_X9_readTail_77 at hf
  refine gw_aload_n hx hb dX9_readTail_77 rfl (lv_at hl 0 rfl) ?_
  refine lv_iload_n hx hb dX9_readTail_78 rfl (lv_at hl 1 rfl) ?_
  refine gw_callV (rest := []) C I hl.1 gcls_8 (m_X9_byteAt G l x0 x2) gl_RX9_151 gn_X9_byteAt ⟨Nat.le_of_ble_eq_true rfl, Nat.le_of_ble_eq_true rfl⟩ rfl (gc4 (Nat.le_of_ble_eq_true rfl)) rfl dX9_readTail_79 hf (fun v1 σ H locs cells slots I hf => ?_)
  refine W.eq (g2 := F0 m 82 ls [.int v1]) rfl ?_
  refine lv_if_lt (tgt := 102) hx hb dX9_readTail_82 (by decide) (fun hq => ?_) (fun hq => ?_)
  · have hf := gift hq hf
    exact gw_vret C I hr dX9_readTail_102 hf
  · have hf := giff hq hf
    refine gw_aload_n hx hb dX9_readTail_85 rfl (lv_at hl 0 rfl) ?_
    refine lv_iconst (v := 5) hx hb dX9_readTail_86 kc_i_5 ?_
    refine gw_aload_n hx hb dX9_readTail_87 rfl (lv_at hl 0 rfl) ?_
    refine lv_iload_n hx hb dX9_readTail_88 rfl (lv_at hl 1 rfl) ?_
    refine gw_callV (rest := [.int 5, va_rf x0]) C I hl.1 gcls_8 (m_X9_byteAt G l x0 x2) gl_RX9_151 gn_X9_byteAt ⟨Nat.le_of_ble_eq_true rfl, Nat.le_of_ble_eq_true rfl⟩ rfl (gc4 (Nat.le_of_ble_eq_true rfl)) rfl dX9_readTail_89 hf (fun v2 σ H locs cells slots I hf => ?_)
    refine W.eq (g2 := F0 m 92 ls [.int v2, .int 5, va_rf x0]) rfl ?_
    refine lv_iconst (v := 0) hx hb dX9_readTail_92 kc_i_0 ?_
    refine gw_callV (rest := []) C I hl.1 gcls_8 (m_X9_addEscaped G l x0 5 v2 0) gl_RX9_208 gn_X9_addEscaped ⟨Nat.le_of_ble_eq_true rfl, Nat.le_of_ble_eq_true rfl⟩ rfl (gc4 (Nat.le_of_ble_eq_true rfl)) rfl dX9_readTail_93 hf (fun _ σ H locs cells slots I hf => ?_)
    refine W.eq (g2 := F0 m 96 ls []) rfl ?_
    refine lv_iinc (v := x2 + 1) (lv' := [(2, .int (x2 + 1)), (0, va_rf x0)]) hx hb dX9_readTail_96 hl (k := 1) rfl rfl (by decide) rfl (fun ls hl => ?_)
    refine lv_goto (tgt := 77) hx hb dX9_readTail_99 (by decide) ?_
    exact hrec77 x0 (x2 + 1) _ _ _ _ _ _ hf I (lv_sub hl [1, 0] rfl)
theorem w_X9_readTail_L77 (C : gC G p s m args meth c cX9_readTail 3 RX9) (hr : meth.sig.returnType = none)  : ∀ (n : Nat) (x0 : Option Nat) (x2 : Int32), gJ G p l e 2 46 mc ms s m args below meth c grv y 3 77 [(0, va_rf x0), (2, .int x2)] [] (f_X9_readTail_L77  n x0 x2) := by
  intro n
  induction n with
  | zero => intro x0 x2 σ H locs cells slots ls hf; exact (gno_some hf).elim
  | succ n ih => intro x0 x2; exact w_X9_readTail_77 C hr  ih x0 x2
set_option maxHeartbeats 4000000 in
set_option maxRecDepth 100000 in
theorem w_X9_readTail_57 (C : gC G p s m args meth c cX9_readTail 3 RX9) (hr : meth.sig.returnType = none)  (x0 : Option Nat) (x2 : Int32) : gJ G p l e 2 46 mc ms s m args below meth c grv y 3 57 [(0, va_rf x0), (2, .int x2)] [] (f_X9_readTail_57  x0 x2) := by
  have hx := C.1
  have hb := C.2.1
  intro σ H locs cells slots ls hf I hl
  unfold f_X9_readTail_57 at hf
  refine gw_aload_n hx hb dX9_readTail_57 rfl (lv_at hl 0 rfl) ?_
  refine lv_iload_n hx hb dX9_readTail_58 rfl (lv_at hl 1 rfl) ?_
  refine gw_callV (rest := []) C I hl.1 gcls_8 (m_X9_byteAt G l x0 x2) gl_RX9_151 gn_X9_byteAt ⟨Nat.le_of_ble_eq_true rfl, Nat.le_of_ble_eq_true rfl⟩ rfl (gc4 (Nat.le_of_ble_eq_true rfl)) rfl dX9_readTail_59 hf (fun v1 σ H locs cells slots I hf => ?_)
  refine W.eq (g2 := F0 m 62 ls [.int v1]) rfl ?_
  refine lv_bipush (v := 35) hx hb dX9_readTail_62 kc_b_35 ?_
  refine lv_icmp_ne (tgt := 102) hx hb dX9_readTail_64 (by decide) (fun hq => ?_) (fun hq => ?_)
  · have hf := giff hq hf
    exact gw_vret C I hr dX9_readTail_102 hf
  · have hf := gift hq hf
    refine gw_aload_n hx hb dX9_readTail_67 rfl (lv_at hl 0 rfl) ?_
    refine gw_getr (k := 8) C I gcls_8 (by decide) rfl kw_172 dX9_readTail_68 hf (fun v2 hf => ?_)
    refine lv_iconst (v := 4) hx hb dX9_readTail_71 kc_i_4 ?_
    refine lv_iconst (v := 1) hx hb dX9_readTail_72 kc_i_1 ?_
    refine gw_zast C I dX9_readTail_73 hf (fun σ H locs I hf => ?_)
    refine lv_iinc (v := x2 + 1) (lv' := [(2, .int (x2 + 1)), (0, va_rf x0)]) hx hb dX9_readTail_74 hl (k := 1) rfl rfl (by decide) rfl (fun ls hl => ?_)
    exact w_X9_readTail_L77 C hr  _ x0 (x2 + 1) _ _ _ _ _ _ hf I (lv_sub hl [1, 0] rfl)
set_option maxHeartbeats 4000000 in
set_option maxRecDepth 100000 in
theorem w_X9_readTail_22 (C : gC G p s m args meth c cX9_readTail 3 RX9) (hr : meth.sig.returnType = none) {rec22 : Option Nat → Int32 → gM Unit} (hrec22 : ∀ (x0 : Option Nat) (x2 : Int32), gJ G p l e 2 46 mc ms s m args below meth c grv y 3 22 [(0, va_rf x0), (2, .int x2)] [] (rec22 x0 x2)) (x0 : Option Nat) (x2 : Int32) : gJ G p l e 2 46 mc ms s m args below meth c grv y 3 22 [(0, va_rf x0), (2, .int x2)] [] (f_X9_readTail_22 rec22 x0 x2) := by
  have hx := C.1
  have hb := C.2.1
  intro σ H locs cells slots ls hf I hl
  unfold f_X9_readTail_22 at hf
  refine gw_aload_n hx hb dX9_readTail_22 rfl (lv_at hl 0 rfl) ?_
  refine lv_iload_n hx hb dX9_readTail_23 rfl (lv_at hl 1 rfl) ?_
  refine gw_callV (rest := []) C I hl.1 gcls_8 (m_X9_byteAt G l x0 x2) gl_RX9_151 gn_X9_byteAt ⟨Nat.le_of_ble_eq_true rfl, Nat.le_of_ble_eq_true rfl⟩ rfl (gc4 (Nat.le_of_ble_eq_true rfl)) rfl dX9_readTail_24 hf (fun v1 σ H locs cells slots I hf => ?_)
  refine W.eq (g2 := F0 m 27 ls [.int v1]) rfl ?_
  refine lv_if_lt (tgt := 57) hx hb dX9_readTail_27 (by decide) (fun hq => ?_) (fun hq => ?_)
  · have hf := gift hq hf
    exact w_X9_readTail_57 C hr  x0 x2 _ _ _ _ _ _ hf I (lv_sub hl [0, 1] rfl)
  · have hf := giff hq hf
    refine gw_aload_n hx hb dX9_readTail_30 rfl (lv_at hl 0 rfl) ?_
    refine lv_iload_n hx hb dX9_readTail_31 rfl (lv_at hl 1 rfl) ?_
    refine gw_callV (rest := []) C I hl.1 gcls_8 (m_X9_byteAt G l x0 x2) gl_RX9_151 gn_X9_byteAt ⟨Nat.le_of_ble_eq_true rfl, Nat.le_of_ble_eq_true rfl⟩ rfl (gc4 (Nat.le_of_ble_eq_true rfl)) rfl dX9_readTail_32 hf (fun v2 σ H locs cells slots I hf => ?_)
    refine W.eq (g2 := F0 m 35 ls [.int v2]) rfl ?_
    refine lv_bipush (v := 35) hx hb dX9_readTail_35 kc_b_35 ?_
    refine lv_icmp_eq (tgt := 57) hx hb dX9_readTail_37 (by decide) (fun hq => ?_) (fun hq => ?_)
    · have hf := gift hq hf
      exact w_X9_readTail_57 C hr  x0 x2 _ _ _ _ _ _ hf I (lv_sub hl [0, 1] rfl)
    · have hf := giff hq hf
      refine gw_aload_n hx hb dX9_readTail_40 rfl (lv_at hl 0 rfl) ?_
      refine lv_iconst (v := 4) hx hb dX9_readTail_41 kc_i_4 ?_
      refine gw_aload_n hx hb dX9_readTail_42 rfl (lv_at hl 0 rfl) ?_
      refine lv_iload_n hx hb dX9_readTail_43 rfl (lv_at hl 1 rfl) ?_
      refine gw_callV (rest := [.int 4, va_rf x0]) C I hl.1 gcls_8 (m_X9_byteAt G l x0 x2) gl_RX9_151 gn_X9_byteAt ⟨Nat.le_of_ble_eq_true rfl, Nat.le_of_ble_eq_true rfl⟩ rfl (gc4 (Nat.le_of_ble_eq_true rfl)) rfl dX9_readTail_44 hf (fun v3 σ H locs cells slots I hf => ?_)
      refine W.eq (g2 := F0 m 47 ls [.int v3, .int 4, va_rf x0]) rfl ?_
      refine lv_iconst (v := 1) hx hb dX9_readTail_47 kc_i_1 ?_
      refine gw_callV (rest := []) C I hl.1 gcls_8 (m_X9_addEscaped G l x0 4 v3 1) gl_RX9_208 gn_X9_addEscaped ⟨Nat.le_of_ble_eq_true rfl, Nat.le_of_ble_eq_true rfl⟩ rfl (gc4 (Nat.le_of_ble_eq_true rfl)) rfl dX9_readTail_48 hf (fun _ σ H locs cells slots I hf => ?_)
      refine W.eq (g2 := F0 m 51 ls []) rfl ?_
      refine lv_iinc (v := x2 + 1) (lv' := [(2, .int (x2 + 1)), (0, va_rf x0)]) hx hb dX9_readTail_51 hl (k := 1) rfl rfl (by decide) rfl (fun ls hl => ?_)
      refine lv_goto (tgt := 22) hx hb dX9_readTail_54 (by decide) ?_
      exact hrec22 x0 (x2 + 1) _ _ _ _ _ _ hf I (lv_sub hl [1, 0] rfl)
theorem w_X9_readTail_L22 (C : gC G p s m args meth c cX9_readTail 3 RX9) (hr : meth.sig.returnType = none)  : ∀ (n : Nat) (x0 : Option Nat) (x2 : Int32), gJ G p l e 2 46 mc ms s m args below meth c grv y 3 22 [(0, va_rf x0), (2, .int x2)] [] (f_X9_readTail_L22  n x0 x2) := by
  intro n
  induction n with
  | zero => intro x0 x2 σ H locs cells slots ls hf; exact (gno_some hf).elim
  | succ n ih => intro x0 x2; exact w_X9_readTail_22 C hr  ih x0 x2
set_option maxHeartbeats 4000000 in
set_option maxRecDepth 100000 in
theorem w_X9_readTail_0 (C : gC G p s m args meth c cX9_readTail 3 RX9) (hr : meth.sig.returnType = none)  (a0 : Option Nat) (a1 : Int32) : gJ G p l e 2 46 mc ms s m args below meth c grv y 3 0 [(0, va_rf a0), (1, .int a1)] [] (f_X9_readTail  a0 a1) := by
  have hx := C.1
  have hb := C.2.1
  intro σ H locs cells slots ls hf I hl
  unfold f_X9_readTail at hf
  refine lv_iload_n hx hb dX9_readTail_0 rfl (lv_at hl 1 rfl) ?_
  refine lv_istore_n (lv' := [(2, .int a1), (0, va_rf a0), (1, .int a1)]) hx hb dX9_readTail_1 rfl hl (by decide) rfl (fun ls hl => ?_)
  refine gw_aload_n hx hb dX9_readTail_2 rfl (lv_at hl 1 rfl) ?_
  refine lv_iload_n hx hb dX9_readTail_3 rfl (lv_at hl 0 rfl) ?_
  refine gw_callV (rest := []) C I hl.1 gcls_8 (m_X9_byteAt G l a0 a1) gl_RX9_151 gn_X9_byteAt ⟨Nat.le_of_ble_eq_true rfl, Nat.le_of_ble_eq_true rfl⟩ rfl (gc4 (Nat.le_of_ble_eq_true rfl)) rfl dX9_readTail_4 hf (fun v1 σ H locs cells slots I hf => ?_)
  refine W.eq (g2 := F0 m 7 ls [.int v1]) rfl ?_
  refine lv_bipush (v := 63) hx hb dX9_readTail_7 kc_b_63 ?_
  refine lv_icmp_ne (tgt := 57) hx hb dX9_readTail_9 (by decide) (fun hq => ?_) (fun hq => ?_)
  · have hf := giff hq hf
    exact w_X9_readTail_57 C hr  a0 a1 _ _ _ _ _ _ hf I (lv_sub hl [1, 0] rfl)
  · have hf := gift hq hf
    refine gw_aload_n hx hb dX9_readTail_12 rfl (lv_at hl 1 rfl) ?_
    refine gw_getr (k := 7) C I gcls_8 (by decide) rfl kw_171 dX9_readTail_13 hf (fun v2 hf => ?_)
    refine lv_iconst (v := 4) hx hb dX9_readTail_16 kc_i_4 ?_
    refine lv_iconst (v := 1) hx hb dX9_readTail_17 kc_i_1 ?_
    refine gw_zast C I dX9_readTail_18 hf (fun σ H locs I hf => ?_)
    refine lv_iinc (v := a1 + 1) (lv' := [(2, .int (a1 + 1)), (0, va_rf a0), (1, .int a1)]) hx hb dX9_readTail_19 hl (k := 0) rfl rfl (by decide) rfl (fun ls hl => ?_)
    exact w_X9_readTail_L22 C hr  _ a0 (a1 + 1) _ _ _ _ _ _ hf I (lv_sub hl [1, 0] rfl)
end S_X9_readTail
theorem m_X9_readTail (G : gX) (l : Launch) (a0 : Option Nat) (a1 : Int32) : gMet G l yX9_readTail cX9_readTail 3 none 2 46 [va_rf a0, .int a1] grv (f_X9_readTail a0 a1) := by
  refine gMet_of (by decide) ?_
  intro σ y p e s m below meth c mc ms hf C hr hnm I
  obtain ⟨ls, e1, hl⟩ := gentry m [va_rf a0, .int a1] 3 [(0, va_rf a0), (1, .int a1)] (by simp [lg_sl, grc, gcat_i, gcat_l]) (by simp [lv_args, grc, gcat_i, gcat_l])
  rw [e1]
  exact w_X9_readTail_0 C hr a0 a1 _ _ _ _ _ _ hf I hl
def f_X9_readPath_121 (rec21 : Option Nat → Int32 → Int32 → gM Unit) (x0 : Option Nat) (x3 : Int32) (x4 : Int32) : gM Unit := if x3 = 0 then (rec21 x0 x4 x3) else (rec21 x0 (x4 + 1) x3)
def f_X9_readPath_91 (rec21 : Option Nat → Int32 → Int32 → gM Unit) (rec91 : Option Nat → Int32 → Int32 → Int32 → Int32 → gM Unit) (x0 : Option Nat) (x3 : Int32) (x4 : Int32) (x5 : Int32) (x6 : Int32) : gM Unit := if x4 ≤ x6 then (f_X9_readPath_121 rec21 x0 x3 x4) else (if x5 = 0 then (gb (nn 8 x0) fun _ => gb (f_X9_byteAt x0 x6) fun v1 => gb (nn 8 x0) fun _ => gb (f_X9_addEscaped x0 3 v1 2) fun _ => rec91 x0 x3 x4 x5 (x6 + 1)) else (f_X9_readPath_121 rec21 x0 x3 x4))
def f_X9_readPath_L91 (rec21 : Option Nat → Int32 → Int32 → gM Unit) : Nat → Option Nat → Int32 → Int32 → Int32 → Int32 → gM Unit
  | 0, _, _, _, _, _ => gno
  | n + 1, x0, x3, x4, x5, x6 => f_X9_readPath_91 rec21 (f_X9_readPath_L91 rec21 n) x0 x3 x4 x5 x6
def f_X9_readPath_81 (rec21 : Option Nat → Int32 → Int32 → gM Unit) (x0 : Option Nat) (x2 : Int32) (x3 : Int32) (x4 : Int32) (x5 : Int32) : gM Unit := gb (nn 8 x0) fun _ => gb (f_X9_add x0 3 47) fun _ => f_X9_readPath_L91 rec21 gF x0 x3 x4 x5 x2
def f_X9_readPath_72 (rec21 : Option Nat → Int32 → Int32 → gM Unit) (x0 : Option Nat) (x2 : Int32) (x3 : Int32) (x4 : Int32) (x5 : Int32) : gM Unit := if x5 = 0 then (f_X9_readPath_81 rec21 x0 x2 x3 x4 x5) else (if x3 = 0 then (f_X9_readPath_81 rec21 x0 x2 x3 x4 x5) else (f_X9_readPath_L91 rec21 gF x0 x3 x4 x5 x2))
def f_X9_readPath_28 (rec21 : Option Nat → Int32 → Int32 → gM Unit) (rec28 : Option Nat → Int32 → Int32 → gM Unit) (x0 : Option Nat) (x2 : Int32) (x4 : Int32) : gM Unit := gb (nn 8 x0) fun _ => gb (f_X9_isOver x0 x4) fun v1 => if v1 = 0 then (rec28 x0 x2 (x4 + 1)) else (gb (nn 8 x0) fun _ => gb (f_X9_byteAt x0 x4) fun v2 => gb (f_X9_isSlash v2) fun v3 => gb (nn 8 x0) fun _ => gb (f_X9_points x0 x2 x4) fun v4 => if v4 = 2 then (gb (nn 8 x0) fun _ => gb (f_X9_dropSegment x0) fun _ => f_X9_readPath_72 rec21 x0 x2 v3 x4 v4) else (f_X9_readPath_72 rec21 x0 x2 v3 x4 v4))
def f_X9_readPath_L28 (rec21 : Option Nat → Int32 → Int32 → gM Unit) : Nat → Option Nat → Int32 → Int32 → gM Unit
  | 0, _, _, _ => gno
  | n + 1, x0, x2, x4 => f_X9_readPath_28 rec21 (f_X9_readPath_L28 rec21 n) x0 x2 x4
def f_X9_readPath_21 (rec21 : Option Nat → Int32 → Int32 → gM Unit) (x0 : Option Nat) (x2 : Int32) (x3 : Int32) : gM Unit := if x3 = 0 then (gb (nn 8 x0) fun _ => gb (f_X9_readTail x0 x2) fun _ => gp ()) else (f_X9_readPath_L28 rec21 gF x0 x2 x2)
def f_X9_readPath_L21  : Nat → Option Nat → Int32 → Int32 → gM Unit
  | 0, _, _, _ => gno
  | n + 1, x0, x2, x3 => f_X9_readPath_21  (f_X9_readPath_L21  n) x0 x2 x3
def f_X9_readPath  (a0 : Option Nat) (a1 : Int32) : gM Unit := gb (nn 8 a0) fun _ => gb (f_X9_byteAt a0 a1) fun v1 => gb (f_X9_isSlash v1) fun v2 => if v2 = 0 then (f_X9_readPath_L21  gF a0 a1 1) else (f_X9_readPath_L21  gF a0 (a1 + 1) 1)
section S_X9_readPath
variable {G : gX} {p : Program} {l : Launch} {e : Env} {s : State} {m : MethodId} {args : Array Value} {below : List Frame} {meth : Method} {c : Code} {mc ms : Nat} {y : Unit × gS}
set_option maxHeartbeats 4000000 in
set_option maxRecDepth 100000 in
theorem w_X9_readPath_121 (C : gC G p s m args meth c cX9_readPath 7 RX9) (hr : meth.sig.returnType = none) {rec21 : Option Nat → Int32 → Int32 → gM Unit} (hrec21 : ∀ (x0 : Option Nat) (x2 : Int32) (x3 : Int32), gJ G p l e 3 68 mc ms s m args below meth c grv y 7 21 [(0, va_rf x0), (2, .int x2), (3, .int x3)] [] (rec21 x0 x2 x3)) (x0 : Option Nat) (x3 : Int32) (x4 : Int32) : gJ G p l e 3 68 mc ms s m args below meth c grv y 7 121 [(0, va_rf x0), (3, .int x3), (4, .int x4)] [] (f_X9_readPath_121 rec21 x0 x3 x4) := by
  have hx := C.1
  have hb := C.2.1
  intro σ H locs cells slots ls hf I hl
  unfold f_X9_readPath_121 at hf
  refine lv_iload_n hx hb dX9_readPath_121 rfl (lv_at hl 1 rfl) ?_
  refine lv_if_eq (tgt := 132) hx hb dX9_readPath_122 (by decide) (fun hq => ?_) (fun hq => ?_)
  · have hf := gift hq hf
    refine lv_iload hx hb dX9_readPath_132 (lv_at hl 2 rfl) ?_
    refine lv_istore_n (lv' := [(2, .int x4), (0, va_rf x0), (3, .int x3), (4, .int x4)]) hx hb dX9_readPath_134 rfl hl (by decide) rfl (fun ls hl => ?_)
    refine lv_goto (tgt := 21) hx hb dX9_readPath_135 (by decide) ?_
    exact hrec21 x0 x4 x3 _ _ _ _ _ _ hf I (lv_sub hl [1, 0, 2] rfl)
  · have hf := giff hq hf
    refine lv_iload hx hb dX9_readPath_125 (lv_at hl 2 rfl) ?_
    refine lv_iconst (v := 1) hx hb dX9_readPath_127 kc_i_1 ?_
    refine lv_iadd hx hb dX9_readPath_128 ?_
    refine lv_goto (tgt := 134) hx hb dX9_readPath_129 (by decide) ?_
    refine lv_istore_n (lv' := [(2, .int (x4 + 1)), (0, va_rf x0), (3, .int x3), (4, .int x4)]) hx hb dX9_readPath_134 rfl hl (by decide) rfl (fun ls hl => ?_)
    refine lv_goto (tgt := 21) hx hb dX9_readPath_135 (by decide) ?_
    exact hrec21 x0 (x4 + 1) x3 _ _ _ _ _ _ hf I (lv_sub hl [1, 0, 2] rfl)
set_option maxHeartbeats 4000000 in
set_option maxRecDepth 100000 in
theorem w_X9_readPath_91 (C : gC G p s m args meth c cX9_readPath 7 RX9) (hr : meth.sig.returnType = none) {rec21 : Option Nat → Int32 → Int32 → gM Unit} (hrec21 : ∀ (x0 : Option Nat) (x2 : Int32) (x3 : Int32), gJ G p l e 3 68 mc ms s m args below meth c grv y 7 21 [(0, va_rf x0), (2, .int x2), (3, .int x3)] [] (rec21 x0 x2 x3)) {rec91 : Option Nat → Int32 → Int32 → Int32 → Int32 → gM Unit} (hrec91 : ∀ (x0 : Option Nat) (x3 : Int32) (x4 : Int32) (x5 : Int32) (x6 : Int32), gJ G p l e 3 68 mc ms s m args below meth c grv y 7 91 [(0, va_rf x0), (3, .int x3), (4, .int x4), (5, .int x5), (6, .int x6)] [] (rec91 x0 x3 x4 x5 x6)) (x0 : Option Nat) (x3 : Int32) (x4 : Int32) (x5 : Int32) (x6 : Int32) : gJ G p l e 3 68 mc ms s m args below meth c grv y 7 91 [(0, va_rf x0), (3, .int x3), (4, .int x4), (5, .int x5), (6, .int x6)] [] (f_X9_readPath_91 rec21 rec91 x0 x3 x4 x5 x6) := by
  have hx := C.1
  have hb := C.2.1
  intro σ H locs cells slots ls hf I hl
  unfold f_X9_readPath_91 at hf
  refine lv_iload hx hb dX9_readPath_91 (lv_at hl 4 rfl) ?_
  refine lv_iload hx hb dX9_readPath_93 (lv_at hl 2 rfl) ?_
  refine lv_icmp_ge (tgt := 121) hx hb dX9_readPath_95 (by decide) (fun hq => ?_) (fun hq => ?_)
  · have hf := gift hq hf
    exact w_X9_readPath_121 C hr hrec21 x0 x3 x4 _ _ _ _ _ _ hf I (lv_sub hl [0, 1, 2] rfl)
  · have hf := giff hq hf
    refine lv_iload hx hb dX9_readPath_98 (lv_at hl 3 rfl) ?_
    refine lv_if_ne (tgt := 121) hx hb dX9_readPath_100 (by decide) (fun hq => ?_) (fun hq => ?_)
    · have hf := giff hq hf
      exact w_X9_readPath_121 C hr hrec21 x0 x3 x4 _ _ _ _ _ _ hf I (lv_sub hl [0, 1, 2] rfl)
    · have hf := gift hq hf
      refine gw_aload_n hx hb dX9_readPath_103 rfl (lv_at hl 0 rfl) ?_
      refine lv_iconst (v := 3) hx hb dX9_readPath_104 kc_i_3 ?_
      refine gw_aload_n hx hb dX9_readPath_105 rfl (lv_at hl 0 rfl) ?_
      refine lv_iload hx hb dX9_readPath_106 (lv_at hl 4 rfl) ?_
      refine gw_callV (rest := [.int 3, va_rf x0]) C I hl.1 gcls_8 (m_X9_byteAt G l x0 x6) gl_RX9_151 gn_X9_byteAt ⟨Nat.le_of_ble_eq_true rfl, Nat.le_of_ble_eq_true rfl⟩ rfl (gc4 (Nat.le_of_ble_eq_true rfl)) rfl dX9_readPath_108 hf (fun v1 σ H locs cells slots I hf => ?_)
      refine W.eq (g2 := F0 m 111 ls [.int v1, .int 3, va_rf x0]) rfl ?_
      refine lv_iconst (v := 2) hx hb dX9_readPath_111 kc_i_2 ?_
      refine gw_callV (rest := []) C I hl.1 gcls_8 (m_X9_addEscaped G l x0 3 v1 2) gl_RX9_208 gn_X9_addEscaped ⟨Nat.le_of_ble_eq_true rfl, Nat.le_of_ble_eq_true rfl⟩ rfl (gc4 (Nat.le_of_ble_eq_true rfl)) rfl dX9_readPath_112 hf (fun _ σ H locs cells slots I hf => ?_)
      refine W.eq (g2 := F0 m 115 ls []) rfl ?_
      refine lv_iinc (v := x6 + 1) (lv' := [(6, .int (x6 + 1)), (0, va_rf x0), (3, .int x3), (4, .int x4), (5, .int x5)]) hx hb dX9_readPath_115 hl (k := 4) rfl rfl (by decide) rfl (fun ls hl => ?_)
      refine lv_goto (tgt := 91) hx hb dX9_readPath_118 (by decide) ?_
      exact hrec91 x0 x3 x4 x5 (x6 + 1) _ _ _ _ _ _ hf I (lv_sub hl [1, 2, 3, 4, 0] rfl)
theorem w_X9_readPath_L91 (C : gC G p s m args meth c cX9_readPath 7 RX9) (hr : meth.sig.returnType = none) {rec21 : Option Nat → Int32 → Int32 → gM Unit} (hrec21 : ∀ (x0 : Option Nat) (x2 : Int32) (x3 : Int32), gJ G p l e 3 68 mc ms s m args below meth c grv y 7 21 [(0, va_rf x0), (2, .int x2), (3, .int x3)] [] (rec21 x0 x2 x3)) : ∀ (n : Nat) (x0 : Option Nat) (x3 : Int32) (x4 : Int32) (x5 : Int32) (x6 : Int32), gJ G p l e 3 68 mc ms s m args below meth c grv y 7 91 [(0, va_rf x0), (3, .int x3), (4, .int x4), (5, .int x5), (6, .int x6)] [] (f_X9_readPath_L91 rec21 n x0 x3 x4 x5 x6) := by
  intro n
  induction n with
  | zero => intro x0 x3 x4 x5 x6 σ H locs cells slots ls hf; exact (gno_some hf).elim
  | succ n ih => intro x0 x3 x4 x5 x6; exact w_X9_readPath_91 C hr hrec21 ih x0 x3 x4 x5 x6
set_option maxHeartbeats 4000000 in
set_option maxRecDepth 100000 in
theorem w_X9_readPath_81 (C : gC G p s m args meth c cX9_readPath 7 RX9) (hr : meth.sig.returnType = none) {rec21 : Option Nat → Int32 → Int32 → gM Unit} (hrec21 : ∀ (x0 : Option Nat) (x2 : Int32) (x3 : Int32), gJ G p l e 3 68 mc ms s m args below meth c grv y 7 21 [(0, va_rf x0), (2, .int x2), (3, .int x3)] [] (rec21 x0 x2 x3)) (x0 : Option Nat) (x2 : Int32) (x3 : Int32) (x4 : Int32) (x5 : Int32) : gJ G p l e 3 68 mc ms s m args below meth c grv y 7 81 [(0, va_rf x0), (2, .int x2), (3, .int x3), (4, .int x4), (5, .int x5)] [] (f_X9_readPath_81 rec21 x0 x2 x3 x4 x5) := by
  have hx := C.1
  have hb := C.2.1
  intro σ H locs cells slots ls hf I hl
  unfold f_X9_readPath_81 at hf
  refine gw_aload_n hx hb dX9_readPath_81 rfl (lv_at hl 0 rfl) ?_
  refine lv_iconst (v := 3) hx hb dX9_readPath_82 kc_i_3 ?_
  refine lv_bipush (v := 47) hx hb dX9_readPath_83 kc_b_47 ?_
  refine gw_callV (rest := []) C I hl.1 gcls_8 (m_X9_add G l x0 3 47) gl_RX9_122 gn_X9_add ⟨Nat.le_of_ble_eq_true rfl, Nat.le_of_ble_eq_true rfl⟩ rfl (gc4 (Nat.le_of_ble_eq_true rfl)) rfl dX9_readPath_85 hf (fun _ σ H locs cells slots I hf => ?_)
  refine W.eq (g2 := F0 m 88 ls []) rfl ?_
  refine lv_iload_n hx hb dX9_readPath_88 rfl (lv_at hl 1 rfl) ?_
  refine lv_istore (lv' := [(6, .int x2), (0, va_rf x0), (2, .int x2), (3, .int x3), (4, .int x4), (5, .int x5)]) hx hb dX9_readPath_89 hl (by decide) rfl (fun ls hl => ?_)
  exact w_X9_readPath_L91 C hr hrec21 _ x0 x3 x4 x5 x2 _ _ _ _ _ _ hf I (lv_sub hl [1, 3, 4, 5, 0] rfl)
set_option maxHeartbeats 4000000 in
set_option maxRecDepth 100000 in
theorem w_X9_readPath_72 (C : gC G p s m args meth c cX9_readPath 7 RX9) (hr : meth.sig.returnType = none) {rec21 : Option Nat → Int32 → Int32 → gM Unit} (hrec21 : ∀ (x0 : Option Nat) (x2 : Int32) (x3 : Int32), gJ G p l e 3 68 mc ms s m args below meth c grv y 7 21 [(0, va_rf x0), (2, .int x2), (3, .int x3)] [] (rec21 x0 x2 x3)) (x0 : Option Nat) (x2 : Int32) (x3 : Int32) (x4 : Int32) (x5 : Int32) : gJ G p l e 3 68 mc ms s m args below meth c grv y 7 72 [(0, va_rf x0), (2, .int x2), (3, .int x3), (4, .int x4), (5, .int x5)] [] (f_X9_readPath_72 rec21 x0 x2 x3 x4 x5) := by
  have hx := C.1
  have hb := C.2.1
  intro σ H locs cells slots ls hf I hl
  unfold f_X9_readPath_72 at hf
  refine lv_iload hx hb dX9_readPath_72 (lv_at hl 4 rfl) ?_
  refine lv_if_eq (tgt := 81) hx hb dX9_readPath_74 (by decide) (fun hq => ?_) (fun hq => ?_)
  · have hf := gift hq hf
    exact w_X9_readPath_81 C hr hrec21 x0 x2 x3 x4 x5 _ _ _ _ _ _ hf I (lv_sub hl [0, 1, 2, 3, 4] rfl)
  · have hf := giff hq hf
    refine lv_iload_n hx hb dX9_readPath_77 rfl (lv_at hl 2 rfl) ?_
    refine lv_if_ne (tgt := 88) hx hb dX9_readPath_78 (by decide) (fun hq => ?_) (fun hq => ?_)
    · have hf := giff hq hf
      refine lv_iload_n hx hb dX9_readPath_88 rfl (lv_at hl 1 rfl) ?_
      refine lv_istore (lv' := [(6, .int x2), (0, va_rf x0), (2, .int x2), (3, .int x3), (4, .int x4), (5, .int x5)]) hx hb dX9_readPath_89 hl (by decide) rfl (fun ls hl => ?_)
      exact w_X9_readPath_L91 C hr hrec21 _ x0 x3 x4 x5 x2 _ _ _ _ _ _ hf I (lv_sub hl [1, 3, 4, 5, 0] rfl)
    · have hf := gift hq hf
      exact w_X9_readPath_81 C hr hrec21 x0 x2 x3 x4 x5 _ _ _ _ _ _ hf I (lv_sub hl [0, 1, 2, 3, 4] rfl)
set_option maxHeartbeats 4000000 in
set_option maxRecDepth 100000 in
theorem w_X9_readPath_28 (C : gC G p s m args meth c cX9_readPath 7 RX9) (hr : meth.sig.returnType = none) {rec21 : Option Nat → Int32 → Int32 → gM Unit} (hrec21 : ∀ (x0 : Option Nat) (x2 : Int32) (x3 : Int32), gJ G p l e 3 68 mc ms s m args below meth c grv y 7 21 [(0, va_rf x0), (2, .int x2), (3, .int x3)] [] (rec21 x0 x2 x3)) {rec28 : Option Nat → Int32 → Int32 → gM Unit} (hrec28 : ∀ (x0 : Option Nat) (x2 : Int32) (x4 : Int32), gJ G p l e 3 68 mc ms s m args below meth c grv y 7 28 [(0, va_rf x0), (2, .int x2), (4, .int x4)] [] (rec28 x0 x2 x4)) (x0 : Option Nat) (x2 : Int32) (x4 : Int32) : gJ G p l e 3 68 mc ms s m args below meth c grv y 7 28 [(0, va_rf x0), (2, .int x2), (4, .int x4)] [] (f_X9_readPath_28 rec21 rec28 x0 x2 x4) := by
  have hx := C.1
  have hb := C.2.1
  intro σ H locs cells slots ls hf I hl
  unfold f_X9_readPath_28 at hf
  refine gw_aload_n hx hb dX9_readPath_28 rfl (lv_at hl 0 rfl) ?_
  refine lv_iload hx hb dX9_readPath_29 (lv_at hl 2 rfl) ?_
  refine gw_callV (rest := []) C I hl.1 gcls_8 (m_X9_isOver G l x0 x4) gl_RX9_205 gn_X9_isOver ⟨Nat.le_of_ble_eq_true rfl, Nat.le_of_ble_eq_true rfl⟩ rfl (gc4 (Nat.le_of_ble_eq_true rfl)) rfl dX9_readPath_31 hf (fun v1 σ H locs cells slots I hf => ?_)
  refine W.eq (g2 := F0 m 34 ls [.int v1]) rfl ?_
  refine lv_if_ne (tgt := 43) hx hb dX9_readPath_34 (by decide) (fun hq => ?_) (fun hq => ?_)
  · have hf := giff hq hf
    refine gw_aload_n hx hb dX9_readPath_43 rfl (lv_at hl 0 rfl) ?_
    refine lv_iload hx hb dX9_readPath_44 (lv_at hl 2 rfl) ?_
    refine gw_callV (rest := []) C I hl.1 gcls_8 (m_X9_byteAt G l x0 x4) gl_RX9_151 gn_X9_byteAt ⟨Nat.le_of_ble_eq_true rfl, Nat.le_of_ble_eq_true rfl⟩ rfl (gc4 (Nat.le_of_ble_eq_true rfl)) rfl dX9_readPath_46 hf (fun v2 σ H locs cells slots I hf => ?_)
    refine W.eq (g2 := F0 m 49 ls [.int v2]) rfl ?_
    refine gw_callS (rest := []) C I hl.1 (m_X9_isSlash G l v2) gl_RX9_188 kw_201 ⟨Nat.le_of_ble_eq_true rfl, Nat.le_of_ble_eq_true rfl⟩ rfl (gc4 (Nat.le_of_ble_eq_true rfl)) rfl dX9_readPath_49 hf (fun v3 σ H locs cells slots I hf => ?_)
    refine W.eq (g2 := F0 m 52 ls [.int v3]) rfl ?_
    refine lv_istore_n (lv' := [(3, .int v3), (0, va_rf x0), (2, .int x2), (4, .int x4)]) hx hb dX9_readPath_52 rfl hl (by decide) rfl (fun ls hl => ?_)
    refine gw_aload_n hx hb dX9_readPath_53 rfl (lv_at hl 1 rfl) ?_
    refine lv_iload_n hx hb dX9_readPath_54 rfl (lv_at hl 2 rfl) ?_
    refine lv_iload hx hb dX9_readPath_55 (lv_at hl 3 rfl) ?_
    refine gw_callV (rest := []) C I hl.1 gcls_8 (m_X9_points G l x0 x2 x4) gl_RX9_231 gn_X9_points ⟨Nat.le_of_ble_eq_true rfl, Nat.le_of_ble_eq_true rfl⟩ rfl (gc4 (Nat.le_of_ble_eq_true rfl)) rfl dX9_readPath_57 hf (fun v4 σ H locs cells slots I hf => ?_)
    refine W.eq (g2 := F0 m 60 ls [.int v4]) rfl ?_
    refine lv_istore (lv' := [(5, .int v4), (3, .int v3), (0, va_rf x0), (2, .int x2), (4, .int x4)]) hx hb dX9_readPath_60 hl (by decide) rfl (fun ls hl => ?_)
    refine lv_iload hx hb dX9_readPath_62 (lv_at hl 0 rfl) ?_
    refine lv_iconst (v := 2) hx hb dX9_readPath_64 kc_i_2 ?_
    refine lv_icmp_ne (tgt := 72) hx hb dX9_readPath_65 (by decide) (fun hq => ?_) (fun hq => ?_)
    · have hf := giff hq hf
      exact w_X9_readPath_72 C hr hrec21 x0 x2 v3 x4 v4 _ _ _ _ _ _ hf I (lv_sub hl [2, 3, 1, 4, 0] rfl)
    · have hf := gift hq hf
      refine gw_aload_n hx hb dX9_readPath_68 rfl (lv_at hl 2 rfl) ?_
      refine gw_callV (rest := []) C I hl.1 gcls_8 (m_X9_dropSegment G l x0) gl_RX9_197 gn_X9_dropSegment ⟨Nat.le_of_ble_eq_true rfl, Nat.le_of_ble_eq_true rfl⟩ rfl (gc4 (Nat.le_of_ble_eq_true rfl)) rfl dX9_readPath_69 hf (fun _ σ H locs cells slots I hf => ?_)
      refine W.eq (g2 := F0 m 72 ls []) rfl ?_
      exact w_X9_readPath_72 C hr hrec21 x0 x2 v3 x4 v4 _ _ _ _ _ _ hf I (lv_sub hl [2, 3, 1, 4, 0] rfl)
  · have hf := gift hq hf
    refine lv_iinc (v := x4 + 1) (lv' := [(4, .int (x4 + 1)), (0, va_rf x0), (2, .int x2)]) hx hb dX9_readPath_37 hl (k := 2) rfl rfl (by decide) rfl (fun ls hl => ?_)
    refine lv_goto (tgt := 28) hx hb dX9_readPath_40 (by decide) ?_
    exact hrec28 x0 x2 (x4 + 1) _ _ _ _ _ _ hf I (lv_sub hl [1, 2, 0] rfl)
theorem w_X9_readPath_L28 (C : gC G p s m args meth c cX9_readPath 7 RX9) (hr : meth.sig.returnType = none) {rec21 : Option Nat → Int32 → Int32 → gM Unit} (hrec21 : ∀ (x0 : Option Nat) (x2 : Int32) (x3 : Int32), gJ G p l e 3 68 mc ms s m args below meth c grv y 7 21 [(0, va_rf x0), (2, .int x2), (3, .int x3)] [] (rec21 x0 x2 x3)) : ∀ (n : Nat) (x0 : Option Nat) (x2 : Int32) (x4 : Int32), gJ G p l e 3 68 mc ms s m args below meth c grv y 7 28 [(0, va_rf x0), (2, .int x2), (4, .int x4)] [] (f_X9_readPath_L28 rec21 n x0 x2 x4) := by
  intro n
  induction n with
  | zero => intro x0 x2 x4 σ H locs cells slots ls hf; exact (gno_some hf).elim
  | succ n ih => intro x0 x2 x4; exact w_X9_readPath_28 C hr hrec21 ih x0 x2 x4
set_option maxHeartbeats 4000000 in
set_option maxRecDepth 100000 in
theorem w_X9_readPath_21 (C : gC G p s m args meth c cX9_readPath 7 RX9) (hr : meth.sig.returnType = none) {rec21 : Option Nat → Int32 → Int32 → gM Unit} (hrec21 : ∀ (x0 : Option Nat) (x2 : Int32) (x3 : Int32), gJ G p l e 3 68 mc ms s m args below meth c grv y 7 21 [(0, va_rf x0), (2, .int x2), (3, .int x3)] [] (rec21 x0 x2 x3)) (x0 : Option Nat) (x2 : Int32) (x3 : Int32) : gJ G p l e 3 68 mc ms s m args below meth c grv y 7 21 [(0, va_rf x0), (2, .int x2), (3, .int x3)] [] (f_X9_readPath_21 rec21 x0 x2 x3) := by
  have hx := C.1
  have hb := C.2.1
  intro σ H locs cells slots ls hf I hl
  unfold f_X9_readPath_21 at hf
  refine lv_iload_n hx hb dX9_readPath_21 rfl (lv_at hl 2 rfl) ?_
  refine lv_if_eq (tgt := 138) hx hb dX9_readPath_22 (by decide) (fun hq => ?_) (fun hq => ?_)
  · have hf := gift hq hf
    refine gw_aload_n hx hb dX9_readPath_138 rfl (lv_at hl 0 rfl) ?_
    refine lv_iload_n hx hb dX9_readPath_139 rfl (lv_at hl 1 rfl) ?_
    refine gw_callV (rest := []) C I hl.1 gcls_8 (m_X9_readTail G l x0 x2) gl_RX9_194 gn_X9_readTail ⟨Nat.le_of_ble_eq_true rfl, Nat.le_of_ble_eq_true rfl⟩ rfl (gc4 (Nat.le_of_ble_eq_true rfl)) rfl dX9_readPath_140 hf (fun _ σ H locs cells slots I hf => ?_)
    refine W.eq (g2 := F0 m 143 ls []) rfl ?_
    exact gw_vret C I hr dX9_readPath_143 hf
  · have hf := giff hq hf
    refine lv_iload_n hx hb dX9_readPath_25 rfl (lv_at hl 1 rfl) ?_
    refine lv_istore (lv' := [(4, .int x2), (0, va_rf x0), (2, .int x2), (3, .int x3)]) hx hb dX9_readPath_26 hl (by decide) rfl (fun ls hl => ?_)
    exact w_X9_readPath_L28 C hr hrec21 _ x0 x2 x2 _ _ _ _ _ _ hf I (lv_sub hl [1, 2, 0] rfl)
theorem w_X9_readPath_L21 (C : gC G p s m args meth c cX9_readPath 7 RX9) (hr : meth.sig.returnType = none)  : ∀ (n : Nat) (x0 : Option Nat) (x2 : Int32) (x3 : Int32), gJ G p l e 3 68 mc ms s m args below meth c grv y 7 21 [(0, va_rf x0), (2, .int x2), (3, .int x3)] [] (f_X9_readPath_L21  n x0 x2 x3) := by
  intro n
  induction n with
  | zero => intro x0 x2 x3 σ H locs cells slots ls hf; exact (gno_some hf).elim
  | succ n ih => intro x0 x2 x3; exact w_X9_readPath_21 C hr  ih x0 x2 x3
set_option maxHeartbeats 4000000 in
set_option maxRecDepth 100000 in
theorem w_X9_readPath_0 (C : gC G p s m args meth c cX9_readPath 7 RX9) (hr : meth.sig.returnType = none)  (a0 : Option Nat) (a1 : Int32) : gJ G p l e 3 68 mc ms s m args below meth c grv y 7 0 [(0, va_rf a0), (1, .int a1)] [] (f_X9_readPath  a0 a1) := by
  have hx := C.1
  have hb := C.2.1
  intro σ H locs cells slots ls hf I hl
  unfold f_X9_readPath at hf
  refine gw_aload_n hx hb dX9_readPath_0 rfl (lv_at hl 0 rfl) ?_
  refine lv_iload_n hx hb dX9_readPath_1 rfl (lv_at hl 1 rfl) ?_
  refine gw_callV (rest := []) C I hl.1 gcls_8 (m_X9_byteAt G l a0 a1) gl_RX9_151 gn_X9_byteAt ⟨Nat.le_of_ble_eq_true rfl, Nat.le_of_ble_eq_true rfl⟩ rfl (gc4 (Nat.le_of_ble_eq_true rfl)) rfl dX9_readPath_2 hf (fun v1 σ H locs cells slots I hf => ?_)
  refine W.eq (g2 := F0 m 5 ls [.int v1]) rfl ?_
  refine gw_callS (rest := []) C I hl.1 (m_X9_isSlash G l v1) gl_RX9_188 kw_201 ⟨Nat.le_of_ble_eq_true rfl, Nat.le_of_ble_eq_true rfl⟩ rfl (gc4 (Nat.le_of_ble_eq_true rfl)) rfl dX9_readPath_5 hf (fun v2 σ H locs cells slots I hf => ?_)
  refine W.eq (g2 := F0 m 8 ls [.int v2]) rfl ?_
  refine lv_if_eq (tgt := 17) hx hb dX9_readPath_8 (by decide) (fun hq => ?_) (fun hq => ?_)
  · have hf := gift hq hf
    refine lv_iload_n hx hb dX9_readPath_17 rfl (lv_at hl 1 rfl) ?_
    refine lv_istore_n (lv' := [(2, .int a1), (0, va_rf a0), (1, .int a1)]) hx hb dX9_readPath_18 rfl hl (by decide) rfl (fun ls hl => ?_)
    refine lv_iconst (v := 1) hx hb dX9_readPath_19 kc_i_1 ?_
    refine lv_istore_n (lv' := [(3, .int 1), (2, .int a1), (0, va_rf a0), (1, .int a1)]) hx hb dX9_readPath_20 rfl hl (by decide) rfl (fun ls hl => ?_)
    exact w_X9_readPath_L21 C hr  _ a0 a1 1 _ _ _ _ _ _ hf I (lv_sub hl [2, 1, 0] rfl)
  · have hf := giff hq hf
    refine lv_iload_n hx hb dX9_readPath_11 rfl (lv_at hl 1 rfl) ?_
    refine lv_iconst (v := 1) hx hb dX9_readPath_12 kc_i_1 ?_
    refine lv_iadd hx hb dX9_readPath_13 ?_
    refine lv_goto (tgt := 18) hx hb dX9_readPath_14 (by decide) ?_
    refine lv_istore_n (lv' := [(2, .int (a1 + 1)), (0, va_rf a0), (1, .int a1)]) hx hb dX9_readPath_18 rfl hl (by decide) rfl (fun ls hl => ?_)
    refine lv_iconst (v := 1) hx hb dX9_readPath_19 kc_i_1 ?_
    refine lv_istore_n (lv' := [(3, .int 1), (2, .int (a1 + 1)), (0, va_rf a0), (1, .int a1)]) hx hb dX9_readPath_20 rfl hl (by decide) rfl (fun ls hl => ?_)
    exact w_X9_readPath_L21 C hr  _ a0 (a1 + 1) 1 _ _ _ _ _ _ hf I (lv_sub hl [2, 1, 0] rfl)
end S_X9_readPath
theorem m_X9_readPath (G : gX) (l : Launch) (a0 : Option Nat) (a1 : Int32) : gMet G l yX9_readPath cX9_readPath 7 none 3 68 [va_rf a0, .int a1] grv (f_X9_readPath a0 a1) := by
  refine gMet_of (by decide) ?_
  intro σ y p e s m below meth c mc ms hf C hr hnm I
  obtain ⟨ls, e1, hl⟩ := gentry m [va_rf a0, .int a1] 7 [(0, va_rf a0), (1, .int a1)] (by simp [lg_sl, grc, gcat_i, gcat_l]) (by simp [lv_args, grc, gcat_i, gcat_l])
  rw [e1]
  exact w_X9_readPath_0 C hr a0 a1 _ _ _ _ _ _ hf I hl
def f_X9_readSlashes_124 (rec84 : Option Nat → Int32 → Int32 → Int32 → Int32 → gM Unit) (x0 : Option Nat) (x3 : Int32) (x4 : Int32) (x5 : Int32) (x6 : Int32) (s0 : Option Nat) (s1 : Int32) : gM Unit := gb (nn 8 x0) fun _ => gb (f_X9_byteAt x0 x6) fun v1 => gb (nn 8 s0) fun _ => gb (f_X9_addEscaped s0 s1 v1 3) fun _ => rec84 x0 x3 x4 x5 (x6 + 1)
def f_X9_readSlashes_113 (rec84 : Option Nat → Int32 → Int32 → Int32 → Int32 → gM Unit) (x0 : Option Nat) (x3 : Int32) (x4 : Int32) (x5 : Int32) (x6 : Int32) : gM Unit := if x5 = 0 then (f_X9_readSlashes_124 rec84 x0 x3 x4 x5 x6 x0 0) else (f_X9_readSlashes_124 rec84 x0 x3 x4 x5 x6 x0 1)
def f_X9_readSlashes_185 (rec163 : Option Nat → Int32 → Int32 → Int32 → Int32 → gM Unit) (x0 : Option Nat) (x2 : Int32) (x3 : Int32) (x5 : Int32) (x6 : Int32) : gM Unit := gb (nn 8 x0) fun _ => gb (f_X9_byteAt x0 x6) fun v1 => if v1 = 91 then (rec163 x0 x2 x3 1 (x6 + 1)) else (if x5 = 0 then (rec163 x0 x2 x3 0 (x6 + 1)) else (gb (nn 8 x0) fun _ => gb (f_X9_byteAt x0 x6) fun v2 => if v2 = 93 then (rec163 x0 x2 x3 0 (x6 + 1)) else (rec163 x0 x2 x3 1 (x6 + 1))))
def f_X9_readSlashes_337  (x0 : Option Nat) (x3 : Int32) (x6 : Int32) : gM Unit := gb (nn 8 x0) fun _ => gb (f_X9_readPort x0 (x6 + 1) x3) fun _ => gb (rI 8 13 x0) fun v1 => if v1 = 0 then (gb (nn 8 x0) fun _ => gb (f_X9_readPath x0 x3) fun _ => gp ()) else (gp ())
def f_X9_readSlashes_303 (rec303 : Option Nat → Int32 → Int32 → Int32 → gM Unit) (x0 : Option Nat) (x3 : Int32) (x6 : Int32) (x7 : Int32) : gM Unit := gb (rI 8 15 x0) fun v1 => if v1 ≤ x7 then (f_X9_readSlashes_337  x0 x3 x6) else (gb (rI 8 16 x0) fun v2 => if v2 = 0 then (gb (rR 8 14 x0) fun v3 => gb (aI 0 v3 x7) fun v4 => gb (nn 8 x0) fun _ => gb (f_X9_add x0 2 v4) fun _ => rec303 x0 x3 x6 (x7 + 1)) else (f_X9_readSlashes_337  x0 x3 x6))
def f_X9_readSlashes_L303  : Nat → Option Nat → Int32 → Int32 → Int32 → gM Unit
  | 0, _, _, _, _ => gno
  | n + 1, x0, x3, x6, x7 => f_X9_readSlashes_303  (f_X9_readSlashes_L303  n) x0 x3 x6 x7
def f_X9_readSlashes_270 (rec270 : Option Nat → Int32 → Int32 → Int32 → gM Unit) (x0 : Option Nat) (x3 : Int32) (x6 : Int32) (x7 : Int32) : gM Unit := if 8 ≤ x7 then (f_X9_readSlashes_L303  gF x0 x3 x6 0) else (gb (rR 8 6 x0) fun v1 => gb (rR 8 17 x0) fun v2 => gb (aI 1 v2 x7) fun v3 => gb (sI 1 v1 (32 + x7) v3) fun _ => rec270 x0 x3 x6 (x7 + 1))
def f_X9_readSlashes_L270  : Nat → Option Nat → Int32 → Int32 → Int32 → gM Unit
  | 0, _, _, _, _ => gno
  | n + 1, x0, x3, x6, x7 => f_X9_readSlashes_270  (f_X9_readSlashes_L270  n) x0 x3 x6 x7
def f_X9_readSlashes_225  (x0 : Option Nat) (x2 : Int32) (x3 : Int32) (x6 : Int32) : gM Unit := if x6 = x2 then (gb (wI 8 13 x0 (-13)) fun _ => gp ()) else (gb (nn 8 x0) fun _ => gb (f_X9_readHost x0 x2 x6) fun v1 => gb (wI 8 13 x0 v1) fun _ => gb (rI 8 13 x0) fun v2 => if v2 = 0 then (gb (rR 8 5 x0) fun v3 => gb (rI 8 16 x0) fun v4 => gb (sI 1 v3 4 v4) fun _ => f_X9_readSlashes_L270  gF x0 x3 x6 0) else (gp ()))
def f_X9_readSlashes_163 (rec163 : Option Nat → Int32 → Int32 → Int32 → Int32 → gM Unit) (x0 : Option Nat) (x2 : Int32) (x3 : Int32) (x5 : Int32) (x6 : Int32) : gM Unit := if x3 ≤ x6 then (f_X9_readSlashes_225  x0 x2 x3 x6) else (gb (nn 8 x0) fun _ => gb (f_X9_byteAt x0 x6) fun v1 => if v1 = 58 then (if x5 = 0 then (f_X9_readSlashes_225  x0 x2 x3 x6) else (f_X9_readSlashes_185 rec163 x0 x2 x3 x5 x6)) else (f_X9_readSlashes_185 rec163 x0 x2 x3 x5 x6))
def f_X9_readSlashes_L163  : Nat → Option Nat → Int32 → Int32 → Int32 → Int32 → gM Unit
  | 0, _, _, _, _, _ => gno
  | n + 1, x0, x2, x3, x5, x6 => f_X9_readSlashes_163  (f_X9_readSlashes_L163  n) x0 x2 x3 x5 x6
def f_X9_readSlashes_84 (rec84 : Option Nat → Int32 → Int32 → Int32 → Int32 → gM Unit) (x0 : Option Nat) (x3 : Int32) (x4 : Int32) (x5 : Int32) (x6 : Int32) : gM Unit := if x4 ≤ x6 then (if (x4 + 1) = x3 then (gb (wI 8 13 x0 (-13)) fun _ => gp ()) else (f_X9_readSlashes_L163  gF x0 (x4 + 1) x3 0 (x4 + 1))) else (gb (nn 8 x0) fun _ => gb (f_X9_byteAt x0 x6) fun v1 => if v1 = 58 then (if x5 = 0 then (rec84 x0 x3 x4 1 (x6 + 1)) else (f_X9_readSlashes_113 rec84 x0 x3 x4 x5 x6)) else (f_X9_readSlashes_113 rec84 x0 x3 x4 x5 x6))
def f_X9_readSlashes_L84  : Nat → Option Nat → Int32 → Int32 → Int32 → Int32 → gM Unit
  | 0, _, _, _, _, _ => gno
  | n + 1, x0, x3, x4, x5, x6 => f_X9_readSlashes_84  (f_X9_readSlashes_L84  n) x0 x3 x4 x5 x6
def f_X9_readSlashes_41 (rec41 : Option Nat → Int32 → Int32 → Int32 → Int32 → gM Unit) (x0 : Option Nat) (x2 : Int32) (x3 : Int32) (x4 : Int32) (x5 : Int32) : gM Unit := if x3 ≤ x5 then (if x4 < 0 then (f_X9_readSlashes_L163  gF x0 x2 x3 0 x2) else (f_X9_readSlashes_L84  gF x0 x3 x4 0 x2)) else (gb (nn 8 x0) fun _ => gb (f_X9_byteAt x0 x5) fun v1 => if v1 = 64 then (rec41 x0 x2 x3 x5 (x5 + 1)) else (rec41 x0 x2 x3 x4 (x5 + 1)))
def f_X9_readSlashes_L41  : Nat → Option Nat → Int32 → Int32 → Int32 → Int32 → gM Unit
  | 0, _, _, _, _, _ => gno
  | n + 1, x0, x2, x3, x4, x5 => f_X9_readSlashes_41  (f_X9_readSlashes_L41  n) x0 x2 x3 x4 x5
def f_X9_readSlashes_21 (rec21 : Option Nat → Int32 → Int32 → gM Unit) (x0 : Option Nat) (x2 : Int32) (x3 : Int32) : gM Unit := gb (nn 8 x0) fun _ => gb (f_X9_isOver x0 x3) fun v1 => if v1 = 0 then (rec21 x0 x2 (x3 + 1)) else (f_X9_readSlashes_L41  gF x0 x2 x3 (-1) x2)
def f_X9_readSlashes_L21  : Nat → Option Nat → Int32 → Int32 → gM Unit
  | 0, _, _, _ => gno
  | n + 1, x0, x2, x3 => f_X9_readSlashes_21  (f_X9_readSlashes_L21  n) x0 x2 x3
def f_X9_readSlashes_2 (rec2 : Option Nat → Int32 → gM Unit) (x0 : Option Nat) (x2 : Int32) : gM Unit := gb (nn 8 x0) fun _ => gb (f_X9_byteAt x0 x2) fun v1 => gb (f_X9_isSlash v1) fun v2 => if v2 = 0 then (f_X9_readSlashes_L21  gF x0 x2 x2) else (rec2 x0 (x2 + 1))
def f_X9_readSlashes_L2  : Nat → Option Nat → Int32 → gM Unit
  | 0, _, _ => gno
  | n + 1, x0, x2 => f_X9_readSlashes_2  (f_X9_readSlashes_L2  n) x0 x2
def f_X9_readSlashes  (a0 : Option Nat) (a1 : Int32) : gM Unit := f_X9_readSlashes_L2  gF a0 a1
section S_X9_readSlashes
variable {G : gX} {p : Program} {l : Launch} {e : Env} {s : State} {m : MethodId} {args : Array Value} {below : List Frame} {meth : Method} {c : Code} {mc ms : Nat} {y : Unit × gS}
set_option maxHeartbeats 4000000 in
set_option maxRecDepth 100000 in
theorem w_X9_readSlashes_124 (C : gC G p s m args meth c cX9_readSlashes 8 RX9) (hr : meth.sig.returnType = none) {rec84 : Option Nat → Int32 → Int32 → Int32 → Int32 → gM Unit} (hrec84 : ∀ (x0 : Option Nat) (x3 : Int32) (x4 : Int32) (x5 : Int32) (x6 : Int32), gJ G p l e 6 148 mc ms s m args below meth c grv y 8 84 [(0, va_rf x0), (3, .int x3), (4, .int x4), (5, .int x5), (6, .int x6)] [] (rec84 x0 x3 x4 x5 x6)) (x0 : Option Nat) (x3 : Int32) (x4 : Int32) (x5 : Int32) (x6 : Int32) (s0 : Option Nat) (s1 : Int32) : gJ G p l e 6 148 mc ms s m args below meth c grv y 8 124 [(0, va_rf x0), (3, .int x3), (4, .int x4), (5, .int x5), (6, .int x6)] [.int s1, va_rf s0] (f_X9_readSlashes_124 rec84 x0 x3 x4 x5 x6 s0 s1) := by
  have hx := C.1
  have hb := C.2.1
  intro σ H locs cells slots ls hf I hl
  unfold f_X9_readSlashes_124 at hf
  refine gw_aload_n hx hb dX9_readSlashes_124 rfl (lv_at hl 0 rfl) ?_
  refine lv_iload hx hb dX9_readSlashes_125 (lv_at hl 4 rfl) ?_
  refine gw_callV (rest := [.int s1, va_rf s0]) C I hl.1 gcls_8 (m_X9_byteAt G l x0 x6) gl_RX9_151 gn_X9_byteAt ⟨Nat.le_of_ble_eq_true rfl, Nat.le_of_ble_eq_true rfl⟩ rfl (gc4 (Nat.le_of_ble_eq_true rfl)) rfl dX9_readSlashes_127 hf (fun v1 σ H locs cells slots I hf => ?_)
  refine W.eq (g2 := F0 m 130 ls [.int v1, .int s1, va_rf s0]) rfl ?_
  refine lv_iconst (v := 3) hx hb dX9_readSlashes_130 kc_i_3 ?_
  refine gw_callV (rest := []) C I hl.1 gcls_8 (m_X9_addEscaped G l s0 s1 v1 3) gl_RX9_208 gn_X9_addEscaped ⟨Nat.le_of_ble_eq_true rfl, Nat.le_of_ble_eq_true rfl⟩ rfl (gc4 (Nat.le_of_ble_eq_true rfl)) rfl dX9_readSlashes_131 hf (fun _ σ H locs cells slots I hf => ?_)
  refine W.eq (g2 := F0 m 134 ls []) rfl ?_
  refine lv_iinc (v := x6 + 1) (lv' := [(6, .int (x6 + 1)), (0, va_rf x0), (3, .int x3), (4, .int x4), (5, .int x5)]) hx hb dX9_readSlashes_134 hl (k := 4) rfl rfl (by decide) rfl (fun ls hl => ?_)
  refine lv_goto (tgt := 84) hx hb dX9_readSlashes_137 (by decide) ?_
  exact hrec84 x0 x3 x4 x5 (x6 + 1) _ _ _ _ _ _ hf I (lv_sub hl [1, 2, 3, 4, 0] rfl)
set_option maxHeartbeats 4000000 in
set_option maxRecDepth 100000 in
theorem w_X9_readSlashes_113 (C : gC G p s m args meth c cX9_readSlashes 8 RX9) (hr : meth.sig.returnType = none) {rec84 : Option Nat → Int32 → Int32 → Int32 → Int32 → gM Unit} (hrec84 : ∀ (x0 : Option Nat) (x3 : Int32) (x4 : Int32) (x5 : Int32) (x6 : Int32), gJ G p l e 6 148 mc ms s m args below meth c grv y 8 84 [(0, va_rf x0), (3, .int x3), (4, .int x4), (5, .int x5), (6, .int x6)] [] (rec84 x0 x3 x4 x5 x6)) (x0 : Option Nat) (x3 : Int32) (x4 : Int32) (x5 : Int32) (x6 : Int32) : gJ G p l e 6 148 mc ms s m args below meth c grv y 8 113 [(0, va_rf x0), (3, .int x3), (4, .int x4), (5, .int x5), (6, .int x6)] [] (f_X9_readSlashes_113 rec84 x0 x3 x4 x5 x6) := by
  have hx := C.1
  have hb := C.2.1
  intro σ H locs cells slots ls hf I hl
  unfold f_X9_readSlashes_113 at hf
  refine gw_aload_n hx hb dX9_readSlashes_113 rfl (lv_at hl 0 rfl) ?_
  refine lv_iload hx hb dX9_readSlashes_114 (lv_at hl 3 rfl) ?_
  refine lv_if_eq (tgt := 123) hx hb dX9_readSlashes_116 (by decide) (fun hq => ?_) (fun hq => ?_)
  · have hf := gift hq hf
    refine lv_iconst (v := 0) hx hb dX9_readSlashes_123 kc_i_0 ?_
    exact w_X9_readSlashes_124 C hr hrec84 x0 x3 x4 x5 x6 x0 0 _ _ _ _ _ _ hf I (lv_sub hl [0, 1, 2, 3, 4] rfl)
  · have hf := giff hq hf
    refine lv_iconst (v := 1) hx hb dX9_readSlashes_119 kc_i_1 ?_
    refine lv_goto (tgt := 124) hx hb dX9_readSlashes_120 (by decide) ?_
    exact w_X9_readSlashes_124 C hr hrec84 x0 x3 x4 x5 x6 x0 1 _ _ _ _ _ _ hf I (lv_sub hl [0, 1, 2, 3, 4] rfl)
set_option maxHeartbeats 4000000 in
set_option maxRecDepth 100000 in
theorem w_X9_readSlashes_185 (C : gC G p s m args meth c cX9_readSlashes 8 RX9) (hr : meth.sig.returnType = none) {rec163 : Option Nat → Int32 → Int32 → Int32 → Int32 → gM Unit} (hrec163 : ∀ (x0 : Option Nat) (x2 : Int32) (x3 : Int32) (x5 : Int32) (x6 : Int32), gJ G p l e 6 148 mc ms s m args below meth c grv y 8 163 [(0, va_rf x0), (2, .int x2), (3, .int x3), (5, .int x5), (6, .int x6)] [] (rec163 x0 x2 x3 x5 x6)) (x0 : Option Nat) (x2 : Int32) (x3 : Int32) (x5 : Int32) (x6 : Int32) : gJ G p l e 6 148 mc ms s m args below meth c grv y 8 185 [(0, va_rf x0), (2, .int x2), (3, .int x3), (5, .int x5), (6, .int x6)] [] (f_X9_readSlashes_185 rec163 x0 x2 x3 x5 x6) := by
  have hx := C.1
  have hb := C.2.1
  intro σ H locs cells slots ls hf I hl
  unfold f_X9_readSlashes_185 at hf
  refine gw_aload_n hx hb dX9_readSlashes_185 rfl (lv_at hl 0 rfl) ?_
  refine lv_iload hx hb dX9_readSlashes_186 (lv_at hl 4 rfl) ?_
  refine gw_callV (rest := []) C I hl.1 gcls_8 (m_X9_byteAt G l x0 x6) gl_RX9_151 gn_X9_byteAt ⟨Nat.le_of_ble_eq_true rfl, Nat.le_of_ble_eq_true rfl⟩ rfl (gc4 (Nat.le_of_ble_eq_true rfl)) rfl dX9_readSlashes_188 hf (fun v1 σ H locs cells slots I hf => ?_)
  refine W.eq (g2 := F0 m 191 ls [.int v1]) rfl ?_
  refine lv_bipush (v := 91) hx hb dX9_readSlashes_191 kc_b_91 ?_
  refine lv_icmp_eq (tgt := 212) hx hb dX9_readSlashes_193 (by decide) (fun hq => ?_) (fun hq => ?_)
  · have hf := gift hq hf
    refine lv_iconst (v := 1) hx hb dX9_readSlashes_212 kc_i_1 ?_
    refine lv_goto (tgt := 217) hx hb dX9_readSlashes_213 (by decide) ?_
    refine lv_istore (lv' := [(5, .int 1), (0, va_rf x0), (2, .int x2), (3, .int x3), (6, .int x6)]) hx hb dX9_readSlashes_217 hl (by decide) rfl (fun ls hl => ?_)
    refine lv_iinc (v := x6 + 1) (lv' := [(6, .int (x6 + 1)), (5, .int 1), (0, va_rf x0), (2, .int x2), (3, .int x3)]) hx hb dX9_readSlashes_219 hl (k := 4) rfl rfl (by decide) rfl (fun ls hl => ?_)
    refine lv_goto (tgt := 163) hx hb dX9_readSlashes_222 (by decide) ?_
    exact hrec163 x0 x2 x3 1 (x6 + 1) _ _ _ _ _ _ hf I (lv_sub hl [2, 3, 4, 1, 0] rfl)
  · have hf := giff hq hf
    refine lv_iload hx hb dX9_readSlashes_196 (lv_at hl 3 rfl) ?_
    refine lv_if_eq (tgt := 216) hx hb dX9_readSlashes_198 (by decide) (fun hq => ?_) (fun hq => ?_)
    · have hf := gift hq hf
      refine lv_iconst (v := 0) hx hb dX9_readSlashes_216 kc_i_0 ?_
      refine lv_istore (lv' := [(5, .int 0), (0, va_rf x0), (2, .int x2), (3, .int x3), (6, .int x6)]) hx hb dX9_readSlashes_217 hl (by decide) rfl (fun ls hl => ?_)
      refine lv_iinc (v := x6 + 1) (lv' := [(6, .int (x6 + 1)), (5, .int 0), (0, va_rf x0), (2, .int x2), (3, .int x3)]) hx hb dX9_readSlashes_219 hl (k := 4) rfl rfl (by decide) rfl (fun ls hl => ?_)
      refine lv_goto (tgt := 163) hx hb dX9_readSlashes_222 (by decide) ?_
      exact hrec163 x0 x2 x3 0 (x6 + 1) _ _ _ _ _ _ hf I (lv_sub hl [2, 3, 4, 1, 0] rfl)
    · have hf := giff hq hf
      refine gw_aload_n hx hb dX9_readSlashes_201 rfl (lv_at hl 0 rfl) ?_
      refine lv_iload hx hb dX9_readSlashes_202 (lv_at hl 4 rfl) ?_
      refine gw_callV (rest := []) C I hl.1 gcls_8 (m_X9_byteAt G l x0 x6) gl_RX9_151 gn_X9_byteAt ⟨Nat.le_of_ble_eq_true rfl, Nat.le_of_ble_eq_true rfl⟩ rfl (gc4 (Nat.le_of_ble_eq_true rfl)) rfl dX9_readSlashes_204 hf (fun v2 σ H locs cells slots I hf => ?_)
      refine W.eq (g2 := F0 m 207 ls [.int v2]) rfl ?_
      refine lv_bipush (v := 93) hx hb dX9_readSlashes_207 kc_b_93 ?_
      refine lv_icmp_eq (tgt := 216) hx hb dX9_readSlashes_209 (by decide) (fun hq => ?_) (fun hq => ?_)
      · have hf := gift hq hf
        refine lv_iconst (v := 0) hx hb dX9_readSlashes_216 kc_i_0 ?_
        refine lv_istore (lv' := [(5, .int 0), (0, va_rf x0), (2, .int x2), (3, .int x3), (6, .int x6)]) hx hb dX9_readSlashes_217 hl (by decide) rfl (fun ls hl => ?_)
        refine lv_iinc (v := x6 + 1) (lv' := [(6, .int (x6 + 1)), (5, .int 0), (0, va_rf x0), (2, .int x2), (3, .int x3)]) hx hb dX9_readSlashes_219 hl (k := 4) rfl rfl (by decide) rfl (fun ls hl => ?_)
        refine lv_goto (tgt := 163) hx hb dX9_readSlashes_222 (by decide) ?_
        exact hrec163 x0 x2 x3 0 (x6 + 1) _ _ _ _ _ _ hf I (lv_sub hl [2, 3, 4, 1, 0] rfl)
      · have hf := giff hq hf
        refine lv_iconst (v := 1) hx hb dX9_readSlashes_212 kc_i_1 ?_
        refine lv_goto (tgt := 217) hx hb dX9_readSlashes_213 (by decide) ?_
        refine lv_istore (lv' := [(5, .int 1), (0, va_rf x0), (2, .int x2), (3, .int x3), (6, .int x6)]) hx hb dX9_readSlashes_217 hl (by decide) rfl (fun ls hl => ?_)
        refine lv_iinc (v := x6 + 1) (lv' := [(6, .int (x6 + 1)), (5, .int 1), (0, va_rf x0), (2, .int x2), (3, .int x3)]) hx hb dX9_readSlashes_219 hl (k := 4) rfl rfl (by decide) rfl (fun ls hl => ?_)
        refine lv_goto (tgt := 163) hx hb dX9_readSlashes_222 (by decide) ?_
        exact hrec163 x0 x2 x3 1 (x6 + 1) _ _ _ _ _ _ hf I (lv_sub hl [2, 3, 4, 1, 0] rfl)
set_option maxHeartbeats 4000000 in
set_option maxRecDepth 100000 in
theorem w_X9_readSlashes_337 (C : gC G p s m args meth c cX9_readSlashes 8 RX9) (hr : meth.sig.returnType = none)  (x0 : Option Nat) (x3 : Int32) (x6 : Int32) : gJ G p l e 6 148 mc ms s m args below meth c grv y 8 337 [(0, va_rf x0), (3, .int x3), (6, .int x6)] [] (f_X9_readSlashes_337  x0 x3 x6) := by
  have hx := C.1
  have hb := C.2.1
  intro σ H locs cells slots ls hf I hl
  unfold f_X9_readSlashes_337 at hf
  refine gw_aload_n hx hb dX9_readSlashes_337 rfl (lv_at hl 0 rfl) ?_
  refine lv_iload hx hb dX9_readSlashes_338 (lv_at hl 2 rfl) ?_
  refine lv_iconst (v := 1) hx hb dX9_readSlashes_340 kc_i_1 ?_
  refine lv_iadd hx hb dX9_readSlashes_341 ?_
  refine lv_iload_n hx hb dX9_readSlashes_342 rfl (lv_at hl 1 rfl) ?_
  refine gw_callV (rest := []) C I hl.1 gcls_8 (m_X9_readPort G l x0 (x6 + 1) x3) gl_RX9_220 gn_X9_readPort ⟨Nat.le_of_ble_eq_true rfl, Nat.le_of_ble_eq_true rfl⟩ rfl (gc4 (Nat.le_of_ble_eq_true rfl)) rfl dX9_readSlashes_343 hf (fun _ σ H locs cells slots I hf => ?_)
  refine W.eq (g2 := F0 m 346 ls []) rfl ?_
  refine gw_aload_n hx hb dX9_readSlashes_346 rfl (lv_at hl 0 rfl) ?_
  refine gw_geti (k := 13) C I gcls_8 (by decide) rfl kw_214 dX9_readSlashes_347 hf (fun v1 hf => ?_)
  refine lv_if_ne (tgt := 358) hx hb dX9_readSlashes_350 (by decide) (fun hq => ?_) (fun hq => ?_)
  · have hf := giff hq hf
    exact gw_vret C I hr dX9_readSlashes_358 hf
  · have hf := gift hq hf
    refine gw_aload_n hx hb dX9_readSlashes_353 rfl (lv_at hl 0 rfl) ?_
    refine lv_iload_n hx hb dX9_readSlashes_354 rfl (lv_at hl 1 rfl) ?_
    refine gw_callV (rest := []) C I hl.1 gcls_8 (m_X9_readPath G l x0 x3) gl_RX9_191 gn_X9_readPath ⟨Nat.le_of_ble_eq_true rfl, Nat.le_of_ble_eq_true rfl⟩ rfl (gc4 (Nat.le_of_ble_eq_true rfl)) rfl dX9_readSlashes_355 hf (fun _ σ H locs cells slots I hf => ?_)
    refine W.eq (g2 := F0 m 358 ls []) rfl ?_
    exact gw_vret C I hr dX9_readSlashes_358 hf
set_option maxHeartbeats 4000000 in
set_option maxRecDepth 100000 in
theorem w_X9_readSlashes_303 (C : gC G p s m args meth c cX9_readSlashes 8 RX9) (hr : meth.sig.returnType = none) {rec303 : Option Nat → Int32 → Int32 → Int32 → gM Unit} (hrec303 : ∀ (x0 : Option Nat) (x3 : Int32) (x6 : Int32) (x7 : Int32), gJ G p l e 6 148 mc ms s m args below meth c grv y 8 303 [(0, va_rf x0), (3, .int x3), (6, .int x6), (7, .int x7)] [] (rec303 x0 x3 x6 x7)) (x0 : Option Nat) (x3 : Int32) (x6 : Int32) (x7 : Int32) : gJ G p l e 6 148 mc ms s m args below meth c grv y 8 303 [(0, va_rf x0), (3, .int x3), (6, .int x6), (7, .int x7)] [] (f_X9_readSlashes_303 rec303 x0 x3 x6 x7) := by
  have hx := C.1
  have hb := C.2.1
  intro σ H locs cells slots ls hf I hl
  unfold f_X9_readSlashes_303 at hf
  refine lv_iload hx hb dX9_readSlashes_303 (lv_at hl 3 rfl) ?_
  refine gw_aload_n hx hb dX9_readSlashes_305 rfl (lv_at hl 0 rfl) ?_
  refine gw_geti (k := 15) C I gcls_8 (by decide) rfl kw_208 dX9_readSlashes_306 hf (fun v1 hf => ?_)
  refine lv_icmp_ge (tgt := 337) hx hb dX9_readSlashes_309 (by decide) (fun hq => ?_) (fun hq => ?_)
  · have hf := gift hq hf
    exact w_X9_readSlashes_337 C hr  x0 x3 x6 _ _ _ _ _ _ hf I (lv_sub hl [0, 1, 2] rfl)
  · have hf := giff hq hf
    refine gw_aload_n hx hb dX9_readSlashes_312 rfl (lv_at hl 0 rfl) ?_
    refine gw_geti (k := 16) C I gcls_8 (by decide) rfl kw_209 dX9_readSlashes_313 hf (fun v2 hf => ?_)
    refine lv_if_ne (tgt := 337) hx hb dX9_readSlashes_316 (by decide) (fun hq => ?_) (fun hq => ?_)
    · have hf := giff hq hf
      exact w_X9_readSlashes_337 C hr  x0 x3 x6 _ _ _ _ _ _ hf I (lv_sub hl [0, 1, 2] rfl)
    · have hf := gift hq hf
      refine gw_aload_n hx hb dX9_readSlashes_319 rfl (lv_at hl 0 rfl) ?_
      refine lv_iconst (v := 2) hx hb dX9_readSlashes_320 kc_i_2 ?_
      refine gw_aload_n hx hb dX9_readSlashes_321 rfl (lv_at hl 0 rfl) ?_
      refine gw_getr (k := 14) C I gcls_8 (by decide) rfl kw_177 dX9_readSlashes_322 hf (fun v3 hf => ?_)
      refine lv_iload hx hb dX9_readSlashes_325 (lv_at hl 3 rfl) ?_
      refine gw_bald C I dX9_readSlashes_327 hf (fun v4 hf => ?_)
      refine gw_callV (rest := []) C I hl.1 gcls_8 (m_X9_add G l x0 2 v4) gl_RX9_122 gn_X9_add ⟨Nat.le_of_ble_eq_true rfl, Nat.le_of_ble_eq_true rfl⟩ rfl (gc4 (Nat.le_of_ble_eq_true rfl)) rfl dX9_readSlashes_328 hf (fun _ σ H locs cells slots I hf => ?_)
      refine W.eq (g2 := F0 m 331 ls []) rfl ?_
      refine lv_iinc (v := x7 + 1) (lv' := [(7, .int (x7 + 1)), (0, va_rf x0), (3, .int x3), (6, .int x6)]) hx hb dX9_readSlashes_331 hl (k := 3) rfl rfl (by decide) rfl (fun ls hl => ?_)
      refine lv_goto (tgt := 303) hx hb dX9_readSlashes_334 (by decide) ?_
      exact hrec303 x0 x3 x6 (x7 + 1) _ _ _ _ _ _ hf I (lv_sub hl [1, 2, 3, 0] rfl)
theorem w_X9_readSlashes_L303 (C : gC G p s m args meth c cX9_readSlashes 8 RX9) (hr : meth.sig.returnType = none)  : ∀ (n : Nat) (x0 : Option Nat) (x3 : Int32) (x6 : Int32) (x7 : Int32), gJ G p l e 6 148 mc ms s m args below meth c grv y 8 303 [(0, va_rf x0), (3, .int x3), (6, .int x6), (7, .int x7)] [] (f_X9_readSlashes_L303  n x0 x3 x6 x7) := by
  intro n
  induction n with
  | zero => intro x0 x3 x6 x7 σ H locs cells slots ls hf; exact (gno_some hf).elim
  | succ n ih => intro x0 x3 x6 x7; exact w_X9_readSlashes_303 C hr  ih x0 x3 x6 x7
set_option maxHeartbeats 4000000 in
set_option maxRecDepth 100000 in
theorem w_X9_readSlashes_270 (C : gC G p s m args meth c cX9_readSlashes 8 RX9) (hr : meth.sig.returnType = none) {rec270 : Option Nat → Int32 → Int32 → Int32 → gM Unit} (hrec270 : ∀ (x0 : Option Nat) (x3 : Int32) (x6 : Int32) (x7 : Int32), gJ G p l e 6 148 mc ms s m args below meth c grv y 8 270 [(0, va_rf x0), (3, .int x3), (6, .int x6), (7, .int x7)] [] (rec270 x0 x3 x6 x7)) (x0 : Option Nat) (x3 : Int32) (x6 : Int32) (x7 : Int32) : gJ G p l e 6 148 mc ms s m args below meth c grv y 8 270 [(0, va_rf x0), (3, .int x3), (6, .int x6), (7, .int x7)] [] (f_X9_readSlashes_270 rec270 x0 x3 x6 x7) := by
  have hx := C.1
  have hb := C.2.1
  intro σ H locs cells slots ls hf I hl
  unfold f_X9_readSlashes_270 at hf
  refine lv_iload hx hb dX9_readSlashes_270 (lv_at hl 3 rfl) ?_
  refine lv_bipush (v := 8) hx hb dX9_readSlashes_272 kc_b_8 ?_
  refine lv_icmp_ge (tgt := 300) hx hb dX9_readSlashes_274 (by decide) (fun hq => ?_) (fun hq => ?_)
  · have hf := gift hq hf
    refine lv_iconst (v := 0) hx hb dX9_readSlashes_300 kc_i_0 ?_
    refine lv_istore (lv' := [(7, .int 0), (0, va_rf x0), (3, .int x3), (6, .int x6)]) hx hb dX9_readSlashes_301 hl (by decide) rfl (fun ls hl => ?_)
    exact w_X9_readSlashes_L303 C hr  _ x0 x3 x6 0 _ _ _ _ _ _ hf I (lv_sub hl [1, 2, 3, 0] rfl)
  · have hf := giff hq hf
    refine gw_aload_n hx hb dX9_readSlashes_277 rfl (lv_at hl 0 rfl) ?_
    refine gw_getr (k := 6) C I gcls_8 (by decide) rfl kw_170 dX9_readSlashes_278 hf (fun v1 hf => ?_)
    refine lv_bipush (v := 32) hx hb dX9_readSlashes_281 kc_b_32 ?_
    refine lv_iload hx hb dX9_readSlashes_283 (lv_at hl 3 rfl) ?_
    refine lv_iadd hx hb dX9_readSlashes_285 ?_
    refine gw_aload_n hx hb dX9_readSlashes_286 rfl (lv_at hl 0 rfl) ?_
    refine gw_getr (k := 17) C I gcls_8 (by decide) rfl kw_178 dX9_readSlashes_287 hf (fun v2 hf => ?_)
    refine lv_iload hx hb dX9_readSlashes_290 (lv_at hl 3 rfl) ?_
    refine gw_iald C I dX9_readSlashes_292 hf (fun v3 hf => ?_)
    refine gw_iast C I dX9_readSlashes_293 hf (fun σ H locs I hf => ?_)
    refine lv_iinc (v := x7 + 1) (lv' := [(7, .int (x7 + 1)), (0, va_rf x0), (3, .int x3), (6, .int x6)]) hx hb dX9_readSlashes_294 hl (k := 3) rfl rfl (by decide) rfl (fun ls hl => ?_)
    refine lv_goto (tgt := 270) hx hb dX9_readSlashes_297 (by decide) ?_
    exact hrec270 x0 x3 x6 (x7 + 1) _ _ _ _ _ _ hf I (lv_sub hl [1, 2, 3, 0] rfl)
theorem w_X9_readSlashes_L270 (C : gC G p s m args meth c cX9_readSlashes 8 RX9) (hr : meth.sig.returnType = none)  : ∀ (n : Nat) (x0 : Option Nat) (x3 : Int32) (x6 : Int32) (x7 : Int32), gJ G p l e 6 148 mc ms s m args below meth c grv y 8 270 [(0, va_rf x0), (3, .int x3), (6, .int x6), (7, .int x7)] [] (f_X9_readSlashes_L270  n x0 x3 x6 x7) := by
  intro n
  induction n with
  | zero => intro x0 x3 x6 x7 σ H locs cells slots ls hf; exact (gno_some hf).elim
  | succ n ih => intro x0 x3 x6 x7; exact w_X9_readSlashes_270 C hr  ih x0 x3 x6 x7
set_option maxHeartbeats 4000000 in
set_option maxRecDepth 100000 in
theorem w_X9_readSlashes_225 (C : gC G p s m args meth c cX9_readSlashes 8 RX9) (hr : meth.sig.returnType = none)  (x0 : Option Nat) (x2 : Int32) (x3 : Int32) (x6 : Int32) : gJ G p l e 6 148 mc ms s m args below meth c grv y 8 225 [(0, va_rf x0), (2, .int x2), (3, .int x3), (6, .int x6)] [] (f_X9_readSlashes_225  x0 x2 x3 x6) := by
  have hx := C.1
  have hb := C.2.1
  intro σ H locs cells slots ls hf I hl
  unfold f_X9_readSlashes_225 at hf
  refine lv_iload hx hb dX9_readSlashes_225 (lv_at hl 3 rfl) ?_
  refine lv_iload_n hx hb dX9_readSlashes_227 rfl (lv_at hl 1 rfl) ?_
  refine lv_icmp_ne (tgt := 238) hx hb dX9_readSlashes_228 (by decide) (fun hq => ?_) (fun hq => ?_)
  · have hf := giff hq hf
    refine gw_aload_n hx hb dX9_readSlashes_238 rfl (lv_at hl 0 rfl) ?_
    refine gw_aload_n hx hb dX9_readSlashes_239 rfl (lv_at hl 0 rfl) ?_
    refine lv_iload_n hx hb dX9_readSlashes_240 rfl (lv_at hl 1 rfl) ?_
    refine lv_iload hx hb dX9_readSlashes_241 (lv_at hl 3 rfl) ?_
    refine gw_callV (rest := [va_rf x0]) C I hl.1 gcls_8 (m_X9_readHost G l x0 x2 x6) gl_RX9_211 gn_X9_readHost ⟨Nat.le_of_ble_eq_true rfl, Nat.le_of_ble_eq_true rfl⟩ rfl (gc4 (Nat.le_of_ble_eq_true rfl)) rfl dX9_readSlashes_243 hf (fun v1 σ H locs cells slots I hf => ?_)
    refine W.eq (g2 := F0 m 246 ls [.int v1, va_rf x0]) rfl ?_
    refine gw_puti (k := 13) C I gcls_8 (by decide) rfl kw_214 (Or.inl rfl) (by decide +kernel) dX9_readSlashes_246 hf (fun σ H locs I hf => ?_)
    refine gw_aload_n hx hb dX9_readSlashes_249 rfl (lv_at hl 0 rfl) ?_
    refine gw_geti (k := 13) C I gcls_8 (by decide) rfl kw_214 dX9_readSlashes_250 hf (fun v2 hf => ?_)
    refine lv_if_eq (tgt := 257) hx hb dX9_readSlashes_253 (by decide) (fun hq => ?_) (fun hq => ?_)
    · have hf := gift hq hf
      refine gw_aload_n hx hb dX9_readSlashes_257 rfl (lv_at hl 0 rfl) ?_
      refine gw_getr (k := 5) C I gcls_8 (by decide) rfl kw_169 dX9_readSlashes_258 hf (fun v3 hf => ?_)
      refine lv_iconst (v := 4) hx hb dX9_readSlashes_261 kc_i_4 ?_
      refine gw_aload_n hx hb dX9_readSlashes_262 rfl (lv_at hl 0 rfl) ?_
      refine gw_geti (k := 16) C I gcls_8 (by decide) rfl kw_209 dX9_readSlashes_263 hf (fun v4 hf => ?_)
      refine gw_iast C I dX9_readSlashes_266 hf (fun σ H locs I hf => ?_)
      refine lv_iconst (v := 0) hx hb dX9_readSlashes_267 kc_i_0 ?_
      refine lv_istore (lv' := [(7, .int 0), (0, va_rf x0), (2, .int x2), (3, .int x3), (6, .int x6)]) hx hb dX9_readSlashes_268 hl (by decide) rfl (fun ls hl => ?_)
      exact w_X9_readSlashes_L270 C hr  _ x0 x3 x6 0 _ _ _ _ _ _ hf I (lv_sub hl [1, 3, 4, 0] rfl)
    · have hf := giff hq hf
      exact gw_vret C I hr dX9_readSlashes_256 hf
  · have hf := gift hq hf
    refine gw_aload_n hx hb dX9_readSlashes_231 rfl (lv_at hl 0 rfl) ?_
    refine lv_bipush (v := (-13)) hx hb dX9_readSlashes_232 kc_b_m13 ?_
    refine gw_puti (k := 13) C I gcls_8 (by decide) rfl kw_214 (Or.inl rfl) (by decide +kernel) dX9_readSlashes_234 hf (fun σ H locs I hf => ?_)
    exact gw_vret C I hr dX9_readSlashes_237 hf
set_option maxHeartbeats 4000000 in
set_option maxRecDepth 100000 in
theorem w_X9_readSlashes_163 (C : gC G p s m args meth c cX9_readSlashes 8 RX9) (hr : meth.sig.returnType = none) {rec163 : Option Nat → Int32 → Int32 → Int32 → Int32 → gM Unit} (hrec163 : ∀ (x0 : Option Nat) (x2 : Int32) (x3 : Int32) (x5 : Int32) (x6 : Int32), gJ G p l e 6 148 mc ms s m args below meth c grv y 8 163 [(0, va_rf x0), (2, .int x2), (3, .int x3), (5, .int x5), (6, .int x6)] [] (rec163 x0 x2 x3 x5 x6)) (x0 : Option Nat) (x2 : Int32) (x3 : Int32) (x5 : Int32) (x6 : Int32) : gJ G p l e 6 148 mc ms s m args below meth c grv y 8 163 [(0, va_rf x0), (2, .int x2), (3, .int x3), (5, .int x5), (6, .int x6)] [] (f_X9_readSlashes_163 rec163 x0 x2 x3 x5 x6) := by
  have hx := C.1
  have hb := C.2.1
  intro σ H locs cells slots ls hf I hl
  unfold f_X9_readSlashes_163 at hf
  refine lv_iload hx hb dX9_readSlashes_163 (lv_at hl 4 rfl) ?_
  refine lv_iload_n hx hb dX9_readSlashes_165 rfl (lv_at hl 2 rfl) ?_
  refine lv_icmp_ge (tgt := 225) hx hb dX9_readSlashes_166 (by decide) (fun hq => ?_) (fun hq => ?_)
  · have hf := gift hq hf
    exact w_X9_readSlashes_225 C hr  x0 x2 x3 x6 _ _ _ _ _ _ hf I (lv_sub hl [0, 1, 2, 4] rfl)
  · have hf := giff hq hf
    refine gw_aload_n hx hb dX9_readSlashes_169 rfl (lv_at hl 0 rfl) ?_
    refine lv_iload hx hb dX9_readSlashes_170 (lv_at hl 4 rfl) ?_
    refine gw_callV (rest := []) C I hl.1 gcls_8 (m_X9_byteAt G l x0 x6) gl_RX9_151 gn_X9_byteAt ⟨Nat.le_of_ble_eq_true rfl, Nat.le_of_ble_eq_true rfl⟩ rfl (gc4 (Nat.le_of_ble_eq_true rfl)) rfl dX9_readSlashes_172 hf (fun v1 σ H locs cells slots I hf => ?_)
    refine W.eq (g2 := F0 m 175 ls [.int v1]) rfl ?_
    refine lv_bipush (v := 58) hx hb dX9_readSlashes_175 kc_b_58 ?_
    refine lv_icmp_ne (tgt := 185) hx hb dX9_readSlashes_177 (by decide) (fun hq => ?_) (fun hq => ?_)
    · have hf := giff hq hf
      exact w_X9_readSlashes_185 C hr hrec163 x0 x2 x3 x5 x6 _ _ _ _ _ _ hf I (lv_sub hl [0, 1, 2, 3, 4] rfl)
    · have hf := gift hq hf
      refine lv_iload hx hb dX9_readSlashes_180 (lv_at hl 3 rfl) ?_
      refine lv_if_eq (tgt := 225) hx hb dX9_readSlashes_182 (by decide) (fun hq => ?_) (fun hq => ?_)
      · have hf := gift hq hf
        exact w_X9_readSlashes_225 C hr  x0 x2 x3 x6 _ _ _ _ _ _ hf I (lv_sub hl [0, 1, 2, 4] rfl)
      · have hf := giff hq hf
        exact w_X9_readSlashes_185 C hr hrec163 x0 x2 x3 x5 x6 _ _ _ _ _ _ hf I (lv_sub hl [0, 1, 2, 3, 4] rfl)
theorem w_X9_readSlashes_L163 (C : gC G p s m args meth c cX9_readSlashes 8 RX9) (hr : meth.sig.returnType = none)  : ∀ (n : Nat) (x0 : Option Nat) (x2 : Int32) (x3 : Int32) (x5 : Int32) (x6 : Int32), gJ G p l e 6 148 mc ms s m args below meth c grv y 8 163 [(0, va_rf x0), (2, .int x2), (3, .int x3), (5, .int x5), (6, .int x6)] [] (f_X9_readSlashes_L163  n x0 x2 x3 x5 x6) := by
  intro n
  induction n with
  | zero => intro x0 x2 x3 x5 x6 σ H locs cells slots ls hf; exact (gno_some hf).elim
  | succ n ih => intro x0 x2 x3 x5 x6; exact w_X9_readSlashes_163 C hr  ih x0 x2 x3 x5 x6
set_option maxHeartbeats 4000000 in
set_option maxRecDepth 100000 in
theorem w_X9_readSlashes_84 (C : gC G p s m args meth c cX9_readSlashes 8 RX9) (hr : meth.sig.returnType = none) {rec84 : Option Nat → Int32 → Int32 → Int32 → Int32 → gM Unit} (hrec84 : ∀ (x0 : Option Nat) (x3 : Int32) (x4 : Int32) (x5 : Int32) (x6 : Int32), gJ G p l e 6 148 mc ms s m args below meth c grv y 8 84 [(0, va_rf x0), (3, .int x3), (4, .int x4), (5, .int x5), (6, .int x6)] [] (rec84 x0 x3 x4 x5 x6)) (x0 : Option Nat) (x3 : Int32) (x4 : Int32) (x5 : Int32) (x6 : Int32) : gJ G p l e 6 148 mc ms s m args below meth c grv y 8 84 [(0, va_rf x0), (3, .int x3), (4, .int x4), (5, .int x5), (6, .int x6)] [] (f_X9_readSlashes_84 rec84 x0 x3 x4 x5 x6) := by
  have hx := C.1
  have hb := C.2.1
  intro σ H locs cells slots ls hf I hl
  unfold f_X9_readSlashes_84 at hf
  refine lv_iload hx hb dX9_readSlashes_84 (lv_at hl 4 rfl) ?_
  refine lv_iload hx hb dX9_readSlashes_86 (lv_at hl 2 rfl) ?_
  refine lv_icmp_ge (tgt := 140) hx hb dX9_readSlashes_88 (by decide) (fun hq => ?_) (fun hq => ?_)
  · have hf := gift hq hf
    refine lv_iload hx hb dX9_readSlashes_140 (lv_at hl 2 rfl) ?_
    refine lv_iconst (v := 1) hx hb dX9_readSlashes_142 kc_i_1 ?_
    refine lv_iadd hx hb dX9_readSlashes_143 ?_
    refine lv_istore_n (lv' := [(2, .int (x4 + 1)), (0, va_rf x0), (3, .int x3), (4, .int x4), (5, .int x5), (6, .int x6)]) hx hb dX9_readSlashes_144 rfl hl (by decide) rfl (fun ls hl => ?_)
    refine lv_iload_n hx hb dX9_readSlashes_145 rfl (lv_at hl 0 rfl) ?_
    refine lv_iload_n hx hb dX9_readSlashes_146 rfl (lv_at hl 2 rfl) ?_
    refine lv_icmp_ne (tgt := 157) hx hb dX9_readSlashes_147 (by decide) (fun hq => ?_) (fun hq => ?_)
    · have hf := giff hq hf
      refine lv_iconst (v := 0) hx hb dX9_readSlashes_157 kc_i_0 ?_
      refine lv_istore (lv' := [(5, .int 0), (2, .int (x4 + 1)), (0, va_rf x0), (3, .int x3), (4, .int x4), (6, .int x6)]) hx hb dX9_readSlashes_158 hl (by decide) rfl (fun ls hl => ?_)
      refine lv_iload_n hx hb dX9_readSlashes_160 rfl (lv_at hl 1 rfl) ?_
      refine lv_istore (lv' := [(6, .int (x4 + 1)), (5, .int 0), (2, .int (x4 + 1)), (0, va_rf x0), (3, .int x3), (4, .int x4)]) hx hb dX9_readSlashes_161 hl (by decide) rfl (fun ls hl => ?_)
      exact w_X9_readSlashes_L163 C hr  _ x0 (x4 + 1) x3 0 (x4 + 1) _ _ _ _ _ _ hf I (lv_sub hl [3, 2, 4, 1, 0] rfl)
    · have hf := gift hq hf
      refine gw_aload_n hx hb dX9_readSlashes_150 rfl (lv_at hl 1 rfl) ?_
      refine lv_bipush (v := (-13)) hx hb dX9_readSlashes_151 kc_b_m13 ?_
      refine gw_puti (k := 13) C I gcls_8 (by decide) rfl kw_214 (Or.inl rfl) (by decide +kernel) dX9_readSlashes_153 hf (fun σ H locs I hf => ?_)
      exact gw_vret C I hr dX9_readSlashes_156 hf
  · have hf := giff hq hf
    refine gw_aload_n hx hb dX9_readSlashes_91 rfl (lv_at hl 0 rfl) ?_
    refine lv_iload hx hb dX9_readSlashes_92 (lv_at hl 4 rfl) ?_
    refine gw_callV (rest := []) C I hl.1 gcls_8 (m_X9_byteAt G l x0 x6) gl_RX9_151 gn_X9_byteAt ⟨Nat.le_of_ble_eq_true rfl, Nat.le_of_ble_eq_true rfl⟩ rfl (gc4 (Nat.le_of_ble_eq_true rfl)) rfl dX9_readSlashes_94 hf (fun v1 σ H locs cells slots I hf => ?_)
    refine W.eq (g2 := F0 m 97 ls [.int v1]) rfl ?_
    refine lv_bipush (v := 58) hx hb dX9_readSlashes_97 kc_b_58 ?_
    refine lv_icmp_ne (tgt := 113) hx hb dX9_readSlashes_99 (by decide) (fun hq => ?_) (fun hq => ?_)
    · have hf := giff hq hf
      exact w_X9_readSlashes_113 C hr hrec84 x0 x3 x4 x5 x6 _ _ _ _ _ _ hf I (lv_sub hl [0, 1, 2, 3, 4] rfl)
    · have hf := gift hq hf
      refine lv_iload hx hb dX9_readSlashes_102 (lv_at hl 3 rfl) ?_
      refine lv_if_ne (tgt := 113) hx hb dX9_readSlashes_104 (by decide) (fun hq => ?_) (fun hq => ?_)
      · have hf := giff hq hf
        exact w_X9_readSlashes_113 C hr hrec84 x0 x3 x4 x5 x6 _ _ _ _ _ _ hf I (lv_sub hl [0, 1, 2, 3, 4] rfl)
      · have hf := gift hq hf
        refine lv_iconst (v := 1) hx hb dX9_readSlashes_107 kc_i_1 ?_
        refine lv_istore (lv' := [(5, .int 1), (0, va_rf x0), (3, .int x3), (4, .int x4), (6, .int x6)]) hx hb dX9_readSlashes_108 hl (by decide) rfl (fun ls hl => ?_)
        refine lv_goto (tgt := 134) hx hb dX9_readSlashes_110 (by decide) ?_
        refine lv_iinc (v := x6 + 1) (lv' := [(6, .int (x6 + 1)), (5, .int 1), (0, va_rf x0), (3, .int x3), (4, .int x4)]) hx hb dX9_readSlashes_134 hl (k := 4) rfl rfl (by decide) rfl (fun ls hl => ?_)
        refine lv_goto (tgt := 84) hx hb dX9_readSlashes_137 (by decide) ?_
        exact hrec84 x0 x3 x4 1 (x6 + 1) _ _ _ _ _ _ hf I (lv_sub hl [2, 3, 4, 1, 0] rfl)
theorem w_X9_readSlashes_L84 (C : gC G p s m args meth c cX9_readSlashes 8 RX9) (hr : meth.sig.returnType = none)  : ∀ (n : Nat) (x0 : Option Nat) (x3 : Int32) (x4 : Int32) (x5 : Int32) (x6 : Int32), gJ G p l e 6 148 mc ms s m args below meth c grv y 8 84 [(0, va_rf x0), (3, .int x3), (4, .int x4), (5, .int x5), (6, .int x6)] [] (f_X9_readSlashes_L84  n x0 x3 x4 x5 x6) := by
  intro n
  induction n with
  | zero => intro x0 x3 x4 x5 x6 σ H locs cells slots ls hf; exact (gno_some hf).elim
  | succ n ih => intro x0 x3 x4 x5 x6; exact w_X9_readSlashes_84 C hr  ih x0 x3 x4 x5 x6
set_option maxHeartbeats 4000000 in
set_option maxRecDepth 100000 in
theorem w_X9_readSlashes_41 (C : gC G p s m args meth c cX9_readSlashes 8 RX9) (hr : meth.sig.returnType = none) {rec41 : Option Nat → Int32 → Int32 → Int32 → Int32 → gM Unit} (hrec41 : ∀ (x0 : Option Nat) (x2 : Int32) (x3 : Int32) (x4 : Int32) (x5 : Int32), gJ G p l e 6 148 mc ms s m args below meth c grv y 8 41 [(0, va_rf x0), (2, .int x2), (3, .int x3), (4, .int x4), (5, .int x5)] [] (rec41 x0 x2 x3 x4 x5)) (x0 : Option Nat) (x2 : Int32) (x3 : Int32) (x4 : Int32) (x5 : Int32) : gJ G p l e 6 148 mc ms s m args below meth c grv y 8 41 [(0, va_rf x0), (2, .int x2), (3, .int x3), (4, .int x4), (5, .int x5)] [] (f_X9_readSlashes_41 rec41 x0 x2 x3 x4 x5) := by
  have hx := C.1
  have hb := C.2.1
  intro σ H locs cells slots ls hf I hl
  unfold f_X9_readSlashes_41 at hf
  refine lv_iload hx hb dX9_readSlashes_41 (lv_at hl 4 rfl) ?_
  refine lv_iload_n hx hb dX9_readSlashes_43 rfl (lv_at hl 2 rfl) ?_
  refine lv_icmp_ge (tgt := 73) hx hb dX9_readSlashes_44 (by decide) (fun hq => ?_) (fun hq => ?_)
  · have hf := gift hq hf
    refine lv_iload hx hb dX9_readSlashes_73 (lv_at hl 3 rfl) ?_
    refine lv_if_lt (tgt := 157) hx hb dX9_readSlashes_75 (by decide) (fun hq => ?_) (fun hq => ?_)
    · have hf := gift hq hf
      refine lv_iconst (v := 0) hx hb dX9_readSlashes_157 kc_i_0 ?_
      refine lv_istore (lv' := [(5, .int 0), (0, va_rf x0), (2, .int x2), (3, .int x3), (4, .int x4)]) hx hb dX9_readSlashes_158 hl (by decide) rfl (fun ls hl => ?_)
      refine lv_iload_n hx hb dX9_readSlashes_160 rfl (lv_at hl 2 rfl) ?_
      refine lv_istore (lv' := [(6, .int x2), (5, .int 0), (0, va_rf x0), (2, .int x2), (3, .int x3), (4, .int x4)]) hx hb dX9_readSlashes_161 hl (by decide) rfl (fun ls hl => ?_)
      exact w_X9_readSlashes_L163 C hr  _ x0 x2 x3 0 x2 _ _ _ _ _ _ hf I (lv_sub hl [2, 3, 4, 1, 0] rfl)
    · have hf := giff hq hf
      refine lv_iconst (v := 0) hx hb dX9_readSlashes_78 kc_i_0 ?_
      refine lv_istore (lv' := [(5, .int 0), (0, va_rf x0), (2, .int x2), (3, .int x3), (4, .int x4)]) hx hb dX9_readSlashes_79 hl (by decide) rfl (fun ls hl => ?_)
      refine lv_iload_n hx hb dX9_readSlashes_81 rfl (lv_at hl 2 rfl) ?_
      refine lv_istore (lv' := [(6, .int x2), (5, .int 0), (0, va_rf x0), (2, .int x2), (3, .int x3), (4, .int x4)]) hx hb dX9_readSlashes_82 hl (by decide) rfl (fun ls hl => ?_)
      exact w_X9_readSlashes_L84 C hr  _ x0 x3 x4 0 x2 _ _ _ _ _ _ hf I (lv_sub hl [2, 4, 5, 1, 0] rfl)
  · have hf := giff hq hf
    refine gw_aload_n hx hb dX9_readSlashes_47 rfl (lv_at hl 0 rfl) ?_
    refine lv_iload hx hb dX9_readSlashes_48 (lv_at hl 4 rfl) ?_
    refine gw_callV (rest := []) C I hl.1 gcls_8 (m_X9_byteAt G l x0 x5) gl_RX9_151 gn_X9_byteAt ⟨Nat.le_of_ble_eq_true rfl, Nat.le_of_ble_eq_true rfl⟩ rfl (gc4 (Nat.le_of_ble_eq_true rfl)) rfl dX9_readSlashes_50 hf (fun v1 σ H locs cells slots I hf => ?_)
    refine W.eq (g2 := F0 m 53 ls [.int v1]) rfl ?_
    refine lv_bipush (v := 64) hx hb dX9_readSlashes_53 kc_b_64 ?_
    refine lv_icmp_ne (tgt := 63) hx hb dX9_readSlashes_55 (by decide) (fun hq => ?_) (fun hq => ?_)
    · have hf := giff hq hf
      refine lv_iload hx hb dX9_readSlashes_63 (lv_at hl 3 rfl) ?_
      refine lv_istore (lv' := [(4, .int x4), (0, va_rf x0), (2, .int x2), (3, .int x3), (5, .int x5)]) hx hb dX9_readSlashes_65 hl (by decide) rfl (fun ls hl => ?_)
      refine lv_iinc (v := x5 + 1) (lv' := [(5, .int (x5 + 1)), (4, .int x4), (0, va_rf x0), (2, .int x2), (3, .int x3)]) hx hb dX9_readSlashes_67 hl (k := 4) rfl rfl (by decide) rfl (fun ls hl => ?_)
      refine lv_goto (tgt := 41) hx hb dX9_readSlashes_70 (by decide) ?_
      exact hrec41 x0 x2 x3 x4 (x5 + 1) _ _ _ _ _ _ hf I (lv_sub hl [2, 3, 4, 1, 0] rfl)
    · have hf := gift hq hf
      refine lv_iload hx hb dX9_readSlashes_58 (lv_at hl 4 rfl) ?_
      refine lv_goto (tgt := 65) hx hb dX9_readSlashes_60 (by decide) ?_
      refine lv_istore (lv' := [(4, .int x5), (0, va_rf x0), (2, .int x2), (3, .int x3), (5, .int x5)]) hx hb dX9_readSlashes_65 hl (by decide) rfl (fun ls hl => ?_)
      refine lv_iinc (v := x5 + 1) (lv' := [(5, .int (x5 + 1)), (4, .int x5), (0, va_rf x0), (2, .int x2), (3, .int x3)]) hx hb dX9_readSlashes_67 hl (k := 4) rfl rfl (by decide) rfl (fun ls hl => ?_)
      refine lv_goto (tgt := 41) hx hb dX9_readSlashes_70 (by decide) ?_
      exact hrec41 x0 x2 x3 x5 (x5 + 1) _ _ _ _ _ _ hf I (lv_sub hl [2, 3, 4, 1, 0] rfl)
theorem w_X9_readSlashes_L41 (C : gC G p s m args meth c cX9_readSlashes 8 RX9) (hr : meth.sig.returnType = none)  : ∀ (n : Nat) (x0 : Option Nat) (x2 : Int32) (x3 : Int32) (x4 : Int32) (x5 : Int32), gJ G p l e 6 148 mc ms s m args below meth c grv y 8 41 [(0, va_rf x0), (2, .int x2), (3, .int x3), (4, .int x4), (5, .int x5)] [] (f_X9_readSlashes_L41  n x0 x2 x3 x4 x5) := by
  intro n
  induction n with
  | zero => intro x0 x2 x3 x4 x5 σ H locs cells slots ls hf; exact (gno_some hf).elim
  | succ n ih => intro x0 x2 x3 x4 x5; exact w_X9_readSlashes_41 C hr  ih x0 x2 x3 x4 x5
set_option maxHeartbeats 4000000 in
set_option maxRecDepth 100000 in
theorem w_X9_readSlashes_21 (C : gC G p s m args meth c cX9_readSlashes 8 RX9) (hr : meth.sig.returnType = none) {rec21 : Option Nat → Int32 → Int32 → gM Unit} (hrec21 : ∀ (x0 : Option Nat) (x2 : Int32) (x3 : Int32), gJ G p l e 6 148 mc ms s m args below meth c grv y 8 21 [(0, va_rf x0), (2, .int x2), (3, .int x3)] [] (rec21 x0 x2 x3)) (x0 : Option Nat) (x2 : Int32) (x3 : Int32) : gJ G p l e 6 148 mc ms s m args below meth c grv y 8 21 [(0, va_rf x0), (2, .int x2), (3, .int x3)] [] (f_X9_readSlashes_21 rec21 x0 x2 x3) := by
  have hx := C.1
  have hb := C.2.1
  intro σ H locs cells slots ls hf I hl
  unfold f_X9_readSlashes_21 at hf
  refine gw_aload_n hx hb dX9_readSlashes_21 rfl (lv_at hl 0 rfl) ?_
  refine lv_iload_n hx hb dX9_readSlashes_22 rfl (lv_at hl 2 rfl) ?_
  refine gw_callV (rest := []) C I hl.1 gcls_8 (m_X9_isOver G l x0 x3) gl_RX9_205 gn_X9_isOver ⟨Nat.le_of_ble_eq_true rfl, Nat.le_of_ble_eq_true rfl⟩ rfl (gc4 (Nat.le_of_ble_eq_true rfl)) rfl dX9_readSlashes_23 hf (fun v1 σ H locs cells slots I hf => ?_)
  refine W.eq (g2 := F0 m 26 ls [.int v1]) rfl ?_
  refine lv_if_ne (tgt := 35) hx hb dX9_readSlashes_26 (by decide) (fun hq => ?_) (fun hq => ?_)
  · have hf := giff hq hf
    refine lv_iconst (v := (-1)) hx hb dX9_readSlashes_35 kc_i_m1 ?_
    refine lv_istore (lv' := [(4, .int (-1)), (0, va_rf x0), (2, .int x2), (3, .int x3)]) hx hb dX9_readSlashes_36 hl (by decide) rfl (fun ls hl => ?_)
    refine lv_iload_n hx hb dX9_readSlashes_38 rfl (lv_at hl 2 rfl) ?_
    refine lv_istore (lv' := [(5, .int x2), (4, .int (-1)), (0, va_rf x0), (2, .int x2), (3, .int x3)]) hx hb dX9_readSlashes_39 hl (by decide) rfl (fun ls hl => ?_)
    exact w_X9_readSlashes_L41 C hr  _ x0 x2 x3 (-1) x2 _ _ _ _ _ _ hf I (lv_sub hl [2, 3, 4, 1, 0] rfl)
  · have hf := gift hq hf
    refine lv_iinc (v := x3 + 1) (lv' := [(3, .int (x3 + 1)), (0, va_rf x0), (2, .int x2)]) hx hb dX9_readSlashes_29 hl (k := 2) rfl rfl (by decide) rfl (fun ls hl => ?_)
    refine lv_goto (tgt := 21) hx hb dX9_readSlashes_32 (by decide) ?_
    exact hrec21 x0 x2 (x3 + 1) _ _ _ _ _ _ hf I (lv_sub hl [1, 2, 0] rfl)
theorem w_X9_readSlashes_L21 (C : gC G p s m args meth c cX9_readSlashes 8 RX9) (hr : meth.sig.returnType = none)  : ∀ (n : Nat) (x0 : Option Nat) (x2 : Int32) (x3 : Int32), gJ G p l e 6 148 mc ms s m args below meth c grv y 8 21 [(0, va_rf x0), (2, .int x2), (3, .int x3)] [] (f_X9_readSlashes_L21  n x0 x2 x3) := by
  intro n
  induction n with
  | zero => intro x0 x2 x3 σ H locs cells slots ls hf; exact (gno_some hf).elim
  | succ n ih => intro x0 x2 x3; exact w_X9_readSlashes_21 C hr  ih x0 x2 x3
set_option maxHeartbeats 4000000 in
set_option maxRecDepth 100000 in
theorem w_X9_readSlashes_2 (C : gC G p s m args meth c cX9_readSlashes 8 RX9) (hr : meth.sig.returnType = none) {rec2 : Option Nat → Int32 → gM Unit} (hrec2 : ∀ (x0 : Option Nat) (x2 : Int32), gJ G p l e 6 148 mc ms s m args below meth c grv y 8 2 [(0, va_rf x0), (2, .int x2)] [] (rec2 x0 x2)) (x0 : Option Nat) (x2 : Int32) : gJ G p l e 6 148 mc ms s m args below meth c grv y 8 2 [(0, va_rf x0), (2, .int x2)] [] (f_X9_readSlashes_2 rec2 x0 x2) := by
  have hx := C.1
  have hb := C.2.1
  intro σ H locs cells slots ls hf I hl
  unfold f_X9_readSlashes_2 at hf
  refine gw_aload_n hx hb dX9_readSlashes_2 rfl (lv_at hl 0 rfl) ?_
  refine lv_iload_n hx hb dX9_readSlashes_3 rfl (lv_at hl 1 rfl) ?_
  refine gw_callV (rest := []) C I hl.1 gcls_8 (m_X9_byteAt G l x0 x2) gl_RX9_151 gn_X9_byteAt ⟨Nat.le_of_ble_eq_true rfl, Nat.le_of_ble_eq_true rfl⟩ rfl (gc4 (Nat.le_of_ble_eq_true rfl)) rfl dX9_readSlashes_4 hf (fun v1 σ H locs cells slots I hf => ?_)
  refine W.eq (g2 := F0 m 7 ls [.int v1]) rfl ?_
  refine gw_callS (rest := []) C I hl.1 (m_X9_isSlash G l v1) gl_RX9_188 kw_201 ⟨Nat.le_of_ble_eq_true rfl, Nat.le_of_ble_eq_true rfl⟩ rfl (gc4 (Nat.le_of_ble_eq_true rfl)) rfl dX9_readSlashes_7 hf (fun v2 σ H locs cells slots I hf => ?_)
  refine W.eq (g2 := F0 m 10 ls [.int v2]) rfl ?_
  refine lv_if_eq (tgt := 19) hx hb dX9_readSlashes_10 (by decide) (fun hq => ?_) (fun hq => ?_)
  · have hf := gift hq hf
    refine lv_iload_n hx hb dX9_readSlashes_19 rfl (lv_at hl 1 rfl) ?_
    refine lv_istore_n (lv' := [(3, .int x2), (0, va_rf x0), (2, .int x2)]) hx hb dX9_readSlashes_20 rfl hl (by decide) rfl (fun ls hl => ?_)
    exact w_X9_readSlashes_L21 C hr  _ x0 x2 x2 _ _ _ _ _ _ hf I (lv_sub hl [1, 2, 0] rfl)
  · have hf := giff hq hf
    refine lv_iinc (v := x2 + 1) (lv' := [(2, .int (x2 + 1)), (0, va_rf x0)]) hx hb dX9_readSlashes_13 hl (k := 1) rfl rfl (by decide) rfl (fun ls hl => ?_)
    refine lv_goto (tgt := 2) hx hb dX9_readSlashes_16 (by decide) ?_
    exact hrec2 x0 (x2 + 1) _ _ _ _ _ _ hf I (lv_sub hl [1, 0] rfl)
theorem w_X9_readSlashes_L2 (C : gC G p s m args meth c cX9_readSlashes 8 RX9) (hr : meth.sig.returnType = none)  : ∀ (n : Nat) (x0 : Option Nat) (x2 : Int32), gJ G p l e 6 148 mc ms s m args below meth c grv y 8 2 [(0, va_rf x0), (2, .int x2)] [] (f_X9_readSlashes_L2  n x0 x2) := by
  intro n
  induction n with
  | zero => intro x0 x2 σ H locs cells slots ls hf; exact (gno_some hf).elim
  | succ n ih => intro x0 x2; exact w_X9_readSlashes_2 C hr  ih x0 x2
set_option maxHeartbeats 4000000 in
set_option maxRecDepth 100000 in
theorem w_X9_readSlashes_0 (C : gC G p s m args meth c cX9_readSlashes 8 RX9) (hr : meth.sig.returnType = none)  (a0 : Option Nat) (a1 : Int32) : gJ G p l e 6 148 mc ms s m args below meth c grv y 8 0 [(0, va_rf a0), (1, .int a1)] [] (f_X9_readSlashes  a0 a1) := by
  have hx := C.1
  have hb := C.2.1
  intro σ H locs cells slots ls hf I hl
  unfold f_X9_readSlashes at hf
  refine lv_iload_n hx hb dX9_readSlashes_0 rfl (lv_at hl 1 rfl) ?_
  refine lv_istore_n (lv' := [(2, .int a1), (0, va_rf a0), (1, .int a1)]) hx hb dX9_readSlashes_1 rfl hl (by decide) rfl (fun ls hl => ?_)
  exact w_X9_readSlashes_L2 C hr  _ a0 a1 _ _ _ _ _ _ hf I (lv_sub hl [1, 0] rfl)
end S_X9_readSlashes
theorem m_X9_readSlashes (G : gX) (l : Launch) (a0 : Option Nat) (a1 : Int32) : gMet G l yX9_readSlashes cX9_readSlashes 8 none 6 148 [va_rf a0, .int a1] grv (f_X9_readSlashes a0 a1) := by
  refine gMet_of (by decide) ?_
  intro σ y p e s m below meth c mc ms hf C hr hnm I
  obtain ⟨ls, e1, hl⟩ := gentry m [va_rf a0, .int a1] 8 [(0, va_rf a0), (1, .int a1)] (by simp [lg_sl, grc, gcat_i, gcat_l]) (by simp [lv_args, grc, gcat_i, gcat_l])
  rw [e1]
  exact w_X9_readSlashes_0 C hr a0 a1 _ _ _ _ _ _ hf I hl
