theorem dX9_part_0 : decode cX9_part 0 = .ok (.aload_n 0, 1) := by decide +kernel
theorem dX9_part_1 : decode cX9_part 1 = .ok (.iload_n 1, 1) := by decide +kernel
theorem dX9_part_2 : decode cX9_part 2 = .ok (.iload_n 2, 1) := by decide +kernel
theorem dX9_part_3 : decode cX9_part 3 = .ok (.invokevirtual 296, 3) := by decide +kernel
theorem dX9_part_6 : decode cX9_part 6 = .ok (.istore 4, 2) := by decide +kernel
theorem dX9_part_8 : decode cX9_part 8 = .ok (.iload 4, 2) := by decide +kernel
theorem dX9_part_10 : decode cX9_part 10 = .ok (.bipush (-2), 2) := by decide +kernel
theorem dX9_part_12 : decode cX9_part 12 = .ok (.if_icmp .ne 6, 3) := by decide +kernel
theorem dX9_part_15 : decode cX9_part 15 = .ok (.bipush (-2), 2) := by decide +kernel
theorem dX9_part_17 : decode cX9_part 17 = .ok (.ireturn, 1) := by decide +kernel
theorem dX9_part_18 : decode cX9_part 18 = .ok (.iload_n 3, 1) := by decide +kernel
theorem dX9_part_19 : decode cX9_part 19 = .ok (.iconst 0, 1) := by decide +kernel
theorem dX9_part_20 : decode cX9_part 20 = .ok (.iload 4, 2) := by decide +kernel
theorem dX9_part_22 : decode cX9_part 22 = .ok (.iconst 1, 1) := by decide +kernel
theorem dX9_part_23 : decode cX9_part 23 = .ok (.isub, 1) := by decide +kernel
theorem dX9_part_24 : decode cX9_part 24 = .ok (.invokestatic 91, 3) := by decide +kernel
theorem dX9_part_27 : decode cX9_part 27 = .ok (.ifCond .ne 5, 3) := by decide +kernel
theorem dX9_part_30 : decode cX9_part 30 = .ok (.iconst (-1), 1) := by decide +kernel
theorem dX9_part_31 : decode cX9_part 31 = .ok (.ireturn, 1) := by decide +kernel
theorem dX9_part_32 : decode cX9_part 32 = .ok (.iload_n 2, 1) := by decide +kernel
theorem dX9_part_33 : decode cX9_part 33 = .ok (.ifCond .ne 16, 3) := by decide +kernel
theorem dX9_part_36 : decode cX9_part 36 = .ok (.aload_n 0, 1) := by decide +kernel
theorem dX9_part_37 : decode cX9_part 37 = .ok (.getfield 17, 3) := by decide +kernel
theorem dX9_part_40 : decode cX9_part 40 = .ok (.iload_n 1, 1) := by decide +kernel
theorem dX9_part_41 : decode cX9_part 41 = .ok (.iaload, 1) := by decide +kernel
theorem dX9_part_42 : decode cX9_part 42 = .ok (.iload_n 3, 1) := by decide +kernel
theorem dX9_part_43 : decode cX9_part 43 = .ok (.invokestatic 154, 3) := by decide +kernel
theorem dX9_part_46 : decode cX9_part 46 = .ok (.goto 40, 3) := by decide +kernel
theorem dX9_part_49 : decode cX9_part 49 = .ok (.iload_n 2, 1) := by decide +kernel
theorem dX9_part_50 : decode cX9_part 50 = .ok (.iconst 3, 1) := by decide +kernel
theorem dX9_part_51 : decode cX9_part 51 = .ok (.if_icmp .ne 16, 3) := by decide +kernel
theorem dX9_part_54 : decode cX9_part 54 = .ok (.aload_n 0, 1) := by decide +kernel
theorem dX9_part_55 : decode cX9_part 55 = .ok (.getfield 52, 3) := by decide +kernel
theorem dX9_part_58 : decode cX9_part 58 = .ok (.iload_n 3, 1) := by decide +kernel
theorem dX9_part_59 : decode cX9_part 59 = .ok (.baload, 1) := by decide +kernel
theorem dX9_part_60 : decode cX9_part 60 = .ok (.sipush 255, 3) := by decide +kernel
theorem dX9_part_63 : decode cX9_part 63 = .ok (.iand, 1) := by decide +kernel
theorem dX9_part_64 : decode cX9_part 64 = .ok (.goto 22, 3) := by decide +kernel
theorem dX9_part_67 : decode cX9_part 67 = .ok (.aload_n 0, 1) := by decide +kernel
theorem dX9_part_68 : decode cX9_part 68 = .ok (.getfield 37, 3) := by decide +kernel
theorem dX9_part_71 : decode cX9_part 71 = .ok (.aload_n 0, 1) := by decide +kernel
theorem dX9_part_72 : decode cX9_part 72 = .ok (.iload_n 1, 1) := by decide +kernel
theorem dX9_part_73 : decode cX9_part 73 = .ok (.iload_n 2, 1) := by decide +kernel
theorem dX9_part_74 : decode cX9_part 74 = .ok (.iconst 1, 1) := by decide +kernel
theorem dX9_part_75 : decode cX9_part 75 = .ok (.isub, 1) := by decide +kernel
theorem dX9_part_76 : decode cX9_part 76 = .ok (.invokevirtual 111, 3) := by decide +kernel
theorem dX9_part_79 : decode cX9_part 79 = .ok (.iload_n 3, 1) := by decide +kernel
theorem dX9_part_80 : decode cX9_part 80 = .ok (.iadd, 1) := by decide +kernel
theorem dX9_part_81 : decode cX9_part 81 = .ok (.baload, 1) := by decide +kernel
theorem dX9_part_82 : decode cX9_part 82 = .ok (.sipush 255, 3) := by decide +kernel
theorem dX9_part_85 : decode cX9_part 85 = .ok (.iand, 1) := by decide +kernel
theorem dX9_part_86 : decode cX9_part 86 = .ok (.ireturn, 1) := by decide +kernel
theorem dX9_told_0 : decode cX9_told 0 = .ok (.aload_n 0, 1) := by decide +kernel
theorem dX9_told_1 : decode cX9_told 1 = .ok (.iload_n 1, 1) := by decide +kernel
theorem dX9_told_2 : decode cX9_told 2 = .ok (.invokevirtual 157, 3) := by decide +kernel
theorem dX9_told_5 : decode cX9_told 5 = .ok (.ifCond .eq 12, 3) := by decide +kernel
theorem dX9_told_8 : decode cX9_told 8 = .ok (.iload_n 2, 1) := by decide +kernel
theorem dX9_told_9 : decode cX9_told 9 = .ok (.iconst 0, 1) := by decide +kernel
theorem dX9_told_10 : decode cX9_told 10 = .ok (.iconst 3, 1) := by decide +kernel
theorem dX9_told_11 : decode cX9_told 11 = .ok (.invokestatic 91, 3) := by decide +kernel
theorem dX9_told_14 : decode cX9_told 14 = .ok (.ifCond .ne 6, 3) := by decide +kernel
theorem dX9_told_17 : decode cX9_told 17 = .ok (.bipush (-2), 2) := by decide +kernel
theorem dX9_told_19 : decode cX9_told 19 = .ok (.ireturn, 1) := by decide +kernel
theorem dX9_told_20 : decode cX9_told 20 = .ok (.iload_n 2, 1) := by decide +kernel
theorem dX9_told_21 : decode cX9_told 21 = .ok (.ifCond .ne 10, 3) := by decide +kernel
theorem dX9_told_24 : decode cX9_told 24 = .ok (.aload_n 0, 1) := by decide +kernel
theorem dX9_told_25 : decode cX9_told 25 = .ok (.getfield 21, 3) := by decide +kernel
theorem dX9_told_28 : decode cX9_told 28 = .ok (.iload_n 1, 1) := by decide +kernel
theorem dX9_told_29 : decode cX9_told 29 = .ok (.iaload, 1) := by decide +kernel
theorem dX9_told_30 : decode cX9_told 30 = .ok (.ireturn, 1) := by decide +kernel
theorem dX9_told_31 : decode cX9_told 31 = .ok (.iload_n 2, 1) := by decide +kernel
theorem dX9_told_32 : decode cX9_told 32 = .ok (.iconst 1, 1) := by decide +kernel
theorem dX9_told_33 : decode cX9_told 33 = .ok (.if_icmp .ne 31, 3) := by decide +kernel
theorem dX9_told_36 : decode cX9_told 36 = .ok (.aload_n 0, 1) := by decide +kernel
theorem dX9_told_37 : decode cX9_told 37 = .ok (.getfield 21, 3) := by decide +kernel
theorem dX9_told_40 : decode cX9_told 40 = .ok (.iload_n 1, 1) := by decide +kernel
theorem dX9_told_41 : decode cX9_told 41 = .ok (.iaload, 1) := by decide +kernel
theorem dX9_told_42 : decode cX9_told 42 = .ok (.ifCond .ge 15, 3) := by decide +kernel
theorem dX9_told_45 : decode cX9_told 45 = .ok (.aload_n 0, 1) := by decide +kernel
theorem dX9_told_46 : decode cX9_told 46 = .ok (.getfield 17, 3) := by decide +kernel
theorem dX9_told_49 : decode cX9_told 49 = .ok (.iload_n 1, 1) := by decide +kernel
theorem dX9_told_50 : decode cX9_told 50 = .ok (.iaload, 1) := by decide +kernel
theorem dX9_told_51 : decode cX9_told 51 = .ok (.invokestatic 228, 3) := by decide +kernel
theorem dX9_told_54 : decode cX9_told 54 = .ok (.goto 9, 3) := by decide +kernel
theorem dX9_told_57 : decode cX9_told 57 = .ok (.aload_n 0, 1) := by decide +kernel
theorem dX9_told_58 : decode cX9_told 58 = .ok (.getfield 21, 3) := by decide +kernel
theorem dX9_told_61 : decode cX9_told 61 = .ok (.iload_n 1, 1) := by decide +kernel
theorem dX9_told_62 : decode cX9_told 62 = .ok (.iaload, 1) := by decide +kernel
theorem dX9_told_63 : decode cX9_told 63 = .ok (.ireturn, 1) := by decide +kernel
theorem dX9_told_64 : decode cX9_told 64 = .ok (.iload_n 2, 1) := by decide +kernel
theorem dX9_told_65 : decode cX9_told 65 = .ok (.iconst 2, 1) := by decide +kernel
theorem dX9_told_66 : decode cX9_told 66 = .ok (.if_icmp .ne 10, 3) := by decide +kernel
theorem dX9_told_69 : decode cX9_told 69 = .ok (.aload_n 0, 1) := by decide +kernel
theorem dX9_told_70 : decode cX9_told 70 = .ok (.getfield 24, 3) := by decide +kernel
theorem dX9_told_73 : decode cX9_told 73 = .ok (.iload_n 1, 1) := by decide +kernel
theorem dX9_told_74 : decode cX9_told 74 = .ok (.iaload, 1) := by decide +kernel
theorem dX9_told_75 : decode cX9_told 75 = .ok (.ireturn, 1) := by decide +kernel
theorem dX9_told_76 : decode cX9_told 76 = .ok (.iconst 0, 1) := by decide +kernel
theorem dX9_told_77 : decode cX9_told 77 = .ok (.istore_n 3, 1) := by decide +kernel
theorem dX9_told_78 : decode cX9_told 78 = .ok (.iconst 0, 1) := by decide +kernel
theorem dX9_told_79 : decode cX9_told 79 = .ok (.istore 4, 2) := by decide +kernel
theorem dX9_told_81 : decode cX9_told 81 = .ok (.iload 4, 2) := by decide +kernel
theorem dX9_told_83 : decode cX9_told 83 = .ok (.aload_n 0, 1) := by decide +kernel
theorem dX9_told_84 : decode cX9_told 84 = .ok (.iload_n 1, 1) := by decide +kernel
theorem dX9_told_85 : decode cX9_told 85 = .ok (.iconst 3, 1) := by decide +kernel
theorem dX9_told_86 : decode cX9_told 86 = .ok (.invokevirtual 107, 3) := by decide +kernel
theorem dX9_told_89 : decode cX9_told 89 = .ok (.if_icmp .ge 36, 3) := by decide +kernel
theorem dX9_told_92 : decode cX9_told 92 = .ok (.aload_n 0, 1) := by decide +kernel
theorem dX9_told_93 : decode cX9_told 93 = .ok (.getfield 37, 3) := by decide +kernel
theorem dX9_told_96 : decode cX9_told 96 = .ok (.aload_n 0, 1) := by decide +kernel
theorem dX9_told_97 : decode cX9_told 97 = .ok (.iload_n 1, 1) := by decide +kernel
theorem dX9_told_98 : decode cX9_told 98 = .ok (.iconst 3, 1) := by decide +kernel
theorem dX9_told_99 : decode cX9_told 99 = .ok (.invokevirtual 111, 3) := by decide +kernel
theorem dX9_told_102 : decode cX9_told 102 = .ok (.iload 4, 2) := by decide +kernel
theorem dX9_told_104 : decode cX9_told 104 = .ok (.iadd, 1) := by decide +kernel
theorem dX9_told_105 : decode cX9_told 105 = .ok (.baload, 1) := by decide +kernel
theorem dX9_told_106 : decode cX9_told 106 = .ok (.bipush 47, 2) := by decide +kernel
theorem dX9_told_108 : decode cX9_told 108 = .ok (.if_icmp .ne 9, 3) := by decide +kernel
theorem dX9_told_111 : decode cX9_told 111 = .ok (.iload_n 3, 1) := by decide +kernel
theorem dX9_told_112 : decode cX9_told 112 = .ok (.iconst 1, 1) := by decide +kernel
theorem dX9_told_113 : decode cX9_told 113 = .ok (.iadd, 1) := by decide +kernel
theorem dX9_told_114 : decode cX9_told 114 = .ok (.goto 4, 3) := by decide +kernel
theorem dX9_told_117 : decode cX9_told 117 = .ok (.iload_n 3, 1) := by decide +kernel
theorem dX9_told_118 : decode cX9_told 118 = .ok (.istore_n 3, 1) := by decide +kernel
theorem dX9_told_119 : decode cX9_told 119 = .ok (.iinc 4 1, 3) := by decide +kernel
theorem dX9_told_122 : decode cX9_told 122 = .ok (.goto (-41), 3) := by decide +kernel
theorem dX9_told_125 : decode cX9_told 125 = .ok (.iload_n 3, 1) := by decide +kernel
theorem dX9_told_126 : decode cX9_told 126 = .ok (.ireturn, 1) := by decide +kernel
theorem dX9_number_0 : decode cX9_number 0 = .ok (.aload_n 0, 1) := by decide +kernel
theorem dX9_number_1 : decode cX9_number 1 = .ok (.iload_n 1, 1) := by decide +kernel
theorem dX9_number_2 : decode cX9_number 2 = .ok (.invokevirtual 157, 3) := by decide +kernel
theorem dX9_number_5 : decode cX9_number 5 = .ok (.ifCond .eq 27, 3) := by decide +kernel
theorem dX9_number_8 : decode cX9_number 8 = .ok (.iload_n 2, 1) := by decide +kernel
theorem dX9_number_9 : decode cX9_number 9 = .ok (.iconst 0, 1) := by decide +kernel
theorem dX9_number_10 : decode cX9_number 10 = .ok (.bipush 7, 2) := by decide +kernel
theorem dX9_number_12 : decode cX9_number 12 = .ok (.invokestatic 91, 3) := by decide +kernel
theorem dX9_number_15 : decode cX9_number 15 = .ok (.ifCond .eq 17, 3) := by decide +kernel
theorem dX9_number_18 : decode cX9_number 18 = .ok (.aload_n 0, 1) := by decide +kernel
theorem dX9_number_19 : decode cX9_number 19 = .ok (.getfield 27, 3) := by decide +kernel
theorem dX9_number_22 : decode cX9_number 22 = .ok (.bipush 8, 2) := by decide +kernel
theorem dX9_number_24 : decode cX9_number 24 = .ok (.iload_n 1, 1) := by decide +kernel
theorem dX9_number_25 : decode cX9_number 25 = .ok (.imul, 1) := by decide +kernel
theorem dX9_number_26 : decode cX9_number 26 = .ok (.iload_n 2, 1) := by decide +kernel
theorem dX9_number_27 : decode cX9_number 27 = .ok (.iadd, 1) := by decide +kernel
theorem dX9_number_28 : decode cX9_number 28 = .ok (.iaload, 1) := by decide +kernel
theorem dX9_number_29 : decode cX9_number 29 = .ok (.goto 5, 3) := by decide +kernel
theorem dX9_number_32 : decode cX9_number 32 = .ok (.bipush (-2), 2) := by decide +kernel
theorem dX9_number_34 : decode cX9_number 34 = .ok (.ireturn, 1) := by decide +kernel
theorem dX9_same_0 : decode cX9_same 0 = .ok (.aload_n 0, 1) := by decide +kernel
theorem dX9_same_1 : decode cX9_same 1 = .ok (.iload_n 1, 1) := by decide +kernel
theorem dX9_same_2 : decode cX9_same 2 = .ok (.invokevirtual 157, 3) := by decide +kernel
theorem dX9_same_5 : decode cX9_same 5 = .ok (.ifCond .eq 11, 3) := by decide +kernel
theorem dX9_same_8 : decode cX9_same 8 = .ok (.aload_n 0, 1) := by decide +kernel
theorem dX9_same_9 : decode cX9_same 9 = .ok (.iload_n 2, 1) := by decide +kernel
theorem dX9_same_10 : decode cX9_same 10 = .ok (.invokevirtual 157, 3) := by decide +kernel
theorem dX9_same_13 : decode cX9_same 13 = .ok (.ifCond .ne 6, 3) := by decide +kernel
theorem dX9_same_16 : decode cX9_same 16 = .ok (.bipush (-2), 2) := by decide +kernel
theorem dX9_same_18 : decode cX9_same 18 = .ok (.ireturn, 1) := by decide +kernel
theorem dX9_same_19 : decode cX9_same 19 = .ok (.aload_n 0, 1) := by decide +kernel
theorem dX9_same_20 : decode cX9_same 20 = .ok (.getfield 17, 3) := by decide +kernel
theorem dX9_same_23 : decode cX9_same 23 = .ok (.iload_n 1, 1) := by decide +kernel
theorem dX9_same_24 : decode cX9_same 24 = .ok (.iaload, 1) := by decide +kernel
theorem dX9_same_25 : decode cX9_same 25 = .ok (.aload_n 0, 1) := by decide +kernel
theorem dX9_same_26 : decode cX9_same 26 = .ok (.getfield 17, 3) := by decide +kernel
theorem dX9_same_29 : decode cX9_same 29 = .ok (.iload_n 2, 1) := by decide +kernel
theorem dX9_same_30 : decode cX9_same 30 = .ok (.iaload, 1) := by decide +kernel
theorem dX9_same_31 : decode cX9_same 31 = .ok (.if_icmp .ne 52, 3) := by decide +kernel
theorem dX9_same_34 : decode cX9_same 34 = .ok (.aload_n 0, 1) := by decide +kernel
theorem dX9_same_35 : decode cX9_same 35 = .ok (.getfield 24, 3) := by decide +kernel
theorem dX9_same_38 : decode cX9_same 38 = .ok (.iload_n 1, 1) := by decide +kernel
theorem dX9_same_39 : decode cX9_same 39 = .ok (.iaload, 1) := by decide +kernel
theorem dX9_same_40 : decode cX9_same 40 = .ok (.aload_n 0, 1) := by decide +kernel
theorem dX9_same_41 : decode cX9_same 41 = .ok (.getfield 24, 3) := by decide +kernel
theorem dX9_same_44 : decode cX9_same 44 = .ok (.iload_n 2, 1) := by decide +kernel
theorem dX9_same_45 : decode cX9_same 45 = .ok (.iaload, 1) := by decide +kernel
theorem dX9_same_46 : decode cX9_same 46 = .ok (.if_icmp .ne 37, 3) := by decide +kernel
theorem dX9_same_49 : decode cX9_same 49 = .ok (.aload_n 0, 1) := by decide +kernel
theorem dX9_same_50 : decode cX9_same 50 = .ok (.iload_n 1, 1) := by decide +kernel
theorem dX9_same_51 : decode cX9_same 51 = .ok (.iconst 1, 1) := by decide +kernel
theorem dX9_same_52 : decode cX9_same 52 = .ok (.invokevirtual 298, 3) := by decide +kernel
theorem dX9_same_55 : decode cX9_same 55 = .ok (.aload_n 0, 1) := by decide +kernel
theorem dX9_same_56 : decode cX9_same 56 = .ok (.iload_n 2, 1) := by decide +kernel
theorem dX9_same_57 : decode cX9_same 57 = .ok (.iconst 1, 1) := by decide +kernel
theorem dX9_same_58 : decode cX9_same 58 = .ok (.invokevirtual 298, 3) := by decide +kernel
theorem dX9_same_61 : decode cX9_same 61 = .ok (.if_icmp .ne 22, 3) := by decide +kernel
theorem dX9_same_64 : decode cX9_same 64 = .ok (.aload_n 0, 1) := by decide +kernel
theorem dX9_same_65 : decode cX9_same 65 = .ok (.iload_n 1, 1) := by decide +kernel
theorem dX9_same_66 : decode cX9_same 66 = .ok (.iconst 2, 1) := by decide +kernel
theorem dX9_same_67 : decode cX9_same 67 = .ok (.invokevirtual 107, 3) := by decide +kernel
theorem dX9_same_70 : decode cX9_same 70 = .ok (.aload_n 0, 1) := by decide +kernel
theorem dX9_same_71 : decode cX9_same 71 = .ok (.iload_n 2, 1) := by decide +kernel
theorem dX9_same_72 : decode cX9_same 72 = .ok (.iconst 2, 1) := by decide +kernel
theorem dX9_same_73 : decode cX9_same 73 = .ok (.invokevirtual 107, 3) := by decide +kernel
theorem dX9_same_76 : decode cX9_same 76 = .ok (.if_icmp .ne 7, 3) := by decide +kernel
theorem dX9_same_79 : decode cX9_same 79 = .ok (.iconst 1, 1) := by decide +kernel
theorem dX9_same_80 : decode cX9_same 80 = .ok (.goto 4, 3) := by decide +kernel
theorem dX9_same_83 : decode cX9_same 83 = .ok (.iconst 0, 1) := by decide +kernel
theorem dX9_same_84 : decode cX9_same 84 = .ok (.istore_n 3, 1) := by decide +kernel
theorem dX9_same_85 : decode cX9_same 85 = .ok (.iconst 0, 1) := by decide +kernel
theorem dX9_same_86 : decode cX9_same 86 = .ok (.istore 4, 2) := by decide +kernel
theorem dX9_same_88 : decode cX9_same 88 = .ok (.iload 4, 2) := by decide +kernel
theorem dX9_same_90 : decode cX9_same 90 = .ok (.bipush 8, 2) := by decide +kernel
theorem dX9_same_92 : decode cX9_same 92 = .ok (.if_icmp .ge 46, 3) := by decide +kernel
theorem dX9_same_95 : decode cX9_same 95 = .ok (.iload_n 3, 1) := by decide +kernel
theorem dX9_same_96 : decode cX9_same 96 = .ok (.ifCond .eq 34, 3) := by decide +kernel
theorem dX9_same_99 : decode cX9_same 99 = .ok (.aload_n 0, 1) := by decide +kernel
theorem dX9_same_100 : decode cX9_same 100 = .ok (.getfield 27, 3) := by decide +kernel
theorem dX9_same_103 : decode cX9_same 103 = .ok (.bipush 8, 2) := by decide +kernel
theorem dX9_same_105 : decode cX9_same 105 = .ok (.iload_n 1, 1) := by decide +kernel
theorem dX9_same_106 : decode cX9_same 106 = .ok (.imul, 1) := by decide +kernel
theorem dX9_same_107 : decode cX9_same 107 = .ok (.iload 4, 2) := by decide +kernel
theorem dX9_same_109 : decode cX9_same 109 = .ok (.iadd, 1) := by decide +kernel
theorem dX9_same_110 : decode cX9_same 110 = .ok (.iaload, 1) := by decide +kernel
theorem dX9_same_111 : decode cX9_same 111 = .ok (.aload_n 0, 1) := by decide +kernel
theorem dX9_same_112 : decode cX9_same 112 = .ok (.getfield 27, 3) := by decide +kernel
theorem dX9_same_115 : decode cX9_same 115 = .ok (.bipush 8, 2) := by decide +kernel
theorem dX9_same_117 : decode cX9_same 117 = .ok (.iload_n 2, 1) := by decide +kernel
theorem dX9_same_118 : decode cX9_same 118 = .ok (.imul, 1) := by decide +kernel
theorem dX9_same_119 : decode cX9_same 119 = .ok (.iload 4, 2) := by decide +kernel
theorem dX9_same_121 : decode cX9_same 121 = .ok (.iadd, 1) := by decide +kernel
theorem dX9_same_122 : decode cX9_same 122 = .ok (.iaload, 1) := by decide +kernel
theorem dX9_same_123 : decode cX9_same 123 = .ok (.if_icmp .ne 7, 3) := by decide +kernel
theorem dX9_same_126 : decode cX9_same 126 = .ok (.iconst 1, 1) := by decide +kernel
theorem dX9_same_127 : decode cX9_same 127 = .ok (.goto 4, 3) := by decide +kernel
theorem dX9_same_130 : decode cX9_same 130 = .ok (.iconst 0, 1) := by decide +kernel
theorem dX9_same_131 : decode cX9_same 131 = .ok (.istore_n 3, 1) := by decide +kernel
theorem dX9_same_132 : decode cX9_same 132 = .ok (.iinc 4 1, 3) := by decide +kernel
theorem dX9_same_135 : decode cX9_same 135 = .ok (.goto (-47), 3) := by decide +kernel
theorem dX9_same_138 : decode cX9_same 138 = .ok (.iconst 0, 1) := by decide +kernel
theorem dX9_same_139 : decode cX9_same 139 = .ok (.istore 4, 2) := by decide +kernel
theorem dX9_same_141 : decode cX9_same 141 = .ok (.iload 4, 2) := by decide +kernel
theorem dX9_same_143 : decode cX9_same 143 = .ok (.aload_n 0, 1) := by decide +kernel
theorem dX9_same_144 : decode cX9_same 144 = .ok (.iload_n 1, 1) := by decide +kernel
theorem dX9_same_145 : decode cX9_same 145 = .ok (.iconst 2, 1) := by decide +kernel
theorem dX9_same_146 : decode cX9_same 146 = .ok (.invokevirtual 107, 3) := by decide +kernel
theorem dX9_same_149 : decode cX9_same 149 = .ok (.if_icmp .ge 50, 3) := by decide +kernel
theorem dX9_same_152 : decode cX9_same 152 = .ok (.iload_n 3, 1) := by decide +kernel
theorem dX9_same_153 : decode cX9_same 153 = .ok (.ifCond .eq 46, 3) := by decide +kernel
theorem dX9_same_156 : decode cX9_same 156 = .ok (.aload_n 0, 1) := by decide +kernel
theorem dX9_same_157 : decode cX9_same 157 = .ok (.getfield 37, 3) := by decide +kernel
theorem dX9_same_160 : decode cX9_same 160 = .ok (.aload_n 0, 1) := by decide +kernel
theorem dX9_same_161 : decode cX9_same 161 = .ok (.iload_n 1, 1) := by decide +kernel
theorem dX9_same_162 : decode cX9_same 162 = .ok (.iconst 2, 1) := by decide +kernel
theorem dX9_same_163 : decode cX9_same 163 = .ok (.invokevirtual 111, 3) := by decide +kernel
theorem dX9_same_166 : decode cX9_same 166 = .ok (.iload 4, 2) := by decide +kernel
theorem dX9_same_168 : decode cX9_same 168 = .ok (.iadd, 1) := by decide +kernel
theorem dX9_same_169 : decode cX9_same 169 = .ok (.baload, 1) := by decide +kernel
theorem dX9_same_170 : decode cX9_same 170 = .ok (.aload_n 0, 1) := by decide +kernel
theorem dX9_same_171 : decode cX9_same 171 = .ok (.getfield 37, 3) := by decide +kernel
theorem dX9_same_174 : decode cX9_same 174 = .ok (.aload_n 0, 1) := by decide +kernel
theorem dX9_same_175 : decode cX9_same 175 = .ok (.iload_n 2, 1) := by decide +kernel
theorem dX9_same_176 : decode cX9_same 176 = .ok (.iconst 2, 1) := by decide +kernel
theorem dX9_same_177 : decode cX9_same 177 = .ok (.invokevirtual 111, 3) := by decide +kernel
theorem dX9_same_180 : decode cX9_same 180 = .ok (.iload 4, 2) := by decide +kernel
theorem dX9_same_182 : decode cX9_same 182 = .ok (.iadd, 1) := by decide +kernel
theorem dX9_same_183 : decode cX9_same 183 = .ok (.baload, 1) := by decide +kernel
theorem dX9_same_184 : decode cX9_same 184 = .ok (.if_icmp .ne 7, 3) := by decide +kernel
theorem dX9_same_187 : decode cX9_same 187 = .ok (.iconst 1, 1) := by decide +kernel
theorem dX9_same_188 : decode cX9_same 188 = .ok (.goto 4, 3) := by decide +kernel
theorem dX9_same_191 : decode cX9_same 191 = .ok (.iconst 0, 1) := by decide +kernel
theorem dX9_same_192 : decode cX9_same 192 = .ok (.istore_n 3, 1) := by decide +kernel
theorem dX9_same_193 : decode cX9_same 193 = .ok (.iinc 4 1, 3) := by decide +kernel
theorem dX9_same_196 : decode cX9_same 196 = .ok (.goto (-55), 3) := by decide +kernel
theorem dX9_same_199 : decode cX9_same 199 = .ok (.iload_n 3, 1) := by decide +kernel
theorem dX9_same_200 : decode cX9_same 200 = .ok (.ifCond .eq 7, 3) := by decide +kernel
theorem dX9_same_203 : decode cX9_same 203 = .ok (.iconst 1, 1) := by decide +kernel
theorem dX9_same_204 : decode cX9_same 204 = .ok (.goto 4, 3) := by decide +kernel
theorem dX9_same_207 : decode cX9_same 207 = .ok (.iconst 0, 1) := by decide +kernel
theorem dX9_same_208 : decode cX9_same 208 = .ok (.ireturn, 1) := by decide +kernel
theorem dX9_readTextHost_0 : decode cX9_readTextHost 0 = .ok (.aload_n 0, 1) := by decide +kernel
theorem dX9_readTextHost_1 : decode cX9_readTextHost 1 = .ok (.aload_n 0, 1) := by decide +kernel
theorem dX9_readTextHost_2 : decode cX9_readTextHost 2 = .ok (.getfield 103, 3) := by decide +kernel
theorem dX9_readTextHost_5 : decode cX9_readTextHost 5 = .ok (.putfield 129, 3) := by decide +kernel
theorem dX9_readTextHost_8 : decode cX9_readTextHost 8 = .ok (.aload_n 0, 1) := by decide +kernel
theorem dX9_readTextHost_9 : decode cX9_readTextHost 9 = .ok (.iconst 0, 1) := by decide +kernel
theorem dX9_readTextHost_10 : decode cX9_readTextHost 10 = .ok (.putfield 103, 3) := by decide +kernel
theorem dX9_readTextHost_13 : decode cX9_readTextHost 13 = .ok (.iconst 0, 1) := by decide +kernel
theorem dX9_readTextHost_14 : decode cX9_readTextHost 14 = .ok (.istore_n 1, 1) := by decide +kernel
theorem dX9_readTextHost_15 : decode cX9_readTextHost 15 = .ok (.iload_n 1, 1) := by decide +kernel
theorem dX9_readTextHost_16 : decode cX9_readTextHost 16 = .ok (.aload_n 0, 1) := by decide +kernel
theorem dX9_readTextHost_17 : decode cX9_readTextHost 17 = .ok (.getfield 129, 3) := by decide +kernel
theorem dX9_readTextHost_20 : decode cX9_readTextHost 20 = .ok (.if_icmp .ge 21, 3) := by decide +kernel
theorem dX9_readTextHost_23 : decode cX9_readTextHost 23 = .ok (.aload_n 0, 1) := by decide +kernel
theorem dX9_readTextHost_24 : decode cX9_readTextHost 24 = .ok (.getfield 43, 3) := by decide +kernel
theorem dX9_readTextHost_27 : decode cX9_readTextHost 27 = .ok (.iload_n 1, 1) := by decide +kernel
theorem dX9_readTextHost_28 : decode cX9_readTextHost 28 = .ok (.aload_n 0, 1) := by decide +kernel
theorem dX9_readTextHost_29 : decode cX9_readTextHost 29 = .ok (.getfield 7, 3) := by decide +kernel
theorem dX9_readTextHost_32 : decode cX9_readTextHost 32 = .ok (.iload_n 1, 1) := by decide +kernel
theorem dX9_readTextHost_33 : decode cX9_readTextHost 33 = .ok (.baload, 1) := by decide +kernel
theorem dX9_readTextHost_34 : decode cX9_readTextHost 34 = .ok (.bastore, 1) := by decide +kernel
theorem dX9_readTextHost_35 : decode cX9_readTextHost 35 = .ok (.iinc 1 1, 3) := by decide +kernel
theorem dX9_readTextHost_38 : decode cX9_readTextHost 38 = .ok (.goto (-23), 3) := by decide +kernel
theorem dX9_readTextHost_41 : decode cX9_readTextHost 41 = .ok (.aload_n 0, 1) := by decide +kernel
theorem dX9_readTextHost_42 : decode cX9_readTextHost 42 = .ok (.iconst 0, 1) := by decide +kernel
theorem dX9_readTextHost_43 : decode cX9_readTextHost 43 = .ok (.aload_n 0, 1) := by decide +kernel
theorem dX9_readTextHost_44 : decode cX9_readTextHost 44 = .ok (.getfield 129, 3) := by decide +kernel
theorem dX9_readTextHost_47 : decode cX9_readTextHost 47 = .ok (.invokevirtual 211, 3) := by decide +kernel
theorem dX9_readTextHost_50 : decode cX9_readTextHost 50 = .ok (.ireturn, 1) := by decide +kernel
theorem dX9_list_0 : decode cX9_list 0 = .ok (.aload_n 0, 1) := by decide +kernel
theorem dX9_list_1 : decode cX9_list 1 = .ok (.invokevirtual 301, 3) := by decide +kernel
theorem dX9_list_4 : decode cX9_list 4 = .ok (.istore_n 2, 1) := by decide +kernel
theorem dX9_list_5 : decode cX9_list 5 = .ok (.iload_n 2, 1) := by decide +kernel
theorem dX9_list_6 : decode cX9_list 6 = .ok (.ifCond .eq 5, 3) := by decide +kernel
theorem dX9_list_9 : decode cX9_list 9 = .ok (.iload_n 2, 1) := by decide +kernel
theorem dX9_list_10 : decode cX9_list 10 = .ok (.ireturn, 1) := by decide +kernel
theorem dX9_list_11 : decode cX9_list 11 = .ok (.iload_n 1, 1) := by decide +kernel
theorem dX9_list_12 : decode cX9_list 12 = .ok (.ifCond .eq 13, 3) := by decide +kernel
theorem dX9_list_15 : decode cX9_list 15 = .ok (.aload_n 0, 1) := by decide +kernel
theorem dX9_list_16 : decode cX9_list 16 = .ok (.getfield 214, 3) := by decide +kernel
theorem dX9_list_19 : decode cX9_list 19 = .ok (.ifCond .eq 6, 3) := by decide +kernel
theorem dX9_list_22 : decode cX9_list 22 = .ok (.bipush (-2), 2) := by decide +kernel
theorem dX9_list_24 : decode cX9_list 24 = .ok (.ireturn, 1) := by decide +kernel
theorem dX9_list_25 : decode cX9_list 25 = .ok (.aload_n 0, 1) := by decide +kernel
theorem dX9_list_26 : decode cX9_list 26 = .ok (.getfield 304, 3) := by decide +kernel
theorem dX9_list_29 : decode cX9_list 29 = .ok (.bipush 12, 2) := by decide +kernel
theorem dX9_list_31 : decode cX9_list 31 = .ok (.if_icmp .ne 6, 3) := by decide +kernel
theorem dX9_list_34 : decode cX9_list 34 = .ok (.bipush (-3), 2) := by decide +kernel
theorem dX9_list_36 : decode cX9_list 36 = .ok (.ireturn, 1) := by decide +kernel
theorem dX9_list_37 : decode cX9_list 37 = .ok (.aload_n 0, 1) := by decide +kernel
theorem dX9_list_38 : decode cX9_list 38 = .ok (.getfield 61, 3) := by decide +kernel
theorem dX9_list_41 : decode cX9_list 41 = .ok (.aload_n 0, 1) := by decide +kernel
theorem dX9_list_42 : decode cX9_list 42 = .ok (.getfield 304, 3) := by decide +kernel
theorem dX9_list_45 : decode cX9_list 45 = .ok (.aload_n 0, 1) := by decide +kernel
theorem dX9_list_46 : decode cX9_list 46 = .ok (.getfield 214, 3) := by decide +kernel
theorem dX9_list_49 : decode cX9_list 49 = .ok (.iastore, 1) := by decide +kernel
theorem dX9_list_50 : decode cX9_list 50 = .ok (.aload_n 0, 1) := by decide +kernel
theorem dX9_list_51 : decode cX9_list 51 = .ok (.getfield 67, 3) := by decide +kernel
theorem dX9_list_54 : decode cX9_list 54 = .ok (.aload_n 0, 1) := by decide +kernel
theorem dX9_list_55 : decode cX9_list 55 = .ok (.getfield 304, 3) := by decide +kernel
theorem dX9_list_58 : decode cX9_list 58 = .ok (.iload_n 1, 1) := by decide +kernel
theorem dX9_list_59 : decode cX9_list 59 = .ok (.bastore, 1) := by decide +kernel
theorem dX9_list_60 : decode cX9_list 60 = .ok (.aload_n 0, 1) := by decide +kernel
theorem dX9_list_61 : decode cX9_list 61 = .ok (.getfield 58, 3) := by decide +kernel
theorem dX9_list_64 : decode cX9_list 64 = .ok (.aload_n 0, 1) := by decide +kernel
theorem dX9_list_65 : decode cX9_list 65 = .ok (.getfield 304, 3) := by decide +kernel
theorem dX9_list_68 : decode cX9_list 68 = .ok (.aload_n 0, 1) := by decide +kernel
theorem dX9_list_69 : decode cX9_list 69 = .ok (.getfield 214, 3) := by decide +kernel
theorem dX9_list_72 : decode cX9_list 72 = .ok (.ifCond .ne 10, 3) := by decide +kernel
theorem dX9_list_75 : decode cX9_list 75 = .ok (.aload_n 0, 1) := by decide +kernel
theorem dX9_list_76 : decode cX9_list 76 = .ok (.getfield 217, 3) := by decide +kernel
theorem dX9_list_79 : decode cX9_list 79 = .ok (.goto 4, 3) := by decide +kernel
theorem dX9_list_82 : decode cX9_list 82 = .ok (.iconst 0, 1) := by decide +kernel
theorem dX9_list_83 : decode cX9_list 83 = .ok (.iastore, 1) := by decide +kernel
theorem dX9_list_84 : decode cX9_list 84 = .ok (.iconst 0, 1) := by decide +kernel
theorem dX9_list_85 : decode cX9_list 85 = .ok (.istore_n 3, 1) := by decide +kernel
theorem dX9_list_86 : decode cX9_list 86 = .ok (.iload_n 3, 1) := by decide +kernel
theorem dX9_list_87 : decode cX9_list 87 = .ok (.bipush 8, 2) := by decide +kernel
theorem dX9_list_89 : decode cX9_list 89 = .ok (.if_icmp .ge 29, 3) := by decide +kernel
theorem dX9_list_92 : decode cX9_list 92 = .ok (.aload_n 0, 1) := by decide +kernel
theorem dX9_list_93 : decode cX9_list 93 = .ok (.getfield 64, 3) := by decide +kernel
theorem dX9_list_96 : decode cX9_list 96 = .ok (.bipush 8, 2) := by decide +kernel
theorem dX9_list_98 : decode cX9_list 98 = .ok (.aload_n 0, 1) := by decide +kernel
theorem dX9_list_99 : decode cX9_list 99 = .ok (.getfield 304, 3) := by decide +kernel
theorem dX9_list_102 : decode cX9_list 102 = .ok (.imul, 1) := by decide +kernel
theorem dX9_list_103 : decode cX9_list 103 = .ok (.iload_n 3, 1) := by decide +kernel
theorem dX9_list_104 : decode cX9_list 104 = .ok (.iadd, 1) := by decide +kernel
theorem dX9_list_105 : decode cX9_list 105 = .ok (.aload_n 0, 1) := by decide +kernel
theorem dX9_list_106 : decode cX9_list 106 = .ok (.getfield 49, 3) := by decide +kernel
theorem dX9_list_109 : decode cX9_list 109 = .ok (.iload_n 3, 1) := by decide +kernel
theorem dX9_list_110 : decode cX9_list 110 = .ok (.iaload, 1) := by decide +kernel
theorem dX9_list_111 : decode cX9_list 111 = .ok (.iastore, 1) := by decide +kernel
theorem dX9_list_112 : decode cX9_list 112 = .ok (.iinc 3 1, 3) := by decide +kernel
theorem dX9_list_115 : decode cX9_list 115 = .ok (.goto (-29), 3) := by decide +kernel
theorem dX9_list_118 : decode cX9_list 118 = .ok (.iconst 0, 1) := by decide +kernel
theorem dX9_list_119 : decode cX9_list 119 = .ok (.istore_n 3, 1) := by decide +kernel
theorem dX9_list_120 : decode cX9_list 120 = .ok (.iload_n 3, 1) := by decide +kernel
theorem dX9_list_121 : decode cX9_list 121 = .ok (.aload_n 0, 1) := by decide +kernel
theorem dX9_list_122 : decode cX9_list 122 = .ok (.getfield 217, 3) := by decide +kernel
theorem dX9_list_125 : decode cX9_list 125 = .ok (.if_icmp .ge 37, 3) := by decide +kernel
theorem dX9_list_128 : decode cX9_list 128 = .ok (.aload_n 0, 1) := by decide +kernel
theorem dX9_list_129 : decode cX9_list 129 = .ok (.getfield 214, 3) := by decide +kernel
theorem dX9_list_132 : decode cX9_list 132 = .ok (.ifCond .ne 30, 3) := by decide +kernel
theorem dX9_list_135 : decode cX9_list 135 = .ok (.aload_n 0, 1) := by decide +kernel
theorem dX9_list_136 : decode cX9_list 136 = .ok (.getfield 55, 3) := by decide +kernel
theorem dX9_list_139 : decode cX9_list 139 = .ok (.sipush 300, 3) := by decide +kernel
theorem dX9_list_142 : decode cX9_list 142 = .ok (.aload_n 0, 1) := by decide +kernel
theorem dX9_list_143 : decode cX9_list 143 = .ok (.getfield 304, 3) := by decide +kernel
theorem dX9_list_146 : decode cX9_list 146 = .ok (.imul, 1) := by decide +kernel
theorem dX9_list_147 : decode cX9_list 147 = .ok (.iload_n 3, 1) := by decide +kernel
theorem dX9_list_148 : decode cX9_list 148 = .ok (.iadd, 1) := by decide +kernel
theorem dX9_list_149 : decode cX9_list 149 = .ok (.aload_n 0, 1) := by decide +kernel
theorem dX9_list_150 : decode cX9_list 150 = .ok (.getfield 46, 3) := by decide +kernel
theorem dX9_list_153 : decode cX9_list 153 = .ok (.iload_n 3, 1) := by decide +kernel
theorem dX9_list_154 : decode cX9_list 154 = .ok (.baload, 1) := by decide +kernel
theorem dX9_list_155 : decode cX9_list 155 = .ok (.bastore, 1) := by decide +kernel
theorem dX9_list_156 : decode cX9_list 156 = .ok (.iinc 3 1, 3) := by decide +kernel
theorem dX9_list_159 : decode cX9_list 159 = .ok (.goto (-39), 3) := by decide +kernel
theorem dX9_list_162 : decode cX9_list 162 = .ok (.aload_n 0, 1) := by decide +kernel
theorem dX9_list_163 : decode cX9_list 163 = .ok (.dup, 1) := by decide +kernel
theorem dX9_list_164 : decode cX9_list 164 = .ok (.getfield 304, 3) := by decide +kernel
theorem dX9_list_167 : decode cX9_list 167 = .ok (.iconst 1, 1) := by decide +kernel
theorem dX9_list_168 : decode cX9_list 168 = .ok (.iadd, 1) := by decide +kernel
theorem dX9_list_169 : decode cX9_list 169 = .ok (.putfield 304, 3) := by decide +kernel
theorem dX9_list_172 : decode cX9_list 172 = .ok (.aload_n 0, 1) := by decide +kernel
theorem dX9_list_173 : decode cX9_list 173 = .ok (.getfield 304, 3) := by decide +kernel
theorem dX9_list_176 : decode cX9_list 176 = .ok (.ireturn, 1) := by decide +kernel
theorem dX9_resolve_0 : decode cX9_resolve 0 = .ok (.iload_n 1, 1) := by decide +kernel
theorem dX9_resolve_1 : decode cX9_resolve 1 = .ok (.iconst 4, 1) := by decide +kernel
theorem dX9_resolve_2 : decode cX9_resolve 2 = .ok (.if_icmp .eq 12, 3) := by decide +kernel
theorem dX9_resolve_5 : decode cX9_resolve 5 = .ok (.iload_n 1, 1) := by decide +kernel
theorem dX9_resolve_6 : decode cX9_resolve 6 = .ok (.bipush 6, 2) := by decide +kernel
theorem dX9_resolve_8 : decode cX9_resolve 8 = .ok (.if_icmp .eq 6, 3) := by decide +kernel
theorem dX9_resolve_11 : decode cX9_resolve 11 = .ok (.bipush (-2), 2) := by decide +kernel
theorem dX9_resolve_13 : decode cX9_resolve 13 = .ok (.ireturn, 1) := by decide +kernel
theorem dX9_resolve_14 : decode cX9_resolve 14 = .ok (.aload_n 0, 1) := by decide +kernel
theorem dX9_resolve_15 : decode cX9_resolve 15 = .ok (.invokevirtual 301, 3) := by decide +kernel
theorem dX9_resolve_18 : decode cX9_resolve 18 = .ok (.istore 6, 2) := by decide +kernel
theorem dX9_resolve_20 : decode cX9_resolve 20 = .ok (.iload 6, 2) := by decide +kernel
theorem dX9_resolve_22 : decode cX9_resolve 22 = .ok (.ifCond .eq 6, 3) := by decide +kernel
theorem dX9_resolve_25 : decode cX9_resolve 25 = .ok (.iload 6, 2) := by decide +kernel
theorem dX9_resolve_27 : decode cX9_resolve 27 = .ok (.ireturn, 1) := by decide +kernel
theorem dX9_resolve_28 : decode cX9_resolve 28 = .ok (.aload_n 0, 1) := by decide +kernel
theorem dX9_resolve_29 : decode cX9_resolve 29 = .ok (.getfield 214, 3) := by decide +kernel
theorem dX9_resolve_32 : decode cX9_resolve 32 = .ok (.ifCond .eq 6, 3) := by decide +kernel
theorem dX9_resolve_35 : decode cX9_resolve 35 = .ok (.bipush (-2), 2) := by decide +kernel
theorem dX9_resolve_37 : decode cX9_resolve 37 = .ok (.ireturn, 1) := by decide +kernel
theorem dX9_resolve_38 : decode cX9_resolve 38 = .ok (.aload_n 0, 1) := by decide +kernel
theorem dX9_resolve_39 : decode cX9_resolve 39 = .ok (.getfield 307, 3) := by decide +kernel
theorem dX9_resolve_42 : decode cX9_resolve 42 = .ok (.bipush 16, 2) := by decide +kernel
theorem dX9_resolve_44 : decode cX9_resolve 44 = .ok (.if_icmp .ne 6, 3) := by decide +kernel
theorem dX9_resolve_47 : decode cX9_resolve 47 = .ok (.bipush (-3), 2) := by decide +kernel
theorem dX9_resolve_49 : decode cX9_resolve 49 = .ok (.ireturn, 1) := by decide +kernel
theorem dX9_resolve_50 : decode cX9_resolve 50 = .ok (.aload_n 0, 1) := by decide +kernel
theorem dX9_resolve_51 : decode cX9_resolve 51 = .ok (.getfield 73, 3) := by decide +kernel
theorem dX9_resolve_54 : decode cX9_resolve 54 = .ok (.aload_n 0, 1) := by decide +kernel
theorem dX9_resolve_55 : decode cX9_resolve 55 = .ok (.getfield 307, 3) := by decide +kernel
theorem dX9_resolve_58 : decode cX9_resolve 58 = .ok (.aload_n 0, 1) := by decide +kernel
theorem dX9_resolve_59 : decode cX9_resolve 59 = .ok (.getfield 217, 3) := by decide +kernel
theorem dX9_resolve_62 : decode cX9_resolve 62 = .ok (.iastore, 1) := by decide +kernel
theorem dX9_resolve_63 : decode cX9_resolve 63 = .ok (.iconst 0, 1) := by decide +kernel
theorem dX9_resolve_64 : decode cX9_resolve 64 = .ok (.istore 7, 2) := by decide +kernel
theorem dX9_resolve_66 : decode cX9_resolve 66 = .ok (.iload 7, 2) := by decide +kernel
theorem dX9_resolve_68 : decode cX9_resolve 68 = .ok (.aload_n 0, 1) := by decide +kernel
theorem dX9_resolve_69 : decode cX9_resolve 69 = .ok (.getfield 217, 3) := by decide +kernel
theorem dX9_resolve_72 : decode cX9_resolve 72 = .ok (.if_icmp .ge 32, 3) := by decide +kernel
theorem dX9_resolve_75 : decode cX9_resolve 75 = .ok (.aload_n 0, 1) := by decide +kernel
theorem dX9_resolve_76 : decode cX9_resolve 76 = .ok (.getfield 70, 3) := by decide +kernel
theorem dX9_resolve_79 : decode cX9_resolve 79 = .ok (.sipush 300, 3) := by decide +kernel
theorem dX9_resolve_82 : decode cX9_resolve 82 = .ok (.aload_n 0, 1) := by decide +kernel
theorem dX9_resolve_83 : decode cX9_resolve 83 = .ok (.getfield 307, 3) := by decide +kernel
theorem dX9_resolve_86 : decode cX9_resolve 86 = .ok (.imul, 1) := by decide +kernel
theorem dX9_resolve_87 : decode cX9_resolve 87 = .ok (.iload 7, 2) := by decide +kernel
theorem dX9_resolve_89 : decode cX9_resolve 89 = .ok (.iadd, 1) := by decide +kernel
theorem dX9_resolve_90 : decode cX9_resolve 90 = .ok (.aload_n 0, 1) := by decide +kernel
theorem dX9_resolve_91 : decode cX9_resolve 91 = .ok (.getfield 46, 3) := by decide +kernel
theorem dX9_resolve_94 : decode cX9_resolve 94 = .ok (.iload 7, 2) := by decide +kernel
theorem dX9_resolve_96 : decode cX9_resolve 96 = .ok (.baload, 1) := by decide +kernel
theorem dX9_resolve_97 : decode cX9_resolve 97 = .ok (.bastore, 1) := by decide +kernel
theorem dX9_resolve_98 : decode cX9_resolve 98 = .ok (.iinc 7 1, 3) := by decide +kernel
theorem dX9_resolve_101 : decode cX9_resolve 101 = .ok (.goto (-35), 3) := by decide +kernel
theorem dX9_resolve_104 : decode cX9_resolve 104 = .ok (.aload_n 0, 1) := by decide +kernel
theorem dX9_resolve_105 : decode cX9_resolve 105 = .ok (.getfield 76, 3) := by decide +kernel
theorem dX9_resolve_108 : decode cX9_resolve 108 = .ok (.aload_n 0, 1) := by decide +kernel
theorem dX9_resolve_109 : decode cX9_resolve 109 = .ok (.getfield 307, 3) := by decide +kernel
theorem dX9_resolve_112 : decode cX9_resolve 112 = .ok (.iload_n 1, 1) := by decide +kernel
theorem dX9_resolve_113 : decode cX9_resolve 113 = .ok (.iastore, 1) := by decide +kernel
theorem dX9_resolve_114 : decode cX9_resolve 114 = .ok (.aload_n 0, 1) := by decide +kernel
theorem dX9_resolve_115 : decode cX9_resolve 115 = .ok (.getfield 79, 3) := by decide +kernel
theorem dX9_resolve_118 : decode cX9_resolve 118 = .ok (.iconst 4, 1) := by decide +kernel
theorem dX9_resolve_119 : decode cX9_resolve 119 = .ok (.aload_n 0, 1) := by decide +kernel
theorem dX9_resolve_120 : decode cX9_resolve 120 = .ok (.getfield 307, 3) := by decide +kernel
theorem dX9_resolve_123 : decode cX9_resolve 123 = .ok (.imul, 1) := by decide +kernel
theorem dX9_resolve_124 : decode cX9_resolve 124 = .ok (.iload_n 2, 1) := by decide +kernel
theorem dX9_resolve_125 : decode cX9_resolve 125 = .ok (.iastore, 1) := by decide +kernel
theorem dX9_resolve_126 : decode cX9_resolve 126 = .ok (.aload_n 0, 1) := by decide +kernel
theorem dX9_resolve_127 : decode cX9_resolve 127 = .ok (.getfield 79, 3) := by decide +kernel
theorem dX9_resolve_130 : decode cX9_resolve 130 = .ok (.iconst 4, 1) := by decide +kernel
theorem dX9_resolve_131 : decode cX9_resolve 131 = .ok (.aload_n 0, 1) := by decide +kernel
theorem dX9_resolve_132 : decode cX9_resolve 132 = .ok (.getfield 307, 3) := by decide +kernel
theorem dX9_resolve_135 : decode cX9_resolve 135 = .ok (.imul, 1) := by decide +kernel
theorem dX9_resolve_136 : decode cX9_resolve 136 = .ok (.iconst 1, 1) := by decide +kernel
theorem dX9_resolve_137 : decode cX9_resolve 137 = .ok (.iadd, 1) := by decide +kernel
theorem dX9_resolve_138 : decode cX9_resolve 138 = .ok (.iload_n 3, 1) := by decide +kernel
theorem dX9_resolve_139 : decode cX9_resolve 139 = .ok (.iastore, 1) := by decide +kernel
theorem dX9_resolve_140 : decode cX9_resolve 140 = .ok (.aload_n 0, 1) := by decide +kernel
theorem dX9_resolve_141 : decode cX9_resolve 141 = .ok (.getfield 79, 3) := by decide +kernel
theorem dX9_resolve_144 : decode cX9_resolve 144 = .ok (.iconst 4, 1) := by decide +kernel
theorem dX9_resolve_145 : decode cX9_resolve 145 = .ok (.aload_n 0, 1) := by decide +kernel
theorem dX9_resolve_146 : decode cX9_resolve 146 = .ok (.getfield 307, 3) := by decide +kernel
theorem dX9_resolve_149 : decode cX9_resolve 149 = .ok (.imul, 1) := by decide +kernel
theorem dX9_resolve_150 : decode cX9_resolve 150 = .ok (.iconst 2, 1) := by decide +kernel
theorem dX9_resolve_151 : decode cX9_resolve 151 = .ok (.iadd, 1) := by decide +kernel
theorem dX9_resolve_152 : decode cX9_resolve 152 = .ok (.iload 4, 2) := by decide +kernel
theorem dX9_resolve_154 : decode cX9_resolve 154 = .ok (.iastore, 1) := by decide +kernel
theorem dX9_resolve_155 : decode cX9_resolve 155 = .ok (.aload_n 0, 1) := by decide +kernel
theorem dX9_resolve_156 : decode cX9_resolve 156 = .ok (.getfield 79, 3) := by decide +kernel
theorem dX9_resolve_159 : decode cX9_resolve 159 = .ok (.iconst 4, 1) := by decide +kernel
theorem dX9_resolve_160 : decode cX9_resolve 160 = .ok (.aload_n 0, 1) := by decide +kernel
theorem dX9_resolve_161 : decode cX9_resolve 161 = .ok (.getfield 307, 3) := by decide +kernel
theorem dX9_resolve_164 : decode cX9_resolve 164 = .ok (.imul, 1) := by decide +kernel
theorem dX9_resolve_165 : decode cX9_resolve 165 = .ok (.iconst 3, 1) := by decide +kernel
theorem dX9_resolve_166 : decode cX9_resolve 166 = .ok (.iadd, 1) := by decide +kernel
theorem dX9_resolve_167 : decode cX9_resolve 167 = .ok (.iload 5, 2) := by decide +kernel
theorem dX9_resolve_169 : decode cX9_resolve 169 = .ok (.iastore, 1) := by decide +kernel
theorem dX9_resolve_170 : decode cX9_resolve 170 = .ok (.aload_n 0, 1) := by decide +kernel
theorem dX9_resolve_171 : decode cX9_resolve 171 = .ok (.dup, 1) := by decide +kernel
theorem dX9_resolve_172 : decode cX9_resolve 172 = .ok (.getfield 307, 3) := by decide +kernel
theorem dX9_resolve_175 : decode cX9_resolve 175 = .ok (.iconst 1, 1) := by decide +kernel
theorem dX9_resolve_176 : decode cX9_resolve 176 = .ok (.iadd, 1) := by decide +kernel
theorem dX9_resolve_177 : decode cX9_resolve 177 = .ok (.putfield 307, 3) := by decide +kernel
theorem dX9_resolve_180 : decode cX9_resolve 180 = .ok (.aload_n 0, 1) := by decide +kernel
theorem dX9_resolve_181 : decode cX9_resolve 181 = .ok (.getfield 307, 3) := by decide +kernel
theorem dX9_resolve_184 : decode cX9_resolve 184 = .ok (.ireturn, 1) := by decide +kernel
def f_X9_part  (a0 : Option Nat) (a1 : Int32) (a2 : Int32) (a3 : Int32) : gM Int32 := gb (nn 8 a0) fun _ => gb (f_X9_size a0 a1 a2) fun v1 => if v1 = (-2) then (gp (-2)) else (gb (f_X9_isIn a3 0 (v1 - 1)) fun v2 => if v2 = 0 then (gp (-1)) else (if a2 = 0 then (gb (rR 8 3 a0) fun v8 => gb (aI 1 v8 a1) fun v9 => gb (f_X9_schemeByte v9 a3) fun v10 => gp v10) else (if a2 = 3 then (gb (rR 8 18 a0) fun v6 => gb (aI 0 v6 a3) fun v7 => gp (v7 &&& 255)) else (gb (rR 8 9 a0) fun v3 => gb (nn 8 a0) fun _ => gb (f_X9_row a0 a1 (a2 - 1)) fun v4 => gb (aI 0 v3 (v4 + a3)) fun v5 => gp (v5 &&& 255)))))
section S_X9_part
variable {G : gX} {p : Program} {l : Launch} {e : Env} {s : State} {m : MethodId} {args : Array Value} {below : List Frame} {meth : Method} {c : Code} {mc ms : Nat} {y : Int32 × gS}
set_option maxHeartbeats 4000000 in
set_option maxRecDepth 100000 in
theorem w_X9_part_0 (C : gC G p s m args meth c cX9_part 5 RX9) (hr : meth.sig.returnType = (some .int))  (a0 : Option Nat) (a1 : Int32) (a2 : Int32) (a3 : Int32) : gJ G p l e 5 114 mc ms s m args below meth c gri y 5 0 [(0, va_rf a0), (1, .int a1), (2, .int a2), (3, .int a3)] [] (f_X9_part  a0 a1 a2 a3) := by
  have hx := C.1
  have hb := C.2.1
  intro σ H locs cells slots ls hf I hl
  unfold f_X9_part at hf
  refine gw_aload_n hx hb dX9_part_0 rfl (lv_at hl 0 rfl) ?_
  refine lv_iload_n hx hb dX9_part_1 rfl (lv_at hl 1 rfl) ?_
  refine lv_iload_n hx hb dX9_part_2 rfl (lv_at hl 2 rfl) ?_
  refine gw_callV (rest := []) C I hl.1 gcls_8 (m_X9_size G l a0 a1 a2) gl_RX9_296 gn_X9_size ⟨Nat.le_of_ble_eq_true rfl, Nat.le_of_ble_eq_true rfl⟩ rfl (gc4 (Nat.le_of_ble_eq_true rfl)) rfl dX9_part_3 hf (fun v1 σ H locs cells slots I hf => ?_)
  refine W.eq (g2 := F0 m 6 ls [.int v1]) rfl ?_
  refine lv_istore (lv' := [(4, .int v1), (0, va_rf a0), (1, .int a1), (2, .int a2), (3, .int a3)]) hx hb dX9_part_6 hl (by decide) rfl (fun ls hl => ?_)
  refine lv_iload hx hb dX9_part_8 (lv_at hl 0 rfl) ?_
  refine lv_bipush (v := (-2)) hx hb dX9_part_10 kc_b_m2 ?_
  refine lv_icmp_ne (tgt := 18) hx hb dX9_part_12 (by decide) (fun hq => ?_) (fun hq => ?_)
  · have hf := giff hq hf
    refine lv_iload_n hx hb dX9_part_18 rfl (lv_at hl 4 rfl) ?_
    refine lv_iconst (v := 0) hx hb dX9_part_19 kc_i_0 ?_
    refine lv_iload hx hb dX9_part_20 (lv_at hl 0 rfl) ?_
    refine lv_iconst (v := 1) hx hb dX9_part_22 kc_i_1 ?_
    refine lv_isub hx hb dX9_part_23 ?_
    refine gw_callS (rest := []) C I hl.1 (m_X9_isIn G l a3 0 (v1 - 1)) gl_RX9_91 kw_192 ⟨Nat.le_of_ble_eq_true rfl, Nat.le_of_ble_eq_true rfl⟩ rfl (gc4 (Nat.le_of_ble_eq_true rfl)) rfl dX9_part_24 hf (fun v2 σ H locs cells slots I hf => ?_)
    refine W.eq (g2 := F0 m 27 ls [.int v2]) rfl ?_
    refine lv_if_ne (tgt := 32) hx hb dX9_part_27 (by decide) (fun hq => ?_) (fun hq => ?_)
    · have hf := giff hq hf
      refine lv_iload_n hx hb dX9_part_32 rfl (lv_at hl 3 rfl) ?_
      refine lv_if_ne (tgt := 49) hx hb dX9_part_33 (by decide) (fun hq => ?_) (fun hq => ?_)
      · have hf := giff hq hf
        refine lv_iload_n hx hb dX9_part_49 rfl (lv_at hl 3 rfl) ?_
        refine lv_iconst (v := 3) hx hb dX9_part_50 kc_i_3 ?_
        refine lv_icmp_ne (tgt := 67) hx hb dX9_part_51 (by decide) (fun hq => ?_) (fun hq => ?_)
        · have hf := giff hq hf
          refine gw_aload_n hx hb dX9_part_67 rfl (lv_at hl 1 rfl) ?_
          refine gw_getr (k := 9) C I gcls_8 (by decide) rfl kw_174 dX9_part_68 hf (fun v3 hf => ?_)
          refine gw_aload_n hx hb dX9_part_71 rfl (lv_at hl 1 rfl) ?_
          refine lv_iload_n hx hb dX9_part_72 rfl (lv_at hl 2 rfl) ?_
          refine lv_iload_n hx hb dX9_part_73 rfl (lv_at hl 3 rfl) ?_
          refine lv_iconst (v := 1) hx hb dX9_part_74 kc_i_1 ?_
          refine lv_isub hx hb dX9_part_75 ?_
          refine gw_callV (rest := [va_rf v3]) C I hl.1 gcls_8 (m_X9_row G l a0 a1 (a2 - 1)) gl_RX9_111 gn_X9_row ⟨Nat.le_of_ble_eq_true rfl, Nat.le_of_ble_eq_true rfl⟩ rfl (gc4 (Nat.le_of_ble_eq_true rfl)) rfl dX9_part_76 hf (fun v4 σ H locs cells slots I hf => ?_)
          refine W.eq (g2 := F0 m 79 ls [.int v4, va_rf v3]) rfl ?_
          refine lv_iload_n hx hb dX9_part_79 rfl (lv_at hl 4 rfl) ?_
          refine lv_iadd hx hb dX9_part_80 ?_
          refine gw_bald C I dX9_part_81 hf (fun v5 hf => ?_)
          refine lv_sipush (v := 255) hx hb dX9_part_82 kc_s_255 ?_
          refine lv_iand hx hb dX9_part_85 ?_
          exact gw_iret C I hr dX9_part_86 hf
        · have hf := gift hq hf
          refine gw_aload_n hx hb dX9_part_54 rfl (lv_at hl 1 rfl) ?_
          refine gw_getr (k := 18) C I gcls_8 (by decide) rfl kw_179 dX9_part_55 hf (fun v6 hf => ?_)
          refine lv_iload_n hx hb dX9_part_58 rfl (lv_at hl 4 rfl) ?_
          refine gw_bald C I dX9_part_59 hf (fun v7 hf => ?_)
          refine lv_sipush (v := 255) hx hb dX9_part_60 kc_s_255 ?_
          refine lv_iand hx hb dX9_part_63 ?_
          refine lv_goto (tgt := 86) hx hb dX9_part_64 (by decide) ?_
          exact gw_iret C I hr dX9_part_86 hf
      · have hf := gift hq hf
        refine gw_aload_n hx hb dX9_part_36 rfl (lv_at hl 1 rfl) ?_
        refine gw_getr (k := 3) C I gcls_8 (by decide) rfl kw_167 dX9_part_37 hf (fun v8 hf => ?_)
        refine lv_iload_n hx hb dX9_part_40 rfl (lv_at hl 2 rfl) ?_
        refine gw_iald C I dX9_part_41 hf (fun v9 hf => ?_)
        refine lv_iload_n hx hb dX9_part_42 rfl (lv_at hl 4 rfl) ?_
        refine gw_callS (rest := []) C I hl.1 (m_X9_schemeByte G l v9 a3) gl_RX9_154 kw_200 ⟨Nat.le_of_ble_eq_true rfl, Nat.le_of_ble_eq_true rfl⟩ rfl (gc4 (Nat.le_of_ble_eq_true rfl)) rfl dX9_part_43 hf (fun v10 σ H locs cells slots I hf => ?_)
        refine W.eq (g2 := F0 m 46 ls [.int v10]) rfl ?_
        refine lv_goto (tgt := 86) hx hb dX9_part_46 (by decide) ?_
        exact gw_iret C I hr dX9_part_86 hf
    · have hf := gift hq hf
      refine lv_iconst (v := (-1)) hx hb dX9_part_30 kc_i_m1 ?_
      exact gw_iret C I hr dX9_part_31 hf
  · have hf := gift hq hf
    refine lv_bipush (v := (-2)) hx hb dX9_part_15 kc_b_m2 ?_
    exact gw_iret C I hr dX9_part_17 hf
end S_X9_part
theorem m_X9_part (G : gX) (l : Launch) (a0 : Option Nat) (a1 : Int32) (a2 : Int32) (a3 : Int32) : gMet G l yX9_part cX9_part 5 (some .int) 5 114 [va_rf a0, .int a1, .int a2, .int a3] gri (f_X9_part a0 a1 a2 a3) := by
  refine gMet_of (by decide) ?_
  intro σ y p e s m below meth c mc ms hf C hr hnm I
  obtain ⟨ls, e1, hl⟩ := gentry m [va_rf a0, .int a1, .int a2, .int a3] 5 [(0, va_rf a0), (1, .int a1), (2, .int a2), (3, .int a3)] (by simp [lg_sl, grc, gcat_i, gcat_l]) (by simp [lv_args, grc, gcat_i, gcat_l])
  rw [e1]
  exact w_X9_part_0 C hr a0 a1 a2 a3 _ _ _ _ _ _ hf I hl
def f_X9_told_81 (rec81 : Option Nat → Int32 → Int32 → Int32 → gM Int32) (x0 : Option Nat) (x1 : Int32) (x3 : Int32) (x4 : Int32) : gM Int32 := gb (nn 8 x0) fun _ => gb (f_X9_sizeOf x0 x1 3) fun v1 => if v1 ≤ x4 then (gp x3) else (gb (rR 8 9 x0) fun v2 => gb (nn 8 x0) fun _ => gb (f_X9_row x0 x1 3) fun v3 => gb (aI 0 v2 (v3 + x4)) fun v4 => if v4 = 47 then (rec81 x0 x1 (x3 + 1) (x4 + 1)) else (rec81 x0 x1 x3 (x4 + 1)))
def f_X9_told_L81  : Nat → Option Nat → Int32 → Int32 → Int32 → gM Int32
  | 0, _, _, _, _ => gno
  | n + 1, x0, x1, x3, x4 => f_X9_told_81  (f_X9_told_L81  n) x0 x1 x3 x4
def f_X9_told  (a0 : Option Nat) (a1 : Int32) (a2 : Int32) : gM Int32 := gb (nn 8 a0) fun _ => gb (f_X9_has a0 a1) fun v1 => if v1 = 0 then (gp (-2)) else (gb (f_X9_isIn a2 0 3) fun v2 => if v2 = 0 then (gp (-2)) else (if a2 = 0 then (gb (rR 8 4 a0) fun v12 => gb (aI 1 v12 a1) fun v13 => gp v13) else (if a2 = 1 then (gb (rR 8 4 a0) fun v5 => gb (aI 1 v5 a1) fun v6 => if 0 ≤ v6 then (gb (rR 8 4 a0) fun v7 => gb (aI 1 v7 a1) fun v8 => gp v8) else (gb (rR 8 3 a0) fun v9 => gb (aI 1 v9 a1) fun v10 => gb (f_X9_portOf v10) fun v11 => gp v11)) else (if a2 = 2 then (gb (rR 8 5 a0) fun v3 => gb (aI 1 v3 a1) fun v4 => gp v4) else (f_X9_told_L81  gF a0 a1 0 0)))))
section S_X9_told
variable {G : gX} {p : Program} {l : Launch} {e : Env} {s : State} {m : MethodId} {args : Array Value} {below : List Frame} {meth : Method} {c : Code} {mc ms : Nat} {y : Int32 × gS}
set_option maxHeartbeats 4000000 in
set_option maxRecDepth 100000 in
theorem w_X9_told_81 (C : gC G p s m args meth c cX9_told 5 RX9) (hr : meth.sig.returnType = (some .int)) {rec81 : Option Nat → Int32 → Int32 → Int32 → gM Int32} (hrec81 : ∀ (x0 : Option Nat) (x1 : Int32) (x3 : Int32) (x4 : Int32), gJ G p l e 2 43 mc ms s m args below meth c gri y 5 81 [(0, va_rf x0), (1, .int x1), (3, .int x3), (4, .int x4)] [] (rec81 x0 x1 x3 x4)) (x0 : Option Nat) (x1 : Int32) (x3 : Int32) (x4 : Int32) : gJ G p l e 2 43 mc ms s m args below meth c gri y 5 81 [(0, va_rf x0), (1, .int x1), (3, .int x3), (4, .int x4)] [] (f_X9_told_81 rec81 x0 x1 x3 x4) := by
  have hx := C.1
  have hb := C.2.1
  intro σ H locs cells slots ls hf I hl
  unfold f_X9_told_81 at hf
  refine lv_iload hx hb dX9_told_81 (lv_at hl 3 rfl) ?_
  refine gw_aload_n hx hb dX9_told_83 rfl (lv_at hl 0 rfl) ?_
  refine lv_iload_n hx hb dX9_told_84 rfl (lv_at hl 1 rfl) ?_
  refine lv_iconst (v := 3) hx hb dX9_told_85 kc_i_3 ?_
  refine gw_callV (rest := [.int x4]) C I hl.1 gcls_8 (m_X9_sizeOf G l x0 x1 3) gl_RX9_107 gn_X9_sizeOf ⟨Nat.le_of_ble_eq_true rfl, Nat.le_of_ble_eq_true rfl⟩ rfl (gc4 (Nat.le_of_ble_eq_true rfl)) rfl dX9_told_86 hf (fun v1 σ H locs cells slots I hf => ?_)
  refine W.eq (g2 := F0 m 89 ls [.int v1, .int x4]) rfl ?_
  refine lv_icmp_ge (tgt := 125) hx hb dX9_told_89 (by decide) (fun hq => ?_) (fun hq => ?_)
  · have hf := gift hq hf
    refine lv_iload_n hx hb dX9_told_125 rfl (lv_at hl 2 rfl) ?_
    exact gw_iret C I hr dX9_told_126 hf
  · have hf := giff hq hf
    refine gw_aload_n hx hb dX9_told_92 rfl (lv_at hl 0 rfl) ?_
    refine gw_getr (k := 9) C I gcls_8 (by decide) rfl kw_174 dX9_told_93 hf (fun v2 hf => ?_)
    refine gw_aload_n hx hb dX9_told_96 rfl (lv_at hl 0 rfl) ?_
    refine lv_iload_n hx hb dX9_told_97 rfl (lv_at hl 1 rfl) ?_
    refine lv_iconst (v := 3) hx hb dX9_told_98 kc_i_3 ?_
    refine gw_callV (rest := [va_rf v2]) C I hl.1 gcls_8 (m_X9_row G l x0 x1 3) gl_RX9_111 gn_X9_row ⟨Nat.le_of_ble_eq_true rfl, Nat.le_of_ble_eq_true rfl⟩ rfl (gc4 (Nat.le_of_ble_eq_true rfl)) rfl dX9_told_99 hf (fun v3 σ H locs cells slots I hf => ?_)
    refine W.eq (g2 := F0 m 102 ls [.int v3, va_rf v2]) rfl ?_
    refine lv_iload hx hb dX9_told_102 (lv_at hl 3 rfl) ?_
    refine lv_iadd hx hb dX9_told_104 ?_
    refine gw_bald C I dX9_told_105 hf (fun v4 hf => ?_)
    refine lv_bipush (v := 47) hx hb dX9_told_106 kc_b_47 ?_
    refine lv_icmp_ne (tgt := 117) hx hb dX9_told_108 (by decide) (fun hq => ?_) (fun hq => ?_)
    · have hf := giff hq hf
      refine lv_iload_n hx hb dX9_told_117 rfl (lv_at hl 2 rfl) ?_
      refine lv_istore_n (lv' := [(3, .int x3), (0, va_rf x0), (1, .int x1), (4, .int x4)]) hx hb dX9_told_118 rfl hl (by decide) rfl (fun ls hl => ?_)
      refine lv_iinc (v := x4 + 1) (lv' := [(4, .int (x4 + 1)), (3, .int x3), (0, va_rf x0), (1, .int x1)]) hx hb dX9_told_119 hl (k := 3) rfl rfl (by decide) rfl (fun ls hl => ?_)
      refine lv_goto (tgt := 81) hx hb dX9_told_122 (by decide) ?_
      exact hrec81 x0 x1 x3 (x4 + 1) _ _ _ _ _ _ hf I (lv_sub hl [2, 3, 1, 0] rfl)
    · have hf := gift hq hf
      refine lv_iload_n hx hb dX9_told_111 rfl (lv_at hl 2 rfl) ?_
      refine lv_iconst (v := 1) hx hb dX9_told_112 kc_i_1 ?_
      refine lv_iadd hx hb dX9_told_113 ?_
      refine lv_goto (tgt := 118) hx hb dX9_told_114 (by decide) ?_
      refine lv_istore_n (lv' := [(3, .int (x3 + 1)), (0, va_rf x0), (1, .int x1), (4, .int x4)]) hx hb dX9_told_118 rfl hl (by decide) rfl (fun ls hl => ?_)
      refine lv_iinc (v := x4 + 1) (lv' := [(4, .int (x4 + 1)), (3, .int (x3 + 1)), (0, va_rf x0), (1, .int x1)]) hx hb dX9_told_119 hl (k := 3) rfl rfl (by decide) rfl (fun ls hl => ?_)
      refine lv_goto (tgt := 81) hx hb dX9_told_122 (by decide) ?_
      exact hrec81 x0 x1 (x3 + 1) (x4 + 1) _ _ _ _ _ _ hf I (lv_sub hl [2, 3, 1, 0] rfl)
theorem w_X9_told_L81 (C : gC G p s m args meth c cX9_told 5 RX9) (hr : meth.sig.returnType = (some .int))  : ∀ (n : Nat) (x0 : Option Nat) (x1 : Int32) (x3 : Int32) (x4 : Int32), gJ G p l e 2 43 mc ms s m args below meth c gri y 5 81 [(0, va_rf x0), (1, .int x1), (3, .int x3), (4, .int x4)] [] (f_X9_told_L81  n x0 x1 x3 x4) := by
  intro n
  induction n with
  | zero => intro x0 x1 x3 x4 σ H locs cells slots ls hf; exact (gno_some hf).elim
  | succ n ih => intro x0 x1 x3 x4; exact w_X9_told_81 C hr  ih x0 x1 x3 x4
set_option maxHeartbeats 4000000 in
set_option maxRecDepth 100000 in
theorem w_X9_told_0 (C : gC G p s m args meth c cX9_told 5 RX9) (hr : meth.sig.returnType = (some .int))  (a0 : Option Nat) (a1 : Int32) (a2 : Int32) : gJ G p l e 2 43 mc ms s m args below meth c gri y 5 0 [(0, va_rf a0), (1, .int a1), (2, .int a2)] [] (f_X9_told  a0 a1 a2) := by
  have hx := C.1
  have hb := C.2.1
  intro σ H locs cells slots ls hf I hl
  unfold f_X9_told at hf
  refine gw_aload_n hx hb dX9_told_0 rfl (lv_at hl 0 rfl) ?_
  refine lv_iload_n hx hb dX9_told_1 rfl (lv_at hl 1 rfl) ?_
  refine gw_callV (rest := []) C I hl.1 gcls_8 (m_X9_has G l a0 a1) gl_RX9_157 gn_X9_has ⟨Nat.le_of_ble_eq_true rfl, Nat.le_of_ble_eq_true rfl⟩ rfl (gc4 (Nat.le_of_ble_eq_true rfl)) rfl dX9_told_2 hf (fun v1 σ H locs cells slots I hf => ?_)
  refine W.eq (g2 := F0 m 5 ls [.int v1]) rfl ?_
  refine lv_if_eq (tgt := 17) hx hb dX9_told_5 (by decide) (fun hq => ?_) (fun hq => ?_)
  · have hf := gift hq hf
    refine lv_bipush (v := (-2)) hx hb dX9_told_17 kc_b_m2 ?_
    exact gw_iret C I hr dX9_told_19 hf
  · have hf := giff hq hf
    refine lv_iload_n hx hb dX9_told_8 rfl (lv_at hl 2 rfl) ?_
    refine lv_iconst (v := 0) hx hb dX9_told_9 kc_i_0 ?_
    refine lv_iconst (v := 3) hx hb dX9_told_10 kc_i_3 ?_
    refine gw_callS (rest := []) C I hl.1 (m_X9_isIn G l a2 0 3) gl_RX9_91 kw_192 ⟨Nat.le_of_ble_eq_true rfl, Nat.le_of_ble_eq_true rfl⟩ rfl (gc4 (Nat.le_of_ble_eq_true rfl)) rfl dX9_told_11 hf (fun v2 σ H locs cells slots I hf => ?_)
    refine W.eq (g2 := F0 m 14 ls [.int v2]) rfl ?_
    refine lv_if_ne (tgt := 20) hx hb dX9_told_14 (by decide) (fun hq => ?_) (fun hq => ?_)
    · have hf := giff hq hf
      refine lv_iload_n hx hb dX9_told_20 rfl (lv_at hl 2 rfl) ?_
      refine lv_if_ne (tgt := 31) hx hb dX9_told_21 (by decide) (fun hq => ?_) (fun hq => ?_)
      · have hf := giff hq hf
        refine lv_iload_n hx hb dX9_told_31 rfl (lv_at hl 2 rfl) ?_
        refine lv_iconst (v := 1) hx hb dX9_told_32 kc_i_1 ?_
        refine lv_icmp_ne (tgt := 64) hx hb dX9_told_33 (by decide) (fun hq => ?_) (fun hq => ?_)
        · have hf := giff hq hf
          refine lv_iload_n hx hb dX9_told_64 rfl (lv_at hl 2 rfl) ?_
          refine lv_iconst (v := 2) hx hb dX9_told_65 kc_i_2 ?_
          refine lv_icmp_ne (tgt := 76) hx hb dX9_told_66 (by decide) (fun hq => ?_) (fun hq => ?_)
          · have hf := giff hq hf
            refine lv_iconst (v := 0) hx hb dX9_told_76 kc_i_0 ?_
            refine lv_istore_n (lv' := [(3, .int 0), (0, va_rf a0), (1, .int a1), (2, .int a2)]) hx hb dX9_told_77 rfl hl (by decide) rfl (fun ls hl => ?_)
            refine lv_iconst (v := 0) hx hb dX9_told_78 kc_i_0 ?_
            refine lv_istore (lv' := [(4, .int 0), (3, .int 0), (0, va_rf a0), (1, .int a1), (2, .int a2)]) hx hb dX9_told_79 hl (by decide) rfl (fun ls hl => ?_)
            exact w_X9_told_L81 C hr  _ a0 a1 0 0 _ _ _ _ _ _ hf I (lv_sub hl [2, 3, 1, 0] rfl)
          · have hf := gift hq hf
            refine gw_aload_n hx hb dX9_told_69 rfl (lv_at hl 0 rfl) ?_
            refine gw_getr (k := 5) C I gcls_8 (by decide) rfl kw_169 dX9_told_70 hf (fun v3 hf => ?_)
            refine lv_iload_n hx hb dX9_told_73 rfl (lv_at hl 1 rfl) ?_
            refine gw_iald C I dX9_told_74 hf (fun v4 hf => ?_)
            exact gw_iret C I hr dX9_told_75 hf
        · have hf := gift hq hf
          refine gw_aload_n hx hb dX9_told_36 rfl (lv_at hl 0 rfl) ?_
          refine gw_getr (k := 4) C I gcls_8 (by decide) rfl kw_168 dX9_told_37 hf (fun v5 hf => ?_)
          refine lv_iload_n hx hb dX9_told_40 rfl (lv_at hl 1 rfl) ?_
          refine gw_iald C I dX9_told_41 hf (fun v6 hf => ?_)
          refine lv_if_ge (tgt := 57) hx hb dX9_told_42 (by decide) (fun hq => ?_) (fun hq => ?_)
          · have hf := gift hq hf
            refine gw_aload_n hx hb dX9_told_57 rfl (lv_at hl 0 rfl) ?_
            refine gw_getr (k := 4) C I gcls_8 (by decide) rfl kw_168 dX9_told_58 hf (fun v7 hf => ?_)
            refine lv_iload_n hx hb dX9_told_61 rfl (lv_at hl 1 rfl) ?_
            refine gw_iald C I dX9_told_62 hf (fun v8 hf => ?_)
            exact gw_iret C I hr dX9_told_63 hf
          · have hf := giff hq hf
            refine gw_aload_n hx hb dX9_told_45 rfl (lv_at hl 0 rfl) ?_
            refine gw_getr (k := 3) C I gcls_8 (by decide) rfl kw_167 dX9_told_46 hf (fun v9 hf => ?_)
            refine lv_iload_n hx hb dX9_told_49 rfl (lv_at hl 1 rfl) ?_
            refine gw_iald C I dX9_told_50 hf (fun v10 hf => ?_)
            refine gw_callS (rest := []) C I hl.1 (m_X9_portOf G l v10) gl_RX9_228 kw_213 ⟨Nat.le_of_ble_eq_true rfl, Nat.le_of_ble_eq_true rfl⟩ rfl (gc4 (Nat.le_of_ble_eq_true rfl)) rfl dX9_told_51 hf (fun v11 σ H locs cells slots I hf => ?_)
            refine W.eq (g2 := F0 m 54 ls [.int v11]) rfl ?_
            refine lv_goto (tgt := 63) hx hb dX9_told_54 (by decide) ?_
            exact gw_iret C I hr dX9_told_63 hf
      · have hf := gift hq hf
        refine gw_aload_n hx hb dX9_told_24 rfl (lv_at hl 0 rfl) ?_
        refine gw_getr (k := 4) C I gcls_8 (by decide) rfl kw_168 dX9_told_25 hf (fun v12 hf => ?_)
        refine lv_iload_n hx hb dX9_told_28 rfl (lv_at hl 1 rfl) ?_
        refine gw_iald C I dX9_told_29 hf (fun v13 hf => ?_)
        exact gw_iret C I hr dX9_told_30 hf
    · have hf := gift hq hf
      refine lv_bipush (v := (-2)) hx hb dX9_told_17 kc_b_m2 ?_
      exact gw_iret C I hr dX9_told_19 hf
end S_X9_told
theorem m_X9_told (G : gX) (l : Launch) (a0 : Option Nat) (a1 : Int32) (a2 : Int32) : gMet G l yX9_told cX9_told 5 (some .int) 2 43 [va_rf a0, .int a1, .int a2] gri (f_X9_told a0 a1 a2) := by
  refine gMet_of (by decide) ?_
  intro σ y p e s m below meth c mc ms hf C hr hnm I
  obtain ⟨ls, e1, hl⟩ := gentry m [va_rf a0, .int a1, .int a2] 5 [(0, va_rf a0), (1, .int a1), (2, .int a2)] (by simp [lg_sl, grc, gcat_i, gcat_l]) (by simp [lv_args, grc, gcat_i, gcat_l])
  rw [e1]
  exact w_X9_told_0 C hr a0 a1 a2 _ _ _ _ _ _ hf I hl
def f_X9_number  (a0 : Option Nat) (a1 : Int32) (a2 : Int32) : gM Int32 := gb (nn 8 a0) fun _ => gb (f_X9_has a0 a1) fun v1 => if v1 = 0 then (gp (-2)) else (gb (f_X9_isIn a2 0 7) fun v2 => if v2 = 0 then (gp (-2)) else (gb (rR 8 6 a0) fun v3 => gb (aI 1 v3 ((8 * a1) + a2)) fun v4 => gp v4))
section S_X9_number
variable {G : gX} {p : Program} {l : Launch} {e : Env} {s : State} {m : MethodId} {args : Array Value} {below : List Frame} {meth : Method} {c : Code} {mc ms : Nat} {y : Int32 × gS}
set_option maxHeartbeats 4000000 in
set_option maxRecDepth 100000 in
theorem w_X9_number_0 (C : gC G p s m args meth c cX9_number 3 RX9) (hr : meth.sig.returnType = (some .int))  (a0 : Option Nat) (a1 : Int32) (a2 : Int32) : gJ G p l e 2 43 mc ms s m args below meth c gri y 3 0 [(0, va_rf a0), (1, .int a1), (2, .int a2)] [] (f_X9_number  a0 a1 a2) := by
  have hx := C.1
  have hb := C.2.1
  intro σ H locs cells slots ls hf I hl
  unfold f_X9_number at hf
  refine gw_aload_n hx hb dX9_number_0 rfl (lv_at hl 0 rfl) ?_
  refine lv_iload_n hx hb dX9_number_1 rfl (lv_at hl 1 rfl) ?_
  refine gw_callV (rest := []) C I hl.1 gcls_8 (m_X9_has G l a0 a1) gl_RX9_157 gn_X9_has ⟨Nat.le_of_ble_eq_true rfl, Nat.le_of_ble_eq_true rfl⟩ rfl (gc4 (Nat.le_of_ble_eq_true rfl)) rfl dX9_number_2 hf (fun v1 σ H locs cells slots I hf => ?_)
  refine W.eq (g2 := F0 m 5 ls [.int v1]) rfl ?_
  refine lv_if_eq (tgt := 32) hx hb dX9_number_5 (by decide) (fun hq => ?_) (fun hq => ?_)
  · have hf := gift hq hf
    refine lv_bipush (v := (-2)) hx hb dX9_number_32 kc_b_m2 ?_
    exact gw_iret C I hr dX9_number_34 hf
  · have hf := giff hq hf
    refine lv_iload_n hx hb dX9_number_8 rfl (lv_at hl 2 rfl) ?_
    refine lv_iconst (v := 0) hx hb dX9_number_9 kc_i_0 ?_
    refine lv_bipush (v := 7) hx hb dX9_number_10 kc_b_7 ?_
    refine gw_callS (rest := []) C I hl.1 (m_X9_isIn G l a2 0 7) gl_RX9_91 kw_192 ⟨Nat.le_of_ble_eq_true rfl, Nat.le_of_ble_eq_true rfl⟩ rfl (gc4 (Nat.le_of_ble_eq_true rfl)) rfl dX9_number_12 hf (fun v2 σ H locs cells slots I hf => ?_)
    refine W.eq (g2 := F0 m 15 ls [.int v2]) rfl ?_
    refine lv_if_eq (tgt := 32) hx hb dX9_number_15 (by decide) (fun hq => ?_) (fun hq => ?_)
    · have hf := gift hq hf
      refine lv_bipush (v := (-2)) hx hb dX9_number_32 kc_b_m2 ?_
      exact gw_iret C I hr dX9_number_34 hf
    · have hf := giff hq hf
      refine gw_aload_n hx hb dX9_number_18 rfl (lv_at hl 0 rfl) ?_
      refine gw_getr (k := 6) C I gcls_8 (by decide) rfl kw_170 dX9_number_19 hf (fun v3 hf => ?_)
      refine lv_bipush (v := 8) hx hb dX9_number_22 kc_b_8 ?_
      refine lv_iload_n hx hb dX9_number_24 rfl (lv_at hl 1 rfl) ?_
      refine lv_imul hx hb dX9_number_25 ?_
      refine lv_iload_n hx hb dX9_number_26 rfl (lv_at hl 2 rfl) ?_
      refine lv_iadd hx hb dX9_number_27 ?_
      refine gw_iald C I dX9_number_28 hf (fun v4 hf => ?_)
      refine lv_goto (tgt := 34) hx hb dX9_number_29 (by decide) ?_
      exact gw_iret C I hr dX9_number_34 hf
end S_X9_number
theorem m_X9_number (G : gX) (l : Launch) (a0 : Option Nat) (a1 : Int32) (a2 : Int32) : gMet G l yX9_number cX9_number 3 (some .int) 2 43 [va_rf a0, .int a1, .int a2] gri (f_X9_number a0 a1 a2) := by
  refine gMet_of (by decide) ?_
  intro σ y p e s m below meth c mc ms hf C hr hnm I
  obtain ⟨ls, e1, hl⟩ := gentry m [va_rf a0, .int a1, .int a2] 3 [(0, va_rf a0), (1, .int a1), (2, .int a2)] (by simp [lg_sl, grc, gcat_i, gcat_l]) (by simp [lv_args, grc, gcat_i, gcat_l])
  rw [e1]
  exact w_X9_number_0 C hr a0 a1 a2 _ _ _ _ _ _ hf I hl
def f_X9_same_199  (x3 : Int32) : gM Int32 := if x3 = 0 then (gp 0) else (gp 1)
def f_X9_same_141 (rec141 : Option Nat → Int32 → Int32 → Int32 → Int32 → gM Int32) (x0 : Option Nat) (x1 : Int32) (x2 : Int32) (x3 : Int32) (x4 : Int32) : gM Int32 := gb (nn 8 x0) fun _ => gb (f_X9_sizeOf x0 x1 2) fun v1 => if v1 ≤ x4 then (f_X9_same_199  x3) else (if x3 = 0 then (f_X9_same_199  x3) else (gb (rR 8 9 x0) fun v2 => gb (nn 8 x0) fun _ => gb (f_X9_row x0 x1 2) fun v3 => gb (aI 0 v2 (v3 + x4)) fun v4 => gb (rR 8 9 x0) fun v5 => gb (nn 8 x0) fun _ => gb (f_X9_row x0 x2 2) fun v6 => gb (aI 0 v5 (v6 + x4)) fun v7 => if v4 = v7 then (rec141 x0 x1 x2 1 (x4 + 1)) else (rec141 x0 x1 x2 0 (x4 + 1))))
def f_X9_same_L141  : Nat → Option Nat → Int32 → Int32 → Int32 → Int32 → gM Int32
  | 0, _, _, _, _, _ => gno
  | n + 1, x0, x1, x2, x3, x4 => f_X9_same_141  (f_X9_same_L141  n) x0 x1 x2 x3 x4
def f_X9_same_88 (rec88 : Option Nat → Int32 → Int32 → Int32 → Int32 → gM Int32) (x0 : Option Nat) (x1 : Int32) (x2 : Int32) (x3 : Int32) (x4 : Int32) : gM Int32 := if 8 ≤ x4 then (f_X9_same_L141  gF x0 x1 x2 x3 0) else (if x3 = 0 then (rec88 x0 x1 x2 0 (x4 + 1)) else (gb (rR 8 6 x0) fun v1 => gb (aI 1 v1 ((8 * x1) + x4)) fun v2 => gb (rR 8 6 x0) fun v3 => gb (aI 1 v3 ((8 * x2) + x4)) fun v4 => if v2 = v4 then (rec88 x0 x1 x2 1 (x4 + 1)) else (rec88 x0 x1 x2 0 (x4 + 1))))
def f_X9_same_L88  : Nat → Option Nat → Int32 → Int32 → Int32 → Int32 → gM Int32
  | 0, _, _, _, _, _ => gno
  | n + 1, x0, x1, x2, x3, x4 => f_X9_same_88  (f_X9_same_L88  n) x0 x1 x2 x3 x4
def f_X9_same  (a0 : Option Nat) (a1 : Int32) (a2 : Int32) : gM Int32 := gb (nn 8 a0) fun _ => gb (f_X9_has a0 a1) fun v1 => if v1 = 0 then (gp (-2)) else (gb (nn 8 a0) fun _ => gb (f_X9_has a0 a2) fun v2 => if v2 = 0 then (gp (-2)) else (gb (rR 8 3 a0) fun v3 => gb (aI 1 v3 a1) fun v4 => gb (rR 8 3 a0) fun v5 => gb (aI 1 v5 a2) fun v6 => if v4 = v6 then (gb (rR 8 5 a0) fun v7 => gb (aI 1 v7 a1) fun v8 => gb (rR 8 5 a0) fun v9 => gb (aI 1 v9 a2) fun v10 => if v8 = v10 then (gb (nn 8 a0) fun _ => gb (f_X9_told a0 a1 1) fun v11 => gb (nn 8 a0) fun _ => gb (f_X9_told a0 a2 1) fun v12 => if v11 = v12 then (gb (nn 8 a0) fun _ => gb (f_X9_sizeOf a0 a1 2) fun v13 => gb (nn 8 a0) fun _ => gb (f_X9_sizeOf a0 a2 2) fun v14 => if v13 = v14 then (f_X9_same_L88  gF a0 a1 a2 1 0) else (f_X9_same_L88  gF a0 a1 a2 0 0)) else (f_X9_same_L88  gF a0 a1 a2 0 0)) else (f_X9_same_L88  gF a0 a1 a2 0 0)) else (f_X9_same_L88  gF a0 a1 a2 0 0)))
section S_X9_same
variable {G : gX} {p : Program} {l : Launch} {e : Env} {s : State} {m : MethodId} {args : Array Value} {below : List Frame} {meth : Method} {c : Code} {mc ms : Nat} {y : Int32 × gS}
set_option maxHeartbeats 4000000 in
set_option maxRecDepth 100000 in
theorem w_X9_same_199 (C : gC G p s m args meth c cX9_same 5 RX9) (hr : meth.sig.returnType = (some .int))  (x3 : Int32) : gJ G p l e 3 67 mc ms s m args below meth c gri y 5 199 [(3, .int x3)] [] (f_X9_same_199  x3) := by
  have hx := C.1
  have hb := C.2.1
  intro σ H locs cells slots ls hf I hl
  unfold f_X9_same_199 at hf
  refine lv_iload_n hx hb dX9_same_199 rfl (lv_at hl 0 rfl) ?_
  refine lv_if_eq (tgt := 207) hx hb dX9_same_200 (by decide) (fun hq => ?_) (fun hq => ?_)
  · have hf := gift hq hf
    refine lv_iconst (v := 0) hx hb dX9_same_207 kc_i_0 ?_
    exact gw_iret C I hr dX9_same_208 hf
  · have hf := giff hq hf
    refine lv_iconst (v := 1) hx hb dX9_same_203 kc_i_1 ?_
    refine lv_goto (tgt := 208) hx hb dX9_same_204 (by decide) ?_
    exact gw_iret C I hr dX9_same_208 hf
set_option maxHeartbeats 4000000 in
set_option maxRecDepth 100000 in
theorem w_X9_same_141 (C : gC G p s m args meth c cX9_same 5 RX9) (hr : meth.sig.returnType = (some .int)) {rec141 : Option Nat → Int32 → Int32 → Int32 → Int32 → gM Int32} (hrec141 : ∀ (x0 : Option Nat) (x1 : Int32) (x2 : Int32) (x3 : Int32) (x4 : Int32), gJ G p l e 3 67 mc ms s m args below meth c gri y 5 141 [(0, va_rf x0), (1, .int x1), (2, .int x2), (3, .int x3), (4, .int x4)] [] (rec141 x0 x1 x2 x3 x4)) (x0 : Option Nat) (x1 : Int32) (x2 : Int32) (x3 : Int32) (x4 : Int32) : gJ G p l e 3 67 mc ms s m args below meth c gri y 5 141 [(0, va_rf x0), (1, .int x1), (2, .int x2), (3, .int x3), (4, .int x4)] [] (f_X9_same_141 rec141 x0 x1 x2 x3 x4) := by
  have hx := C.1
  have hb := C.2.1
  intro σ H locs cells slots ls hf I hl
  unfold f_X9_same_141 at hf
  refine lv_iload hx hb dX9_same_141 (lv_at hl 4 rfl) ?_
  refine gw_aload_n hx hb dX9_same_143 rfl (lv_at hl 0 rfl) ?_
  refine lv_iload_n hx hb dX9_same_144 rfl (lv_at hl 1 rfl) ?_
  refine lv_iconst (v := 2) hx hb dX9_same_145 kc_i_2 ?_
  refine gw_callV (rest := [.int x4]) C I hl.1 gcls_8 (m_X9_sizeOf G l x0 x1 2) gl_RX9_107 gn_X9_sizeOf ⟨Nat.le_of_ble_eq_true rfl, Nat.le_of_ble_eq_true rfl⟩ rfl (gc4 (Nat.le_of_ble_eq_true rfl)) rfl dX9_same_146 hf (fun v1 σ H locs cells slots I hf => ?_)
  refine W.eq (g2 := F0 m 149 ls [.int v1, .int x4]) rfl ?_
  refine lv_icmp_ge (tgt := 199) hx hb dX9_same_149 (by decide) (fun hq => ?_) (fun hq => ?_)
  · have hf := gift hq hf
    exact w_X9_same_199 C hr  x3 _ _ _ _ _ _ hf I (lv_sub hl [3] rfl)
  · have hf := giff hq hf
    refine lv_iload_n hx hb dX9_same_152 rfl (lv_at hl 3 rfl) ?_
    refine lv_if_eq (tgt := 199) hx hb dX9_same_153 (by decide) (fun hq => ?_) (fun hq => ?_)
    · have hf := gift hq hf
      exact w_X9_same_199 C hr  x3 _ _ _ _ _ _ hf I (lv_sub hl [3] rfl)
    · have hf := giff hq hf
      refine gw_aload_n hx hb dX9_same_156 rfl (lv_at hl 0 rfl) ?_
      refine gw_getr (k := 9) C I gcls_8 (by decide) rfl kw_174 dX9_same_157 hf (fun v2 hf => ?_)
      refine gw_aload_n hx hb dX9_same_160 rfl (lv_at hl 0 rfl) ?_
      refine lv_iload_n hx hb dX9_same_161 rfl (lv_at hl 1 rfl) ?_
      refine lv_iconst (v := 2) hx hb dX9_same_162 kc_i_2 ?_
      refine gw_callV (rest := [va_rf v2]) C I hl.1 gcls_8 (m_X9_row G l x0 x1 2) gl_RX9_111 gn_X9_row ⟨Nat.le_of_ble_eq_true rfl, Nat.le_of_ble_eq_true rfl⟩ rfl (gc4 (Nat.le_of_ble_eq_true rfl)) rfl dX9_same_163 hf (fun v3 σ H locs cells slots I hf => ?_)
      refine W.eq (g2 := F0 m 166 ls [.int v3, va_rf v2]) rfl ?_
      refine lv_iload hx hb dX9_same_166 (lv_at hl 4 rfl) ?_
      refine lv_iadd hx hb dX9_same_168 ?_
      refine gw_bald C I dX9_same_169 hf (fun v4 hf => ?_)
      refine gw_aload_n hx hb dX9_same_170 rfl (lv_at hl 0 rfl) ?_
      refine gw_getr (k := 9) C I gcls_8 (by decide) rfl kw_174 dX9_same_171 hf (fun v5 hf => ?_)
      refine gw_aload_n hx hb dX9_same_174 rfl (lv_at hl 0 rfl) ?_
      refine lv_iload_n hx hb dX9_same_175 rfl (lv_at hl 2 rfl) ?_
      refine lv_iconst (v := 2) hx hb dX9_same_176 kc_i_2 ?_
      refine gw_callV (rest := [va_rf v5, .int v4]) C I hl.1 gcls_8 (m_X9_row G l x0 x2 2) gl_RX9_111 gn_X9_row ⟨Nat.le_of_ble_eq_true rfl, Nat.le_of_ble_eq_true rfl⟩ rfl (gc4 (Nat.le_of_ble_eq_true rfl)) rfl dX9_same_177 hf (fun v6 σ H locs cells slots I hf => ?_)
      refine W.eq (g2 := F0 m 180 ls [.int v6, va_rf v5, .int v4]) rfl ?_
      refine lv_iload hx hb dX9_same_180 (lv_at hl 4 rfl) ?_
      refine lv_iadd hx hb dX9_same_182 ?_
      refine gw_bald C I dX9_same_183 hf (fun v7 hf => ?_)
      refine lv_icmp_ne (tgt := 191) hx hb dX9_same_184 (by decide) (fun hq => ?_) (fun hq => ?_)
      · have hf := giff hq hf
        refine lv_iconst (v := 0) hx hb dX9_same_191 kc_i_0 ?_
        refine lv_istore_n (lv' := [(3, .int 0), (0, va_rf x0), (1, .int x1), (2, .int x2), (4, .int x4)]) hx hb dX9_same_192 rfl hl (by decide) rfl (fun ls hl => ?_)
        refine lv_iinc (v := x4 + 1) (lv' := [(4, .int (x4 + 1)), (3, .int 0), (0, va_rf x0), (1, .int x1), (2, .int x2)]) hx hb dX9_same_193 hl (k := 4) rfl rfl (by decide) rfl (fun ls hl => ?_)
        refine lv_goto (tgt := 141) hx hb dX9_same_196 (by decide) ?_
        exact hrec141 x0 x1 x2 0 (x4 + 1) _ _ _ _ _ _ hf I (lv_sub hl [2, 3, 4, 1, 0] rfl)
      · have hf := gift hq hf
        refine lv_iconst (v := 1) hx hb dX9_same_187 kc_i_1 ?_
        refine lv_goto (tgt := 192) hx hb dX9_same_188 (by decide) ?_
        refine lv_istore_n (lv' := [(3, .int 1), (0, va_rf x0), (1, .int x1), (2, .int x2), (4, .int x4)]) hx hb dX9_same_192 rfl hl (by decide) rfl (fun ls hl => ?_)
        refine lv_iinc (v := x4 + 1) (lv' := [(4, .int (x4 + 1)), (3, .int 1), (0, va_rf x0), (1, .int x1), (2, .int x2)]) hx hb dX9_same_193 hl (k := 4) rfl rfl (by decide) rfl (fun ls hl => ?_)
        refine lv_goto (tgt := 141) hx hb dX9_same_196 (by decide) ?_
        exact hrec141 x0 x1 x2 1 (x4 + 1) _ _ _ _ _ _ hf I (lv_sub hl [2, 3, 4, 1, 0] rfl)
theorem w_X9_same_L141 (C : gC G p s m args meth c cX9_same 5 RX9) (hr : meth.sig.returnType = (some .int))  : ∀ (n : Nat) (x0 : Option Nat) (x1 : Int32) (x2 : Int32) (x3 : Int32) (x4 : Int32), gJ G p l e 3 67 mc ms s m args below meth c gri y 5 141 [(0, va_rf x0), (1, .int x1), (2, .int x2), (3, .int x3), (4, .int x4)] [] (f_X9_same_L141  n x0 x1 x2 x3 x4) := by
  intro n
  induction n with
  | zero => intro x0 x1 x2 x3 x4 σ H locs cells slots ls hf; exact (gno_some hf).elim
  | succ n ih => intro x0 x1 x2 x3 x4; exact w_X9_same_141 C hr  ih x0 x1 x2 x3 x4
set_option maxHeartbeats 4000000 in
set_option maxRecDepth 100000 in
theorem w_X9_same_88 (C : gC G p s m args meth c cX9_same 5 RX9) (hr : meth.sig.returnType = (some .int)) {rec88 : Option Nat → Int32 → Int32 → Int32 → Int32 → gM Int32} (hrec88 : ∀ (x0 : Option Nat) (x1 : Int32) (x2 : Int32) (x3 : Int32) (x4 : Int32), gJ G p l e 3 67 mc ms s m args below meth c gri y 5 88 [(0, va_rf x0), (1, .int x1), (2, .int x2), (3, .int x3), (4, .int x4)] [] (rec88 x0 x1 x2 x3 x4)) (x0 : Option Nat) (x1 : Int32) (x2 : Int32) (x3 : Int32) (x4 : Int32) : gJ G p l e 3 67 mc ms s m args below meth c gri y 5 88 [(0, va_rf x0), (1, .int x1), (2, .int x2), (3, .int x3), (4, .int x4)] [] (f_X9_same_88 rec88 x0 x1 x2 x3 x4) := by
  have hx := C.1
  have hb := C.2.1
  intro σ H locs cells slots ls hf I hl
  unfold f_X9_same_88 at hf
  refine lv_iload hx hb dX9_same_88 (lv_at hl 4 rfl) ?_
  refine lv_bipush (v := 8) hx hb dX9_same_90 kc_b_8 ?_
  refine lv_icmp_ge (tgt := 138) hx hb dX9_same_92 (by decide) (fun hq => ?_) (fun hq => ?_)
  · have hf := gift hq hf
    refine lv_iconst (v := 0) hx hb dX9_same_138 kc_i_0 ?_
    refine lv_istore (lv' := [(4, .int 0), (0, va_rf x0), (1, .int x1), (2, .int x2), (3, .int x3)]) hx hb dX9_same_139 hl (by decide) rfl (fun ls hl => ?_)
    exact w_X9_same_L141 C hr  _ x0 x1 x2 x3 0 _ _ _ _ _ _ hf I (lv_sub hl [1, 2, 3, 4, 0] rfl)
  · have hf := giff hq hf
    refine lv_iload_n hx hb dX9_same_95 rfl (lv_at hl 3 rfl) ?_
    refine lv_if_eq (tgt := 130) hx hb dX9_same_96 (by decide) (fun hq => ?_) (fun hq => ?_)
    · have hf := gift hq hf
      refine lv_iconst (v := 0) hx hb dX9_same_130 kc_i_0 ?_
      refine lv_istore_n (lv' := [(3, .int 0), (0, va_rf x0), (1, .int x1), (2, .int x2), (4, .int x4)]) hx hb dX9_same_131 rfl hl (by decide) rfl (fun ls hl => ?_)
      refine lv_iinc (v := x4 + 1) (lv' := [(4, .int (x4 + 1)), (3, .int 0), (0, va_rf x0), (1, .int x1), (2, .int x2)]) hx hb dX9_same_132 hl (k := 4) rfl rfl (by decide) rfl (fun ls hl => ?_)
      refine lv_goto (tgt := 88) hx hb dX9_same_135 (by decide) ?_
      exact hrec88 x0 x1 x2 0 (x4 + 1) _ _ _ _ _ _ hf I (lv_sub hl [2, 3, 4, 1, 0] rfl)
    · have hf := giff hq hf
      refine gw_aload_n hx hb dX9_same_99 rfl (lv_at hl 0 rfl) ?_
      refine gw_getr (k := 6) C I gcls_8 (by decide) rfl kw_170 dX9_same_100 hf (fun v1 hf => ?_)
      refine lv_bipush (v := 8) hx hb dX9_same_103 kc_b_8 ?_
      refine lv_iload_n hx hb dX9_same_105 rfl (lv_at hl 1 rfl) ?_
      refine lv_imul hx hb dX9_same_106 ?_
      refine lv_iload hx hb dX9_same_107 (lv_at hl 4 rfl) ?_
      refine lv_iadd hx hb dX9_same_109 ?_
      refine gw_iald C I dX9_same_110 hf (fun v2 hf => ?_)
      refine gw_aload_n hx hb dX9_same_111 rfl (lv_at hl 0 rfl) ?_
      refine gw_getr (k := 6) C I gcls_8 (by decide) rfl kw_170 dX9_same_112 hf (fun v3 hf => ?_)
      refine lv_bipush (v := 8) hx hb dX9_same_115 kc_b_8 ?_
      refine lv_iload_n hx hb dX9_same_117 rfl (lv_at hl 2 rfl) ?_
      refine lv_imul hx hb dX9_same_118 ?_
      refine lv_iload hx hb dX9_same_119 (lv_at hl 4 rfl) ?_
      refine lv_iadd hx hb dX9_same_121 ?_
      refine gw_iald C I dX9_same_122 hf (fun v4 hf => ?_)
      refine lv_icmp_ne (tgt := 130) hx hb dX9_same_123 (by decide) (fun hq => ?_) (fun hq => ?_)
      · have hf := giff hq hf
        refine lv_iconst (v := 0) hx hb dX9_same_130 kc_i_0 ?_
        refine lv_istore_n (lv' := [(3, .int 0), (0, va_rf x0), (1, .int x1), (2, .int x2), (4, .int x4)]) hx hb dX9_same_131 rfl hl (by decide) rfl (fun ls hl => ?_)
        refine lv_iinc (v := x4 + 1) (lv' := [(4, .int (x4 + 1)), (3, .int 0), (0, va_rf x0), (1, .int x1), (2, .int x2)]) hx hb dX9_same_132 hl (k := 4) rfl rfl (by decide) rfl (fun ls hl => ?_)
        refine lv_goto (tgt := 88) hx hb dX9_same_135 (by decide) ?_
        exact hrec88 x0 x1 x2 0 (x4 + 1) _ _ _ _ _ _ hf I (lv_sub hl [2, 3, 4, 1, 0] rfl)
      · have hf := gift hq hf
        refine lv_iconst (v := 1) hx hb dX9_same_126 kc_i_1 ?_
        refine lv_goto (tgt := 131) hx hb dX9_same_127 (by decide) ?_
        refine lv_istore_n (lv' := [(3, .int 1), (0, va_rf x0), (1, .int x1), (2, .int x2), (4, .int x4)]) hx hb dX9_same_131 rfl hl (by decide) rfl (fun ls hl => ?_)
        refine lv_iinc (v := x4 + 1) (lv' := [(4, .int (x4 + 1)), (3, .int 1), (0, va_rf x0), (1, .int x1), (2, .int x2)]) hx hb dX9_same_132 hl (k := 4) rfl rfl (by decide) rfl (fun ls hl => ?_)
        refine lv_goto (tgt := 88) hx hb dX9_same_135 (by decide) ?_
        exact hrec88 x0 x1 x2 1 (x4 + 1) _ _ _ _ _ _ hf I (lv_sub hl [2, 3, 4, 1, 0] rfl)
theorem w_X9_same_L88 (C : gC G p s m args meth c cX9_same 5 RX9) (hr : meth.sig.returnType = (some .int))  : ∀ (n : Nat) (x0 : Option Nat) (x1 : Int32) (x2 : Int32) (x3 : Int32) (x4 : Int32), gJ G p l e 3 67 mc ms s m args below meth c gri y 5 88 [(0, va_rf x0), (1, .int x1), (2, .int x2), (3, .int x3), (4, .int x4)] [] (f_X9_same_L88  n x0 x1 x2 x3 x4) := by
  intro n
  induction n with
  | zero => intro x0 x1 x2 x3 x4 σ H locs cells slots ls hf; exact (gno_some hf).elim
  | succ n ih => intro x0 x1 x2 x3 x4; exact w_X9_same_88 C hr  ih x0 x1 x2 x3 x4
set_option maxHeartbeats 4000000 in
set_option maxRecDepth 100000 in
theorem w_X9_same_0 (C : gC G p s m args meth c cX9_same 5 RX9) (hr : meth.sig.returnType = (some .int))  (a0 : Option Nat) (a1 : Int32) (a2 : Int32) : gJ G p l e 3 67 mc ms s m args below meth c gri y 5 0 [(0, va_rf a0), (1, .int a1), (2, .int a2)] [] (f_X9_same  a0 a1 a2) := by
  have hx := C.1
  have hb := C.2.1
  intro σ H locs cells slots ls hf I hl
  unfold f_X9_same at hf
  refine gw_aload_n hx hb dX9_same_0 rfl (lv_at hl 0 rfl) ?_
  refine lv_iload_n hx hb dX9_same_1 rfl (lv_at hl 1 rfl) ?_
  refine gw_callV (rest := []) C I hl.1 gcls_8 (m_X9_has G l a0 a1) gl_RX9_157 gn_X9_has ⟨Nat.le_of_ble_eq_true rfl, Nat.le_of_ble_eq_true rfl⟩ rfl (gc4 (Nat.le_of_ble_eq_true rfl)) rfl dX9_same_2 hf (fun v1 σ H locs cells slots I hf => ?_)
  refine W.eq (g2 := F0 m 5 ls [.int v1]) rfl ?_
  refine lv_if_eq (tgt := 16) hx hb dX9_same_5 (by decide) (fun hq => ?_) (fun hq => ?_)
  · have hf := gift hq hf
    refine lv_bipush (v := (-2)) hx hb dX9_same_16 kc_b_m2 ?_
    exact gw_iret C I hr dX9_same_18 hf
  · have hf := giff hq hf
    refine gw_aload_n hx hb dX9_same_8 rfl (lv_at hl 0 rfl) ?_
    refine lv_iload_n hx hb dX9_same_9 rfl (lv_at hl 2 rfl) ?_
    refine gw_callV (rest := []) C I hl.1 gcls_8 (m_X9_has G l a0 a2) gl_RX9_157 gn_X9_has ⟨Nat.le_of_ble_eq_true rfl, Nat.le_of_ble_eq_true rfl⟩ rfl (gc4 (Nat.le_of_ble_eq_true rfl)) rfl dX9_same_10 hf (fun v2 σ H locs cells slots I hf => ?_)
    refine W.eq (g2 := F0 m 13 ls [.int v2]) rfl ?_
    refine lv_if_ne (tgt := 19) hx hb dX9_same_13 (by decide) (fun hq => ?_) (fun hq => ?_)
    · have hf := giff hq hf
      refine gw_aload_n hx hb dX9_same_19 rfl (lv_at hl 0 rfl) ?_
      refine gw_getr (k := 3) C I gcls_8 (by decide) rfl kw_167 dX9_same_20 hf (fun v3 hf => ?_)
      refine lv_iload_n hx hb dX9_same_23 rfl (lv_at hl 1 rfl) ?_
      refine gw_iald C I dX9_same_24 hf (fun v4 hf => ?_)
      refine gw_aload_n hx hb dX9_same_25 rfl (lv_at hl 0 rfl) ?_
      refine gw_getr (k := 3) C I gcls_8 (by decide) rfl kw_167 dX9_same_26 hf (fun v5 hf => ?_)
      refine lv_iload_n hx hb dX9_same_29 rfl (lv_at hl 2 rfl) ?_
      refine gw_iald C I dX9_same_30 hf (fun v6 hf => ?_)
      refine lv_icmp_ne (tgt := 83) hx hb dX9_same_31 (by decide) (fun hq => ?_) (fun hq => ?_)
      · have hf := giff hq hf
        refine lv_iconst (v := 0) hx hb dX9_same_83 kc_i_0 ?_
        refine lv_istore_n (lv' := [(3, .int 0), (0, va_rf a0), (1, .int a1), (2, .int a2)]) hx hb dX9_same_84 rfl hl (by decide) rfl (fun ls hl => ?_)
        refine lv_iconst (v := 0) hx hb dX9_same_85 kc_i_0 ?_
        refine lv_istore (lv' := [(4, .int 0), (3, .int 0), (0, va_rf a0), (1, .int a1), (2, .int a2)]) hx hb dX9_same_86 hl (by decide) rfl (fun ls hl => ?_)
        exact w_X9_same_L88 C hr  _ a0 a1 a2 0 0 _ _ _ _ _ _ hf I (lv_sub hl [2, 3, 4, 1, 0] rfl)
      · have hf := gift hq hf
        refine gw_aload_n hx hb dX9_same_34 rfl (lv_at hl 0 rfl) ?_
        refine gw_getr (k := 5) C I gcls_8 (by decide) rfl kw_169 dX9_same_35 hf (fun v7 hf => ?_)
        refine lv_iload_n hx hb dX9_same_38 rfl (lv_at hl 1 rfl) ?_
        refine gw_iald C I dX9_same_39 hf (fun v8 hf => ?_)
        refine gw_aload_n hx hb dX9_same_40 rfl (lv_at hl 0 rfl) ?_
        refine gw_getr (k := 5) C I gcls_8 (by decide) rfl kw_169 dX9_same_41 hf (fun v9 hf => ?_)
        refine lv_iload_n hx hb dX9_same_44 rfl (lv_at hl 2 rfl) ?_
        refine gw_iald C I dX9_same_45 hf (fun v10 hf => ?_)
        refine lv_icmp_ne (tgt := 83) hx hb dX9_same_46 (by decide) (fun hq => ?_) (fun hq => ?_)
        · have hf := giff hq hf
          refine lv_iconst (v := 0) hx hb dX9_same_83 kc_i_0 ?_
          refine lv_istore_n (lv' := [(3, .int 0), (0, va_rf a0), (1, .int a1), (2, .int a2)]) hx hb dX9_same_84 rfl hl (by decide) rfl (fun ls hl => ?_)
          refine lv_iconst (v := 0) hx hb dX9_same_85 kc_i_0 ?_
          refine lv_istore (lv' := [(4, .int 0), (3, .int 0), (0, va_rf a0), (1, .int a1), (2, .int a2)]) hx hb dX9_same_86 hl (by decide) rfl (fun ls hl => ?_)
          exact w_X9_same_L88 C hr  _ a0 a1 a2 0 0 _ _ _ _ _ _ hf I (lv_sub hl [2, 3, 4, 1, 0] rfl)
        · have hf := gift hq hf
          refine gw_aload_n hx hb dX9_same_49 rfl (lv_at hl 0 rfl) ?_
          refine lv_iload_n hx hb dX9_same_50 rfl (lv_at hl 1 rfl) ?_
          refine lv_iconst (v := 1) hx hb dX9_same_51 kc_i_1 ?_
          refine gw_callV (rest := []) C I hl.1 gcls_8 (m_X9_told G l a0 a1 1) gl_RX9_298 gn_X9_told ⟨Nat.le_of_ble_eq_true rfl, Nat.le_of_ble_eq_true rfl⟩ rfl (gc4 (Nat.le_of_ble_eq_true rfl)) rfl dX9_same_52 hf (fun v11 σ H locs cells slots I hf => ?_)
          refine W.eq (g2 := F0 m 55 ls [.int v11]) rfl ?_
          refine gw_aload_n hx hb dX9_same_55 rfl (lv_at hl 0 rfl) ?_
          refine lv_iload_n hx hb dX9_same_56 rfl (lv_at hl 2 rfl) ?_
          refine lv_iconst (v := 1) hx hb dX9_same_57 kc_i_1 ?_
          refine gw_callV (rest := [.int v11]) C I hl.1 gcls_8 (m_X9_told G l a0 a2 1) gl_RX9_298 gn_X9_told ⟨Nat.le_of_ble_eq_true rfl, Nat.le_of_ble_eq_true rfl⟩ rfl (gc4 (Nat.le_of_ble_eq_true rfl)) rfl dX9_same_58 hf (fun v12 σ H locs cells slots I hf => ?_)
          refine W.eq (g2 := F0 m 61 ls [.int v12, .int v11]) rfl ?_
          refine lv_icmp_ne (tgt := 83) hx hb dX9_same_61 (by decide) (fun hq => ?_) (fun hq => ?_)
          · have hf := giff hq hf
            refine lv_iconst (v := 0) hx hb dX9_same_83 kc_i_0 ?_
            refine lv_istore_n (lv' := [(3, .int 0), (0, va_rf a0), (1, .int a1), (2, .int a2)]) hx hb dX9_same_84 rfl hl (by decide) rfl (fun ls hl => ?_)
            refine lv_iconst (v := 0) hx hb dX9_same_85 kc_i_0 ?_
            refine lv_istore (lv' := [(4, .int 0), (3, .int 0), (0, va_rf a0), (1, .int a1), (2, .int a2)]) hx hb dX9_same_86 hl (by decide) rfl (fun ls hl => ?_)
            exact w_X9_same_L88 C hr  _ a0 a1 a2 0 0 _ _ _ _ _ _ hf I (lv_sub hl [2, 3, 4, 1, 0] rfl)
          · have hf := gift hq hf
            refine gw_aload_n hx hb dX9_same_64 rfl (lv_at hl 0 rfl) ?_
            refine lv_iload_n hx hb dX9_same_65 rfl (lv_at hl 1 rfl) ?_
            refine lv_iconst (v := 2) hx hb dX9_same_66 kc_i_2 ?_
            refine gw_callV (rest := []) C I hl.1 gcls_8 (m_X9_sizeOf G l a0 a1 2) gl_RX9_107 gn_X9_sizeOf ⟨Nat.le_of_ble_eq_true rfl, Nat.le_of_ble_eq_true rfl⟩ rfl (gc4 (Nat.le_of_ble_eq_true rfl)) rfl dX9_same_67 hf (fun v13 σ H locs cells slots I hf => ?_)
            refine W.eq (g2 := F0 m 70 ls [.int v13]) rfl ?_
            refine gw_aload_n hx hb dX9_same_70 rfl (lv_at hl 0 rfl) ?_
            refine lv_iload_n hx hb dX9_same_71 rfl (lv_at hl 2 rfl) ?_
            refine lv_iconst (v := 2) hx hb dX9_same_72 kc_i_2 ?_
            refine gw_callV (rest := [.int v13]) C I hl.1 gcls_8 (m_X9_sizeOf G l a0 a2 2) gl_RX9_107 gn_X9_sizeOf ⟨Nat.le_of_ble_eq_true rfl, Nat.le_of_ble_eq_true rfl⟩ rfl (gc4 (Nat.le_of_ble_eq_true rfl)) rfl dX9_same_73 hf (fun v14 σ H locs cells slots I hf => ?_)
            refine W.eq (g2 := F0 m 76 ls [.int v14, .int v13]) rfl ?_
            refine lv_icmp_ne (tgt := 83) hx hb dX9_same_76 (by decide) (fun hq => ?_) (fun hq => ?_)
            · have hf := giff hq hf
              refine lv_iconst (v := 0) hx hb dX9_same_83 kc_i_0 ?_
              refine lv_istore_n (lv' := [(3, .int 0), (0, va_rf a0), (1, .int a1), (2, .int a2)]) hx hb dX9_same_84 rfl hl (by decide) rfl (fun ls hl => ?_)
              refine lv_iconst (v := 0) hx hb dX9_same_85 kc_i_0 ?_
              refine lv_istore (lv' := [(4, .int 0), (3, .int 0), (0, va_rf a0), (1, .int a1), (2, .int a2)]) hx hb dX9_same_86 hl (by decide) rfl (fun ls hl => ?_)
              exact w_X9_same_L88 C hr  _ a0 a1 a2 0 0 _ _ _ _ _ _ hf I (lv_sub hl [2, 3, 4, 1, 0] rfl)
            · have hf := gift hq hf
              refine lv_iconst (v := 1) hx hb dX9_same_79 kc_i_1 ?_
              refine lv_goto (tgt := 84) hx hb dX9_same_80 (by decide) ?_
              refine lv_istore_n (lv' := [(3, .int 1), (0, va_rf a0), (1, .int a1), (2, .int a2)]) hx hb dX9_same_84 rfl hl (by decide) rfl (fun ls hl => ?_)
              refine lv_iconst (v := 0) hx hb dX9_same_85 kc_i_0 ?_
              refine lv_istore (lv' := [(4, .int 0), (3, .int 1), (0, va_rf a0), (1, .int a1), (2, .int a2)]) hx hb dX9_same_86 hl (by decide) rfl (fun ls hl => ?_)
              exact w_X9_same_L88 C hr  _ a0 a1 a2 1 0 _ _ _ _ _ _ hf I (lv_sub hl [2, 3, 4, 1, 0] rfl)
    · have hf := gift hq hf
      refine lv_bipush (v := (-2)) hx hb dX9_same_16 kc_b_m2 ?_
      exact gw_iret C I hr dX9_same_18 hf
end S_X9_same
theorem m_X9_same (G : gX) (l : Launch) (a0 : Option Nat) (a1 : Int32) (a2 : Int32) : gMet G l yX9_same cX9_same 5 (some .int) 3 67 [va_rf a0, .int a1, .int a2] gri (f_X9_same a0 a1 a2) := by
  refine gMet_of (by decide) ?_
  intro σ y p e s m below meth c mc ms hf C hr hnm I
  obtain ⟨ls, e1, hl⟩ := gentry m [va_rf a0, .int a1, .int a2] 5 [(0, va_rf a0), (1, .int a1), (2, .int a2)] (by simp [lg_sl, grc, gcat_i, gcat_l]) (by simp [lv_args, grc, gcat_i, gcat_l])
  rw [e1]
  exact w_X9_same_0 C hr a0 a1 a2 _ _ _ _ _ _ hf I hl
def f_X9_readTextHost_15 (rec15 : Option Nat → Int32 → gM Int32) (x0 : Option Nat) (x1 : Int32) : gM Int32 := gb (rI 8 12 x0) fun v1 => if v1 ≤ x1 then (gb (rI 8 12 x0) fun v2 => gb (nn 8 x0) fun _ => gb (f_X9_readHost x0 0 v2) fun v3 => gp v3) else (gb (rR 8 11 x0) fun v4 => gb (rR 8 0 x0) fun v5 => gb (aI 0 v5 x1) fun v6 => gb (sI 0 v4 x1 v6) fun _ => rec15 x0 (x1 + 1))
def f_X9_readTextHost_L15  : Nat → Option Nat → Int32 → gM Int32
  | 0, _, _ => gno
  | n + 1, x0, x1 => f_X9_readTextHost_15  (f_X9_readTextHost_L15  n) x0 x1
def f_X9_readTextHost  (a0 : Option Nat) : gM Int32 := gb (rI 8 1 a0) fun v1 => gb (wI 8 12 a0 v1) fun _ => gb (wI 8 1 a0 0) fun _ => f_X9_readTextHost_L15  gF a0 0
section S_X9_readTextHost
variable {G : gX} {p : Program} {l : Launch} {e : Env} {s : State} {m : MethodId} {args : Array Value} {below : List Frame} {meth : Method} {c : Code} {mc ms : Nat} {y : Int32 × gS}
set_option maxHeartbeats 4000000 in
set_option maxRecDepth 100000 in
theorem w_X9_readTextHost_15 (C : gC G p s m args meth c cX9_readTextHost 2 RX9) (hr : meth.sig.returnType = (some .int)) {rec15 : Option Nat → Int32 → gM Int32} (hrec15 : ∀ (x0 : Option Nat) (x1 : Int32), gJ G p l e 6 148 mc ms s m args below meth c gri y 2 15 [(0, va_rf x0), (1, .int x1)] [] (rec15 x0 x1)) (x0 : Option Nat) (x1 : Int32) : gJ G p l e 6 148 mc ms s m args below meth c gri y 2 15 [(0, va_rf x0), (1, .int x1)] [] (f_X9_readTextHost_15 rec15 x0 x1) := by
  have hx := C.1
  have hb := C.2.1
  intro σ H locs cells slots ls hf I hl
  unfold f_X9_readTextHost_15 at hf
  refine lv_iload_n hx hb dX9_readTextHost_15 rfl (lv_at hl 1 rfl) ?_
  refine gw_aload_n hx hb dX9_readTextHost_16 rfl (lv_at hl 0 rfl) ?_
  refine gw_geti (k := 12) C I gcls_8 (by decide) rfl kw_198 dX9_readTextHost_17 hf (fun v1 hf => ?_)
  refine lv_icmp_ge (tgt := 41) hx hb dX9_readTextHost_20 (by decide) (fun hq => ?_) (fun hq => ?_)
  · have hf := gift hq hf
    refine gw_aload_n hx hb dX9_readTextHost_41 rfl (lv_at hl 0 rfl) ?_
    refine lv_iconst (v := 0) hx hb dX9_readTextHost_42 kc_i_0 ?_
    refine gw_aload_n hx hb dX9_readTextHost_43 rfl (lv_at hl 0 rfl) ?_
    refine gw_geti (k := 12) C I gcls_8 (by decide) rfl kw_198 dX9_readTextHost_44 hf (fun v2 hf => ?_)
    refine gw_callV (rest := []) C I hl.1 gcls_8 (m_X9_readHost G l x0 0 v2) gl_RX9_211 gn_X9_readHost ⟨Nat.le_of_ble_eq_true rfl, Nat.le_of_ble_eq_true rfl⟩ rfl (gc4 (Nat.le_of_ble_eq_true rfl)) rfl dX9_readTextHost_47 hf (fun v3 σ H locs cells slots I hf => ?_)
    refine W.eq (g2 := F0 m 50 ls [.int v3]) rfl ?_
    exact gw_iret C I hr dX9_readTextHost_50 hf
  · have hf := giff hq hf
    refine gw_aload_n hx hb dX9_readTextHost_23 rfl (lv_at hl 0 rfl) ?_
    refine gw_getr (k := 11) C I gcls_8 (by decide) rfl kw_176 dX9_readTextHost_24 hf (fun v4 hf => ?_)
    refine lv_iload_n hx hb dX9_readTextHost_27 rfl (lv_at hl 1 rfl) ?_
    refine gw_aload_n hx hb dX9_readTextHost_28 rfl (lv_at hl 0 rfl) ?_
    refine gw_getr (k := 0) C I gcls_8 (by decide) rfl kw_165 dX9_readTextHost_29 hf (fun v5 hf => ?_)
    refine lv_iload_n hx hb dX9_readTextHost_32 rfl (lv_at hl 1 rfl) ?_
    refine gw_bald C I dX9_readTextHost_33 hf (fun v6 hf => ?_)
    refine gw_bast C I dX9_readTextHost_34 hf (fun σ H locs I hf => ?_)
    refine lv_iinc (v := x1 + 1) (lv' := [(1, .int (x1 + 1)), (0, va_rf x0)]) hx hb dX9_readTextHost_35 hl (k := 1) rfl rfl (by decide) (by cases x0 <;> rfl) (fun ls hl => ?_)
    refine lv_goto (tgt := 15) hx hb dX9_readTextHost_38 (by decide) ?_
    exact hrec15 x0 (x1 + 1) _ _ _ _ _ _ hf I (lv_sub hl [1, 0] rfl)
theorem w_X9_readTextHost_L15 (C : gC G p s m args meth c cX9_readTextHost 2 RX9) (hr : meth.sig.returnType = (some .int))  : ∀ (n : Nat) (x0 : Option Nat) (x1 : Int32), gJ G p l e 6 148 mc ms s m args below meth c gri y 2 15 [(0, va_rf x0), (1, .int x1)] [] (f_X9_readTextHost_L15  n x0 x1) := by
  intro n
  induction n with
  | zero => intro x0 x1 σ H locs cells slots ls hf; exact (gno_some hf).elim
  | succ n ih => intro x0 x1; exact w_X9_readTextHost_15 C hr  ih x0 x1
set_option maxHeartbeats 4000000 in
set_option maxRecDepth 100000 in
theorem w_X9_readTextHost_0 (C : gC G p s m args meth c cX9_readTextHost 2 RX9) (hr : meth.sig.returnType = (some .int))  (a0 : Option Nat) : gJ G p l e 6 148 mc ms s m args below meth c gri y 2 0 [(0, va_rf a0)] [] (f_X9_readTextHost  a0) := by
  have hx := C.1
  have hb := C.2.1
  intro σ H locs cells slots ls hf I hl
  unfold f_X9_readTextHost at hf
  refine gw_aload_n hx hb dX9_readTextHost_0 rfl (lv_at hl 0 rfl) ?_
  refine gw_aload_n hx hb dX9_readTextHost_1 rfl (lv_at hl 0 rfl) ?_
  refine gw_geti (k := 1) C I gcls_8 (by decide) rfl kw_195 dX9_readTextHost_2 hf (fun v1 hf => ?_)
  refine gw_puti (k := 12) C I gcls_8 (by decide) rfl kw_198 (Or.inl rfl) (by decide +kernel) dX9_readTextHost_5 hf (fun σ H locs I hf => ?_)
  refine gw_aload_n hx hb dX9_readTextHost_8 rfl (lv_at hl 0 rfl) ?_
  refine lv_iconst (v := 0) hx hb dX9_readTextHost_9 kc_i_0 ?_
  refine gw_puti (k := 1) C I gcls_8 (by decide) rfl kw_195 (Or.inl rfl) (by decide +kernel) dX9_readTextHost_10 hf (fun σ H locs I hf => ?_)
  refine lv_iconst (v := 0) hx hb dX9_readTextHost_13 kc_i_0 ?_
  refine lv_istore_n (lv' := [(1, .int 0), (0, va_rf a0)]) hx hb dX9_readTextHost_14 rfl hl (by decide) (by cases a0 <;> rfl) (fun ls hl => ?_)
  exact w_X9_readTextHost_L15 C hr  _ a0 0 _ _ _ _ _ _ hf I (lv_sub hl [1, 0] rfl)
end S_X9_readTextHost
theorem m_X9_readTextHost (G : gX) (l : Launch) (a0 : Option Nat) : gMet G l yX9_readTextHost cX9_readTextHost 2 (some .int) 6 148 [va_rf a0] gri (f_X9_readTextHost a0) := by
  refine gMet_of (by decide) ?_
  intro σ y p e s m below meth c mc ms hf C hr hnm I
  obtain ⟨ls, e1, hl⟩ := gentry m [va_rf a0] 2 [(0, va_rf a0)] (by simp [lg_sl, grc, gcat_i, gcat_l]) (by simp [lv_args, grc, gcat_i, gcat_l])
  rw [e1]
  exact w_X9_readTextHost_0 C hr a0 _ _ _ _ _ _ hf I hl
def f_X9_list_162  (x0 : Option Nat) : gM Int32 := gb (rI 8 25 x0) fun v1 => gb (wI 8 25 x0 (v1 + 1)) fun _ => gb (rI 8 25 x0) fun v2 => gp v2
def f_X9_list_120 (rec120 : Option Nat → Int32 → gM Int32) (x0 : Option Nat) (x3 : Int32) : gM Int32 := gb (rI 8 15 x0) fun v1 => if v1 ≤ x3 then (f_X9_list_162  x0) else (gb (rI 8 16 x0) fun v2 => if v2 = 0 then (gb (rR 8 20 x0) fun v3 => gb (rI 8 25 x0) fun v4 => gb (rR 8 14 x0) fun v5 => gb (aI 0 v5 x3) fun v6 => gb (sI 0 v3 ((300 * v4) + x3) v6) fun _ => rec120 x0 (x3 + 1)) else (f_X9_list_162  x0))
def f_X9_list_L120  : Nat → Option Nat → Int32 → gM Int32
  | 0, _, _ => gno
  | n + 1, x0, x3 => f_X9_list_120  (f_X9_list_L120  n) x0 x3
def f_X9_list_86 (rec86 : Option Nat → Int32 → gM Int32) (x0 : Option Nat) (x3 : Int32) : gM Int32 := if 8 ≤ x3 then (f_X9_list_L120  gF x0 0) else (gb (rR 8 23 x0) fun v1 => gb (rI 8 25 x0) fun v2 => gb (rR 8 17 x0) fun v3 => gb (aI 1 v3 x3) fun v4 => gb (sI 1 v1 ((8 * v2) + x3) v4) fun _ => rec86 x0 (x3 + 1))
def f_X9_list_L86  : Nat → Option Nat → Int32 → gM Int32
  | 0, _, _ => gno
  | n + 1, x0, x3 => f_X9_list_86  (f_X9_list_L86  n) x0 x3
def f_X9_list_83  (x0 : Option Nat) (s0 : Option Nat) (s1 : Int32) (s2 : Int32) : gM Int32 := gb (sI 1 s0 s1 s2) fun _ => f_X9_list_L86  gF x0 0
def f_X9_list_25  (x0 : Option Nat) (x1 : Int32) : gM Int32 := gb (rI 8 25 x0) fun v1 => if v1 = 12 then (gp (-3)) else (gb (rR 8 22 x0) fun v2 => gb (rI 8 25 x0) fun v3 => gb (rI 8 16 x0) fun v4 => gb (sI 1 v2 v3 v4) fun _ => gb (rR 8 24 x0) fun v5 => gb (rI 8 25 x0) fun v6 => gb (sI 2 v5 v6 x1) fun _ => gb (rR 8 21 x0) fun v7 => gb (rI 8 25 x0) fun v8 => gb (rI 8 16 x0) fun v9 => if v9 = 0 then (gb (rI 8 15 x0) fun v10 => f_X9_list_83  x0 v7 v8 v10) else (f_X9_list_83  x0 v7 v8 0))
def f_X9_list  (a0 : Option Nat) (a1 : Int32) : gM Int32 := gb (nn 8 a0) fun _ => gb (f_X9_readTextHost a0) fun v1 => if v1 = 0 then (if a1 = 0 then (f_X9_list_25  a0 a1) else (gb (rI 8 16 a0) fun v2 => if v2 = 0 then (f_X9_list_25  a0 a1) else (gp (-2)))) else (gp v1)
section S_X9_list
variable {G : gX} {p : Program} {l : Launch} {e : Env} {s : State} {m : MethodId} {args : Array Value} {below : List Frame} {meth : Method} {c : Code} {mc ms : Nat} {y : Int32 × gS}
set_option maxHeartbeats 4000000 in
set_option maxRecDepth 100000 in
theorem w_X9_list_162 (C : gC G p s m args meth c cX9_list 4 RX9) (hr : meth.sig.returnType = (some .int))  (x0 : Option Nat) : gJ G p l e 7 169 mc ms s m args below meth c gri y 4 162 [(0, va_rf x0)] [] (f_X9_list_162  x0) := by
  have hx := C.1
  have hb := C.2.1
  intro σ H locs cells slots ls hf I hl
  unfold f_X9_list_162 at hf
  refine gw_aload_n hx hb dX9_list_162 rfl (lv_at hl 0 rfl) ?_
  refine lv_dup hx hb dX9_list_163 (grc _) ?_
  refine gw_geti (k := 25) C I gcls_8 (by decide) rfl kw_220 dX9_list_164 hf (fun v1 hf => ?_)
  refine lv_iconst (v := 1) hx hb dX9_list_167 kc_i_1 ?_
  refine lv_iadd hx hb dX9_list_168 ?_
  refine gw_puti (k := 25) C I gcls_8 (by decide) rfl kw_220 (Or.inl rfl) (by decide +kernel) dX9_list_169 hf (fun σ H locs I hf => ?_)
  refine gw_aload_n hx hb dX9_list_172 rfl (lv_at hl 0 rfl) ?_
  refine gw_geti (k := 25) C I gcls_8 (by decide) rfl kw_220 dX9_list_173 hf (fun v2 hf => ?_)
  exact gw_iret C I hr dX9_list_176 hf
set_option maxHeartbeats 4000000 in
set_option maxRecDepth 100000 in
theorem w_X9_list_120 (C : gC G p s m args meth c cX9_list 4 RX9) (hr : meth.sig.returnType = (some .int)) {rec120 : Option Nat → Int32 → gM Int32} (hrec120 : ∀ (x0 : Option Nat) (x3 : Int32), gJ G p l e 7 169 mc ms s m args below meth c gri y 4 120 [(0, va_rf x0), (3, .int x3)] [] (rec120 x0 x3)) (x0 : Option Nat) (x3 : Int32) : gJ G p l e 7 169 mc ms s m args below meth c gri y 4 120 [(0, va_rf x0), (3, .int x3)] [] (f_X9_list_120 rec120 x0 x3) := by
  have hx := C.1
  have hb := C.2.1
  intro σ H locs cells slots ls hf I hl
  unfold f_X9_list_120 at hf
  refine lv_iload_n hx hb dX9_list_120 rfl (lv_at hl 1 rfl) ?_
  refine gw_aload_n hx hb dX9_list_121 rfl (lv_at hl 0 rfl) ?_
  refine gw_geti (k := 15) C I gcls_8 (by decide) rfl kw_208 dX9_list_122 hf (fun v1 hf => ?_)
  refine lv_icmp_ge (tgt := 162) hx hb dX9_list_125 (by decide) (fun hq => ?_) (fun hq => ?_)
  · have hf := gift hq hf
    exact w_X9_list_162 C hr  x0 _ _ _ _ _ _ hf I (lv_sub hl [0] rfl)
  · have hf := giff hq hf
    refine gw_aload_n hx hb dX9_list_128 rfl (lv_at hl 0 rfl) ?_
    refine gw_geti (k := 16) C I gcls_8 (by decide) rfl kw_209 dX9_list_129 hf (fun v2 hf => ?_)
    refine lv_if_ne (tgt := 162) hx hb dX9_list_132 (by decide) (fun hq => ?_) (fun hq => ?_)
    · have hf := giff hq hf
      exact w_X9_list_162 C hr  x0 _ _ _ _ _ _ hf I (lv_sub hl [0] rfl)
    · have hf := gift hq hf
      refine gw_aload_n hx hb dX9_list_135 rfl (lv_at hl 0 rfl) ?_
      refine gw_getr (k := 20) C I gcls_8 (by decide) rfl kw_180 dX9_list_136 hf (fun v3 hf => ?_)
      refine lv_sipush (v := 300) hx hb dX9_list_139 kc_s_300 ?_
      refine gw_aload_n hx hb dX9_list_142 rfl (lv_at hl 0 rfl) ?_
      refine gw_geti (k := 25) C I gcls_8 (by decide) rfl kw_220 dX9_list_143 hf (fun v4 hf => ?_)
      refine lv_imul hx hb dX9_list_146 ?_
      refine lv_iload_n hx hb dX9_list_147 rfl (lv_at hl 1 rfl) ?_
      refine lv_iadd hx hb dX9_list_148 ?_
      refine gw_aload_n hx hb dX9_list_149 rfl (lv_at hl 0 rfl) ?_
      refine gw_getr (k := 14) C I gcls_8 (by decide) rfl kw_177 dX9_list_150 hf (fun v5 hf => ?_)
      refine lv_iload_n hx hb dX9_list_153 rfl (lv_at hl 1 rfl) ?_
      refine gw_bald C I dX9_list_154 hf (fun v6 hf => ?_)
      refine gw_bast C I dX9_list_155 hf (fun σ H locs I hf => ?_)
      refine lv_iinc (v := x3 + 1) (lv' := [(3, .int (x3 + 1)), (0, va_rf x0)]) hx hb dX9_list_156 hl (k := 1) rfl rfl (by decide) rfl (fun ls hl => ?_)
      refine lv_goto (tgt := 120) hx hb dX9_list_159 (by decide) ?_
      exact hrec120 x0 (x3 + 1) _ _ _ _ _ _ hf I (lv_sub hl [1, 0] rfl)
theorem w_X9_list_L120 (C : gC G p s m args meth c cX9_list 4 RX9) (hr : meth.sig.returnType = (some .int))  : ∀ (n : Nat) (x0 : Option Nat) (x3 : Int32), gJ G p l e 7 169 mc ms s m args below meth c gri y 4 120 [(0, va_rf x0), (3, .int x3)] [] (f_X9_list_L120  n x0 x3) := by
  intro n
  induction n with
  | zero => intro x0 x3 σ H locs cells slots ls hf; exact (gno_some hf).elim
  | succ n ih => intro x0 x3; exact w_X9_list_120 C hr  ih x0 x3
set_option maxHeartbeats 4000000 in
set_option maxRecDepth 100000 in
theorem w_X9_list_86 (C : gC G p s m args meth c cX9_list 4 RX9) (hr : meth.sig.returnType = (some .int)) {rec86 : Option Nat → Int32 → gM Int32} (hrec86 : ∀ (x0 : Option Nat) (x3 : Int32), gJ G p l e 7 169 mc ms s m args below meth c gri y 4 86 [(0, va_rf x0), (3, .int x3)] [] (rec86 x0 x3)) (x0 : Option Nat) (x3 : Int32) : gJ G p l e 7 169 mc ms s m args below meth c gri y 4 86 [(0, va_rf x0), (3, .int x3)] [] (f_X9_list_86 rec86 x0 x3) := by
  have hx := C.1
  have hb := C.2.1
  intro σ H locs cells slots ls hf I hl
  unfold f_X9_list_86 at hf
  refine lv_iload_n hx hb dX9_list_86 rfl (lv_at hl 1 rfl) ?_
  refine lv_bipush (v := 8) hx hb dX9_list_87 kc_b_8 ?_
  refine lv_icmp_ge (tgt := 118) hx hb dX9_list_89 (by decide) (fun hq => ?_) (fun hq => ?_)
  · have hf := gift hq hf
    refine lv_iconst (v := 0) hx hb dX9_list_118 kc_i_0 ?_
    refine lv_istore_n (lv' := [(3, .int 0), (0, va_rf x0)]) hx hb dX9_list_119 rfl hl (by decide) rfl (fun ls hl => ?_)
    exact w_X9_list_L120 C hr  _ x0 0 _ _ _ _ _ _ hf I (lv_sub hl [1, 0] rfl)
  · have hf := giff hq hf
    refine gw_aload_n hx hb dX9_list_92 rfl (lv_at hl 0 rfl) ?_
    refine gw_getr (k := 23) C I gcls_8 (by decide) rfl kw_183 dX9_list_93 hf (fun v1 hf => ?_)
    refine lv_bipush (v := 8) hx hb dX9_list_96 kc_b_8 ?_
    refine gw_aload_n hx hb dX9_list_98 rfl (lv_at hl 0 rfl) ?_
    refine gw_geti (k := 25) C I gcls_8 (by decide) rfl kw_220 dX9_list_99 hf (fun v2 hf => ?_)
    refine lv_imul hx hb dX9_list_102 ?_
    refine lv_iload_n hx hb dX9_list_103 rfl (lv_at hl 1 rfl) ?_
    refine lv_iadd hx hb dX9_list_104 ?_
    refine gw_aload_n hx hb dX9_list_105 rfl (lv_at hl 0 rfl) ?_
    refine gw_getr (k := 17) C I gcls_8 (by decide) rfl kw_178 dX9_list_106 hf (fun v3 hf => ?_)
    refine lv_iload_n hx hb dX9_list_109 rfl (lv_at hl 1 rfl) ?_
    refine gw_iald C I dX9_list_110 hf (fun v4 hf => ?_)
    refine gw_iast C I dX9_list_111 hf (fun σ H locs I hf => ?_)
    refine lv_iinc (v := x3 + 1) (lv' := [(3, .int (x3 + 1)), (0, va_rf x0)]) hx hb dX9_list_112 hl (k := 1) rfl rfl (by decide) rfl (fun ls hl => ?_)
    refine lv_goto (tgt := 86) hx hb dX9_list_115 (by decide) ?_
    exact hrec86 x0 (x3 + 1) _ _ _ _ _ _ hf I (lv_sub hl [1, 0] rfl)
theorem w_X9_list_L86 (C : gC G p s m args meth c cX9_list 4 RX9) (hr : meth.sig.returnType = (some .int))  : ∀ (n : Nat) (x0 : Option Nat) (x3 : Int32), gJ G p l e 7 169 mc ms s m args below meth c gri y 4 86 [(0, va_rf x0), (3, .int x3)] [] (f_X9_list_L86  n x0 x3) := by
  intro n
  induction n with
  | zero => intro x0 x3 σ H locs cells slots ls hf; exact (gno_some hf).elim
  | succ n ih => intro x0 x3; exact w_X9_list_86 C hr  ih x0 x3
set_option maxHeartbeats 4000000 in
set_option maxRecDepth 100000 in
theorem w_X9_list_83 (C : gC G p s m args meth c cX9_list 4 RX9) (hr : meth.sig.returnType = (some .int))  (x0 : Option Nat) (s0 : Option Nat) (s1 : Int32) (s2 : Int32) : gJ G p l e 7 169 mc ms s m args below meth c gri y 4 83 [(0, va_rf x0)] [.int s2, .int s1, va_rf s0] (f_X9_list_83  x0 s0 s1 s2) := by
  have hx := C.1
  have hb := C.2.1
  intro σ H locs cells slots ls hf I hl
  unfold f_X9_list_83 at hf
  refine gw_iast C I dX9_list_83 hf (fun σ H locs I hf => ?_)
  refine lv_iconst (v := 0) hx hb dX9_list_84 kc_i_0 ?_
  refine lv_istore_n (lv' := [(3, .int 0), (0, va_rf x0)]) hx hb dX9_list_85 rfl hl (by decide) rfl (fun ls hl => ?_)
  exact w_X9_list_L86 C hr  _ x0 0 _ _ _ _ _ _ hf I (lv_sub hl [1, 0] rfl)
set_option maxHeartbeats 4000000 in
set_option maxRecDepth 100000 in
theorem w_X9_list_25 (C : gC G p s m args meth c cX9_list 4 RX9) (hr : meth.sig.returnType = (some .int))  (x0 : Option Nat) (x1 : Int32) : gJ G p l e 7 169 mc ms s m args below meth c gri y 4 25 [(0, va_rf x0), (1, .int x1)] [] (f_X9_list_25  x0 x1) := by
  have hx := C.1
  have hb := C.2.1
  intro σ H locs cells slots ls hf I hl
  unfold f_X9_list_25 at hf
  refine gw_aload_n hx hb dX9_list_25 rfl (lv_at hl 0 rfl) ?_
  refine gw_geti (k := 25) C I gcls_8 (by decide) rfl kw_220 dX9_list_26 hf (fun v1 hf => ?_)
  refine lv_bipush (v := 12) hx hb dX9_list_29 kc_b_12 ?_
  refine lv_icmp_ne (tgt := 37) hx hb dX9_list_31 (by decide) (fun hq => ?_) (fun hq => ?_)
  · have hf := giff hq hf
    refine gw_aload_n hx hb dX9_list_37 rfl (lv_at hl 0 rfl) ?_
    refine gw_getr (k := 22) C I gcls_8 (by decide) rfl kw_182 dX9_list_38 hf (fun v2 hf => ?_)
    refine gw_aload_n hx hb dX9_list_41 rfl (lv_at hl 0 rfl) ?_
    refine gw_geti (k := 25) C I gcls_8 (by decide) rfl kw_220 dX9_list_42 hf (fun v3 hf => ?_)
    refine gw_aload_n hx hb dX9_list_45 rfl (lv_at hl 0 rfl) ?_
    refine gw_geti (k := 16) C I gcls_8 (by decide) rfl kw_209 dX9_list_46 hf (fun v4 hf => ?_)
    refine gw_iast C I dX9_list_49 hf (fun σ H locs I hf => ?_)
    refine gw_aload_n hx hb dX9_list_50 rfl (lv_at hl 0 rfl) ?_
    refine gw_getr (k := 24) C I gcls_8 (by decide) rfl kw_184 dX9_list_51 hf (fun v5 hf => ?_)
    refine gw_aload_n hx hb dX9_list_54 rfl (lv_at hl 0 rfl) ?_
    refine gw_geti (k := 25) C I gcls_8 (by decide) rfl kw_220 dX9_list_55 hf (fun v6 hf => ?_)
    refine lv_iload_n hx hb dX9_list_58 rfl (lv_at hl 1 rfl) ?_
    refine gw_zast C I dX9_list_59 hf (fun σ H locs I hf => ?_)
    refine gw_aload_n hx hb dX9_list_60 rfl (lv_at hl 0 rfl) ?_
    refine gw_getr (k := 21) C I gcls_8 (by decide) rfl kw_181 dX9_list_61 hf (fun v7 hf => ?_)
    refine gw_aload_n hx hb dX9_list_64 rfl (lv_at hl 0 rfl) ?_
    refine gw_geti (k := 25) C I gcls_8 (by decide) rfl kw_220 dX9_list_65 hf (fun v8 hf => ?_)
    refine gw_aload_n hx hb dX9_list_68 rfl (lv_at hl 0 rfl) ?_
    refine gw_geti (k := 16) C I gcls_8 (by decide) rfl kw_209 dX9_list_69 hf (fun v9 hf => ?_)
    refine lv_if_ne (tgt := 82) hx hb dX9_list_72 (by decide) (fun hq => ?_) (fun hq => ?_)
    · have hf := giff hq hf
      refine lv_iconst (v := 0) hx hb dX9_list_82 kc_i_0 ?_
      exact w_X9_list_83 C hr  x0 v7 v8 0 _ _ _ _ _ _ hf I (lv_sub hl [0] rfl)
    · have hf := gift hq hf
      refine gw_aload_n hx hb dX9_list_75 rfl (lv_at hl 0 rfl) ?_
      refine gw_geti (k := 15) C I gcls_8 (by decide) rfl kw_208 dX9_list_76 hf (fun v10 hf => ?_)
      refine lv_goto (tgt := 83) hx hb dX9_list_79 (by decide) ?_
      exact w_X9_list_83 C hr  x0 v7 v8 v10 _ _ _ _ _ _ hf I (lv_sub hl [0] rfl)
  · have hf := gift hq hf
    refine lv_bipush (v := (-3)) hx hb dX9_list_34 kc_b_m3 ?_
    exact gw_iret C I hr dX9_list_36 hf
set_option maxHeartbeats 4000000 in
set_option maxRecDepth 100000 in
theorem w_X9_list_0 (C : gC G p s m args meth c cX9_list 4 RX9) (hr : meth.sig.returnType = (some .int))  (a0 : Option Nat) (a1 : Int32) : gJ G p l e 7 169 mc ms s m args below meth c gri y 4 0 [(0, va_rf a0), (1, .int a1)] [] (f_X9_list  a0 a1) := by
  have hx := C.1
  have hb := C.2.1
  intro σ H locs cells slots ls hf I hl
  unfold f_X9_list at hf
  refine gw_aload_n hx hb dX9_list_0 rfl (lv_at hl 0 rfl) ?_
  refine gw_callV (rest := []) C I hl.1 gcls_8 (m_X9_readTextHost G l a0) gl_RX9_301 gn_X9_readTextHost ⟨Nat.le_of_ble_eq_true rfl, Nat.le_of_ble_eq_true rfl⟩ rfl (gc4 (Nat.le_of_ble_eq_true rfl)) rfl dX9_list_1 hf (fun v1 σ H locs cells slots I hf => ?_)
  refine W.eq (g2 := F0 m 4 ls [.int v1]) rfl ?_
  refine lv_istore_n (lv' := [(2, .int v1), (0, va_rf a0), (1, .int a1)]) hx hb dX9_list_4 rfl hl (by decide) rfl (fun ls hl => ?_)
  refine lv_iload_n hx hb dX9_list_5 rfl (lv_at hl 0 rfl) ?_
  refine lv_if_eq (tgt := 11) hx hb dX9_list_6 (by decide) (fun hq => ?_) (fun hq => ?_)
  · have hf := gift hq hf
    refine lv_iload_n hx hb dX9_list_11 rfl (lv_at hl 2 rfl) ?_
    refine lv_if_eq (tgt := 25) hx hb dX9_list_12 (by decide) (fun hq => ?_) (fun hq => ?_)
    · have hf := gift hq hf
      exact w_X9_list_25 C hr  a0 a1 _ _ _ _ _ _ hf I (lv_sub hl [1, 2] rfl)
    · have hf := giff hq hf
      refine gw_aload_n hx hb dX9_list_15 rfl (lv_at hl 1 rfl) ?_
      refine gw_geti (k := 16) C I gcls_8 (by decide) rfl kw_209 dX9_list_16 hf (fun v2 hf => ?_)
      refine lv_if_eq (tgt := 25) hx hb dX9_list_19 (by decide) (fun hq => ?_) (fun hq => ?_)
      · have hf := gift hq hf
        exact w_X9_list_25 C hr  a0 a1 _ _ _ _ _ _ hf I (lv_sub hl [1, 2] rfl)
      · have hf := giff hq hf
        refine lv_bipush (v := (-2)) hx hb dX9_list_22 kc_b_m2 ?_
        exact gw_iret C I hr dX9_list_24 hf
  · have hf := giff hq hf
    refine lv_iload_n hx hb dX9_list_9 rfl (lv_at hl 0 rfl) ?_
    exact gw_iret C I hr dX9_list_10 hf
end S_X9_list
theorem m_X9_list (G : gX) (l : Launch) (a0 : Option Nat) (a1 : Int32) : gMet G l yX9_list cX9_list 4 (some .int) 7 169 [va_rf a0, .int a1] gri (f_X9_list a0 a1) := by
  refine gMet_of (by decide) ?_
  intro σ y p e s m below meth c mc ms hf C hr hnm I
  obtain ⟨ls, e1, hl⟩ := gentry m [va_rf a0, .int a1] 4 [(0, va_rf a0), (1, .int a1)] (by simp [lg_sl, grc, gcat_i, gcat_l]) (by simp [lv_args, grc, gcat_i, gcat_l])
  rw [e1]
  exact w_X9_list_0 C hr a0 a1 _ _ _ _ _ _ hf I hl
def f_X9_resolve_66 (rec66 : Option Nat → Int32 → Int32 → Int32 → Int32 → Int32 → Int32 → gM Int32) (x0 : Option Nat) (x1 : Int32) (x2 : Int32) (x3 : Int32) (x4 : Int32) (x5 : Int32) (x7 : Int32) : gM Int32 := gb (rI 8 15 x0) fun v1 => if v1 ≤ x7 then (gb (rR 8 28 x0) fun v2 => gb (rI 8 30 x0) fun v3 => gb (sI 1 v2 v3 x1) fun _ => gb (rR 8 29 x0) fun v4 => gb (rI 8 30 x0) fun v5 => gb (sI 1 v4 (4 * v5) x2) fun _ => gb (rR 8 29 x0) fun v6 => gb (rI 8 30 x0) fun v7 => gb (sI 1 v6 ((4 * v7) + 1) x3) fun _ => gb (rR 8 29 x0) fun v8 => gb (rI 8 30 x0) fun v9 => gb (sI 1 v8 ((4 * v9) + 2) x4) fun _ => gb (rR 8 29 x0) fun v10 => gb (rI 8 30 x0) fun v11 => gb (sI 1 v10 ((4 * v11) + 3) x5) fun _ => gb (rI 8 30 x0) fun v12 => gb (wI 8 30 x0 (v12 + 1)) fun _ => gb (rI 8 30 x0) fun v13 => gp v13) else (gb (rR 8 26 x0) fun v14 => gb (rI 8 30 x0) fun v15 => gb (rR 8 14 x0) fun v16 => gb (aI 0 v16 x7) fun v17 => gb (sI 0 v14 ((300 * v15) + x7) v17) fun _ => rec66 x0 x1 x2 x3 x4 x5 (x7 + 1))
def f_X9_resolve_L66  : Nat → Option Nat → Int32 → Int32 → Int32 → Int32 → Int32 → Int32 → gM Int32
  | 0, _, _, _, _, _, _, _ => gno
  | n + 1, x0, x1, x2, x3, x4, x5, x7 => f_X9_resolve_66  (f_X9_resolve_L66  n) x0 x1 x2 x3 x4 x5 x7
def f_X9_resolve_14  (x0 : Option Nat) (x1 : Int32) (x2 : Int32) (x3 : Int32) (x4 : Int32) (x5 : Int32) : gM Int32 := gb (nn 8 x0) fun _ => gb (f_X9_readTextHost x0) fun v1 => if v1 = 0 then (gb (rI 8 16 x0) fun v2 => if v2 = 0 then (gb (rI 8 30 x0) fun v3 => if v3 = 16 then (gp (-3)) else (gb (rR 8 27 x0) fun v4 => gb (rI 8 30 x0) fun v5 => gb (rI 8 15 x0) fun v6 => gb (sI 1 v4 v5 v6) fun _ => f_X9_resolve_L66  gF x0 x1 x2 x3 x4 x5 0)) else (gp (-2))) else (gp v1)
def f_X9_resolve  (a0 : Option Nat) (a1 : Int32) (a2 : Int32) (a3 : Int32) (a4 : Int32) (a5 : Int32) : gM Int32 := if a1 = 4 then (f_X9_resolve_14  a0 a1 a2 a3 a4 a5) else (if a1 = 6 then (f_X9_resolve_14  a0 a1 a2 a3 a4 a5) else (gp (-2)))
section S_X9_resolve
variable {G : gX} {p : Program} {l : Launch} {e : Env} {s : State} {m : MethodId} {args : Array Value} {below : List Frame} {meth : Method} {c : Code} {mc ms : Nat} {y : Int32 × gS}
set_option maxHeartbeats 4000000 in
set_option maxRecDepth 100000 in
theorem w_X9_resolve_66 (C : gC G p s m args meth c cX9_resolve 8 RX9) (hr : meth.sig.returnType = (some .int)) {rec66 : Option Nat → Int32 → Int32 → Int32 → Int32 → Int32 → Int32 → gM Int32} (hrec66 : ∀ (x0 : Option Nat) (x1 : Int32) (x2 : Int32) (x3 : Int32) (x4 : Int32) (x5 : Int32) (x7 : Int32), gJ G p l e 7 169 mc ms s m args below meth c gri y 8 66 [(0, va_rf x0), (1, .int x1), (2, .int x2), (3, .int x3), (4, .int x4), (5, .int x5), (7, .int x7)] [] (rec66 x0 x1 x2 x3 x4 x5 x7)) (x0 : Option Nat) (x1 : Int32) (x2 : Int32) (x3 : Int32) (x4 : Int32) (x5 : Int32) (x7 : Int32) : gJ G p l e 7 169 mc ms s m args below meth c gri y 8 66 [(0, va_rf x0), (1, .int x1), (2, .int x2), (3, .int x3), (4, .int x4), (5, .int x5), (7, .int x7)] [] (f_X9_resolve_66 rec66 x0 x1 x2 x3 x4 x5 x7) := by
  have hx := C.1
  have hb := C.2.1
  intro σ H locs cells slots ls hf I hl
  unfold f_X9_resolve_66 at hf
  refine lv_iload hx hb dX9_resolve_66 (lv_at hl 6 rfl) ?_
  refine gw_aload_n hx hb dX9_resolve_68 rfl (lv_at hl 0 rfl) ?_
  refine gw_geti (k := 15) C I gcls_8 (by decide) rfl kw_208 dX9_resolve_69 hf (fun v1 hf => ?_)
  refine lv_icmp_ge (tgt := 104) hx hb dX9_resolve_72 (by decide) (fun hq => ?_) (fun hq => ?_)
  · have hf := gift hq hf
    refine gw_aload_n hx hb dX9_resolve_104 rfl (lv_at hl 0 rfl) ?_
    refine gw_getr (k := 28) C I gcls_8 (by decide) rfl kw_187 dX9_resolve_105 hf (fun v2 hf => ?_)
    refine gw_aload_n hx hb dX9_resolve_108 rfl (lv_at hl 0 rfl) ?_
    refine gw_geti (k := 30) C I gcls_8 (by decide) rfl kw_221 dX9_resolve_109 hf (fun v3 hf => ?_)
    refine lv_iload_n hx hb dX9_resolve_112 rfl (lv_at hl 1 rfl) ?_
    refine gw_iast C I dX9_resolve_113 hf (fun σ H locs I hf => ?_)
    refine gw_aload_n hx hb dX9_resolve_114 rfl (lv_at hl 0 rfl) ?_
    refine gw_getr (k := 29) C I gcls_8 (by decide) rfl kw_188 dX9_resolve_115 hf (fun v4 hf => ?_)
    refine lv_iconst (v := 4) hx hb dX9_resolve_118 kc_i_4 ?_
    refine gw_aload_n hx hb dX9_resolve_119 rfl (lv_at hl 0 rfl) ?_
    refine gw_geti (k := 30) C I gcls_8 (by decide) rfl kw_221 dX9_resolve_120 hf (fun v5 hf => ?_)
    refine lv_imul hx hb dX9_resolve_123 ?_
    refine lv_iload_n hx hb dX9_resolve_124 rfl (lv_at hl 2 rfl) ?_
    refine gw_iast C I dX9_resolve_125 hf (fun σ H locs I hf => ?_)
    refine gw_aload_n hx hb dX9_resolve_126 rfl (lv_at hl 0 rfl) ?_
    refine gw_getr (k := 29) C I gcls_8 (by decide) rfl kw_188 dX9_resolve_127 hf (fun v6 hf => ?_)
    refine lv_iconst (v := 4) hx hb dX9_resolve_130 kc_i_4 ?_
    refine gw_aload_n hx hb dX9_resolve_131 rfl (lv_at hl 0 rfl) ?_
    refine gw_geti (k := 30) C I gcls_8 (by decide) rfl kw_221 dX9_resolve_132 hf (fun v7 hf => ?_)
    refine lv_imul hx hb dX9_resolve_135 ?_
    refine lv_iconst (v := 1) hx hb dX9_resolve_136 kc_i_1 ?_
    refine lv_iadd hx hb dX9_resolve_137 ?_
    refine lv_iload_n hx hb dX9_resolve_138 rfl (lv_at hl 3 rfl) ?_
    refine gw_iast C I dX9_resolve_139 hf (fun σ H locs I hf => ?_)
    refine gw_aload_n hx hb dX9_resolve_140 rfl (lv_at hl 0 rfl) ?_
    refine gw_getr (k := 29) C I gcls_8 (by decide) rfl kw_188 dX9_resolve_141 hf (fun v8 hf => ?_)
    refine lv_iconst (v := 4) hx hb dX9_resolve_144 kc_i_4 ?_
    refine gw_aload_n hx hb dX9_resolve_145 rfl (lv_at hl 0 rfl) ?_
    refine gw_geti (k := 30) C I gcls_8 (by decide) rfl kw_221 dX9_resolve_146 hf (fun v9 hf => ?_)
    refine lv_imul hx hb dX9_resolve_149 ?_
    refine lv_iconst (v := 2) hx hb dX9_resolve_150 kc_i_2 ?_
    refine lv_iadd hx hb dX9_resolve_151 ?_
    refine lv_iload hx hb dX9_resolve_152 (lv_at hl 4 rfl) ?_
    refine gw_iast C I dX9_resolve_154 hf (fun σ H locs I hf => ?_)
    refine gw_aload_n hx hb dX9_resolve_155 rfl (lv_at hl 0 rfl) ?_
    refine gw_getr (k := 29) C I gcls_8 (by decide) rfl kw_188 dX9_resolve_156 hf (fun v10 hf => ?_)
    refine lv_iconst (v := 4) hx hb dX9_resolve_159 kc_i_4 ?_
    refine gw_aload_n hx hb dX9_resolve_160 rfl (lv_at hl 0 rfl) ?_
    refine gw_geti (k := 30) C I gcls_8 (by decide) rfl kw_221 dX9_resolve_161 hf (fun v11 hf => ?_)
    refine lv_imul hx hb dX9_resolve_164 ?_
    refine lv_iconst (v := 3) hx hb dX9_resolve_165 kc_i_3 ?_
    refine lv_iadd hx hb dX9_resolve_166 ?_
    refine lv_iload hx hb dX9_resolve_167 (lv_at hl 5 rfl) ?_
    refine gw_iast C I dX9_resolve_169 hf (fun σ H locs I hf => ?_)
    refine gw_aload_n hx hb dX9_resolve_170 rfl (lv_at hl 0 rfl) ?_
    refine lv_dup hx hb dX9_resolve_171 (grc _) ?_
    refine gw_geti (k := 30) C I gcls_8 (by decide) rfl kw_221 dX9_resolve_172 hf (fun v12 hf => ?_)
    refine lv_iconst (v := 1) hx hb dX9_resolve_175 kc_i_1 ?_
    refine lv_iadd hx hb dX9_resolve_176 ?_
    refine gw_puti (k := 30) C I gcls_8 (by decide) rfl kw_221 (Or.inl rfl) (by decide +kernel) dX9_resolve_177 hf (fun σ H locs I hf => ?_)
    refine gw_aload_n hx hb dX9_resolve_180 rfl (lv_at hl 0 rfl) ?_
    refine gw_geti (k := 30) C I gcls_8 (by decide) rfl kw_221 dX9_resolve_181 hf (fun v13 hf => ?_)
    exact gw_iret C I hr dX9_resolve_184 hf
  · have hf := giff hq hf
    refine gw_aload_n hx hb dX9_resolve_75 rfl (lv_at hl 0 rfl) ?_
    refine gw_getr (k := 26) C I gcls_8 (by decide) rfl kw_185 dX9_resolve_76 hf (fun v14 hf => ?_)
    refine lv_sipush (v := 300) hx hb dX9_resolve_79 kc_s_300 ?_
    refine gw_aload_n hx hb dX9_resolve_82 rfl (lv_at hl 0 rfl) ?_
    refine gw_geti (k := 30) C I gcls_8 (by decide) rfl kw_221 dX9_resolve_83 hf (fun v15 hf => ?_)
    refine lv_imul hx hb dX9_resolve_86 ?_
    refine lv_iload hx hb dX9_resolve_87 (lv_at hl 6 rfl) ?_
    refine lv_iadd hx hb dX9_resolve_89 ?_
    refine gw_aload_n hx hb dX9_resolve_90 rfl (lv_at hl 0 rfl) ?_
    refine gw_getr (k := 14) C I gcls_8 (by decide) rfl kw_177 dX9_resolve_91 hf (fun v16 hf => ?_)
    refine lv_iload hx hb dX9_resolve_94 (lv_at hl 6 rfl) ?_
    refine gw_bald C I dX9_resolve_96 hf (fun v17 hf => ?_)
    refine gw_bast C I dX9_resolve_97 hf (fun σ H locs I hf => ?_)
    refine lv_iinc (v := x7 + 1) (lv' := [(7, .int (x7 + 1)), (0, va_rf x0), (1, .int x1), (2, .int x2), (3, .int x3), (4, .int x4), (5, .int x5)]) hx hb dX9_resolve_98 hl (k := 6) rfl rfl (by decide) rfl (fun ls hl => ?_)
    refine lv_goto (tgt := 66) hx hb dX9_resolve_101 (by decide) ?_
    exact hrec66 x0 x1 x2 x3 x4 x5 (x7 + 1) _ _ _ _ _ _ hf I (lv_sub hl [1, 2, 3, 4, 5, 6, 0] rfl)
theorem w_X9_resolve_L66 (C : gC G p s m args meth c cX9_resolve 8 RX9) (hr : meth.sig.returnType = (some .int))  : ∀ (n : Nat) (x0 : Option Nat) (x1 : Int32) (x2 : Int32) (x3 : Int32) (x4 : Int32) (x5 : Int32) (x7 : Int32), gJ G p l e 7 169 mc ms s m args below meth c gri y 8 66 [(0, va_rf x0), (1, .int x1), (2, .int x2), (3, .int x3), (4, .int x4), (5, .int x5), (7, .int x7)] [] (f_X9_resolve_L66  n x0 x1 x2 x3 x4 x5 x7) := by
  intro n
  induction n with
  | zero => intro x0 x1 x2 x3 x4 x5 x7 σ H locs cells slots ls hf; exact (gno_some hf).elim
  | succ n ih => intro x0 x1 x2 x3 x4 x5 x7; exact w_X9_resolve_66 C hr  ih x0 x1 x2 x3 x4 x5 x7
set_option maxHeartbeats 4000000 in
set_option maxRecDepth 100000 in
theorem w_X9_resolve_14 (C : gC G p s m args meth c cX9_resolve 8 RX9) (hr : meth.sig.returnType = (some .int))  (x0 : Option Nat) (x1 : Int32) (x2 : Int32) (x3 : Int32) (x4 : Int32) (x5 : Int32) : gJ G p l e 7 169 mc ms s m args below meth c gri y 8 14 [(0, va_rf x0), (1, .int x1), (2, .int x2), (3, .int x3), (4, .int x4), (5, .int x5)] [] (f_X9_resolve_14  x0 x1 x2 x3 x4 x5) := by
  have hx := C.1
  have hb := C.2.1
  intro σ H locs cells slots ls hf I hl
  unfold f_X9_resolve_14 at hf
  refine gw_aload_n hx hb dX9_resolve_14 rfl (lv_at hl 0 rfl) ?_
  refine gw_callV (rest := []) C I hl.1 gcls_8 (m_X9_readTextHost G l x0) gl_RX9_301 gn_X9_readTextHost ⟨Nat.le_of_ble_eq_true rfl, Nat.le_of_ble_eq_true rfl⟩ rfl (gc4 (Nat.le_of_ble_eq_true rfl)) rfl dX9_resolve_15 hf (fun v1 σ H locs cells slots I hf => ?_)
  refine W.eq (g2 := F0 m 18 ls [.int v1]) rfl ?_
  refine lv_istore (lv' := [(6, .int v1), (0, va_rf x0), (1, .int x1), (2, .int x2), (3, .int x3), (4, .int x4), (5, .int x5)]) hx hb dX9_resolve_18 hl (by decide) rfl (fun ls hl => ?_)
  refine lv_iload hx hb dX9_resolve_20 (lv_at hl 0 rfl) ?_
  refine lv_if_eq (tgt := 28) hx hb dX9_resolve_22 (by decide) (fun hq => ?_) (fun hq => ?_)
  · have hf := gift hq hf
    refine gw_aload_n hx hb dX9_resolve_28 rfl (lv_at hl 1 rfl) ?_
    refine gw_geti (k := 16) C I gcls_8 (by decide) rfl kw_209 dX9_resolve_29 hf (fun v2 hf => ?_)
    refine lv_if_eq (tgt := 38) hx hb dX9_resolve_32 (by decide) (fun hq => ?_) (fun hq => ?_)
    · have hf := gift hq hf
      refine gw_aload_n hx hb dX9_resolve_38 rfl (lv_at hl 1 rfl) ?_
      refine gw_geti (k := 30) C I gcls_8 (by decide) rfl kw_221 dX9_resolve_39 hf (fun v3 hf => ?_)
      refine lv_bipush (v := 16) hx hb dX9_resolve_42 kc_b_16 ?_
      refine lv_icmp_ne (tgt := 50) hx hb dX9_resolve_44 (by decide) (fun hq => ?_) (fun hq => ?_)
      · have hf := giff hq hf
        refine gw_aload_n hx hb dX9_resolve_50 rfl (lv_at hl 1 rfl) ?_
        refine gw_getr (k := 27) C I gcls_8 (by decide) rfl kw_186 dX9_resolve_51 hf (fun v4 hf => ?_)
        refine gw_aload_n hx hb dX9_resolve_54 rfl (lv_at hl 1 rfl) ?_
        refine gw_geti (k := 30) C I gcls_8 (by decide) rfl kw_221 dX9_resolve_55 hf (fun v5 hf => ?_)
        refine gw_aload_n hx hb dX9_resolve_58 rfl (lv_at hl 1 rfl) ?_
        refine gw_geti (k := 15) C I gcls_8 (by decide) rfl kw_208 dX9_resolve_59 hf (fun v6 hf => ?_)
        refine gw_iast C I dX9_resolve_62 hf (fun σ H locs I hf => ?_)
        refine lv_iconst (v := 0) hx hb dX9_resolve_63 kc_i_0 ?_
        refine lv_istore (lv' := [(7, .int 0), (6, .int v1), (0, va_rf x0), (1, .int x1), (2, .int x2), (3, .int x3), (4, .int x4), (5, .int x5)]) hx hb dX9_resolve_64 hl (by decide) rfl (fun ls hl => ?_)
        exact w_X9_resolve_L66 C hr  _ x0 x1 x2 x3 x4 x5 0 _ _ _ _ _ _ hf I (lv_sub hl [2, 3, 4, 5, 6, 7, 0] rfl)
      · have hf := gift hq hf
        refine lv_bipush (v := (-3)) hx hb dX9_resolve_47 kc_b_m3 ?_
        exact gw_iret C I hr dX9_resolve_49 hf
    · have hf := giff hq hf
      refine lv_bipush (v := (-2)) hx hb dX9_resolve_35 kc_b_m2 ?_
      exact gw_iret C I hr dX9_resolve_37 hf
  · have hf := giff hq hf
    refine lv_iload hx hb dX9_resolve_25 (lv_at hl 0 rfl) ?_
    exact gw_iret C I hr dX9_resolve_27 hf
set_option maxHeartbeats 4000000 in
set_option maxRecDepth 100000 in
theorem w_X9_resolve_0 (C : gC G p s m args meth c cX9_resolve 8 RX9) (hr : meth.sig.returnType = (some .int))  (a0 : Option Nat) (a1 : Int32) (a2 : Int32) (a3 : Int32) (a4 : Int32) (a5 : Int32) : gJ G p l e 7 169 mc ms s m args below meth c gri y 8 0 [(0, va_rf a0), (1, .int a1), (2, .int a2), (3, .int a3), (4, .int a4), (5, .int a5)] [] (f_X9_resolve  a0 a1 a2 a3 a4 a5) := by
  have hx := C.1
  have hb := C.2.1
  intro σ H locs cells slots ls hf I hl
  unfold f_X9_resolve at hf
  refine lv_iload_n hx hb dX9_resolve_0 rfl (lv_at hl 1 rfl) ?_
  refine lv_iconst (v := 4) hx hb dX9_resolve_1 kc_i_4 ?_
  refine lv_icmp_eq (tgt := 14) hx hb dX9_resolve_2 (by decide) (fun hq => ?_) (fun hq => ?_)
  · have hf := gift hq hf
    exact w_X9_resolve_14 C hr  a0 a1 a2 a3 a4 a5 _ _ _ _ _ _ hf I (lv_sub hl [0, 1, 2, 3, 4, 5] rfl)
  · have hf := giff hq hf
    refine lv_iload_n hx hb dX9_resolve_5 rfl (lv_at hl 1 rfl) ?_
    refine lv_bipush (v := 6) hx hb dX9_resolve_6 kc_b_6 ?_
    refine lv_icmp_eq (tgt := 14) hx hb dX9_resolve_8 (by decide) (fun hq => ?_) (fun hq => ?_)
    · have hf := gift hq hf
      exact w_X9_resolve_14 C hr  a0 a1 a2 a3 a4 a5 _ _ _ _ _ _ hf I (lv_sub hl [0, 1, 2, 3, 4, 5] rfl)
    · have hf := giff hq hf
      refine lv_bipush (v := (-2)) hx hb dX9_resolve_11 kc_b_m2 ?_
      exact gw_iret C I hr dX9_resolve_13 hf
end S_X9_resolve
theorem m_X9_resolve (G : gX) (l : Launch) (a0 : Option Nat) (a1 : Int32) (a2 : Int32) (a3 : Int32) (a4 : Int32) (a5 : Int32) : gMet G l yX9_resolve cX9_resolve 8 (some .int) 7 169 [va_rf a0, .int a1, .int a2, .int a3, .int a4, .int a5] gri (f_X9_resolve a0 a1 a2 a3 a4 a5) := by
  refine gMet_of (by decide) ?_
  intro σ y p e s m below meth c mc ms hf C hr hnm I
  obtain ⟨ls, e1, hl⟩ := gentry m [va_rf a0, .int a1, .int a2, .int a3, .int a4, .int a5] 8 [(0, va_rf a0), (1, .int a1), (2, .int a2), (3, .int a3), (4, .int a4), (5, .int a5)] (by simp [lg_sl, grc, gcat_i, gcat_l]) (by simp [lv_args, grc, gcat_i, gcat_l])
  rw [e1]
  exact w_X9_resolve_0 C hr a0 a1 a2 a3 a4 a5 _ _ _ _ _ _ hf I hl
