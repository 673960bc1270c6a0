theorem dX1_hexValue_0 : decode cX1_hexValue 0 = .ok (.iload_n 0, 1) := by decide +kernel
theorem dX1_hexValue_1 : decode cX1_hexValue 1 = .ok (.bipush 48, 2) := by decide +kernel
theorem dX1_hexValue_3 : decode cX1_hexValue 3 = .ok (.if_icmp .lt 14, 3) := by decide +kernel
theorem dX1_hexValue_6 : decode cX1_hexValue 6 = .ok (.iload_n 0, 1) := by decide +kernel
theorem dX1_hexValue_7 : decode cX1_hexValue 7 = .ok (.bipush 57, 2) := by decide +kernel
theorem dX1_hexValue_9 : decode cX1_hexValue 9 = .ok (.if_icmp .gt 8, 3) := by decide +kernel
theorem dX1_hexValue_12 : decode cX1_hexValue 12 = .ok (.iload_n 0, 1) := by decide +kernel
theorem dX1_hexValue_13 : decode cX1_hexValue 13 = .ok (.bipush 48, 2) := by decide +kernel
theorem dX1_hexValue_15 : decode cX1_hexValue 15 = .ok (.isub, 1) := by decide +kernel
theorem dX1_hexValue_16 : decode cX1_hexValue 16 = .ok (.ireturn, 1) := by decide +kernel
theorem dX1_hexValue_17 : decode cX1_hexValue 17 = .ok (.iload_n 0, 1) := by decide +kernel
theorem dX1_hexValue_18 : decode cX1_hexValue 18 = .ok (.bipush 97, 2) := by decide +kernel
theorem dX1_hexValue_20 : decode cX1_hexValue 20 = .ok (.if_icmp .lt 17, 3) := by decide +kernel
theorem dX1_hexValue_23 : decode cX1_hexValue 23 = .ok (.iload_n 0, 1) := by decide +kernel
theorem dX1_hexValue_24 : decode cX1_hexValue 24 = .ok (.bipush 102, 2) := by decide +kernel
theorem dX1_hexValue_26 : decode cX1_hexValue 26 = .ok (.if_icmp .gt 11, 3) := by decide +kernel
theorem dX1_hexValue_29 : decode cX1_hexValue 29 = .ok (.iload_n 0, 1) := by decide +kernel
theorem dX1_hexValue_30 : decode cX1_hexValue 30 = .ok (.bipush 97, 2) := by decide +kernel
theorem dX1_hexValue_32 : decode cX1_hexValue 32 = .ok (.isub, 1) := by decide +kernel
theorem dX1_hexValue_33 : decode cX1_hexValue 33 = .ok (.bipush 10, 2) := by decide +kernel
theorem dX1_hexValue_35 : decode cX1_hexValue 35 = .ok (.iadd, 1) := by decide +kernel
theorem dX1_hexValue_36 : decode cX1_hexValue 36 = .ok (.ireturn, 1) := by decide +kernel
theorem dX1_hexValue_37 : decode cX1_hexValue 37 = .ok (.iload_n 0, 1) := by decide +kernel
theorem dX1_hexValue_38 : decode cX1_hexValue 38 = .ok (.bipush 65, 2) := by decide +kernel
theorem dX1_hexValue_40 : decode cX1_hexValue 40 = .ok (.if_icmp .lt 19, 3) := by decide +kernel
theorem dX1_hexValue_43 : decode cX1_hexValue 43 = .ok (.iload_n 0, 1) := by decide +kernel
theorem dX1_hexValue_44 : decode cX1_hexValue 44 = .ok (.bipush 70, 2) := by decide +kernel
theorem dX1_hexValue_46 : decode cX1_hexValue 46 = .ok (.if_icmp .gt 13, 3) := by decide +kernel
theorem dX1_hexValue_49 : decode cX1_hexValue 49 = .ok (.iload_n 0, 1) := by decide +kernel
theorem dX1_hexValue_50 : decode cX1_hexValue 50 = .ok (.bipush 65, 2) := by decide +kernel
theorem dX1_hexValue_52 : decode cX1_hexValue 52 = .ok (.isub, 1) := by decide +kernel
theorem dX1_hexValue_53 : decode cX1_hexValue 53 = .ok (.bipush 10, 2) := by decide +kernel
theorem dX1_hexValue_55 : decode cX1_hexValue 55 = .ok (.iadd, 1) := by decide +kernel
theorem dX1_hexValue_56 : decode cX1_hexValue 56 = .ok (.goto 4, 3) := by decide +kernel
theorem dX1_hexValue_59 : decode cX1_hexValue 59 = .ok (.iconst (-1), 1) := by decide +kernel
theorem dX1_hexValue_60 : decode cX1_hexValue 60 = .ok (.ireturn, 1) := by decide +kernel
theorem dX4_readPiece_0 : decode cX4_readPiece 0 = .ok (.iload_n 3, 1) := by decide +kernel
theorem dX4_readPiece_1 : decode cX4_readPiece 1 = .ok (.iload_n 2, 1) := by decide +kernel
theorem dX4_readPiece_2 : decode cX4_readPiece 2 = .ok (.isub, 1) := by decide +kernel
theorem dX4_readPiece_3 : decode cX4_readPiece 3 = .ok (.iconst 1, 1) := by decide +kernel
theorem dX4_readPiece_4 : decode cX4_readPiece 4 = .ok (.if_icmp .lt 10, 3) := by decide +kernel
theorem dX4_readPiece_7 : decode cX4_readPiece 7 = .ok (.iload_n 3, 1) := by decide +kernel
theorem dX4_readPiece_8 : decode cX4_readPiece 8 = .ok (.iload_n 2, 1) := by decide +kernel
theorem dX4_readPiece_9 : decode cX4_readPiece 9 = .ok (.isub, 1) := by decide +kernel
theorem dX4_readPiece_10 : decode cX4_readPiece 10 = .ok (.iconst 4, 1) := by decide +kernel
theorem dX4_readPiece_11 : decode cX4_readPiece 11 = .ok (.if_icmp .le 5, 3) := by decide +kernel
theorem dX4_readPiece_14 : decode cX4_readPiece 14 = .ok (.iconst 0, 1) := by decide +kernel
theorem dX4_readPiece_15 : decode cX4_readPiece 15 = .ok (.ireturn, 1) := by decide +kernel
theorem dX4_readPiece_16 : decode cX4_readPiece 16 = .ok (.iconst 0, 1) := by decide +kernel
theorem dX4_readPiece_17 : decode cX4_readPiece 17 = .ok (.istore 4, 2) := by decide +kernel
theorem dX4_readPiece_19 : decode cX4_readPiece 19 = .ok (.iload_n 2, 1) := by decide +kernel
theorem dX4_readPiece_20 : decode cX4_readPiece 20 = .ok (.istore 5, 2) := by decide +kernel
theorem dX4_readPiece_22 : decode cX4_readPiece 22 = .ok (.iload 5, 2) := by decide +kernel
theorem dX4_readPiece_24 : decode cX4_readPiece 24 = .ok (.iload_n 3, 1) := by decide +kernel
theorem dX4_readPiece_25 : decode cX4_readPiece 25 = .ok (.if_icmp .ge 38, 3) := by decide +kernel
theorem dX4_readPiece_28 : decode cX4_readPiece 28 = .ok (.aload_n 1, 1) := by decide +kernel
theorem dX4_readPiece_29 : decode cX4_readPiece 29 = .ok (.iload 5, 2) := by decide +kernel
theorem dX4_readPiece_31 : decode cX4_readPiece 31 = .ok (.invokevirtual 26, 3) := by decide +kernel
theorem dX4_readPiece_34 : decode cX4_readPiece 34 = .ok (.invokestatic 69, 3) := by decide +kernel
theorem dX4_readPiece_37 : decode cX4_readPiece 37 = .ok (.istore 6, 2) := by decide +kernel
theorem dX4_readPiece_39 : decode cX4_readPiece 39 = .ok (.iload 6, 2) := by decide +kernel
theorem dX4_readPiece_41 : decode cX4_readPiece 41 = .ok (.iconst (-1), 1) := by decide +kernel
theorem dX4_readPiece_42 : decode cX4_readPiece 42 = .ok (.if_icmp .ne 5, 3) := by decide +kernel
theorem dX4_readPiece_45 : decode cX4_readPiece 45 = .ok (.iconst 0, 1) := by decide +kernel
theorem dX4_readPiece_46 : decode cX4_readPiece 46 = .ok (.ireturn, 1) := by decide +kernel
theorem dX4_readPiece_47 : decode cX4_readPiece 47 = .ok (.bipush 16, 2) := by decide +kernel
theorem dX4_readPiece_49 : decode cX4_readPiece 49 = .ok (.iload 4, 2) := by decide +kernel
theorem dX4_readPiece_51 : decode cX4_readPiece 51 = .ok (.imul, 1) := by decide +kernel
theorem dX4_readPiece_52 : decode cX4_readPiece 52 = .ok (.iload 6, 2) := by decide +kernel
theorem dX4_readPiece_54 : decode cX4_readPiece 54 = .ok (.iadd, 1) := by decide +kernel
theorem dX4_readPiece_55 : decode cX4_readPiece 55 = .ok (.istore 4, 2) := by decide +kernel
theorem dX4_readPiece_57 : decode cX4_readPiece 57 = .ok (.iinc 5 1, 3) := by decide +kernel
theorem dX4_readPiece_60 : decode cX4_readPiece 60 = .ok (.goto (-38), 3) := by decide +kernel
theorem dX4_readPiece_63 : decode cX4_readPiece 63 = .ok (.aload_n 0, 1) := by decide +kernel
theorem dX4_readPiece_64 : decode cX4_readPiece 64 = .ok (.iload 4, 2) := by decide +kernel
theorem dX4_readPiece_66 : decode cX4_readPiece 66 = .ok (.invokevirtual 146, 3) := by decide +kernel
theorem dX4_readPiece_69 : decode cX4_readPiece 69 = .ok (.ireturn, 1) := by decide +kernel
theorem dX4_readPieces_0 : decode cX4_readPieces 0 = .ok (.iload_n 2, 1) := by decide +kernel
theorem dX4_readPieces_1 : decode cX4_readPieces 1 = .ok (.istore 5, 2) := by decide +kernel
theorem dX4_readPieces_3 : decode cX4_readPieces 3 = .ok (.iload_n 2, 1) := by decide +kernel
theorem dX4_readPieces_4 : decode cX4_readPieces 4 = .ok (.iload_n 3, 1) := by decide +kernel
theorem dX4_readPieces_5 : decode cX4_readPieces 5 = .ok (.if_icmp .ge 7, 3) := by decide +kernel
theorem dX4_readPieces_8 : decode cX4_readPieces 8 = .ok (.iconst 1, 1) := by decide +kernel
theorem dX4_readPieces_9 : decode cX4_readPieces 9 = .ok (.goto 4, 3) := by decide +kernel
theorem dX4_readPieces_12 : decode cX4_readPieces 12 = .ok (.iconst 0, 1) := by decide +kernel
theorem dX4_readPieces_13 : decode cX4_readPieces 13 = .ok (.istore 6, 2) := by decide +kernel
theorem dX4_readPieces_15 : decode cX4_readPieces 15 = .ok (.iload 6, 2) := by decide +kernel
theorem dX4_readPieces_17 : decode cX4_readPieces 17 = .ok (.ifCond .eq 137, 3) := by decide +kernel
theorem dX4_readPieces_20 : decode cX4_readPieces 20 = .ok (.iload 5, 2) := by decide +kernel
theorem dX4_readPieces_22 : decode cX4_readPieces 22 = .ok (.iload_n 3, 1) := by decide +kernel
theorem dX4_readPieces_23 : decode cX4_readPieces 23 = .ok (.if_icmp .gt 131, 3) := by decide +kernel
theorem dX4_readPieces_26 : decode cX4_readPieces 26 = .ok (.iload 5, 2) := by decide +kernel
theorem dX4_readPieces_28 : decode cX4_readPieces 28 = .ok (.istore 7, 2) := by decide +kernel
theorem dX4_readPieces_30 : decode cX4_readPieces 30 = .ok (.iconst 0, 1) := by decide +kernel
theorem dX4_readPieces_31 : decode cX4_readPieces 31 = .ok (.istore 8, 2) := by decide +kernel
theorem dX4_readPieces_33 : decode cX4_readPieces 33 = .ok (.iload 7, 2) := by decide +kernel
theorem dX4_readPieces_35 : decode cX4_readPieces 35 = .ok (.iload_n 3, 1) := by decide +kernel
theorem dX4_readPieces_36 : decode cX4_readPieces 36 = .ok (.if_icmp .ge 43, 3) := by decide +kernel
theorem dX4_readPieces_39 : decode cX4_readPieces 39 = .ok (.aload_n 1, 1) := by decide +kernel
theorem dX4_readPieces_40 : decode cX4_readPieces 40 = .ok (.iload 7, 2) := by decide +kernel
theorem dX4_readPieces_42 : decode cX4_readPieces 42 = .ok (.invokevirtual 26, 3) := by decide +kernel
theorem dX4_readPieces_45 : decode cX4_readPieces 45 = .ok (.bipush 58, 2) := by decide +kernel
theorem dX4_readPieces_47 : decode cX4_readPieces 47 = .ok (.if_icmp .eq 32, 3) := by decide +kernel
theorem dX4_readPieces_50 : decode cX4_readPieces 50 = .ok (.iload 8, 2) := by decide +kernel
theorem dX4_readPieces_52 : decode cX4_readPieces 52 = .ok (.ifCond .ne 14, 3) := by decide +kernel
theorem dX4_readPieces_55 : decode cX4_readPieces 55 = .ok (.aload_n 1, 1) := by decide +kernel
theorem dX4_readPieces_56 : decode cX4_readPieces 56 = .ok (.iload 7, 2) := by decide +kernel
theorem dX4_readPieces_58 : decode cX4_readPieces 58 = .ok (.invokevirtual 26, 3) := by decide +kernel
theorem dX4_readPieces_61 : decode cX4_readPieces 61 = .ok (.bipush 46, 2) := by decide +kernel
theorem dX4_readPieces_63 : decode cX4_readPieces 63 = .ok (.if_icmp .ne 7, 3) := by decide +kernel
theorem dX4_readPieces_66 : decode cX4_readPieces 66 = .ok (.iconst 1, 1) := by decide +kernel
theorem dX4_readPieces_67 : decode cX4_readPieces 67 = .ok (.goto 4, 3) := by decide +kernel
theorem dX4_readPieces_70 : decode cX4_readPieces 70 = .ok (.iconst 0, 1) := by decide +kernel
theorem dX4_readPieces_71 : decode cX4_readPieces 71 = .ok (.istore 8, 2) := by decide +kernel
theorem dX4_readPieces_73 : decode cX4_readPieces 73 = .ok (.iinc 7 1, 3) := by decide +kernel
theorem dX4_readPieces_76 : decode cX4_readPieces 76 = .ok (.goto (-43), 3) := by decide +kernel
theorem dX4_readPieces_79 : decode cX4_readPieces 79 = .ok (.iload 7, 2) := by decide +kernel
theorem dX4_readPieces_81 : decode cX4_readPieces 81 = .ok (.iload_n 3, 1) := by decide +kernel
theorem dX4_readPieces_82 : decode cX4_readPieces 82 = .ok (.if_icmp .ge 7, 3) := by decide +kernel
theorem dX4_readPieces_85 : decode cX4_readPieces 85 = .ok (.iconst 1, 1) := by decide +kernel
theorem dX4_readPieces_86 : decode cX4_readPieces 86 = .ok (.goto 4, 3) := by decide +kernel
theorem dX4_readPieces_89 : decode cX4_readPieces 89 = .ok (.iconst 0, 1) := by decide +kernel
theorem dX4_readPieces_90 : decode cX4_readPieces 90 = .ok (.istore 6, 2) := by decide +kernel
theorem dX4_readPieces_92 : decode cX4_readPieces 92 = .ok (.iload 8, 2) := by decide +kernel
theorem dX4_readPieces_94 : decode cX4_readPieces 94 = .ok (.ifCond .eq 33, 3) := by decide +kernel
theorem dX4_readPieces_97 : decode cX4_readPieces 97 = .ok (.iload 4, 2) := by decide +kernel
theorem dX4_readPieces_99 : decode cX4_readPieces 99 = .ok (.ifCond .eq 24, 3) := by decide +kernel
theorem dX4_readPieces_102 : decode cX4_readPieces 102 = .ok (.iload 6, 2) := by decide +kernel
theorem dX4_readPieces_104 : decode cX4_readPieces 104 = .ok (.ifCond .ne 19, 3) := by decide +kernel
theorem dX4_readPieces_107 : decode cX4_readPieces 107 = .ok (.aload_n 0, 1) := by decide +kernel
theorem dX4_readPieces_108 : decode cX4_readPieces 108 = .ok (.aload_n 1, 1) := by decide +kernel
theorem dX4_readPieces_109 : decode cX4_readPieces 109 = .ok (.iload 5, 2) := by decide +kernel
theorem dX4_readPieces_111 : decode cX4_readPieces 111 = .ok (.iload 7, 2) := by decide +kernel
theorem dX4_readPieces_113 : decode cX4_readPieces 113 = .ok (.invokevirtual 139, 3) := by decide +kernel
theorem dX4_readPieces_116 : decode cX4_readPieces 116 = .ok (.ifCond .eq 7, 3) := by decide +kernel
theorem dX4_readPieces_119 : decode cX4_readPieces 119 = .ok (.iconst 1, 1) := by decide +kernel
theorem dX4_readPieces_120 : decode cX4_readPieces 120 = .ok (.goto 16, 3) := by decide +kernel
theorem dX4_readPieces_123 : decode cX4_readPieces 123 = .ok (.iconst 0, 1) := by decide +kernel
theorem dX4_readPieces_124 : decode cX4_readPieces 124 = .ok (.goto 12, 3) := by decide +kernel
theorem dX4_readPieces_127 : decode cX4_readPieces 127 = .ok (.aload_n 0, 1) := by decide +kernel
theorem dX4_readPieces_128 : decode cX4_readPieces 128 = .ok (.aload_n 1, 1) := by decide +kernel
theorem dX4_readPieces_129 : decode cX4_readPieces 129 = .ok (.iload 5, 2) := by decide +kernel
theorem dX4_readPieces_131 : decode cX4_readPieces 131 = .ok (.iload 7, 2) := by decide +kernel
theorem dX4_readPieces_133 : decode cX4_readPieces 133 = .ok (.invokevirtual 143, 3) := by decide +kernel
theorem dX4_readPieces_136 : decode cX4_readPieces 136 = .ok (.istore 9, 2) := by decide +kernel
theorem dX4_readPieces_138 : decode cX4_readPieces 138 = .ok (.iload 9, 2) := by decide +kernel
theorem dX4_readPieces_140 : decode cX4_readPieces 140 = .ok (.ifCond .ne 5, 3) := by decide +kernel
theorem dX4_readPieces_143 : decode cX4_readPieces 143 = .ok (.iconst 0, 1) := by decide +kernel
theorem dX4_readPieces_144 : decode cX4_readPieces 144 = .ok (.ireturn, 1) := by decide +kernel
theorem dX4_readPieces_145 : decode cX4_readPieces 145 = .ok (.iload 7, 2) := by decide +kernel
theorem dX4_readPieces_147 : decode cX4_readPieces 147 = .ok (.iconst 1, 1) := by decide +kernel
theorem dX4_readPieces_148 : decode cX4_readPieces 148 = .ok (.iadd, 1) := by decide +kernel
theorem dX4_readPieces_149 : decode cX4_readPieces 149 = .ok (.istore 5, 2) := by decide +kernel
theorem dX4_readPieces_151 : decode cX4_readPieces 151 = .ok (.goto (-136), 3) := by decide +kernel
theorem dX4_readPieces_154 : decode cX4_readPieces 154 = .ok (.iconst 1, 1) := by decide +kernel
theorem dX4_readPieces_155 : decode cX4_readPieces 155 = .ok (.ireturn, 1) := by decide +kernel
theorem dX4_spread_0 : decode cX4_spread 0 = .ok (.aload_n 0, 1) := by decide +kernel
theorem dX4_spread_1 : decode cX4_spread 1 = .ok (.getfield 22, 3) := by decide +kernel
theorem dX4_spread_4 : decode cX4_spread 4 = .ok (.iload_n 1, 1) := by decide +kernel
theorem dX4_spread_5 : decode cX4_spread 5 = .ok (.isub, 1) := by decide +kernel
theorem dX4_spread_6 : decode cX4_spread 6 = .ok (.istore_n 2, 1) := by decide +kernel
theorem dX4_spread_7 : decode cX4_spread 7 = .ok (.bipush 7, 2) := by decide +kernel
theorem dX4_spread_9 : decode cX4_spread 9 = .ok (.istore_n 3, 1) := by decide +kernel
theorem dX4_spread_10 : decode cX4_spread 10 = .ok (.iload_n 3, 1) := by decide +kernel
theorem dX4_spread_11 : decode cX4_spread 11 = .ok (.iload_n 1, 1) := by decide +kernel
theorem dX4_spread_12 : decode cX4_spread 12 = .ok (.if_icmp .lt 54, 3) := by decide +kernel
theorem dX4_spread_15 : decode cX4_spread 15 = .ok (.iload_n 3, 1) := by decide +kernel
theorem dX4_spread_16 : decode cX4_spread 16 = .ok (.ifCond .lt 50, 3) := by decide +kernel
theorem dX4_spread_19 : decode cX4_spread 19 = .ok (.iload_n 3, 1) := by decide +kernel
theorem dX4_spread_20 : decode cX4_spread 20 = .ok (.bipush 8, 2) := by decide +kernel
theorem dX4_spread_22 : decode cX4_spread 22 = .ok (.aload_n 0, 1) := by decide +kernel
theorem dX4_spread_23 : decode cX4_spread 23 = .ok (.getfield 22, 3) := by decide +kernel
theorem dX4_spread_26 : decode cX4_spread 26 = .ok (.isub, 1) := by decide +kernel
theorem dX4_spread_27 : decode cX4_spread 27 = .ok (.isub, 1) := by decide +kernel
theorem dX4_spread_28 : decode cX4_spread 28 = .ok (.istore 4, 2) := by decide +kernel
theorem dX4_spread_30 : decode cX4_spread 30 = .ok (.aload_n 0, 1) := by decide +kernel
theorem dX4_spread_31 : decode cX4_spread 31 = .ok (.getfield 18, 3) := by decide +kernel
theorem dX4_spread_34 : decode cX4_spread 34 = .ok (.iload_n 3, 1) := by decide +kernel
theorem dX4_spread_35 : decode cX4_spread 35 = .ok (.iload_n 3, 1) := by decide +kernel
theorem dX4_spread_36 : decode cX4_spread 36 = .ok (.bipush 8, 2) := by decide +kernel
theorem dX4_spread_38 : decode cX4_spread 38 = .ok (.iload_n 2, 1) := by decide +kernel
theorem dX4_spread_39 : decode cX4_spread 39 = .ok (.isub, 1) := by decide +kernel
theorem dX4_spread_40 : decode cX4_spread 40 = .ok (.if_icmp .lt 18, 3) := by decide +kernel
theorem dX4_spread_43 : decode cX4_spread 43 = .ok (.iload 4, 2) := by decide +kernel
theorem dX4_spread_45 : decode cX4_spread 45 = .ok (.ifCond .lt 13, 3) := by decide +kernel
theorem dX4_spread_48 : decode cX4_spread 48 = .ok (.aload_n 0, 1) := by decide +kernel
theorem dX4_spread_49 : decode cX4_spread 49 = .ok (.getfield 18, 3) := by decide +kernel
theorem dX4_spread_52 : decode cX4_spread 52 = .ok (.iload 4, 2) := by decide +kernel
theorem dX4_spread_54 : decode cX4_spread 54 = .ok (.iaload, 1) := by decide +kernel
theorem dX4_spread_55 : decode cX4_spread 55 = .ok (.goto 4, 3) := by decide +kernel
theorem dX4_spread_58 : decode cX4_spread 58 = .ok (.iconst 0, 1) := by decide +kernel
theorem dX4_spread_59 : decode cX4_spread 59 = .ok (.iastore, 1) := by decide +kernel
theorem dX4_spread_60 : decode cX4_spread 60 = .ok (.iinc 3 (-1), 3) := by decide +kernel
theorem dX4_spread_63 : decode cX4_spread 63 = .ok (.goto (-53), 3) := by decide +kernel
theorem dX4_spread_66 : decode cX4_spread 66 = .ok (.return_, 1) := by decide +kernel
theorem dX4_wordAt_0 : decode cX4_wordAt 0 = .ok (.iload_n 1, 1) := by decide +kernel
theorem dX4_wordAt_1 : decode cX4_wordAt 1 = .ok (.ifCond .lt 14, 3) := by decide +kernel
theorem dX4_wordAt_4 : decode cX4_wordAt 4 = .ok (.iload_n 1, 1) := by decide +kernel
theorem dX4_wordAt_5 : decode cX4_wordAt 5 = .ok (.iconst 1, 1) := by decide +kernel
theorem dX4_wordAt_6 : decode cX4_wordAt 6 = .ok (.iadd, 1) := by decide +kernel
theorem dX4_wordAt_7 : decode cX4_wordAt 7 = .ok (.aload_n 0, 1) := by decide +kernel
theorem dX4_wordAt_8 : decode cX4_wordAt 8 = .ok (.getfield 18, 3) := by decide +kernel
theorem dX4_wordAt_11 : decode cX4_wordAt 11 = .ok (.arraylength, 1) := by decide +kernel
theorem dX4_wordAt_12 : decode cX4_wordAt 12 = .ok (.if_icmp .lt 7, 3) := by decide +kernel
theorem dX4_wordAt_15 : decode cX4_wordAt 15 = .ok (.iconst 0, 1) := by decide +kernel
theorem dX4_wordAt_16 : decode cX4_wordAt 16 = .ok (.goto 21, 3) := by decide +kernel
theorem dX4_wordAt_19 : decode cX4_wordAt 19 = .ok (.aload_n 0, 1) := by decide +kernel
theorem dX4_wordAt_20 : decode cX4_wordAt 20 = .ok (.getfield 18, 3) := by decide +kernel
theorem dX4_wordAt_23 : decode cX4_wordAt 23 = .ok (.iload_n 1, 1) := by decide +kernel
theorem dX4_wordAt_24 : decode cX4_wordAt 24 = .ok (.iaload, 1) := by decide +kernel
theorem dX4_wordAt_25 : decode cX4_wordAt 25 = .ok (.bipush 16, 2) := by decide +kernel
theorem dX4_wordAt_27 : decode cX4_wordAt 27 = .ok (.ishl, 1) := by decide +kernel
theorem dX4_wordAt_28 : decode cX4_wordAt 28 = .ok (.aload_n 0, 1) := by decide +kernel
theorem dX4_wordAt_29 : decode cX4_wordAt 29 = .ok (.getfield 18, 3) := by decide +kernel
theorem dX4_wordAt_32 : decode cX4_wordAt 32 = .ok (.iload_n 1, 1) := by decide +kernel
theorem dX4_wordAt_33 : decode cX4_wordAt 33 = .ok (.iconst 1, 1) := by decide +kernel
theorem dX4_wordAt_34 : decode cX4_wordAt 34 = .ok (.iadd, 1) := by decide +kernel
theorem dX4_wordAt_35 : decode cX4_wordAt 35 = .ok (.iaload, 1) := by decide +kernel
theorem dX4_wordAt_36 : decode cX4_wordAt 36 = .ok (.ior, 1) := by decide +kernel
theorem dX4_wordAt_37 : decode cX4_wordAt 37 = .ok (.ireturn, 1) := by decide +kernel
theorem dX0_numberAt_0 : decode cX0_numberAt 0 = .ok (.aload_n 0, 1) := by decide +kernel
theorem dX0_numberAt_1 : decode cX0_numberAt 1 = .ok (.getfield 7, 3) := by decide +kernel
theorem dX0_numberAt_4 : decode cX0_numberAt 4 = .ok (.bipush 6, 2) := by decide +kernel
theorem dX0_numberAt_6 : decode cX0_numberAt 6 = .ok (.if_icmp .ne 38, 3) := by decide +kernel
theorem dX0_numberAt_9 : decode cX0_numberAt 9 = .ok (.iload_n 1, 1) := by decide +kernel
theorem dX0_numberAt_10 : decode cX0_numberAt 10 = .ok (.ifCond .lt 34, 3) := by decide +kernel
theorem dX0_numberAt_13 : decode cX0_numberAt 13 = .ok (.iload_n 1, 1) := by decide +kernel
theorem dX0_numberAt_14 : decode cX0_numberAt 14 = .ok (.bipush 8, 2) := by decide +kernel
theorem dX0_numberAt_16 : decode cX0_numberAt 16 = .ok (.if_icmp .ge 28, 3) := by decide +kernel
theorem dX0_numberAt_19 : decode cX0_numberAt 19 = .ok (.aload_n 0, 1) := by decide +kernel
theorem dX0_numberAt_20 : decode cX0_numberAt 20 = .ok (.getfield 13, 3) := by decide +kernel
theorem dX0_numberAt_23 : decode cX0_numberAt 23 = .ok (.iload_n 1, 1) := by decide +kernel
theorem dX0_numberAt_24 : decode cX0_numberAt 24 = .ok (.iconst 1, 1) := by decide +kernel
theorem dX0_numberAt_25 : decode cX0_numberAt 25 = .ok (.ishr, 1) := by decide +kernel
theorem dX0_numberAt_26 : decode cX0_numberAt 26 = .ok (.iaload, 1) := by decide +kernel
theorem dX0_numberAt_27 : decode cX0_numberAt 27 = .ok (.iload_n 1, 1) := by decide +kernel
theorem dX0_numberAt_28 : decode cX0_numberAt 28 = .ok (.iconst 1, 1) := by decide +kernel
theorem dX0_numberAt_29 : decode cX0_numberAt 29 = .ok (.iand, 1) := by decide +kernel
theorem dX0_numberAt_30 : decode cX0_numberAt 30 = .ok (.ifCond .ne 8, 3) := by decide +kernel
theorem dX0_numberAt_33 : decode cX0_numberAt 33 = .ok (.bipush 16, 2) := by decide +kernel
theorem dX0_numberAt_35 : decode cX0_numberAt 35 = .ok (.goto 4, 3) := by decide +kernel
theorem dX0_numberAt_38 : decode cX0_numberAt 38 = .ok (.iconst 0, 1) := by decide +kernel
theorem dX0_numberAt_39 : decode cX0_numberAt 39 = .ok (.iushr, 1) := by decide +kernel
theorem dX0_numberAt_40 : decode cX0_numberAt 40 = .ok (.ldc 21, 2) := by decide +kernel
theorem dX0_numberAt_42 : decode cX0_numberAt 42 = .ok (.iand, 1) := by decide +kernel
theorem dX0_numberAt_43 : decode cX0_numberAt 43 = .ok (.ireturn, 1) := by decide +kernel
theorem dX0_numberAt_44 : decode cX0_numberAt 44 = .ok (.iload_n 1, 1) := by decide +kernel
theorem dX0_numberAt_45 : decode cX0_numberAt 45 = .ok (.ifCond .ne 12, 3) := by decide +kernel
theorem dX0_numberAt_48 : decode cX0_numberAt 48 = .ok (.aload_n 0, 1) := by decide +kernel
theorem dX0_numberAt_49 : decode cX0_numberAt 49 = .ok (.getfield 13, 3) := by decide +kernel
theorem dX0_numberAt_52 : decode cX0_numberAt 52 = .ok (.iconst 0, 1) := by decide +kernel
theorem dX0_numberAt_53 : decode cX0_numberAt 53 = .ok (.iaload, 1) := by decide +kernel
theorem dX0_numberAt_54 : decode cX0_numberAt 54 = .ok (.goto 4, 3) := by decide +kernel
theorem dX0_numberAt_57 : decode cX0_numberAt 57 = .ok (.iconst 0, 1) := by decide +kernel
theorem dX0_numberAt_58 : decode cX0_numberAt 58 = .ok (.ireturn, 1) := by decide +kernel
theorem dX3_firstLongestGap_0 : decode cX3_firstLongestGap 0 = .ok (.bipush 8, 2) := by decide +kernel
theorem dX3_firstLongestGap_2 : decode cX3_firstLongestGap 2 = .ok (.istore_n 1, 1) := by decide +kernel
theorem dX3_firstLongestGap_3 : decode cX3_firstLongestGap 3 = .ok (.iconst 1, 1) := by decide +kernel
theorem dX3_firstLongestGap_4 : decode cX3_firstLongestGap 4 = .ok (.istore_n 2, 1) := by decide +kernel
theorem dX3_firstLongestGap_5 : decode cX3_firstLongestGap 5 = .ok (.iconst 0, 1) := by decide +kernel
theorem dX3_firstLongestGap_6 : decode cX3_firstLongestGap 6 = .ok (.istore_n 3, 1) := by decide +kernel
theorem dX3_firstLongestGap_7 : decode cX3_firstLongestGap 7 = .ok (.iconst 0, 1) := by decide +kernel
theorem dX3_firstLongestGap_8 : decode cX3_firstLongestGap 8 = .ok (.istore 4, 2) := by decide +kernel
theorem dX3_firstLongestGap_10 : decode cX3_firstLongestGap 10 = .ok (.iload 4, 2) := by decide +kernel
theorem dX3_firstLongestGap_12 : decode cX3_firstLongestGap 12 = .ok (.bipush 8, 2) := by decide +kernel
theorem dX3_firstLongestGap_14 : decode cX3_firstLongestGap 14 = .ok (.if_icmp .ge 43, 3) := by decide +kernel
theorem dX3_firstLongestGap_17 : decode cX3_firstLongestGap 17 = .ok (.aload_n 0, 1) := by decide +kernel
theorem dX3_firstLongestGap_18 : decode cX3_firstLongestGap 18 = .ok (.getfield 10, 3) := by decide +kernel
theorem dX3_firstLongestGap_21 : decode cX3_firstLongestGap 21 = .ok (.iload 4, 2) := by decide +kernel
theorem dX3_firstLongestGap_23 : decode cX3_firstLongestGap 23 = .ok (.invokevirtual 66, 3) := by decide +kernel
theorem dX3_firstLongestGap_26 : decode cX3_firstLongestGap 26 = .ok (.ifCond .ne 9, 3) := by decide +kernel
theorem dX3_firstLongestGap_29 : decode cX3_firstLongestGap 29 = .ok (.iload_n 3, 1) := by decide +kernel
theorem dX3_firstLongestGap_30 : decode cX3_firstLongestGap 30 = .ok (.iconst 1, 1) := by decide +kernel
theorem dX3_firstLongestGap_31 : decode cX3_firstLongestGap 31 = .ok (.iadd, 1) := by decide +kernel
theorem dX3_firstLongestGap_32 : decode cX3_firstLongestGap 32 = .ok (.goto 4, 3) := by decide +kernel
theorem dX3_firstLongestGap_35 : decode cX3_firstLongestGap 35 = .ok (.iconst 0, 1) := by decide +kernel
theorem dX3_firstLongestGap_36 : decode cX3_firstLongestGap 36 = .ok (.istore_n 3, 1) := by decide +kernel
theorem dX3_firstLongestGap_37 : decode cX3_firstLongestGap 37 = .ok (.iload_n 3, 1) := by decide +kernel
theorem dX3_firstLongestGap_38 : decode cX3_firstLongestGap 38 = .ok (.iload_n 2, 1) := by decide +kernel
theorem dX3_firstLongestGap_39 : decode cX3_firstLongestGap 39 = .ok (.if_icmp .le 12, 3) := by decide +kernel
theorem dX3_firstLongestGap_42 : decode cX3_firstLongestGap 42 = .ok (.iload 4, 2) := by decide +kernel
theorem dX3_firstLongestGap_44 : decode cX3_firstLongestGap 44 = .ok (.iconst 1, 1) := by decide +kernel
theorem dX3_firstLongestGap_45 : decode cX3_firstLongestGap 45 = .ok (.iadd, 1) := by decide +kernel
theorem dX3_firstLongestGap_46 : decode cX3_firstLongestGap 46 = .ok (.iload_n 3, 1) := by decide +kernel
theorem dX3_firstLongestGap_47 : decode cX3_firstLongestGap 47 = .ok (.isub, 1) := by decide +kernel
theorem dX3_firstLongestGap_48 : decode cX3_firstLongestGap 48 = .ok (.istore_n 1, 1) := by decide +kernel
theorem dX3_firstLongestGap_49 : decode cX3_firstLongestGap 49 = .ok (.iload_n 3, 1) := by decide +kernel
theorem dX3_firstLongestGap_50 : decode cX3_firstLongestGap 50 = .ok (.istore_n 2, 1) := by decide +kernel
theorem dX3_firstLongestGap_51 : decode cX3_firstLongestGap 51 = .ok (.iinc 4 1, 3) := by decide +kernel
theorem dX3_firstLongestGap_54 : decode cX3_firstLongestGap 54 = .ok (.goto (-44), 3) := by decide +kernel
theorem dX3_firstLongestGap_57 : decode cX3_firstLongestGap 57 = .ok (.iload_n 1, 1) := by decide +kernel
theorem dX3_firstLongestGap_58 : decode cX3_firstLongestGap 58 = .ok (.ireturn, 1) := by decide +kernel
theorem dX3_zerosFrom_0 : decode cX3_zerosFrom 0 = .ok (.iload_n 1, 1) := by decide +kernel
theorem dX3_zerosFrom_1 : decode cX3_zerosFrom 1 = .ok (.istore_n 2, 1) := by decide +kernel
theorem dX3_zerosFrom_2 : decode cX3_zerosFrom 2 = .ok (.iload_n 2, 1) := by decide +kernel
theorem dX3_zerosFrom_3 : decode cX3_zerosFrom 3 = .ok (.bipush 8, 2) := by decide +kernel
theorem dX3_zerosFrom_5 : decode cX3_zerosFrom 5 = .ok (.if_icmp .ge 20, 3) := by decide +kernel
theorem dX3_zerosFrom_8 : decode cX3_zerosFrom 8 = .ok (.aload_n 0, 1) := by decide +kernel
theorem dX3_zerosFrom_9 : decode cX3_zerosFrom 9 = .ok (.getfield 10, 3) := by decide +kernel
theorem dX3_zerosFrom_12 : decode cX3_zerosFrom 12 = .ok (.iload_n 2, 1) := by decide +kernel
theorem dX3_zerosFrom_13 : decode cX3_zerosFrom 13 = .ok (.invokevirtual 66, 3) := by decide +kernel
theorem dX3_zerosFrom_16 : decode cX3_zerosFrom 16 = .ok (.ifCond .ne 9, 3) := by decide +kernel
theorem dX3_zerosFrom_19 : decode cX3_zerosFrom 19 = .ok (.iinc 2 1, 3) := by decide +kernel
theorem dX3_zerosFrom_22 : decode cX3_zerosFrom 22 = .ok (.goto (-20), 3) := by decide +kernel
theorem dX3_zerosFrom_25 : decode cX3_zerosFrom 25 = .ok (.iload_n 2, 1) := by decide +kernel
theorem dX3_zerosFrom_26 : decode cX3_zerosFrom 26 = .ok (.iload_n 1, 1) := by decide +kernel
theorem dX3_zerosFrom_27 : decode cX3_zerosFrom 27 = .ok (.isub, 1) := by decide +kernel
theorem dX3_zerosFrom_28 : decode cX3_zerosFrom 28 = .ok (.ireturn, 1) := by decide +kernel
theorem dX5_addHex_0 : decode cX5_addHex 0 = .ok (.bipush 12, 2) := by decide +kernel
theorem dX5_addHex_2 : decode cX5_addHex 2 = .ok (.istore_n 2, 1) := by decide +kernel
theorem dX5_addHex_3 : decode cX5_addHex 3 = .ok (.iload_n 2, 1) := by decide +kernel
theorem dX5_addHex_4 : decode cX5_addHex 4 = .ok (.ifCond .lt 34, 3) := by decide +kernel
theorem dX5_addHex_7 : decode cX5_addHex 7 = .ok (.iload_n 1, 1) := by decide +kernel
theorem dX5_addHex_8 : decode cX5_addHex 8 = .ok (.iload_n 2, 1) := by decide +kernel
theorem dX5_addHex_9 : decode cX5_addHex 9 = .ok (.iushr, 1) := by decide +kernel
theorem dX5_addHex_10 : decode cX5_addHex 10 = .ok (.ifCond .ne 7, 3) := by decide +kernel
theorem dX5_addHex_13 : decode cX5_addHex 13 = .ok (.iload_n 2, 1) := by decide +kernel
theorem dX5_addHex_14 : decode cX5_addHex 14 = .ok (.ifCond .ne 18, 3) := by decide +kernel
theorem dX5_addHex_17 : decode cX5_addHex 17 = .ok (.aload_n 0, 1) := by decide +kernel
theorem dX5_addHex_18 : decode cX5_addHex 18 = .ok (.ldc 50, 2) := by decide +kernel
theorem dX5_addHex_20 : decode cX5_addHex 20 = .ok (.iload_n 1, 1) := by decide +kernel
theorem dX5_addHex_21 : decode cX5_addHex 21 = .ok (.iload_n 2, 1) := by decide +kernel
theorem dX5_addHex_22 : decode cX5_addHex 22 = .ok (.iushr, 1) := by decide +kernel
theorem dX5_addHex_23 : decode cX5_addHex 23 = .ok (.bipush 15, 2) := by decide +kernel
theorem dX5_addHex_25 : decode cX5_addHex 25 = .ok (.iand, 1) := by decide +kernel
theorem dX5_addHex_26 : decode cX5_addHex 26 = .ok (.invokevirtual 38, 3) := by decide +kernel
theorem dX5_addHex_29 : decode cX5_addHex 29 = .ok (.invokevirtual 29, 3) := by decide +kernel
theorem dX5_addHex_32 : decode cX5_addHex 32 = .ok (.iinc 2 (-4), 3) := by decide +kernel
theorem dX5_addHex_35 : decode cX5_addHex 35 = .ok (.goto (-32), 3) := by decide +kernel
theorem dX5_addHex_38 : decode cX5_addHex 38 = .ok (.return_, 1) := by decide +kernel
theorem dX3_setSix_0 : decode cX3_setSix 0 = .ok (.aload_n 0, 1) := by decide +kernel
theorem dX3_setSix_1 : decode cX3_setSix 1 = .ok (.getfield 10, 3) := by decide +kernel
theorem dX3_setSix_4 : decode cX3_setSix 4 = .ok (.bipush 6, 2) := by decide +kernel
theorem dX3_setSix_6 : decode cX3_setSix 6 = .ok (.iload_n 1, 1) := by decide +kernel
theorem dX3_setSix_7 : decode cX3_setSix 7 = .ok (.iload_n 2, 1) := by decide +kernel
theorem dX3_setSix_8 : decode cX3_setSix 8 = .ok (.iload_n 3, 1) := by decide +kernel
theorem dX3_setSix_9 : decode cX3_setSix 9 = .ok (.iload 4, 2) := by decide +kernel
theorem dX3_setSix_11 : decode cX3_setSix 11 = .ok (.invokevirtual 38, 3) := by decide +kernel
theorem dX3_setSix_14 : decode cX3_setSix 14 = .ok (.aload_n 0, 1) := by decide +kernel
theorem dX3_setSix_15 : decode cX3_setSix 15 = .ok (.invokevirtual 52, 3) := by decide +kernel
theorem dX3_setSix_18 : decode cX3_setSix 18 = .ok (.istore 5, 2) := by decide +kernel
theorem dX3_setSix_20 : decode cX3_setSix 20 = .ok (.iload 5, 2) := by decide +kernel
theorem dX3_setSix_22 : decode cX3_setSix 22 = .ok (.aload_n 0, 1) := by decide +kernel
theorem dX3_setSix_23 : decode cX3_setSix 23 = .ok (.iload 5, 2) := by decide +kernel
theorem dX3_setSix_25 : decode cX3_setSix 25 = .ok (.invokevirtual 56, 3) := by decide +kernel
theorem dX3_setSix_28 : decode cX3_setSix 28 = .ok (.iadd, 1) := by decide +kernel
theorem dX3_setSix_29 : decode cX3_setSix 29 = .ok (.istore 6, 2) := by decide +kernel
theorem dX3_setSix_31 : decode cX3_setSix 31 = .ok (.aload_n 0, 1) := by decide +kernel
theorem dX3_setSix_32 : decode cX3_setSix 32 = .ok (.getfield 19, 3) := by decide +kernel
theorem dX3_setSix_35 : decode cX3_setSix 35 = .ok (.iconst 0, 1) := by decide +kernel
theorem dX3_setSix_36 : decode cX3_setSix 36 = .ok (.invokevirtual 42, 3) := by decide +kernel
theorem dX3_setSix_39 : decode cX3_setSix 39 = .ok (.aload_n 0, 1) := by decide +kernel
theorem dX3_setSix_40 : decode cX3_setSix 40 = .ok (.getfield 19, 3) := by decide +kernel
theorem dX3_setSix_43 : decode cX3_setSix 43 = .ok (.bipush 91, 2) := by decide +kernel
theorem dX3_setSix_45 : decode cX3_setSix 45 = .ok (.invokevirtual 49, 3) := by decide +kernel
theorem dX3_setSix_48 : decode cX3_setSix 48 = .ok (.iconst 0, 1) := by decide +kernel
theorem dX3_setSix_49 : decode cX3_setSix 49 = .ok (.istore 7, 2) := by decide +kernel
theorem dX3_setSix_51 : decode cX3_setSix 51 = .ok (.iload 7, 2) := by decide +kernel
theorem dX3_setSix_53 : decode cX3_setSix 53 = .ok (.bipush 8, 2) := by decide +kernel
theorem dX3_setSix_55 : decode cX3_setSix 55 = .ok (.if_icmp .ge 79, 3) := by decide +kernel
theorem dX3_setSix_58 : decode cX3_setSix 58 = .ok (.iload 7, 2) := by decide +kernel
theorem dX3_setSix_60 : decode cX3_setSix 60 = .ok (.iload 5, 2) := by decide +kernel
theorem dX3_setSix_62 : decode cX3_setSix 62 = .ok (.if_icmp .ne 12, 3) := by decide +kernel
theorem dX3_setSix_65 : decode cX3_setSix 65 = .ok (.aload_n 0, 1) := by decide +kernel
theorem dX3_setSix_66 : decode cX3_setSix 66 = .ok (.getfield 19, 3) := by decide +kernel
theorem dX3_setSix_69 : decode cX3_setSix 69 = .ok (.ldc 60, 2) := by decide +kernel
theorem dX3_setSix_71 : decode cX3_setSix 71 = .ok (.invokevirtual 62, 3) := by decide +kernel
theorem dX3_setSix_74 : decode cX3_setSix 74 = .ok (.iload 7, 2) := by decide +kernel
theorem dX3_setSix_76 : decode cX3_setSix 76 = .ok (.iload 5, 2) := by decide +kernel
theorem dX3_setSix_78 : decode cX3_setSix 78 = .ok (.if_icmp .lt 13, 3) := by decide +kernel
theorem dX3_setSix_81 : decode cX3_setSix 81 = .ok (.iload 7, 2) := by decide +kernel
theorem dX3_setSix_83 : decode cX3_setSix 83 = .ok (.iload 6, 2) := by decide +kernel
theorem dX3_setSix_85 : decode cX3_setSix 85 = .ok (.if_icmp .ge 6, 3) := by decide +kernel
theorem dX3_setSix_88 : decode cX3_setSix 88 = .ok (.goto 40, 3) := by decide +kernel
theorem dX3_setSix_91 : decode cX3_setSix 91 = .ok (.iload 7, 2) := by decide +kernel
theorem dX3_setSix_93 : decode cX3_setSix 93 = .ok (.ifCond .le 19, 3) := by decide +kernel
theorem dX3_setSix_96 : decode cX3_setSix 96 = .ok (.iload 7, 2) := by decide +kernel
theorem dX3_setSix_98 : decode cX3_setSix 98 = .ok (.iload 6, 2) := by decide +kernel
theorem dX3_setSix_100 : decode cX3_setSix 100 = .ok (.if_icmp .eq 12, 3) := by decide +kernel
theorem dX3_setSix_103 : decode cX3_setSix 103 = .ok (.aload_n 0, 1) := by decide +kernel
theorem dX3_setSix_104 : decode cX3_setSix 104 = .ok (.getfield 19, 3) := by decide +kernel
theorem dX3_setSix_107 : decode cX3_setSix 107 = .ok (.bipush 58, 2) := by decide +kernel
theorem dX3_setSix_109 : decode cX3_setSix 109 = .ok (.invokevirtual 49, 3) := by decide +kernel
theorem dX3_setSix_112 : decode cX3_setSix 112 = .ok (.aload_n 0, 1) := by decide +kernel
theorem dX3_setSix_113 : decode cX3_setSix 113 = .ok (.getfield 19, 3) := by decide +kernel
theorem dX3_setSix_116 : decode cX3_setSix 116 = .ok (.aload_n 0, 1) := by decide +kernel
theorem dX3_setSix_117 : decode cX3_setSix 117 = .ok (.getfield 10, 3) := by decide +kernel
theorem dX3_setSix_120 : decode cX3_setSix 120 = .ok (.iload 7, 2) := by decide +kernel
theorem dX3_setSix_122 : decode cX3_setSix 122 = .ok (.invokevirtual 66, 3) := by decide +kernel
theorem dX3_setSix_125 : decode cX3_setSix 125 = .ok (.invokevirtual 69, 3) := by decide +kernel
theorem dX3_setSix_128 : decode cX3_setSix 128 = .ok (.iinc 7 1, 3) := by decide +kernel
theorem dX3_setSix_131 : decode cX3_setSix 131 = .ok (.goto (-80), 3) := by decide +kernel
theorem dX3_setSix_134 : decode cX3_setSix 134 = .ok (.aload_n 0, 1) := by decide +kernel
theorem dX3_setSix_135 : decode cX3_setSix 135 = .ok (.getfield 19, 3) := by decide +kernel
theorem dX3_setSix_138 : decode cX3_setSix 138 = .ok (.bipush 93, 2) := by decide +kernel
theorem dX3_setSix_140 : decode cX3_setSix 140 = .ok (.invokevirtual 49, 3) := by decide +kernel
theorem dX3_setSix_143 : decode cX3_setSix 143 = .ok (.return_, 1) := by decide +kernel
theorem dX4_readSix_0 : decode cX4_readSix 0 = .ok (.aload_n 0, 1) := by decide +kernel
theorem dX4_readSix_1 : decode cX4_readSix 1 = .ok (.aload_n 1, 1) := by decide +kernel
theorem dX4_readSix_2 : decode cX4_readSix 2 = .ok (.iload_n 2, 1) := by decide +kernel
theorem dX4_readSix_3 : decode cX4_readSix 3 = .ok (.iload_n 3, 1) := by decide +kernel
theorem dX4_readSix_4 : decode cX4_readSix 4 = .ok (.invokevirtual 121, 3) := by decide +kernel
theorem dX4_readSix_7 : decode cX4_readSix 7 = .ok (.istore 5, 2) := by decide +kernel
theorem dX4_readSix_9 : decode cX4_readSix 9 = .ok (.iload 5, 2) := by decide +kernel
theorem dX4_readSix_11 : decode cX4_readSix 11 = .ok (.iload_n 3, 1) := by decide +kernel
theorem dX4_readSix_12 : decode cX4_readSix 12 = .ok (.if_icmp .ne 7, 3) := by decide +kernel
theorem dX4_readSix_15 : decode cX4_readSix 15 = .ok (.iconst 1, 1) := by decide +kernel
theorem dX4_readSix_16 : decode cX4_readSix 16 = .ok (.goto 4, 3) := by decide +kernel
theorem dX4_readSix_19 : decode cX4_readSix 19 = .ok (.iconst 0, 1) := by decide +kernel
theorem dX4_readSix_20 : decode cX4_readSix 20 = .ok (.istore 6, 2) := by decide +kernel
theorem dX4_readSix_22 : decode cX4_readSix 22 = .ok (.aload_n 0, 1) := by decide +kernel
theorem dX4_readSix_23 : decode cX4_readSix 23 = .ok (.iconst 0, 1) := by decide +kernel
theorem dX4_readSix_24 : decode cX4_readSix 24 = .ok (.putfield 22, 3) := by decide +kernel
theorem dX4_readSix_27 : decode cX4_readSix 27 = .ok (.aload_n 0, 1) := by decide +kernel
theorem dX4_readSix_28 : decode cX4_readSix 28 = .ok (.aload_n 1, 1) := by decide +kernel
theorem dX4_readSix_29 : decode cX4_readSix 29 = .ok (.iload_n 2, 1) := by decide +kernel
theorem dX4_readSix_30 : decode cX4_readSix 30 = .ok (.iload 5, 2) := by decide +kernel
theorem dX4_readSix_32 : decode cX4_readSix 32 = .ok (.iload 6, 2) := by decide +kernel
theorem dX4_readSix_34 : decode cX4_readSix 34 = .ok (.invokevirtual 125, 3) := by decide +kernel
theorem dX4_readSix_37 : decode cX4_readSix 37 = .ok (.ifCond .ne 6, 3) := by decide +kernel
theorem dX4_readSix_40 : decode cX4_readSix 40 = .ok (.bipush (-16), 2) := by decide +kernel
theorem dX4_readSix_42 : decode cX4_readSix 42 = .ok (.ireturn, 1) := by decide +kernel
theorem dX4_readSix_43 : decode cX4_readSix 43 = .ok (.aload_n 0, 1) := by decide +kernel
theorem dX4_readSix_44 : decode cX4_readSix 44 = .ok (.getfield 22, 3) := by decide +kernel
theorem dX4_readSix_47 : decode cX4_readSix 47 = .ok (.istore 7, 2) := by decide +kernel
theorem dX4_readSix_49 : decode cX4_readSix 49 = .ok (.iload 6, 2) := by decide +kernel
theorem dX4_readSix_51 : decode cX4_readSix 51 = .ok (.ifCond .ne 20, 3) := by decide +kernel
theorem dX4_readSix_54 : decode cX4_readSix 54 = .ok (.aload_n 0, 1) := by decide +kernel
theorem dX4_readSix_55 : decode cX4_readSix 55 = .ok (.aload_n 1, 1) := by decide +kernel
theorem dX4_readSix_56 : decode cX4_readSix 56 = .ok (.iload 5, 2) := by decide +kernel
theorem dX4_readSix_58 : decode cX4_readSix 58 = .ok (.iconst 2, 1) := by decide +kernel
theorem dX4_readSix_59 : decode cX4_readSix 59 = .ok (.iadd, 1) := by decide +kernel
theorem dX4_readSix_60 : decode cX4_readSix 60 = .ok (.iload_n 3, 1) := by decide +kernel
theorem dX4_readSix_61 : decode cX4_readSix 61 = .ok (.iconst 1, 1) := by decide +kernel
theorem dX4_readSix_62 : decode cX4_readSix 62 = .ok (.invokevirtual 125, 3) := by decide +kernel
theorem dX4_readSix_65 : decode cX4_readSix 65 = .ok (.ifCond .ne 6, 3) := by decide +kernel
theorem dX4_readSix_68 : decode cX4_readSix 68 = .ok (.bipush (-16), 2) := by decide +kernel
theorem dX4_readSix_70 : decode cX4_readSix 70 = .ok (.ireturn, 1) := by decide +kernel
theorem dX4_readSix_71 : decode cX4_readSix 71 = .ok (.iload 6, 2) := by decide +kernel
theorem dX4_readSix_73 : decode cX4_readSix 73 = .ok (.ifCond .eq 15, 3) := by decide +kernel
theorem dX4_readSix_76 : decode cX4_readSix 76 = .ok (.aload_n 0, 1) := by decide +kernel
theorem dX4_readSix_77 : decode cX4_readSix 77 = .ok (.getfield 22, 3) := by decide +kernel
theorem dX4_readSix_80 : decode cX4_readSix 80 = .ok (.bipush 8, 2) := by decide +kernel
theorem dX4_readSix_82 : decode cX4_readSix 82 = .ok (.if_icmp .eq 18, 3) := by decide +kernel
theorem dX4_readSix_85 : decode cX4_readSix 85 = .ok (.goto 12, 3) := by decide +kernel
theorem dX4_readSix_88 : decode cX4_readSix 88 = .ok (.aload_n 0, 1) := by decide +kernel
theorem dX4_readSix_89 : decode cX4_readSix 89 = .ok (.getfield 22, 3) := by decide +kernel
theorem dX4_readSix_92 : decode cX4_readSix 92 = .ok (.bipush 7, 2) := by decide +kernel
theorem dX4_readSix_94 : decode cX4_readSix 94 = .ok (.if_icmp .le 6, 3) := by decide +kernel
theorem dX4_readSix_97 : decode cX4_readSix 97 = .ok (.bipush (-16), 2) := by decide +kernel
theorem dX4_readSix_99 : decode cX4_readSix 99 = .ok (.ireturn, 1) := by decide +kernel
theorem dX4_readSix_100 : decode cX4_readSix 100 = .ok (.aload_n 0, 1) := by decide +kernel
theorem dX4_readSix_101 : decode cX4_readSix 101 = .ok (.iload 7, 2) := by decide +kernel
theorem dX4_readSix_103 : decode cX4_readSix 103 = .ok (.invokevirtual 129, 3) := by decide +kernel
theorem dX4_readSix_106 : decode cX4_readSix 106 = .ok (.aload 4, 2) := by decide +kernel
theorem dX4_readSix_108 : decode cX4_readSix 108 = .ok (.aload_n 0, 1) := by decide +kernel
theorem dX4_readSix_109 : decode cX4_readSix 109 = .ok (.iconst 0, 1) := by decide +kernel
theorem dX4_readSix_110 : decode cX4_readSix 110 = .ok (.invokevirtual 132, 3) := by decide +kernel
theorem dX4_readSix_113 : decode cX4_readSix 113 = .ok (.aload_n 0, 1) := by decide +kernel
theorem dX4_readSix_114 : decode cX4_readSix 114 = .ok (.iconst 2, 1) := by decide +kernel
theorem dX4_readSix_115 : decode cX4_readSix 115 = .ok (.invokevirtual 132, 3) := by decide +kernel
theorem dX4_readSix_118 : decode cX4_readSix 118 = .ok (.aload_n 0, 1) := by decide +kernel
theorem dX4_readSix_119 : decode cX4_readSix 119 = .ok (.iconst 4, 1) := by decide +kernel
theorem dX4_readSix_120 : decode cX4_readSix 120 = .ok (.invokevirtual 132, 3) := by decide +kernel
theorem dX4_readSix_123 : decode cX4_readSix 123 = .ok (.aload_n 0, 1) := by decide +kernel
theorem dX4_readSix_124 : decode cX4_readSix 124 = .ok (.bipush 6, 2) := by decide +kernel
theorem dX4_readSix_126 : decode cX4_readSix 126 = .ok (.invokevirtual 132, 3) := by decide +kernel
theorem dX4_readSix_129 : decode cX4_readSix 129 = .ok (.invokevirtual 135, 3) := by decide +kernel
theorem dX4_readSix_132 : decode cX4_readSix 132 = .ok (.iconst 0, 1) := by decide +kernel
theorem dX4_readSix_133 : decode cX4_readSix 133 = .ok (.ireturn, 1) := by decide +kernel
def f_X1_hexValue_37  (x0 : Int32) : gM Int32 := if x0 < 65 then (gp (-1)) else (if 70 < x0 then (gp (-1)) else (gp ((x0 - 65) + 10)))
def f_X1_hexValue_17  (x0 : Int32) : gM Int32 := if x0 < 97 then (f_X1_hexValue_37  x0) else (if 102 < x0 then (f_X1_hexValue_37  x0) else (gp ((x0 - 97) + 10)))
def f_X1_hexValue  (a0 : Int32) : gM Int32 := if a0 < 48 then (f_X1_hexValue_17  a0) else (if 57 < a0 then (f_X1_hexValue_17  a0) else (gp (a0 - 48)))
section S_X1_hexValue
variable {G : gX} {p : Program} {l : Launch} {e : Env} {s : State} {m : MethodId} {args : Array Value} {below : List Frame} {meth : Method} {c : Code} {mc ms : Nat} {y : Int32 × gS}
set_option maxHeartbeats 4000000 in
set_option maxRecDepth 100000 in
theorem w_X1_hexValue_37 (C : gC G p s m args meth c cX1_hexValue 1 RX1) (hr : meth.sig.returnType = (some .int))  (x0 : Int32) : gJ G p l e 0 0 mc ms s m args below meth c gri y 1 37 [(0, .int x0)] [] (f_X1_hexValue_37  x0) := by
  have hx := C.1
  have hb := C.2.1
  intro σ H locs cells slots ls hf I hl
  unfold f_X1_hexValue_37 at hf
  refine lv_iload_n hx hb dX1_hexValue_37 rfl (lv_at hl 0 rfl) ?_
  refine lv_bipush (v := 65) hx hb dX1_hexValue_38 kc_b_65 ?_
  refine lv_icmp_lt (tgt := 59) hx hb dX1_hexValue_40 (by decide) (fun hq => ?_) (fun hq => ?_)
  · have hf := gift hq hf
    refine lv_iconst (v := (-1)) hx hb dX1_hexValue_59 kc_i_m1 ?_
    exact gw_iret C I hr dX1_hexValue_60 hf
  · have hf := giff hq hf
    refine lv_iload_n hx hb dX1_hexValue_43 rfl (lv_at hl 0 rfl) ?_
    refine lv_bipush (v := 70) hx hb dX1_hexValue_44 kc_b_70 ?_
    refine lv_icmp_gt (tgt := 59) hx hb dX1_hexValue_46 (by decide) (fun hq => ?_) (fun hq => ?_)
    · have hf := gift hq hf
      refine lv_iconst (v := (-1)) hx hb dX1_hexValue_59 kc_i_m1 ?_
      exact gw_iret C I hr dX1_hexValue_60 hf
    · have hf := giff hq hf
      refine lv_iload_n hx hb dX1_hexValue_49 rfl (lv_at hl 0 rfl) ?_
      refine lv_bipush (v := 65) hx hb dX1_hexValue_50 kc_b_65 ?_
      refine lv_isub hx hb dX1_hexValue_52 ?_
      refine lv_bipush (v := 10) hx hb dX1_hexValue_53 kc_b_10 ?_
      refine lv_iadd hx hb dX1_hexValue_55 ?_
      refine lv_goto (tgt := 60) hx hb dX1_hexValue_56 (by decide) ?_
      exact gw_iret C I hr dX1_hexValue_60 hf
set_option maxHeartbeats 4000000 in
set_option maxRecDepth 100000 in
theorem w_X1_hexValue_17 (C : gC G p s m args meth c cX1_hexValue 1 RX1) (hr : meth.sig.returnType = (some .int))  (x0 : Int32) : gJ G p l e 0 0 mc ms s m args below meth c gri y 1 17 [(0, .int x0)] [] (f_X1_hexValue_17  x0) := by
  have hx := C.1
  have hb := C.2.1
  intro σ H locs cells slots ls hf I hl
  unfold f_X1_hexValue_17 at hf
  refine lv_iload_n hx hb dX1_hexValue_17 rfl (lv_at hl 0 rfl) ?_
  refine lv_bipush (v := 97) hx hb dX1_hexValue_18 kc_b_97 ?_
  refine lv_icmp_lt (tgt := 37) hx hb dX1_hexValue_20 (by decide) (fun hq => ?_) (fun hq => ?_)
  · have hf := gift hq hf
    exact w_X1_hexValue_37 C hr  x0 _ _ _ _ _ _ hf I (lv_sub hl [0] rfl)
  · have hf := giff hq hf
    refine lv_iload_n hx hb dX1_hexValue_23 rfl (lv_at hl 0 rfl) ?_
    refine lv_bipush (v := 102) hx hb dX1_hexValue_24 kc_b_102 ?_
    refine lv_icmp_gt (tgt := 37) hx hb dX1_hexValue_26 (by decide) (fun hq => ?_) (fun hq => ?_)
    · have hf := gift hq hf
      exact w_X1_hexValue_37 C hr  x0 _ _ _ _ _ _ hf I (lv_sub hl [0] rfl)
    · have hf := giff hq hf
      refine lv_iload_n hx hb dX1_hexValue_29 rfl (lv_at hl 0 rfl) ?_
      refine lv_bipush (v := 97) hx hb dX1_hexValue_30 kc_b_97 ?_
      refine lv_isub hx hb dX1_hexValue_32 ?_
      refine lv_bipush (v := 10) hx hb dX1_hexValue_33 kc_b_10 ?_
      refine lv_iadd hx hb dX1_hexValue_35 ?_
      exact gw_iret C I hr dX1_hexValue_36 hf
set_option maxHeartbeats 4000000 in
set_option maxRecDepth 100000 in
theorem w_X1_hexValue_0 (C : gC G p s m args meth c cX1_hexValue 1 RX1) (hr : meth.sig.returnType = (some .int))  (a0 : Int32) : gJ G p l e 0 0 mc ms s m args below meth c gri y 1 0 [(0, .int a0)] [] (f_X1_hexValue  a0) := by
  have hx := C.1
  have hb := C.2.1
  intro σ H locs cells slots ls hf I hl
  unfold f_X1_hexValue at hf
  refine lv_iload_n hx hb dX1_hexValue_0 rfl (lv_at hl 0 rfl) ?_
  refine lv_bipush (v := 48) hx hb dX1_hexValue_1 kc_b_48 ?_
  refine lv_icmp_lt (tgt := 17) hx hb dX1_hexValue_3 (by decide) (fun hq => ?_) (fun hq => ?_)
  · have hf := gift hq hf
    exact w_X1_hexValue_17 C hr  a0 _ _ _ _ _ _ hf I (lv_sub hl [0] rfl)
  · have hf := giff hq hf
    refine lv_iload_n hx hb dX1_hexValue_6 rfl (lv_at hl 0 rfl) ?_
    refine lv_bipush (v := 57) hx hb dX1_hexValue_7 kc_b_57 ?_
    refine lv_icmp_gt (tgt := 17) hx hb dX1_hexValue_9 (by decide) (fun hq => ?_) (fun hq => ?_)
    · have hf := gift hq hf
      exact w_X1_hexValue_17 C hr  a0 _ _ _ _ _ _ hf I (lv_sub hl [0] rfl)
    · have hf := giff hq hf
      refine lv_iload_n hx hb dX1_hexValue_12 rfl (lv_at hl 0 rfl) ?_
      refine lv_bipush (v := 48) hx hb dX1_hexValue_13 kc_b_48 ?_
      refine lv_isub hx hb dX1_hexValue_15 ?_
      exact gw_iret C I hr dX1_hexValue_16 hf
end S_X1_hexValue
theorem m_X1_hexValue (G : gX) (l : Launch) (a0 : Int32) : gMet G l yX1_hexValue cX1_hexValue 1 (some .int) 0 0 [.int a0] gri (f_X1_hexValue a0) := by
  refine gMet_of (by decide) ?_
  intro σ y p e s m below meth c mc ms hf C hr hnm I
  obtain ⟨ls, e1, hl⟩ := gentry m [.int a0] 1 [(0, .int a0)] (by simp [lg_sl, grc, gcat_i, gcat_l]) (by simp [lv_args, grc, gcat_i, gcat_l])
  rw [e1]
  exact w_X1_hexValue_0 C hr a0 _ _ _ _ _ _ hf I hl
def f_X4_readPiece_22 (rec22 : Option Nat → Option Nat → Int32 → Int32 → Int32 → gM Int32) (x0 : Option Nat) (x1 : Option Nat) (x3 : Int32) (x4 : Int32) (x5 : Int32) : gM Int32 := if x3 ≤ x5 then (gb (nn 3 x0) fun _ => gb (f_X4_addPiece x0 x4) fun v1 => gz v1) else (gb (nn 4 x1) fun _ => gb (f_X5_byteAt x1 x5) fun v2 => gb (f_X1_hexValue v2) fun v3 => if v3 = (-1) then (gz 0) else (rec22 x0 x1 x3 ((16 * x4) + v3) (x5 + 1)))
def f_X4_readPiece_L22  : Nat → Option Nat → Option Nat → Int32 → Int32 → Int32 → gM Int32
  | 0, _, _, _, _, _ => gno
  | n + 1, x0, x1, x3, x4, x5 => f_X4_readPiece_22  (f_X4_readPiece_L22  n) x0 x1 x3 x4 x5
def f_X4_readPiece  (a0 : Option Nat) (a1 : Option Nat) (a2 : Int32) (a3 : Int32) : gM Int32 := if (a3 - a2) < 1 then (gz 0) else (if (a3 - a2) ≤ 4 then (f_X4_readPiece_L22  gF a0 a1 a3 0 a2) else (gz 0))
section S_X4_readPiece
variable {G : gX} {p : Program} {l : Launch} {e : Env} {s : State} {m : MethodId} {args : Array Value} {below : List Frame} {meth : Method} {c : Code} {mc ms : Nat} {y : Int32 × gS}
set_option maxHeartbeats 4000000 in
set_option maxRecDepth 100000 in
theorem w_X4_readPiece_22 (C : gC G p s m args meth c cX4_readPiece 7 RX4) (hr : meth.sig.returnType = (some .boolean)) {rec22 : Option Nat → Option Nat → Int32 → Int32 → Int32 → gM Int32} (hrec22 : ∀ (x0 : Option Nat) (x1 : Option Nat) (x3 : Int32) (x4 : Int32) (x5 : Int32), gJ G p l e 1 21 mc ms s m args below meth c gri y 7 22 [(0, va_rf x0), (1, va_rf x1), (3, .int x3), (4, .int x4), (5, .int x5)] [] (rec22 x0 x1 x3 x4 x5)) (x0 : Option Nat) (x1 : Option Nat) (x3 : Int32) (x4 : Int32) (x5 : Int32) : gJ G p l e 1 21 mc ms s m args below meth c gri y 7 22 [(0, va_rf x0), (1, va_rf x1), (3, .int x3), (4, .int x4), (5, .int x5)] [] (f_X4_readPiece_22 rec22 x0 x1 x3 x4 x5) := by
  have hx := C.1
  have hb := C.2.1
  intro σ H locs cells slots ls hf I hl
  unfold f_X4_readPiece_22 at hf
  refine lv_iload hx hb dX4_readPiece_22 (lv_at hl 4 rfl) ?_
  refine lv_iload_n hx hb dX4_readPiece_24 rfl (lv_at hl 2 rfl) ?_
  refine lv_icmp_ge (tgt := 63) hx hb dX4_readPiece_25 (by decide) (fun hq => ?_) (fun hq => ?_)
  · have hf := gift hq hf
    refine gw_aload_n hx hb dX4_readPiece_63 rfl (lv_at hl 0 rfl) ?_
    refine lv_iload hx hb dX4_readPiece_64 (lv_at hl 3 rfl) ?_
    refine gw_callV (rest := []) C I hl.1 gcls_3 (m_X4_addPiece G l x0 x4) gl_RX4_146 gn_X4_addPiece ⟨Nat.le_of_ble_eq_true rfl, Nat.le_of_ble_eq_true rfl⟩ rfl (gc4 (Nat.le_of_ble_eq_true rfl)) rfl dX4_readPiece_66 hf (fun v1 σ H locs cells slots I hf => ?_)
    refine W.eq (g2 := F0 m 69 ls [.int v1]) rfl ?_
    exact gw_zret C I hr dX4_readPiece_69 hf
  · have hf := giff hq hf
    refine gw_aload_n hx hb dX4_readPiece_28 rfl (lv_at hl 1 rfl) ?_
    refine lv_iload hx hb dX4_readPiece_29 (lv_at hl 4 rfl) ?_
    refine gw_callV (rest := []) C I hl.1 gcls_4 (m_X5_byteAt G l x1 x5) gl_RX4_26 gn_X5_byteAt ⟨Nat.le_of_ble_eq_true rfl, Nat.le_of_ble_eq_true rfl⟩ rfl (gc4 (Nat.le_of_ble_eq_true rfl)) rfl dX4_readPiece_31 hf (fun v2 σ H locs cells slots I hf => ?_)
    refine W.eq (g2 := F0 m 34 ls [.int v2]) rfl ?_
    refine gw_callS (rest := []) C I hl.1 (m_X1_hexValue G l v2) gl_RX4_69 kw_128 ⟨Nat.le_of_ble_eq_true rfl, Nat.le_of_ble_eq_true rfl⟩ rfl (gc4 (Nat.le_of_ble_eq_true rfl)) rfl dX4_readPiece_34 hf (fun v3 σ H locs cells slots I hf => ?_)
    refine W.eq (g2 := F0 m 37 ls [.int v3]) rfl ?_
    refine lv_istore (lv' := [(6, .int v3), (0, va_rf x0), (1, va_rf x1), (3, .int x3), (4, .int x4), (5, .int x5)]) hx hb dX4_readPiece_37 hl (by decide) rfl (fun ls hl => ?_)
    refine lv_iload hx hb dX4_readPiece_39 (lv_at hl 0 rfl) ?_
    refine lv_iconst (v := (-1)) hx hb dX4_readPiece_41 kc_i_m1 ?_
    refine lv_icmp_ne (tgt := 47) hx hb dX4_readPiece_42 (by decide) (fun hq => ?_) (fun hq => ?_)
    · have hf := giff hq hf
      refine lv_bipush (v := 16) hx hb dX4_readPiece_47 kc_b_16 ?_
      refine lv_iload hx hb dX4_readPiece_49 (lv_at hl 4 rfl) ?_
      refine lv_imul hx hb dX4_readPiece_51 ?_
      refine lv_iload hx hb dX4_readPiece_52 (lv_at hl 0 rfl) ?_
      refine lv_iadd hx hb dX4_readPiece_54 ?_
      refine lv_istore (lv' := [(4, .int ((16 * x4) + v3)), (6, .int v3), (0, va_rf x0), (1, va_rf x1), (3, .int x3), (5, .int x5)]) hx hb dX4_readPiece_55 hl (by decide) rfl (fun ls hl => ?_)
      refine lv_iinc (v := x5 + 1) (lv' := [(5, .int (x5 + 1)), (4, .int ((16 * x4) + v3)), (6, .int v3), (0, va_rf x0), (1, va_rf x1), (3, .int x3)]) hx hb dX4_readPiece_57 hl (k := 5) rfl rfl (by decide) rfl (fun ls hl => ?_)
      refine lv_goto (tgt := 22) hx hb dX4_readPiece_60 (by decide) ?_
      exact hrec22 x0 x1 x3 ((16 * x4) + v3) (x5 + 1) _ _ _ _ _ _ hf I (lv_sub hl [3, 4, 5, 1, 0] rfl)
    · have hf := gift hq hf
      refine lv_iconst (v := 0) hx hb dX4_readPiece_45 kc_i_0 ?_
      exact gw_zret C I hr dX4_readPiece_46 hf
theorem w_X4_readPiece_L22 (C : gC G p s m args meth c cX4_readPiece 7 RX4) (hr : meth.sig.returnType = (some .boolean))  : ∀ (n : Nat) (x0 : Option Nat) (x1 : Option Nat) (x3 : Int32) (x4 : Int32) (x5 : Int32), gJ G p l e 1 21 mc ms s m args below meth c gri y 7 22 [(0, va_rf x0), (1, va_rf x1), (3, .int x3), (4, .int x4), (5, .int x5)] [] (f_X4_readPiece_L22  n x0 x1 x3 x4 x5) := by
  intro n
  induction n with
  | zero => intro x0 x1 x3 x4 x5 σ H locs cells slots ls hf; exact (gno_some hf).elim
  | succ n ih => intro x0 x1 x3 x4 x5; exact w_X4_readPiece_22 C hr  ih x0 x1 x3 x4 x5
set_option maxHeartbeats 4000000 in
set_option maxRecDepth 100000 in
theorem w_X4_readPiece_0 (C : gC G p s m args meth c cX4_readPiece 7 RX4) (hr : meth.sig.returnType = (some .boolean))  (a0 : Option Nat) (a1 : Option Nat) (a2 : Int32) (a3 : Int32) : gJ G p l e 1 21 mc ms s m args below meth c gri y 7 0 [(0, va_rf a0), (1, va_rf a1), (2, .int a2), (3, .int a3)] [] (f_X4_readPiece  a0 a1 a2 a3) := by
  have hx := C.1
  have hb := C.2.1
  intro σ H locs cells slots ls hf I hl
  unfold f_X4_readPiece at hf
  refine lv_iload_n hx hb dX4_readPiece_0 rfl (lv_at hl 3 rfl) ?_
  refine lv_iload_n hx hb dX4_readPiece_1 rfl (lv_at hl 2 rfl) ?_
  refine lv_isub hx hb dX4_readPiece_2 ?_
  refine lv_iconst (v := 1) hx hb dX4_readPiece_3 kc_i_1 ?_
  refine lv_icmp_lt (tgt := 14) hx hb dX4_readPiece_4 (by decide) (fun hq => ?_) (fun hq => ?_)
  · have hf := gift hq hf
    refine lv_iconst (v := 0) hx hb dX4_readPiece_14 kc_i_0 ?_
    exact gw_zret C I hr dX4_readPiece_15 hf
  · have hf := giff hq hf
    refine lv_iload_n hx hb dX4_readPiece_7 rfl (lv_at hl 3 rfl) ?_
    refine lv_iload_n hx hb dX4_readPiece_8 rfl (lv_at hl 2 rfl) ?_
    refine lv_isub hx hb dX4_readPiece_9 ?_
    refine lv_iconst (v := 4) hx hb dX4_readPiece_10 kc_i_4 ?_
    refine lv_icmp_le (tgt := 16) hx hb dX4_readPiece_11 (by decide) (fun hq => ?_) (fun hq => ?_)
    · have hf := gift hq hf
      refine lv_iconst (v := 0) hx hb dX4_readPiece_16 kc_i_0 ?_
      refine lv_istore (lv' := [(4, .int 0), (0, va_rf a0), (1, va_rf a1), (2, .int a2), (3, .int a3)]) hx hb dX4_readPiece_17 hl (by decide) rfl (fun ls hl => ?_)
      refine lv_iload_n hx hb dX4_readPiece_19 rfl (lv_at hl 3 rfl) ?_
      refine lv_istore (lv' := [(5, .int a2), (4, .int 0), (0, va_rf a0), (1, va_rf a1), (2, .int a2), (3, .int a3)]) hx hb dX4_readPiece_20 hl (by decide) rfl (fun ls hl => ?_)
      exact w_X4_readPiece_L22 C hr  _ a0 a1 a3 0 a2 _ _ _ _ _ _ hf I (lv_sub hl [2, 3, 5, 1, 0] rfl)
    · have hf := giff hq hf
      refine lv_iconst (v := 0) hx hb dX4_readPiece_14 kc_i_0 ?_
      exact gw_zret C I hr dX4_readPiece_15 hf
end S_X4_readPiece
theorem m_X4_readPiece (G : gX) (l : Launch) (a0 : Option Nat) (a1 : Option Nat) (a2 : Int32) (a3 : Int32) : gMet G l yX4_readPiece cX4_readPiece 7 (some .boolean) 1 21 [va_rf a0, va_rf a1, .int a2, .int a3] gri (f_X4_readPiece a0 a1 a2 a3) := by
  refine gMet_of (by decide) ?_
  intro σ y p e s m below meth c mc ms hf C hr hnm I
  obtain ⟨ls, e1, hl⟩ := gentry m [va_rf a0, va_rf a1, .int a2, .int a3] 7 [(0, va_rf a0), (1, va_rf a1), (2, .int a2), (3, .int a3)] (by simp [lg_sl, grc, gcat_i, gcat_l]) (by simp [lv_args, grc, gcat_i, gcat_l])
  rw [e1]
  exact w_X4_readPiece_0 C hr a0 a1 a2 a3 _ _ _ _ _ _ hf I hl
def f_X4_readPieces_136 (rec15 : Option Nat → Option Nat → Int32 → Int32 → Int32 → Int32 → gM Int32) (x0 : Option Nat) (x1 : Option Nat) (x3 : Int32) (x4 : Int32) (x6 : Int32) (x7 : Int32) (s0 : Int32) : gM Int32 := if s0 = 0 then (gz 0) else (rec15 x0 x1 x3 x4 (x7 + 1) x6)
def f_X4_readPieces_123 (rec15 : Option Nat → Option Nat → Int32 → Int32 → Int32 → Int32 → gM Int32) (x0 : Option Nat) (x1 : Option Nat) (x3 : Int32) (x4 : Int32) (x6 : Int32) (x7 : Int32) : gM Int32 := f_X4_readPieces_136 rec15 x0 x1 x3 x4 x6 x7 0
def f_X4_readPieces_90 (rec15 : Option Nat → Option Nat → Int32 → Int32 → Int32 → Int32 → gM Int32) (x0 : Option Nat) (x1 : Option Nat) (x3 : Int32) (x4 : Int32) (x5 : Int32) (x7 : Int32) (x8 : Int32) (s0 : Int32) : gM Int32 := if x8 = 0 then (gb (nn 3 x0) fun _ => gb (f_X4_readPiece x0 x1 x5 x7) fun v1 => f_X4_readPieces_136 rec15 x0 x1 x3 x4 s0 x7 v1) else (if x4 = 0 then (f_X4_readPieces_123 rec15 x0 x1 x3 x4 s0 x7) else (if s0 = 0 then (gb (nn 3 x0) fun _ => gb (f_X4_readPoints x0 x1 x5 x7) fun v2 => if v2 = 0 then (f_X4_readPieces_123 rec15 x0 x1 x3 x4 s0 x7) else (f_X4_readPieces_136 rec15 x0 x1 x3 x4 s0 x7 1)) else (f_X4_readPieces_123 rec15 x0 x1 x3 x4 s0 x7)))
def f_X4_readPieces_79 (rec15 : Option Nat → Option Nat → Int32 → Int32 → Int32 → Int32 → gM Int32) (x0 : Option Nat) (x1 : Option Nat) (x3 : Int32) (x4 : Int32) (x5 : Int32) (x7 : Int32) (x8 : Int32) : gM Int32 := if x3 ≤ x7 then (f_X4_readPieces_90 rec15 x0 x1 x3 x4 x5 x7 x8 0) else (f_X4_readPieces_90 rec15 x0 x1 x3 x4 x5 x7 x8 1)
def f_X4_readPieces_33 (rec15 : Option Nat → Option Nat → Int32 → Int32 → Int32 → Int32 → gM Int32) (rec33 : Option Nat → Option Nat → Int32 → Int32 → Int32 → Int32 → Int32 → gM Int32) (x0 : Option Nat) (x1 : Option Nat) (x3 : Int32) (x4 : Int32) (x5 : Int32) (x7 : Int32) (x8 : Int32) : gM Int32 := if x3 ≤ x7 then (f_X4_readPieces_79 rec15 x0 x1 x3 x4 x5 x7 x8) else (gb (nn 4 x1) fun _ => gb (f_X5_byteAt x1 x7) fun v1 => if v1 = 58 then (f_X4_readPieces_79 rec15 x0 x1 x3 x4 x5 x7 x8) else (if x8 = 0 then (gb (nn 4 x1) fun _ => gb (f_X5_byteAt x1 x7) fun v2 => if v2 = 46 then (rec33 x0 x1 x3 x4 x5 (x7 + 1) 1) else (rec33 x0 x1 x3 x4 x5 (x7 + 1) 0)) else (rec33 x0 x1 x3 x4 x5 (x7 + 1) 1)))
def f_X4_readPieces_L33 (rec15 : Option Nat → Option Nat → Int32 → Int32 → Int32 → Int32 → gM Int32) : Nat → Option Nat → Option Nat → Int32 → Int32 → Int32 → Int32 → Int32 → gM Int32
  | 0, _, _, _, _, _, _, _ => gno
  | n + 1, x0, x1, x3, x4, x5, x7, x8 => f_X4_readPieces_33 rec15 (f_X4_readPieces_L33 rec15 n) x0 x1 x3 x4 x5 x7 x8
def f_X4_readPieces_15 (rec15 : Option Nat → Option Nat → Int32 → Int32 → Int32 → Int32 → gM Int32) (x0 : Option Nat) (x1 : Option Nat) (x3 : Int32) (x4 : Int32) (x5 : Int32) (x6 : Int32) : gM Int32 := if x6 = 0 then (gz 1) else (if x3 < x5 then (gz 1) else (f_X4_readPieces_L33 rec15 gF x0 x1 x3 x4 x5 x5 0))
def f_X4_readPieces_L15  : Nat → Option Nat → Option Nat → Int32 → Int32 → Int32 → Int32 → gM Int32
  | 0, _, _, _, _, _, _ => gno
  | n + 1, x0, x1, x3, x4, x5, x6 => f_X4_readPieces_15  (f_X4_readPieces_L15  n) x0 x1 x3 x4 x5 x6
def f_X4_readPieces  (a0 : Option Nat) (a1 : Option Nat) (a2 : Int32) (a3 : Int32) (a4 : Int32) : gM Int32 := if a3 ≤ a2 then (f_X4_readPieces_L15  gF a0 a1 a3 a4 a2 0) else (f_X4_readPieces_L15  gF a0 a1 a3 a4 a2 1)
section S_X4_readPieces
variable {G : gX} {p : Program} {l : Launch} {e : Env} {s : State} {m : MethodId} {args : Array Value} {below : List Frame} {meth : Method} {c : Code} {mc ms : Nat} {y : Int32 × gS}
set_option maxHeartbeats 4000000 in
set_option maxRecDepth 100000 in
theorem w_X4_readPieces_136 (C : gC G p s m args meth c cX4_readPieces 10 RX4) (hr : meth.sig.returnType = (some .boolean)) {rec15 : Option Nat → Option Nat → Int32 → Int32 → Int32 → Int32 → gM Int32} (hrec15 : ∀ (x0 : Option Nat) (x1 : Option Nat) (x3 : Int32) (x4 : Int32) (x5 : Int32) (x6 : Int32), gJ G p l e 2 49 mc ms s m args below meth c gri y 10 15 [(0, va_rf x0), (1, va_rf x1), (3, .int x3), (4, .int x4), (5, .int x5), (6, .int x6)] [] (rec15 x0 x1 x3 x4 x5 x6)) (x0 : Option Nat) (x1 : Option Nat) (x3 : Int32) (x4 : Int32) (x6 : Int32) (x7 : Int32) (s0 : Int32) : gJ G p l e 2 49 mc ms s m args below meth c gri y 10 136 [(0, va_rf x0), (1, va_rf x1), (3, .int x3), (4, .int x4), (6, .int x6), (7, .int x7)] [.int s0] (f_X4_readPieces_136 rec15 x0 x1 x3 x4 x6 x7 s0) := by
  have hx := C.1
  have hb := C.2.1
  intro σ H locs cells slots ls hf I hl
  unfold f_X4_readPieces_136 at hf
  refine lv_istore (lv' := [(9, .int s0), (0, va_rf x0), (1, va_rf x1), (3, .int x3), (4, .int x4), (6, .int x6), (7, .int x7)]) hx hb dX4_readPieces_136 hl (by decide) rfl (fun ls hl => ?_)
  refine lv_iload hx hb dX4_readPieces_138 (lv_at hl 0 rfl) ?_
  refine lv_if_ne (tgt := 145) hx hb dX4_readPieces_140 (by decide) (fun hq => ?_) (fun hq => ?_)
  · have hf := giff hq hf
    refine lv_iload hx hb dX4_readPieces_145 (lv_at hl 6 rfl) ?_
    refine lv_iconst (v := 1) hx hb dX4_readPieces_147 kc_i_1 ?_
    refine lv_iadd hx hb dX4_readPieces_148 ?_
    refine lv_istore (lv' := [(5, .int (x7 + 1)), (9, .int s0), (0, va_rf x0), (1, va_rf x1), (3, .int x3), (4, .int x4), (6, .int x6), (7, .int x7)]) hx hb dX4_readPieces_149 hl (by decide) rfl (fun ls hl => ?_)
    refine lv_goto (tgt := 15) hx hb dX4_readPieces_151 (by decide) ?_
    exact hrec15 x0 x1 x3 x4 (x7 + 1) x6 _ _ _ _ _ _ hf I (lv_sub hl [2, 3, 4, 5, 0, 6] rfl)
  · have hf := gift hq hf
    refine lv_iconst (v := 0) hx hb dX4_readPieces_143 kc_i_0 ?_
    exact gw_zret C I hr dX4_readPieces_144 hf
set_option maxHeartbeats 4000000 in
set_option maxRecDepth 100000 in
theorem w_X4_readPieces_123 (C : gC G p s m args meth c cX4_readPieces 10 RX4) (hr : meth.sig.returnType = (some .boolean)) {rec15 : Option Nat → Option Nat → Int32 → Int32 → Int32 → Int32 → gM Int32} (hrec15 : ∀ (x0 : Option Nat) (x1 : Option Nat) (x3 : Int32) (x4 : Int32) (x5 : Int32) (x6 : Int32), gJ G p l e 2 49 mc ms s m args below meth c gri y 10 15 [(0, va_rf x0), (1, va_rf x1), (3, .int x3), (4, .int x4), (5, .int x5), (6, .int x6)] [] (rec15 x0 x1 x3 x4 x5 x6)) (x0 : Option Nat) (x1 : Option Nat) (x3 : Int32) (x4 : Int32) (x6 : Int32) (x7 : Int32) : gJ G p l e 2 49 mc ms s m args below meth c gri y 10 123 [(0, va_rf x0), (1, va_rf x1), (3, .int x3), (4, .int x4), (6, .int x6), (7, .int x7)] [] (f_X4_readPieces_123 rec15 x0 x1 x3 x4 x6 x7) := by
  have hx := C.1
  have hb := C.2.1
  intro σ H locs cells slots ls hf I hl
  unfold f_X4_readPieces_123 at hf
  refine lv_iconst (v := 0) hx hb dX4_readPieces_123 kc_i_0 ?_
  refine lv_goto (tgt := 136) hx hb dX4_readPieces_124 (by decide) ?_
  exact w_X4_readPieces_136 C hr hrec15 x0 x1 x3 x4 x6 x7 0 _ _ _ _ _ _ hf I (lv_sub hl [0, 1, 2, 3, 4, 5] rfl)
set_option maxHeartbeats 4000000 in
set_option maxRecDepth 100000 in
theorem w_X4_readPieces_90 (C : gC G p s m args meth c cX4_readPieces 10 RX4) (hr : meth.sig.returnType = (some .boolean)) {rec15 : Option Nat → Option Nat → Int32 → Int32 → Int32 → Int32 → gM Int32} (hrec15 : ∀ (x0 : Option Nat) (x1 : Option Nat) (x3 : Int32) (x4 : Int32) (x5 : Int32) (x6 : Int32), gJ G p l e 2 49 mc ms s m args below meth c gri y 10 15 [(0, va_rf x0), (1, va_rf x1), (3, .int x3), (4, .int x4), (5, .int x5), (6, .int x6)] [] (rec15 x0 x1 x3 x4 x5 x6)) (x0 : Option Nat) (x1 : Option Nat) (x3 : Int32) (x4 : Int32) (x5 : Int32) (x7 : Int32) (x8 : Int32) (s0 : Int32) : gJ G p l e 2 49 mc ms s m args below meth c gri y 10 90 [(0, va_rf x0), (1, va_rf x1), (3, .int x3), (4, .int x4), (5, .int x5), (7, .int x7), (8, .int x8)] [.int s0] (f_X4_readPieces_90 rec15 x0 x1 x3 x4 x5 x7 x8 s0) := by
  have hx := C.1
  have hb := C.2.1
  intro σ H locs cells slots ls hf I hl
  unfold f_X4_readPieces_90 at hf
  refine lv_istore (lv' := [(6, .int s0), (0, va_rf x0), (1, va_rf x1), (3, .int x3), (4, .int x4), (5, .int x5), (7, .int x7), (8, .int x8)]) hx hb dX4_readPieces_90 hl (by decide) rfl (fun ls hl => ?_)
  refine lv_iload hx hb dX4_readPieces_92 (lv_at hl 7 rfl) ?_
  refine lv_if_eq (tgt := 127) hx hb dX4_readPieces_94 (by decide) (fun hq => ?_) (fun hq => ?_)
  · have hf := gift hq hf
    refine gw_aload_n hx hb dX4_readPieces_127 rfl (lv_at hl 1 rfl) ?_
    refine gw_aload_n hx hb dX4_readPieces_128 rfl (lv_at hl 2 rfl) ?_
    refine lv_iload hx hb dX4_readPieces_129 (lv_at hl 5 rfl) ?_
    refine lv_iload hx hb dX4_readPieces_131 (lv_at hl 6 rfl) ?_
    refine gw_callV (rest := []) C I hl.1 gcls_3 (m_X4_readPiece G l x0 x1 x5 x7) gl_RX4_143 gn_X4_readPiece ⟨Nat.le_of_ble_eq_true rfl, Nat.le_of_ble_eq_true rfl⟩ rfl (gc4 (Nat.le_of_ble_eq_true rfl)) rfl dX4_readPieces_133 hf (fun v1 σ H locs cells slots I hf => ?_)
    refine W.eq (g2 := F0 m 136 ls [.int v1]) rfl ?_
    exact w_X4_readPieces_136 C hr hrec15 x0 x1 x3 x4 s0 x7 v1 _ _ _ _ _ _ hf I (lv_sub hl [1, 2, 3, 4, 0, 6] rfl)
  · have hf := giff hq hf
    refine lv_iload hx hb dX4_readPieces_97 (lv_at hl 4 rfl) ?_
    refine lv_if_eq (tgt := 123) hx hb dX4_readPieces_99 (by decide) (fun hq => ?_) (fun hq => ?_)
    · have hf := gift hq hf
      exact w_X4_readPieces_123 C hr hrec15 x0 x1 x3 x4 s0 x7 _ _ _ _ _ _ hf I (lv_sub hl [1, 2, 3, 4, 0, 6] rfl)
    · have hf := giff hq hf
      refine lv_iload hx hb dX4_readPieces_102 (lv_at hl 0 rfl) ?_
      refine lv_if_ne (tgt := 123) hx hb dX4_readPieces_104 (by decide) (fun hq => ?_) (fun hq => ?_)
      · have hf := giff hq hf
        exact w_X4_readPieces_123 C hr hrec15 x0 x1 x3 x4 s0 x7 _ _ _ _ _ _ hf I (lv_sub hl [1, 2, 3, 4, 0, 6] rfl)
      · have hf := gift hq hf
        refine gw_aload_n hx hb dX4_readPieces_107 rfl (lv_at hl 1 rfl) ?_
        refine gw_aload_n hx hb dX4_readPieces_108 rfl (lv_at hl 2 rfl) ?_
        refine lv_iload hx hb dX4_readPieces_109 (lv_at hl 5 rfl) ?_
        refine lv_iload hx hb dX4_readPieces_111 (lv_at hl 6 rfl) ?_
        refine gw_callV (rest := []) C I hl.1 gcls_3 (m_X4_readPoints G l x0 x1 x5 x7) gl_RX4_139 gn_X4_readPoints ⟨Nat.le_of_ble_eq_true rfl, Nat.le_of_ble_eq_true rfl⟩ rfl (gc4 (Nat.le_of_ble_eq_true rfl)) rfl dX4_readPieces_113 hf (fun v2 σ H locs cells slots I hf => ?_)
        refine W.eq (g2 := F0 m 116 ls [.int v2]) rfl ?_
        refine lv_if_eq (tgt := 123) hx hb dX4_readPieces_116 (by decide) (fun hq => ?_) (fun hq => ?_)
        · have hf := gift hq hf
          exact w_X4_readPieces_123 C hr hrec15 x0 x1 x3 x4 s0 x7 _ _ _ _ _ _ hf I (lv_sub hl [1, 2, 3, 4, 0, 6] rfl)
        · have hf := giff hq hf
          refine lv_iconst (v := 1) hx hb dX4_readPieces_119 kc_i_1 ?_
          refine lv_goto (tgt := 136) hx hb dX4_readPieces_120 (by decide) ?_
          exact w_X4_readPieces_136 C hr hrec15 x0 x1 x3 x4 s0 x7 1 _ _ _ _ _ _ hf I (lv_sub hl [1, 2, 3, 4, 0, 6] rfl)
set_option maxHeartbeats 4000000 in
set_option maxRecDepth 100000 in
theorem w_X4_readPieces_79 (C : gC G p s m args meth c cX4_readPieces 10 RX4) (hr : meth.sig.returnType = (some .boolean)) {rec15 : Option Nat → Option Nat → Int32 → Int32 → Int32 → Int32 → gM Int32} (hrec15 : ∀ (x0 : Option Nat) (x1 : Option Nat) (x3 : Int32) (x4 : Int32) (x5 : Int32) (x6 : Int32), gJ G p l e 2 49 mc ms s m args below meth c gri y 10 15 [(0, va_rf x0), (1, va_rf x1), (3, .int x3), (4, .int x4), (5, .int x5), (6, .int x6)] [] (rec15 x0 x1 x3 x4 x5 x6)) (x0 : Option Nat) (x1 : Option Nat) (x3 : Int32) (x4 : Int32) (x5 : Int32) (x7 : Int32) (x8 : Int32) : gJ G p l e 2 49 mc ms s m args below meth c gri y 10 79 [(0, va_rf x0), (1, va_rf x1), (3, .int x3), (4, .int x4), (5, .int x5), (7, .int x7), (8, .int x8)] [] (f_X4_readPieces_79 rec15 x0 x1 x3 x4 x5 x7 x8) := by
  have hx := C.1
  have hb := C.2.1
  intro σ H locs cells slots ls hf I hl
  unfold f_X4_readPieces_79 at hf
  refine lv_iload hx hb dX4_readPieces_79 (lv_at hl 5 rfl) ?_
  refine lv_iload_n hx hb dX4_readPieces_81 rfl (lv_at hl 2 rfl) ?_
  refine lv_icmp_ge (tgt := 89) hx hb dX4_readPieces_82 (by decide) (fun hq => ?_) (fun hq => ?_)
  · have hf := gift hq hf
    refine lv_iconst (v := 0) hx hb dX4_readPieces_89 kc_i_0 ?_
    exact w_X4_readPieces_90 C hr hrec15 x0 x1 x3 x4 x5 x7 x8 0 _ _ _ _ _ _ hf I (lv_sub hl [0, 1, 2, 3, 4, 5, 6] rfl)
  · have hf := giff hq hf
    refine lv_iconst (v := 1) hx hb dX4_readPieces_85 kc_i_1 ?_
    refine lv_goto (tgt := 90) hx hb dX4_readPieces_86 (by decide) ?_
    exact w_X4_readPieces_90 C hr hrec15 x0 x1 x3 x4 x5 x7 x8 1 _ _ _ _ _ _ hf I (lv_sub hl [0, 1, 2, 3, 4, 5, 6] rfl)
set_option maxHeartbeats 4000000 in
set_option maxRecDepth 100000 in
theorem w_X4_readPieces_33 (C : gC G p s m args meth c cX4_readPieces 10 RX4) (hr : meth.sig.returnType = (some .boolean)) {rec15 : Option Nat → Option Nat → Int32 → Int32 → Int32 → Int32 → gM Int32} (hrec15 : ∀ (x0 : Option Nat) (x1 : Option Nat) (x3 : Int32) (x4 : Int32) (x5 : Int32) (x6 : Int32), gJ G p l e 2 49 mc ms s m args below meth c gri y 10 15 [(0, va_rf x0), (1, va_rf x1), (3, .int x3), (4, .int x4), (5, .int x5), (6, .int x6)] [] (rec15 x0 x1 x3 x4 x5 x6)) {rec33 : Option Nat → Option Nat → Int32 → Int32 → Int32 → Int32 → Int32 → gM Int32} (hrec33 : ∀ (x0 : Option Nat) (x1 : Option Nat) (x3 : Int32) (x4 : Int32) (x5 : Int32) (x7 : Int32) (x8 : Int32), gJ G p l e 2 49 mc ms s m args below meth c gri y 10 33 [(0, va_rf x0), (1, va_rf x1), (3, .int x3), (4, .int x4), (5, .int x5), (7, .int x7), (8, .int x8)] [] (rec33 x0 x1 x3 x4 x5 x7 x8)) (x0 : Option Nat) (x1 : Option Nat) (x3 : Int32) (x4 : Int32) (x5 : Int32) (x7 : Int32) (x8 : Int32) : gJ G p l e 2 49 mc ms s m args below meth c gri y 10 33 [(0, va_rf x0), (1, va_rf x1), (3, .int x3), (4, .int x4), (5, .int x5), (7, .int x7), (8, .int x8)] [] (f_X4_readPieces_33 rec15 rec33 x0 x1 x3 x4 x5 x7 x8) := by
  have hx := C.1
  have hb := C.2.1
  intro σ H locs cells slots ls hf I hl
  unfold f_X4_readPieces_33 at hf
  refine lv_iload hx hb dX4_readPieces_33 (lv_at hl 5 rfl) ?_
  refine lv_iload_n hx hb dX4_readPieces_35 rfl (lv_at hl 2 rfl) ?_
  refine lv_icmp_ge (tgt := 79) hx hb dX4_readPieces_36 (by decide) (fun hq => ?_) (fun hq => ?_)
  · have hf := gift hq hf
    exact w_X4_readPieces_79 C hr hrec15 x0 x1 x3 x4 x5 x7 x8 _ _ _ _ _ _ hf I (lv_sub hl [0, 1, 2, 3, 4, 5, 6] rfl)
  · have hf := giff hq hf
    refine gw_aload_n hx hb dX4_readPieces_39 rfl (lv_at hl 1 rfl) ?_
    refine lv_iload hx hb dX4_readPieces_40 (lv_at hl 5 rfl) ?_
    refine gw_callV (rest := []) C I hl.1 gcls_4 (m_X5_byteAt G l x1 x7) gl_RX4_26 gn_X5_byteAt ⟨Nat.le_of_ble_eq_true rfl, Nat.le_of_ble_eq_true rfl⟩ rfl (gc4 (Nat.le_of_ble_eq_true rfl)) rfl dX4_readPieces_42 hf (fun v1 σ H locs cells slots I hf => ?_)
    refine W.eq (g2 := F0 m 45 ls [.int v1]) rfl ?_
    refine lv_bipush (v := 58) hx hb dX4_readPieces_45 kc_b_58 ?_
    refine lv_icmp_eq (tgt := 79) hx hb dX4_readPieces_47 (by decide) (fun hq => ?_) (fun hq => ?_)
    · have hf := gift hq hf
      exact w_X4_readPieces_79 C hr hrec15 x0 x1 x3 x4 x5 x7 x8 _ _ _ _ _ _ hf I (lv_sub hl [0, 1, 2, 3, 4, 5, 6] rfl)
    · have hf := giff hq hf
      refine lv_iload hx hb dX4_readPieces_50 (lv_at hl 6 rfl) ?_
      refine lv_if_ne (tgt := 66) hx hb dX4_readPieces_52 (by decide) (fun hq => ?_) (fun hq => ?_)
      · have hf := giff hq hf
        refine lv_iconst (v := 1) hx hb dX4_readPieces_66 kc_i_1 ?_
        refine lv_goto (tgt := 71) hx hb dX4_readPieces_67 (by decide) ?_
        refine lv_istore (lv' := [(8, .int 1), (0, va_rf x0), (1, va_rf x1), (3, .int x3), (4, .int x4), (5, .int x5), (7, .int x7)]) hx hb dX4_readPieces_71 hl (by decide) rfl (fun ls hl => ?_)
        refine lv_iinc (v := x7 + 1) (lv' := [(7, .int (x7 + 1)), (8, .int 1), (0, va_rf x0), (1, va_rf x1), (3, .int x3), (4, .int x4), (5, .int x5)]) hx hb dX4_readPieces_73 hl (k := 6) rfl rfl (by decide) rfl (fun ls hl => ?_)
        refine lv_goto (tgt := 33) hx hb dX4_readPieces_76 (by decide) ?_
        exact hrec33 x0 x1 x3 x4 x5 (x7 + 1) 1 _ _ _ _ _ _ hf I (lv_sub hl [2, 3, 4, 5, 6, 0, 1] rfl)
      · have hf := gift hq hf
        refine gw_aload_n hx hb dX4_readPieces_55 rfl (lv_at hl 1 rfl) ?_
        refine lv_iload hx hb dX4_readPieces_56 (lv_at hl 5 rfl) ?_
        refine gw_callV (rest := []) C I hl.1 gcls_4 (m_X5_byteAt G l x1 x7) gl_RX4_26 gn_X5_byteAt ⟨Nat.le_of_ble_eq_true rfl, Nat.le_of_ble_eq_true rfl⟩ rfl (gc4 (Nat.le_of_ble_eq_true rfl)) rfl dX4_readPieces_58 hf (fun v2 σ H locs cells slots I hf => ?_)
        refine W.eq (g2 := F0 m 61 ls [.int v2]) rfl ?_
        refine lv_bipush (v := 46) hx hb dX4_readPieces_61 kc_b_46 ?_
        refine lv_icmp_ne (tgt := 70) hx hb dX4_readPieces_63 (by decide) (fun hq => ?_) (fun hq => ?_)
        · have hf := giff hq hf
          refine lv_iconst (v := 0) hx hb dX4_readPieces_70 kc_i_0 ?_
          refine lv_istore (lv' := [(8, .int 0), (0, va_rf x0), (1, va_rf x1), (3, .int x3), (4, .int x4), (5, .int x5), (7, .int x7)]) hx hb dX4_readPieces_71 hl (by decide) rfl (fun ls hl => ?_)
          refine lv_iinc (v := x7 + 1) (lv' := [(7, .int (x7 + 1)), (8, .int 0), (0, va_rf x0), (1, va_rf x1), (3, .int x3), (4, .int x4), (5, .int x5)]) hx hb dX4_readPieces_73 hl (k := 6) rfl rfl (by decide) rfl (fun ls hl => ?_)
          refine lv_goto (tgt := 33) hx hb dX4_readPieces_76 (by decide) ?_
          exact hrec33 x0 x1 x3 x4 x5 (x7 + 1) 0 _ _ _ _ _ _ hf I (lv_sub hl [2, 3, 4, 5, 6, 0, 1] rfl)
        · have hf := gift hq hf
          refine lv_iconst (v := 1) hx hb dX4_readPieces_66 kc_i_1 ?_
          refine lv_goto (tgt := 71) hx hb dX4_readPieces_67 (by decide) ?_
          refine lv_istore (lv' := [(8, .int 1), (0, va_rf x0), (1, va_rf x1), (3, .int x3), (4, .int x4), (5, .int x5), (7, .int x7)]) hx hb dX4_readPieces_71 hl (by decide) rfl (fun ls hl => ?_)
          refine lv_iinc (v := x7 + 1) (lv' := [(7, .int (x7 + 1)), (8, .int 1), (0, va_rf x0), (1, va_rf x1), (3, .int x3), (4, .int x4), (5, .int x5)]) hx hb dX4_readPieces_73 hl (k := 6) rfl rfl (by decide) rfl (fun ls hl => ?_)
          refine lv_goto (tgt := 33) hx hb dX4_readPieces_76 (by decide) ?_
          exact hrec33 x0 x1 x3 x4 x5 (x7 + 1) 1 _ _ _ _ _ _ hf I (lv_sub hl [2, 3, 4, 5, 6, 0, 1] rfl)
theorem w_X4_readPieces_L33 (C : gC G p s m args meth c cX4_readPieces 10 RX4) (hr : meth.sig.returnType = (some .boolean)) {rec15 : Option Nat → Option Nat → Int32 → Int32 → Int32 → Int32 → gM Int32} (hrec15 : ∀ (x0 : Option Nat) (x1 : Option Nat) (x3 : Int32) (x4 : Int32) (x5 : Int32) (x6 : Int32), gJ G p l e 2 49 mc ms s m args below meth c gri y 10 15 [(0, va_rf x0), (1, va_rf x1), (3, .int x3), (4, .int x4), (5, .int x5), (6, .int x6)] [] (rec15 x0 x1 x3 x4 x5 x6)) : ∀ (n : Nat) (x0 : Option Nat) (x1 : Option Nat) (x3 : Int32) (x4 : Int32) (x5 : Int32) (x7 : Int32) (x8 : Int32), gJ G p l e 2 49 mc ms s m args below meth c gri y 10 33 [(0, va_rf x0), (1, va_rf x1), (3, .int x3), (4, .int x4), (5, .int x5), (7, .int x7), (8, .int x8)] [] (f_X4_readPieces_L33 rec15 n x0 x1 x3 x4 x5 x7 x8) := by
  intro n
  induction n with
  | zero => intro x0 x1 x3 x4 x5 x7 x8 σ H locs cells slots ls hf; exact (gno_some hf).elim
  | succ n ih => intro x0 x1 x3 x4 x5 x7 x8; exact w_X4_readPieces_33 C hr hrec15 ih x0 x1 x3 x4 x5 x7 x8
set_option maxHeartbeats 4000000 in
set_option maxRecDepth 100000 in
theorem w_X4_readPieces_15 (C : gC G p s m args meth c cX4_readPieces 10 RX4) (hr : meth.sig.returnType = (some .boolean)) {rec15 : Option Nat → Option Nat → Int32 → Int32 → Int32 → Int32 → gM Int32} (hrec15 : ∀ (x0 : Option Nat) (x1 : Option Nat) (x3 : Int32) (x4 : Int32) (x5 : Int32) (x6 : Int32), gJ G p l e 2 49 mc ms s m args below meth c gri y 10 15 [(0, va_rf x0), (1, va_rf x1), (3, .int x3), (4, .int x4), (5, .int x5), (6, .int x6)] [] (rec15 x0 x1 x3 x4 x5 x6)) (x0 : Option Nat) (x1 : Option Nat) (x3 : Int32) (x4 : Int32) (x5 : Int32) (x6 : Int32) : gJ G p l e 2 49 mc ms s m args below meth c gri y 10 15 [(0, va_rf x0), (1, va_rf x1), (3, .int x3), (4, .int x4), (5, .int x5), (6, .int x6)] [] (f_X4_readPieces_15 rec15 x0 x1 x3 x4 x5 x6) := by
  have hx := C.1
  have hb := C.2.1
  intro σ H locs cells slots ls hf I hl
  unfold f_X4_readPieces_15 at hf
  refine lv_iload hx hb dX4_readPieces_15 (lv_at hl 5 rfl) ?_
  refine lv_if_eq (tgt := 154) hx hb dX4_readPieces_17 (by decide) (fun hq => ?_) (fun hq => ?_)
  · have hf := gift hq hf
    refine lv_iconst (v := 1) hx hb dX4_readPieces_154 kc_i_1 ?_
    exact gw_zret C I hr dX4_readPieces_155 hf
  · have hf := giff hq hf
    refine lv_iload hx hb dX4_readPieces_20 (lv_at hl 4 rfl) ?_
    refine lv_iload_n hx hb dX4_readPieces_22 rfl (lv_at hl 2 rfl) ?_
    refine lv_icmp_gt (tgt := 154) hx hb dX4_readPieces_23 (by decide) (fun hq => ?_) (fun hq => ?_)
    · have hf := gift hq hf
      refine lv_iconst (v := 1) hx hb dX4_readPieces_154 kc_i_1 ?_
      exact gw_zret C I hr dX4_readPieces_155 hf
    · have hf := giff hq hf
      refine lv_iload hx hb dX4_readPieces_26 (lv_at hl 4 rfl) ?_
      refine lv_istore (lv' := [(7, .int x5), (0, va_rf x0), (1, va_rf x1), (3, .int x3), (4, .int x4), (5, .int x5), (6, .int x6)]) hx hb dX4_readPieces_28 hl (by decide) rfl (fun ls hl => ?_)
      refine lv_iconst (v := 0) hx hb dX4_readPieces_30 kc_i_0 ?_
      refine lv_istore (lv' := [(8, .int 0), (7, .int x5), (0, va_rf x0), (1, va_rf x1), (3, .int x3), (4, .int x4), (5, .int x5), (6, .int x6)]) hx hb dX4_readPieces_31 hl (by decide) rfl (fun ls hl => ?_)
      exact w_X4_readPieces_L33 C hr hrec15 _ x0 x1 x3 x4 x5 x5 0 _ _ _ _ _ _ hf I (lv_sub hl [2, 3, 4, 5, 6, 1, 0] rfl)
theorem w_X4_readPieces_L15 (C : gC G p s m args meth c cX4_readPieces 10 RX4) (hr : meth.sig.returnType = (some .boolean))  : ∀ (n : Nat) (x0 : Option Nat) (x1 : Option Nat) (x3 : Int32) (x4 : Int32) (x5 : Int32) (x6 : Int32), gJ G p l e 2 49 mc ms s m args below meth c gri y 10 15 [(0, va_rf x0), (1, va_rf x1), (3, .int x3), (4, .int x4), (5, .int x5), (6, .int x6)] [] (f_X4_readPieces_L15  n x0 x1 x3 x4 x5 x6) := by
  intro n
  induction n with
  | zero => intro x0 x1 x3 x4 x5 x6 σ H locs cells slots ls hf; exact (gno_some hf).elim
  | succ n ih => intro x0 x1 x3 x4 x5 x6; exact w_X4_readPieces_15 C hr  ih x0 x1 x3 x4 x5 x6
set_option maxHeartbeats 4000000 in
set_option maxRecDepth 100000 in
theorem w_X4_readPieces_0 (C : gC G p s m args meth c cX4_readPieces 10 RX4) (hr : meth.sig.returnType = (some .boolean))  (a0 : Option Nat) (a1 : Option Nat) (a2 : Int32) (a3 : Int32) (a4 : Int32) : gJ G p l e 2 49 mc ms s m args below meth c gri y 10 0 [(0, va_rf a0), (1, va_rf a1), (2, .int a2), (3, .int a3), (4, .int a4)] [] (f_X4_readPieces  a0 a1 a2 a3 a4) := by
  have hx := C.1
  have hb := C.2.1
  intro σ H locs cells slots ls hf I hl
  unfold f_X4_readPieces at hf
  refine lv_iload_n hx hb dX4_readPieces_0 rfl (lv_at hl 2 rfl) ?_
  refine lv_istore (lv' := [(5, .int a2), (0, va_rf a0), (1, va_rf a1), (2, .int a2), (3, .int a3), (4, .int a4)]) hx hb dX4_readPieces_1 hl (by decide) rfl (fun ls hl => ?_)
  refine lv_iload_n hx hb dX4_readPieces_3 rfl (lv_at hl 3 rfl) ?_
  refine lv_iload_n hx hb dX4_readPieces_4 rfl (lv_at hl 4 rfl) ?_
  refine lv_icmp_ge (tgt := 12) hx hb dX4_readPieces_5 (by decide) (fun hq => ?_) (fun hq => ?_)
  · have hf := gift hq hf
    refine lv_iconst (v := 0) hx hb dX4_readPieces_12 kc_i_0 ?_
    refine lv_istore (lv' := [(6, .int 0), (5, .int a2), (0, va_rf a0), (1, va_rf a1), (2, .int a2), (3, .int a3), (4, .int a4)]) hx hb dX4_readPieces_13 hl (by decide) rfl (fun ls hl => ?_)
    exact w_X4_readPieces_L15 C hr  _ a0 a1 a3 a4 a2 0 _ _ _ _ _ _ hf I (lv_sub hl [2, 3, 5, 6, 1, 0] rfl)
  · have hf := giff hq hf
    refine lv_iconst (v := 1) hx hb dX4_readPieces_8 kc_i_1 ?_
    refine lv_goto (tgt := 13) hx hb dX4_readPieces_9 (by decide) ?_
    refine lv_istore (lv' := [(6, .int 1), (5, .int a2), (0, va_rf a0), (1, va_rf a1), (2, .int a2), (3, .int a3), (4, .int a4)]) hx hb dX4_readPieces_13 hl (by decide) rfl (fun ls hl => ?_)
    exact w_X4_readPieces_L15 C hr  _ a0 a1 a3 a4 a2 1 _ _ _ _ _ _ hf I (lv_sub hl [2, 3, 5, 6, 1, 0] rfl)
end S_X4_readPieces
theorem m_X4_readPieces (G : gX) (l : Launch) (a0 : Option Nat) (a1 : Option Nat) (a2 : Int32) (a3 : Int32) (a4 : Int32) : gMet G l yX4_readPieces cX4_readPieces 10 (some .boolean) 2 49 [va_rf a0, va_rf a1, .int a2, .int a3, .int a4] gri (f_X4_readPieces a0 a1 a2 a3 a4) := by
  refine gMet_of (by decide) ?_
  intro σ y p e s m below meth c mc ms hf C hr hnm I
  obtain ⟨ls, e1, hl⟩ := gentry m [va_rf a0, va_rf a1, .int a2, .int a3, .int a4] 10 [(0, va_rf a0), (1, va_rf a1), (2, .int a2), (3, .int a3), (4, .int a4)] (by simp [lg_sl, grc, gcat_i, gcat_l]) (by simp [lv_args, grc, gcat_i, gcat_l])
  rw [e1]
  exact w_X4_readPieces_0 C hr a0 a1 a2 a3 a4 _ _ _ _ _ _ hf I hl
def f_X4_spread_59 (rec10 : Option Nat → Int32 → Int32 → Int32 → gM Unit) (x0 : Option Nat) (x1 : Int32) (x2 : Int32) (x3 : Int32) (s0 : Option Nat) (s1 : Int32) (s2 : Int32) : gM Unit := gb (sI 1 s0 s1 s2) fun _ => rec10 x0 x1 x2 (x3 + (-1))
def f_X4_spread_58 (rec10 : Option Nat → Int32 → Int32 → Int32 → gM Unit) (x0 : Option Nat) (x1 : Int32) (x2 : Int32) (x3 : Int32) (s0 : Option Nat) (s1 : Int32) : gM Unit := f_X4_spread_59 rec10 x0 x1 x2 x3 s0 s1 0
def f_X4_spread_10 (rec10 : Option Nat → Int32 → Int32 → Int32 → gM Unit) (x0 : Option Nat) (x1 : Int32) (x2 : Int32) (x3 : Int32) : gM Unit := if x3 < x1 then (gp ()) else (if x3 < 0 then (gp ()) else (gb (rI 3 2 x0) fun v1 => gb (rR 3 1 x0) fun v2 => if x3 < (8 - x2) then (f_X4_spread_58 rec10 x0 x1 x2 x3 v2 x3) else (if (x3 - (8 - v1)) < 0 then (f_X4_spread_58 rec10 x0 x1 x2 x3 v2 x3) else (gb (rR 3 1 x0) fun v3 => gb (aI 1 v3 (x3 - (8 - v1))) fun v4 => f_X4_spread_59 rec10 x0 x1 x2 x3 v2 x3 v4))))
def f_X4_spread_L10  : Nat → Option Nat → Int32 → Int32 → Int32 → gM Unit
  | 0, _, _, _, _ => gno
  | n + 1, x0, x1, x2, x3 => f_X4_spread_10  (f_X4_spread_L10  n) x0 x1 x2 x3
def f_X4_spread  (a0 : Option Nat) (a1 : Int32) : gM Unit := gb (rI 3 2 a0) fun v1 => f_X4_spread_L10  gF a0 a1 (v1 - a1) 7
section S_X4_spread
variable {G : gX} {p : Program} {l : Launch} {e : Env} {s : State} {m : MethodId} {args : Array Value} {below : List Frame} {meth : Method} {c : Code} {mc ms : Nat} {y : Unit × gS}
set_option maxHeartbeats 4000000 in
set_option maxRecDepth 100000 in
theorem w_X4_spread_59 (C : gC G p s m args meth c cX4_spread 5 RX4) (hr : meth.sig.returnType = none) {rec10 : Option Nat → Int32 → Int32 → Int32 → gM Unit} (hrec10 : ∀ (x0 : Option Nat) (x1 : Int32) (x2 : Int32) (x3 : Int32), gJ G p l e 0 0 mc ms s m args below meth c grv y 5 10 [(0, va_rf x0), (1, .int x1), (2, .int x2), (3, .int x3)] [] (rec10 x0 x1 x2 x3)) (x0 : Option Nat) (x1 : Int32) (x2 : Int32) (x3 : Int32) (s0 : Option Nat) (s1 : Int32) (s2 : Int32) : gJ G p l e 0 0 mc ms s m args below meth c grv y 5 59 [(0, va_rf x0), (1, .int x1), (2, .int x2), (3, .int x3)] [.int s2, .int s1, va_rf s0] (f_X4_spread_59 rec10 x0 x1 x2 x3 s0 s1 s2) := by
  have hx := C.1
  have hb := C.2.1
  intro σ H locs cells slots ls hf I hl
  unfold f_X4_spread_59 at hf
  refine gw_iast C I dX4_spread_59 hf (fun σ H locs I hf => ?_)
  refine lv_iinc (v := x3 + (-1)) (lv' := [(3, .int (x3 + (-1))), (0, va_rf x0), (1, .int x1), (2, .int x2)]) hx hb dX4_spread_60 hl (k := 3) rfl rfl (by decide) rfl (fun ls hl => ?_)
  refine lv_goto (tgt := 10) hx hb dX4_spread_63 (by decide) ?_
  exact hrec10 x0 x1 x2 (x3 + (-1)) _ _ _ _ _ _ hf I (lv_sub hl [1, 2, 3, 0] rfl)
set_option maxHeartbeats 4000000 in
set_option maxRecDepth 100000 in
theorem w_X4_spread_58 (C : gC G p s m args meth c cX4_spread 5 RX4) (hr : meth.sig.returnType = none) {rec10 : Option Nat → Int32 → Int32 → Int32 → gM Unit} (hrec10 : ∀ (x0 : Option Nat) (x1 : Int32) (x2 : Int32) (x3 : Int32), gJ G p l e 0 0 mc ms s m args below meth c grv y 5 10 [(0, va_rf x0), (1, .int x1), (2, .int x2), (3, .int x3)] [] (rec10 x0 x1 x2 x3)) (x0 : Option Nat) (x1 : Int32) (x2 : Int32) (x3 : Int32) (s0 : Option Nat) (s1 : Int32) : gJ G p l e 0 0 mc ms s m args below meth c grv y 5 58 [(0, va_rf x0), (1, .int x1), (2, .int x2), (3, .int x3)] [.int s1, va_rf s0] (f_X4_spread_58 rec10 x0 x1 x2 x3 s0 s1) := by
  have hx := C.1
  have hb := C.2.1
  intro σ H locs cells slots ls hf I hl
  unfold f_X4_spread_58 at hf
  refine lv_iconst (v := 0) hx hb dX4_spread_58 kc_i_0 ?_
  exact w_X4_spread_59 C hr hrec10 x0 x1 x2 x3 s0 s1 0 _ _ _ _ _ _ hf I (lv_sub hl [0, 1, 2, 3] rfl)
set_option maxHeartbeats 4000000 in
set_option maxRecDepth 100000 in
theorem w_X4_spread_10 (C : gC G p s m args meth c cX4_spread 5 RX4) (hr : meth.sig.returnType = none) {rec10 : Option Nat → Int32 → Int32 → Int32 → gM Unit} (hrec10 : ∀ (x0 : Option Nat) (x1 : Int32) (x2 : Int32) (x3 : Int32), gJ G p l e 0 0 mc ms s m args below meth c grv y 5 10 [(0, va_rf x0), (1, .int x1), (2, .int x2), (3, .int x3)] [] (rec10 x0 x1 x2 x3)) (x0 : Option Nat) (x1 : Int32) (x2 : Int32) (x3 : Int32) : gJ G p l e 0 0 mc ms s m args below meth c grv y 5 10 [(0, va_rf x0), (1, .int x1), (2, .int x2), (3, .int x3)] [] (f_X4_spread_10 rec10 x0 x1 x2 x3) := by
  have hx := C.1
  have hb := C.2.1
  intro σ H locs cells slots ls hf I hl
  unfold f_X4_spread_10 at hf
  refine lv_iload_n hx hb dX4_spread_10 rfl (lv_at hl 3 rfl) ?_
  refine lv_iload_n hx hb dX4_spread_11 rfl (lv_at hl 1 rfl) ?_
  refine lv_icmp_lt (tgt := 66) hx hb dX4_spread_12 (by decide) (fun hq => ?_) (fun hq => ?_)
  · have hf := gift hq hf
    exact gw_vret C I hr dX4_spread_66 hf
  · have hf := giff hq hf
    refine lv_iload_n hx hb dX4_spread_15 rfl (lv_at hl 3 rfl) ?_
    refine lv_if_lt (tgt := 66) hx hb dX4_spread_16 (by decide) (fun hq => ?_) (fun hq => ?_)
    · have hf := gift hq hf
      exact gw_vret C I hr dX4_spread_66 hf
    · have hf := giff hq hf
      refine lv_iload_n hx hb dX4_spread_19 rfl (lv_at hl 3 rfl) ?_
      refine lv_bipush (v := 8) hx hb dX4_spread_20 kc_b_8 ?_
      refine gw_aload_n hx hb dX4_spread_22 rfl (lv_at hl 0 rfl) ?_
      refine gw_geti (k := 2) C I gcls_3 (by decide) rfl kw_24 dX4_spread_23 hf (fun v1 hf => ?_)
      refine lv_isub hx hb dX4_spread_26 ?_
      refine lv_isub hx hb dX4_spread_27 ?_
      refine lv_istore (lv' := [(4, .int (x3 - (8 - v1))), (0, va_rf x0), (1, .int x1), (2, .int x2), (3, .int x3)]) hx hb dX4_spread_28 hl (by decide) rfl (fun ls hl => ?_)
      refine gw_aload_n hx hb dX4_spread_30 rfl (lv_at hl 1 rfl) ?_
      refine gw_getr (k := 1) C I gcls_3 (by decide) rfl kw_23 dX4_spread_31 hf (fun v2 hf => ?_)
      refine lv_iload_n hx hb dX4_spread_34 rfl (lv_at hl 4 rfl) ?_
      refine lv_iload_n hx hb dX4_spread_35 rfl (lv_at hl 4 rfl) ?_
      refine lv_bipush (v := 8) hx hb dX4_spread_36 kc_b_8 ?_
      refine lv_iload_n hx hb dX4_spread_38 rfl (lv_at hl 3 rfl) ?_
      refine lv_isub hx hb dX4_spread_39 ?_
      refine lv_icmp_lt (tgt := 58) hx hb dX4_spread_40 (by decide) (fun hq => ?_) (fun hq => ?_)
      · have hf := gift hq hf
        exact w_X4_spread_58 C hr hrec10 x0 x1 x2 x3 v2 x3 _ _ _ _ _ _ hf I (lv_sub hl [1, 2, 3, 4] rfl)
      · have hf := giff hq hf
        refine lv_iload hx hb dX4_spread_43 (lv_at hl 0 rfl) ?_
        refine lv_if_lt (tgt := 58) hx hb dX4_spread_45 (by decide) (fun hq => ?_) (fun hq => ?_)
        · have hf := gift hq hf
          exact w_X4_spread_58 C hr hrec10 x0 x1 x2 x3 v2 x3 _ _ _ _ _ _ hf I (lv_sub hl [1, 2, 3, 4] rfl)
        · have hf := giff hq hf
          refine gw_aload_n hx hb dX4_spread_48 rfl (lv_at hl 1 rfl) ?_
          refine gw_getr (k := 1) C I gcls_3 (by decide) rfl kw_23 dX4_spread_49 hf (fun v3 hf => ?_)
          refine lv_iload hx hb dX4_spread_52 (lv_at hl 0 rfl) ?_
          refine gw_iald C I dX4_spread_54 hf (fun v4 hf => ?_)
          refine lv_goto (tgt := 59) hx hb dX4_spread_55 (by decide) ?_
          exact w_X4_spread_59 C hr hrec10 x0 x1 x2 x3 v2 x3 v4 _ _ _ _ _ _ hf I (lv_sub hl [1, 2, 3, 4] rfl)
theorem w_X4_spread_L10 (C : gC G p s m args meth c cX4_spread 5 RX4) (hr : meth.sig.returnType = none)  : ∀ (n : Nat) (x0 : Option Nat) (x1 : Int32) (x2 : Int32) (x3 : Int32), gJ G p l e 0 0 mc ms s m args below meth c grv y 5 10 [(0, va_rf x0), (1, .int x1), (2, .int x2), (3, .int x3)] [] (f_X4_spread_L10  n x0 x1 x2 x3) := by
  intro n
  induction n with
  | zero => intro x0 x1 x2 x3 σ H locs cells slots ls hf; exact (gno_some hf).elim
  | succ n ih => intro x0 x1 x2 x3; exact w_X4_spread_10 C hr  ih x0 x1 x2 x3
set_option maxHeartbeats 4000000 in
set_option maxRecDepth 100000 in
theorem w_X4_spread_0 (C : gC G p s m args meth c cX4_spread 5 RX4) (hr : meth.sig.returnType = none)  (a0 : Option Nat) (a1 : Int32) : gJ G p l e 0 0 mc ms s m args below meth c grv y 5 0 [(0, va_rf a0), (1, .int a1)] [] (f_X4_spread  a0 a1) := by
  have hx := C.1
  have hb := C.2.1
  intro σ H locs cells slots ls hf I hl
  unfold f_X4_spread at hf
  refine gw_aload_n hx hb dX4_spread_0 rfl (lv_at hl 0 rfl) ?_
  refine gw_geti (k := 2) C I gcls_3 (by decide) rfl kw_24 dX4_spread_1 hf (fun v1 hf => ?_)
  refine lv_iload_n hx hb dX4_spread_4 rfl (lv_at hl 1 rfl) ?_
  refine lv_isub hx hb dX4_spread_5 ?_
  refine lv_istore_n (lv' := [(2, .int (v1 - a1)), (0, va_rf a0), (1, .int a1)]) hx hb dX4_spread_6 rfl hl (by decide) rfl (fun ls hl => ?_)
  refine lv_bipush (v := 7) hx hb dX4_spread_7 kc_b_7 ?_
  refine lv_istore_n (lv' := [(3, .int 7), (2, .int (v1 - a1)), (0, va_rf a0), (1, .int a1)]) hx hb dX4_spread_9 rfl hl (by decide) rfl (fun ls hl => ?_)
  exact w_X4_spread_L10 C hr  _ a0 a1 (v1 - a1) 7 _ _ _ _ _ _ hf I (lv_sub hl [2, 3, 1, 0] rfl)
end S_X4_spread
theorem m_X4_spread (G : gX) (l : Launch) (a0 : Option Nat) (a1 : Int32) : gMet G l yX4_spread cX4_spread 5 none 0 0 [va_rf a0, .int a1] grv (f_X4_spread a0 a1) := by
  refine gMet_of (by decide) ?_
  intro σ y p e s m below meth c mc ms hf C hr hnm I
  obtain ⟨ls, e1, hl⟩ := gentry m [va_rf a0, .int a1] 5 [(0, va_rf a0), (1, .int a1)] (by simp [lg_sl, grc, gcat_i, gcat_l]) (by simp [lv_args, grc, gcat_i, gcat_l])
  rw [e1]
  exact w_X4_spread_0 C hr a0 a1 _ _ _ _ _ _ hf I hl
def f_X4_wordAt  (a0 : Option Nat) (a1 : Int32) : gM Int32 := if a1 < 0 then (gp 0) else (gb (rR 3 1 a0) fun v1 => gb (aL 1 v1) fun v2 => if (a1 + 1) < v2 then (gb (rR 3 1 a0) fun v3 => gb (aI 1 v3 a1) fun v4 => gb (rR 3 1 a0) fun v5 => gb (aI 1 v5 (a1 + 1)) fun v6 => gp ((v4 <<< (16 &&& 31)) ||| v6)) else (gp 0))
section S_X4_wordAt
variable {G : gX} {p : Program} {l : Launch} {e : Env} {s : State} {m : MethodId} {args : Array Value} {below : List Frame} {meth : Method} {c : Code} {mc ms : Nat} {y : Int32 × gS}
set_option maxHeartbeats 4000000 in
set_option maxRecDepth 100000 in
theorem w_X4_wordAt_0 (C : gC G p s m args meth c cX4_wordAt 2 RX4) (hr : meth.sig.returnType = (some .int))  (a0 : Option Nat) (a1 : Int32) : gJ G p l e 0 0 mc ms s m args below meth c gri y 2 0 [(0, va_rf a0), (1, .int a1)] [] (f_X4_wordAt  a0 a1) := by
  have hx := C.1
  have hb := C.2.1
  intro σ H locs cells slots ls hf I hl
  unfold f_X4_wordAt at hf
  refine lv_iload_n hx hb dX4_wordAt_0 rfl (lv_at hl 1 rfl) ?_
  refine lv_if_lt (tgt := 15) hx hb dX4_wordAt_1 (by decide) (fun hq => ?_) (fun hq => ?_)
  · have hf := gift hq hf
    refine lv_iconst (v := 0) hx hb dX4_wordAt_15 kc_i_0 ?_
    refine lv_goto (tgt := 37) hx hb dX4_wordAt_16 (by decide) ?_
    exact gw_iret C I hr dX4_wordAt_37 hf
  · have hf := giff hq hf
    refine lv_iload_n hx hb dX4_wordAt_4 rfl (lv_at hl 1 rfl) ?_
    refine lv_iconst (v := 1) hx hb dX4_wordAt_5 kc_i_1 ?_
    refine lv_iadd hx hb dX4_wordAt_6 ?_
    refine gw_aload_n hx hb dX4_wordAt_7 rfl (lv_at hl 0 rfl) ?_
    refine gw_getr (k := 1) C I gcls_3 (by decide) rfl kw_23 dX4_wordAt_8 hf (fun v1 hf => ?_)
    refine gw_aL (t := 1) C I rfl dX4_wordAt_11 hf (fun v2 hf => ?_)
    refine lv_icmp_lt (tgt := 19) hx hb dX4_wordAt_12 (by decide) (fun hq => ?_) (fun hq => ?_)
    · have hf := gift hq hf
      refine gw_aload_n hx hb dX4_wordAt_19 rfl (lv_at hl 0 rfl) ?_
      refine gw_getr (k := 1) C I gcls_3 (by decide) rfl kw_23 dX4_wordAt_20 hf (fun v3 hf => ?_)
      refine lv_iload_n hx hb dX4_wordAt_23 rfl (lv_at hl 1 rfl) ?_
      refine gw_iald C I dX4_wordAt_24 hf (fun v4 hf => ?_)
      refine lv_bipush (v := 16) hx hb dX4_wordAt_25 kc_b_16 ?_
      refine lv_ishl hx hb dX4_wordAt_27 ?_
      refine gw_aload_n hx hb dX4_wordAt_28 rfl (lv_at hl 0 rfl) ?_
      refine gw_getr (k := 1) C I gcls_3 (by decide) rfl kw_23 dX4_wordAt_29 hf (fun v5 hf => ?_)
      refine lv_iload_n hx hb dX4_wordAt_32 rfl (lv_at hl 1 rfl) ?_
      refine lv_iconst (v := 1) hx hb dX4_wordAt_33 kc_i_1 ?_
      refine lv_iadd hx hb dX4_wordAt_34 ?_
      refine gw_iald C I dX4_wordAt_35 hf (fun v6 hf => ?_)
      refine lv_ior hx hb dX4_wordAt_36 ?_
      exact gw_iret C I hr dX4_wordAt_37 hf
    · have hf := giff hq hf
      refine lv_iconst (v := 0) hx hb dX4_wordAt_15 kc_i_0 ?_
      refine lv_goto (tgt := 37) hx hb dX4_wordAt_16 (by decide) ?_
      exact gw_iret C I hr dX4_wordAt_37 hf
end S_X4_wordAt
theorem m_X4_wordAt (G : gX) (l : Launch) (a0 : Option Nat) (a1 : Int32) : gMet G l yX4_wordAt cX4_wordAt 2 (some .int) 0 0 [va_rf a0, .int a1] gri (f_X4_wordAt a0 a1) := by
  refine gMet_of (by decide) ?_
  intro σ y p e s m below meth c mc ms hf C hr hnm I
  obtain ⟨ls, e1, hl⟩ := gentry m [va_rf a0, .int a1] 2 [(0, va_rf a0), (1, .int a1)] (by simp [lg_sl, grc, gcat_i, gcat_l]) (by simp [lv_args, grc, gcat_i, gcat_l])
  rw [e1]
  exact w_X4_wordAt_0 C hr a0 a1 _ _ _ _ _ _ hf I hl
def f_X0_numberAt_39  (s0 : Int32) (s1 : Int32) : gM Int32 := gp (((s0.toUInt32 >>> (s1.toUInt32 &&& Int32.toUInt32 31)).toInt32) &&& 65535)
def f_X0_numberAt_44  (x0 : Option Nat) (x1 : Int32) : gM Int32 := if x1 = 0 then (gb (rR 0 1 x0) fun v1 => gb (aI 1 v1 0) fun v2 => gp v2) else (gp 0)
def f_X0_numberAt  (a0 : Option Nat) (a1 : Int32) : gM Int32 := gb (rI 0 0 a0) fun v1 => if v1 = 6 then (if a1 < 0 then (f_X0_numberAt_44  a0 a1) else (if 8 ≤ a1 then (f_X0_numberAt_44  a0 a1) else (gb (rR 0 1 a0) fun v2 => gb (aI 1 v2 (a1 >>> (1 &&& 31))) fun v3 => if (a1 &&& 1) = 0 then (f_X0_numberAt_39  v3 16) else (f_X0_numberAt_39  v3 0)))) else (f_X0_numberAt_44  a0 a1)
section S_X0_numberAt
variable {G : gX} {p : Program} {l : Launch} {e : Env} {s : State} {m : MethodId} {args : Array Value} {below : List Frame} {meth : Method} {c : Code} {mc ms : Nat} {y : Int32 × gS}
set_option maxHeartbeats 4000000 in
set_option maxRecDepth 100000 in
theorem w_X0_numberAt_39 (C : gC G p s m args meth c cX0_numberAt 2 RX0) (hr : meth.sig.returnType = (some .int))  (s0 : Int32) (s1 : Int32) : gJ G p l e 0 0 mc ms s m args below meth c gri y 2 39 [] [.int s1, .int s0] (f_X0_numberAt_39  s0 s1) := by
  have hx := C.1
  have hb := C.2.1
  intro σ H locs cells slots ls hf I hl
  unfold f_X0_numberAt_39 at hf
  refine lv_iushr hx hb dX0_numberAt_39 rfl ?_
  refine gw_ldc C (v := 65535) kw_129 dX0_numberAt_40 ?_
  refine lv_iand hx hb dX0_numberAt_42 ?_
  exact gw_iret C I hr dX0_numberAt_43 hf
set_option maxHeartbeats 4000000 in
set_option maxRecDepth 100000 in
theorem w_X0_numberAt_44 (C : gC G p s m args meth c cX0_numberAt 2 RX0) (hr : meth.sig.returnType = (some .int))  (x0 : Option Nat) (x1 : Int32) : gJ G p l e 0 0 mc ms s m args below meth c gri y 2 44 [(0, va_rf x0), (1, .int x1)] [] (f_X0_numberAt_44  x0 x1) := by
  have hx := C.1
  have hb := C.2.1
  intro σ H locs cells slots ls hf I hl
  unfold f_X0_numberAt_44 at hf
  refine lv_iload_n hx hb dX0_numberAt_44 rfl (lv_at hl 1 rfl) ?_
  refine lv_if_ne (tgt := 57) hx hb dX0_numberAt_45 (by decide) (fun hq => ?_) (fun hq => ?_)
  · have hf := giff hq hf
    refine lv_iconst (v := 0) hx hb dX0_numberAt_57 kc_i_0 ?_
    exact gw_iret C I hr dX0_numberAt_58 hf
  · have hf := gift hq hf
    refine gw_aload_n hx hb dX0_numberAt_48 rfl (lv_at hl 0 rfl) ?_
    refine gw_getr (k := 1) C I gcls_0 (by decide) rfl kw_8 dX0_numberAt_49 hf (fun v1 hf => ?_)
    refine lv_iconst (v := 0) hx hb dX0_numberAt_52 kc_i_0 ?_
    refine gw_iald C I dX0_numberAt_53 hf (fun v2 hf => ?_)
    refine lv_goto (tgt := 58) hx hb dX0_numberAt_54 (by decide) ?_
    exact gw_iret C I hr dX0_numberAt_58 hf
set_option maxHeartbeats 4000000 in
set_option maxRecDepth 100000 in
theorem w_X0_numberAt_0 (C : gC G p s m args meth c cX0_numberAt 2 RX0) (hr : meth.sig.returnType = (some .int))  (a0 : Option Nat) (a1 : Int32) : gJ G p l e 0 0 mc ms s m args below meth c gri y 2 0 [(0, va_rf a0), (1, .int a1)] [] (f_X0_numberAt  a0 a1) := by
  have hx := C.1
  have hb := C.2.1
  intro σ H locs cells slots ls hf I hl
  unfold f_X0_numberAt at hf
  refine gw_aload_n hx hb dX0_numberAt_0 rfl (lv_at hl 0 rfl) ?_
  refine gw_geti (k := 0) C I gcls_0 (by decide) rfl kw_7 dX0_numberAt_1 hf (fun v1 hf => ?_)
  refine lv_bipush (v := 6) hx hb dX0_numberAt_4 kc_b_6 ?_
  refine lv_icmp_ne (tgt := 44) hx hb dX0_numberAt_6 (by decide) (fun hq => ?_) (fun hq => ?_)
  · have hf := giff hq hf
    exact w_X0_numberAt_44 C hr  a0 a1 _ _ _ _ _ _ hf I (lv_sub hl [0, 1] rfl)
  · have hf := gift hq hf
    refine lv_iload_n hx hb dX0_numberAt_9 rfl (lv_at hl 1 rfl) ?_
    refine lv_if_lt (tgt := 44) hx hb dX0_numberAt_10 (by decide) (fun hq => ?_) (fun hq => ?_)
    · have hf := gift hq hf
      exact w_X0_numberAt_44 C hr  a0 a1 _ _ _ _ _ _ hf I (lv_sub hl [0, 1] rfl)
    · have hf := giff hq hf
      refine lv_iload_n hx hb dX0_numberAt_13 rfl (lv_at hl 1 rfl) ?_
      refine lv_bipush (v := 8) hx hb dX0_numberAt_14 kc_b_8 ?_
      refine lv_icmp_ge (tgt := 44) hx hb dX0_numberAt_16 (by decide) (fun hq => ?_) (fun hq => ?_)
      · have hf := gift hq hf
        exact w_X0_numberAt_44 C hr  a0 a1 _ _ _ _ _ _ hf I (lv_sub hl [0, 1] rfl)
      · have hf := giff hq hf
        refine gw_aload_n hx hb dX0_numberAt_19 rfl (lv_at hl 0 rfl) ?_
        refine gw_getr (k := 1) C I gcls_0 (by decide) rfl kw_8 dX0_numberAt_20 hf (fun v2 hf => ?_)
        refine lv_iload_n hx hb dX0_numberAt_23 rfl (lv_at hl 1 rfl) ?_
        refine lv_iconst (v := 1) hx hb dX0_numberAt_24 kc_i_1 ?_
        refine lv_ishr hx hb dX0_numberAt_25 ?_
        refine gw_iald C I dX0_numberAt_26 hf (fun v3 hf => ?_)
        refine lv_iload_n hx hb dX0_numberAt_27 rfl (lv_at hl 1 rfl) ?_
        refine lv_iconst (v := 1) hx hb dX0_numberAt_28 kc_i_1 ?_
        refine lv_iand hx hb dX0_numberAt_29 ?_
        refine lv_if_ne (tgt := 38) hx hb dX0_numberAt_30 (by decide) (fun hq => ?_) (fun hq => ?_)
        · have hf := giff hq hf
          refine lv_iconst (v := 0) hx hb dX0_numberAt_38 kc_i_0 ?_
          exact w_X0_numberAt_39 C hr  v3 0 _ _ _ _ _ _ hf I (lv_sub hl [] rfl)
        · have hf := gift hq hf
          refine lv_bipush (v := 16) hx hb dX0_numberAt_33 kc_b_16 ?_
          refine lv_goto (tgt := 39) hx hb dX0_numberAt_35 (by decide) ?_
          exact w_X0_numberAt_39 C hr  v3 16 _ _ _ _ _ _ hf I (lv_sub hl [] rfl)
end S_X0_numberAt
theorem m_X0_numberAt (G : gX) (l : Launch) (a0 : Option Nat) (a1 : Int32) : gMet G l yX0_numberAt cX0_numberAt 2 (some .int) 0 0 [va_rf a0, .int a1] gri (f_X0_numberAt a0 a1) := by
  refine gMet_of (by decide) ?_
  intro σ y p e s m below meth c mc ms hf C hr hnm I
  obtain ⟨ls, e1, hl⟩ := gentry m [va_rf a0, .int a1] 2 [(0, va_rf a0), (1, .int a1)] (by simp [lg_sl, grc, gcat_i, gcat_l]) (by simp [lv_args, grc, gcat_i, gcat_l])
  rw [e1]
  exact w_X0_numberAt_0 C hr a0 a1 _ _ _ _ _ _ hf I hl
def f_X3_firstLongestGap_36 (rec10 : Option Nat → Int32 → Int32 → Int32 → Int32 → gM Int32) (x0 : Option Nat) (x1 : Int32) (x2 : Int32) (x4 : Int32) (s0 : Int32) : gM Int32 := if s0 ≤ x2 then (rec10 x0 x1 x2 s0 (x4 + 1)) else (rec10 x0 ((x4 + 1) - s0) s0 s0 (x4 + 1))
def f_X3_firstLongestGap_10 (rec10 : Option Nat → Int32 → Int32 → Int32 → Int32 → gM Int32) (x0 : Option Nat) (x1 : Int32) (x2 : Int32) (x3 : Int32) (x4 : Int32) : gM Int32 := if 8 ≤ x4 then (gp x1) else (gb (rR 2 0 x0) fun v1 => gb (nn 0 v1) fun _ => gb (f_X0_numberAt v1 x4) fun v2 => if v2 = 0 then (f_X3_firstLongestGap_36 rec10 x0 x1 x2 x4 (x3 + 1)) else (f_X3_firstLongestGap_36 rec10 x0 x1 x2 x4 0))
def f_X3_firstLongestGap_L10  : Nat → Option Nat → Int32 → Int32 → Int32 → Int32 → gM Int32
  | 0, _, _, _, _, _ => gno
  | n + 1, x0, x1, x2, x3, x4 => f_X3_firstLongestGap_10  (f_X3_firstLongestGap_L10  n) x0 x1 x2 x3 x4
def f_X3_firstLongestGap  (a0 : Option Nat) : gM Int32 := f_X3_firstLongestGap_L10  gF a0 8 1 0 0
section S_X3_firstLongestGap
variable {G : gX} {p : Program} {l : Launch} {e : Env} {s : State} {m : MethodId} {args : Array Value} {below : List Frame} {meth : Method} {c : Code} {mc ms : Nat} {y : Int32 × gS}
set_option maxHeartbeats 4000000 in
set_option maxRecDepth 100000 in
theorem w_X3_firstLongestGap_36 (C : gC G p s m args meth c cX3_firstLongestGap 5 RX3) (hr : meth.sig.returnType = (some .int)) {rec10 : Option Nat → Int32 → Int32 → Int32 → Int32 → gM Int32} (hrec10 : ∀ (x0 : Option Nat) (x1 : Int32) (x2 : Int32) (x3 : Int32) (x4 : Int32), gJ G p l e 1 21 mc ms s m args below meth c gri y 5 10 [(0, va_rf x0), (1, .int x1), (2, .int x2), (3, .int x3), (4, .int x4)] [] (rec10 x0 x1 x2 x3 x4)) (x0 : Option Nat) (x1 : Int32) (x2 : Int32) (x4 : Int32) (s0 : Int32) : gJ G p l e 1 21 mc ms s m args below meth c gri y 5 36 [(0, va_rf x0), (1, .int x1), (2, .int x2), (4, .int x4)] [.int s0] (f_X3_firstLongestGap_36 rec10 x0 x1 x2 x4 s0) := by
  have hx := C.1
  have hb := C.2.1
  intro σ H locs cells slots ls hf I hl
  unfold f_X3_firstLongestGap_36 at hf
  refine lv_istore_n (lv' := [(3, .int s0), (0, va_rf x0), (1, .int x1), (2, .int x2), (4, .int x4)]) hx hb dX3_firstLongestGap_36 rfl hl (by decide) rfl (fun ls hl => ?_)
  refine lv_iload_n hx hb dX3_firstLongestGap_37 rfl (lv_at hl 0 rfl) ?_
  refine lv_iload_n hx hb dX3_firstLongestGap_38 rfl (lv_at hl 3 rfl) ?_
  refine lv_icmp_le (tgt := 51) hx hb dX3_firstLongestGap_39 (by decide) (fun hq => ?_) (fun hq => ?_)
  · have hf := gift hq hf
    refine lv_iinc (v := x4 + 1) (lv' := [(4, .int (x4 + 1)), (3, .int s0), (0, va_rf x0), (1, .int x1), (2, .int x2)]) hx hb dX3_firstLongestGap_51 hl (k := 4) rfl rfl (by decide) rfl (fun ls hl => ?_)
    refine lv_goto (tgt := 10) hx hb dX3_firstLongestGap_54 (by decide) ?_
    exact hrec10 x0 x1 x2 s0 (x4 + 1) _ _ _ _ _ _ hf I (lv_sub hl [2, 3, 4, 1, 0] rfl)
  · have hf := giff hq hf
    refine lv_iload hx hb dX3_firstLongestGap_42 (lv_at hl 4 rfl) ?_
    refine lv_iconst (v := 1) hx hb dX3_firstLongestGap_44 kc_i_1 ?_
    refine lv_iadd hx hb dX3_firstLongestGap_45 ?_
    refine lv_iload_n hx hb dX3_firstLongestGap_46 rfl (lv_at hl 0 rfl) ?_
    refine lv_isub hx hb dX3_firstLongestGap_47 ?_
    refine lv_istore_n (lv' := [(1, .int ((x4 + 1) - s0)), (3, .int s0), (0, va_rf x0), (2, .int x2), (4, .int x4)]) hx hb dX3_firstLongestGap_48 rfl hl (by decide) (by cases x0 <;> rfl) (fun ls hl => ?_)
    refine lv_iload_n hx hb dX3_firstLongestGap_49 rfl (lv_at hl 1 rfl) ?_
    refine lv_istore_n (lv' := [(2, .int s0), (1, .int ((x4 + 1) - s0)), (3, .int s0), (0, va_rf x0), (4, .int x4)]) hx hb dX3_firstLongestGap_50 rfl hl (by decide) rfl (fun ls hl => ?_)
    refine lv_iinc (v := x4 + 1) (lv' := [(4, .int (x4 + 1)), (2, .int s0), (1, .int ((x4 + 1) - s0)), (3, .int s0), (0, va_rf x0)]) hx hb dX3_firstLongestGap_51 hl (k := 4) rfl rfl (by decide) rfl (fun ls hl => ?_)
    refine lv_goto (tgt := 10) hx hb dX3_firstLongestGap_54 (by decide) ?_
    exact hrec10 x0 ((x4 + 1) - s0) s0 s0 (x4 + 1) _ _ _ _ _ _ hf I (lv_sub hl [4, 2, 1, 3, 0] rfl)
set_option maxHeartbeats 4000000 in
set_option maxRecDepth 100000 in
theorem w_X3_firstLongestGap_10 (C : gC G p s m args meth c cX3_firstLongestGap 5 RX3) (hr : meth.sig.returnType = (some .int)) {rec10 : Option Nat → Int32 → Int32 → Int32 → Int32 → gM Int32} (hrec10 : ∀ (x0 : Option Nat) (x1 : Int32) (x2 : Int32) (x3 : Int32) (x4 : Int32), gJ G p l e 1 21 mc ms s m args below meth c gri y 5 10 [(0, va_rf x0), (1, .int x1), (2, .int x2), (3, .int x3), (4, .int x4)] [] (rec10 x0 x1 x2 x3 x4)) (x0 : Option Nat) (x1 : Int32) (x2 : Int32) (x3 : Int32) (x4 : Int32) : gJ G p l e 1 21 mc ms s m args below meth c gri y 5 10 [(0, va_rf x0), (1, .int x1), (2, .int x2), (3, .int x3), (4, .int x4)] [] (f_X3_firstLongestGap_10 rec10 x0 x1 x2 x3 x4) := by
  have hx := C.1
  have hb := C.2.1
  intro σ H locs cells slots ls hf I hl
  unfold f_X3_firstLongestGap_10 at hf
  refine lv_iload hx hb dX3_firstLongestGap_10 (lv_at hl 4 rfl) ?_
  refine lv_bipush (v := 8) hx hb dX3_firstLongestGap_12 kc_b_8 ?_
  refine lv_icmp_ge (tgt := 57) hx hb dX3_firstLongestGap_14 (by decide) (fun hq => ?_) (fun hq => ?_)
  · have hf := gift hq hf
    refine lv_iload_n hx hb dX3_firstLongestGap_57 rfl (lv_at hl 1 rfl) ?_
    exact gw_iret C I hr dX3_firstLongestGap_58 hf
  · have hf := giff hq hf
    refine gw_aload_n hx hb dX3_firstLongestGap_17 rfl (lv_at hl 0 rfl) ?_
    refine gw_getr (k := 0) C I gcls_2 (by decide) rfl kw_14 dX3_firstLongestGap_18 hf (fun v1 hf => ?_)
    refine lv_iload hx hb dX3_firstLongestGap_21 (lv_at hl 4 rfl) ?_
    refine gw_callV (rest := []) C I hl.1 gcls_0 (m_X0_numberAt G l v1 x4) gl_RX3_66 gn_X0_numberAt ⟨Nat.le_of_ble_eq_true rfl, Nat.le_of_ble_eq_true rfl⟩ rfl (gc4 (Nat.le_of_ble_eq_true rfl)) rfl dX3_firstLongestGap_23 hf (fun v2 σ H locs cells slots I hf => ?_)
    refine W.eq (g2 := F0 m 26 ls [.int v2]) rfl ?_
    refine lv_if_ne (tgt := 35) hx hb dX3_firstLongestGap_26 (by decide) (fun hq => ?_) (fun hq => ?_)
    · have hf := giff hq hf
      refine lv_iconst (v := 0) hx hb dX3_firstLongestGap_35 kc_i_0 ?_
      exact w_X3_firstLongestGap_36 C hr hrec10 x0 x1 x2 x4 0 _ _ _ _ _ _ hf I (lv_sub hl [0, 1, 2, 4] rfl)
    · have hf := gift hq hf
      refine lv_iload_n hx hb dX3_firstLongestGap_29 rfl (lv_at hl 3 rfl) ?_
      refine lv_iconst (v := 1) hx hb dX3_firstLongestGap_30 kc_i_1 ?_
      refine lv_iadd hx hb dX3_firstLongestGap_31 ?_
      refine lv_goto (tgt := 36) hx hb dX3_firstLongestGap_32 (by decide) ?_
      exact w_X3_firstLongestGap_36 C hr hrec10 x0 x1 x2 x4 (x3 + 1) _ _ _ _ _ _ hf I (lv_sub hl [0, 1, 2, 4] rfl)
theorem w_X3_firstLongestGap_L10 (C : gC G p s m args meth c cX3_firstLongestGap 5 RX3) (hr : meth.sig.returnType = (some .int))  : ∀ (n : Nat) (x0 : Option Nat) (x1 : Int32) (x2 : Int32) (x3 : Int32) (x4 : Int32), gJ G p l e 1 21 mc ms s m args below meth c gri y 5 10 [(0, va_rf x0), (1, .int x1), (2, .int x2), (3, .int x3), (4, .int x4)] [] (f_X3_firstLongestGap_L10  n x0 x1 x2 x3 x4) := by
  intro n
  induction n with
  | zero => intro x0 x1 x2 x3 x4 σ H locs cells slots ls hf; exact (gno_some hf).elim
  | succ n ih => intro x0 x1 x2 x3 x4; exact w_X3_firstLongestGap_10 C hr  ih x0 x1 x2 x3 x4
set_option maxHeartbeats 4000000 in
set_option maxRecDepth 100000 in
theorem w_X3_firstLongestGap_0 (C : gC G p s m args meth c cX3_firstLongestGap 5 RX3) (hr : meth.sig.returnType = (some .int))  (a0 : Option Nat) : gJ G p l e 1 21 mc ms s m args below meth c gri y 5 0 [(0, va_rf a0)] [] (f_X3_firstLongestGap  a0) := by
  have hx := C.1
  have hb := C.2.1
  intro σ H locs cells slots ls hf I hl
  unfold f_X3_firstLongestGap at hf
  refine lv_bipush (v := 8) hx hb dX3_firstLongestGap_0 kc_b_8 ?_
  refine lv_istore_n (lv' := [(1, .int 8), (0, va_rf a0)]) hx hb dX3_firstLongestGap_2 rfl hl (by decide) (by cases a0 <;> rfl) (fun ls hl => ?_)
  refine lv_iconst (v := 1) hx hb dX3_firstLongestGap_3 kc_i_1 ?_
  refine lv_istore_n (lv' := [(2, .int 1), (1, .int 8), (0, va_rf a0)]) hx hb dX3_firstLongestGap_4 rfl hl (by decide) rfl (fun ls hl => ?_)
  refine lv_iconst (v := 0) hx hb dX3_firstLongestGap_5 kc_i_0 ?_
  refine lv_istore_n (lv' := [(3, .int 0), (2, .int 1), (1, .int 8), (0, va_rf a0)]) hx hb dX3_firstLongestGap_6 rfl hl (by decide) rfl (fun ls hl => ?_)
  refine lv_iconst (v := 0) hx hb dX3_firstLongestGap_7 kc_i_0 ?_
  refine lv_istore (lv' := [(4, .int 0), (3, .int 0), (2, .int 1), (1, .int 8), (0, va_rf a0)]) hx hb dX3_firstLongestGap_8 hl (by decide) rfl (fun ls hl => ?_)
  exact w_X3_firstLongestGap_L10 C hr  _ a0 8 1 0 0 _ _ _ _ _ _ hf I (lv_sub hl [4, 3, 2, 1, 0] rfl)
end S_X3_firstLongestGap
theorem m_X3_firstLongestGap (G : gX) (l : Launch) (a0 : Option Nat) : gMet G l yX3_firstLongestGap cX3_firstLongestGap 5 (some .int) 1 21 [va_rf a0] gri (f_X3_firstLongestGap a0) := by
  refine gMet_of (by decide) ?_
  intro σ y p e s m below meth c mc ms hf C hr hnm I
  obtain ⟨ls, e1, hl⟩ := gentry m [va_rf a0] 5 [(0, va_rf a0)] (by simp [lg_sl, grc, gcat_i, gcat_l]) (by simp [lv_args, grc, gcat_i, gcat_l])
  rw [e1]
  exact w_X3_firstLongestGap_0 C hr a0 _ _ _ _ _ _ hf I hl
def f_X3_zerosFrom_2 (rec2 : Option Nat → Int32 → Int32 → gM Int32) (x0 : Option Nat) (x1 : Int32) (x2 : Int32) : gM Int32 := if 8 ≤ x2 then (gp (x2 - x1)) else (gb (rR 2 0 x0) fun v1 => gb (nn 0 v1) fun _ => gb (f_X0_numberAt v1 x2) fun v2 => if v2 = 0 then (rec2 x0 x1 (x2 + 1)) else (gp (x2 - x1)))
def f_X3_zerosFrom_L2  : Nat → Option Nat → Int32 → Int32 → gM Int32
  | 0, _, _, _ => gno
  | n + 1, x0, x1, x2 => f_X3_zerosFrom_2  (f_X3_zerosFrom_L2  n) x0 x1 x2
def f_X3_zerosFrom  (a0 : Option Nat) (a1 : Int32) : gM Int32 := f_X3_zerosFrom_L2  gF a0 a1 a1
section S_X3_zerosFrom
variable {G : gX} {p : Program} {l : Launch} {e : Env} {s : State} {m : MethodId} {args : Array Value} {below : List Frame} {meth : Method} {c : Code} {mc ms : Nat} {y : Int32 × gS}
set_option maxHeartbeats 4000000 in
set_option maxRecDepth 100000 in
theorem w_X3_zerosFrom_2 (C : gC G p s m args meth c cX3_zerosFrom 3 RX3) (hr : meth.sig.returnType = (some .int)) {rec2 : Option Nat → Int32 → Int32 → gM Int32} (hrec2 : ∀ (x0 : Option Nat) (x1 : Int32) (x2 : Int32), gJ G p l e 1 21 mc ms s m args below meth c gri y 3 2 [(0, va_rf x0), (1, .int x1), (2, .int x2)] [] (rec2 x0 x1 x2)) (x0 : Option Nat) (x1 : Int32) (x2 : Int32) : gJ G p l e 1 21 mc ms s m args below meth c gri y 3 2 [(0, va_rf x0), (1, .int x1), (2, .int x2)] [] (f_X3_zerosFrom_2 rec2 x0 x1 x2) := by
  have hx := C.1
  have hb := C.2.1
  intro σ H locs cells slots ls hf I hl
  unfold f_X3_zerosFrom_2 at hf
  refine lv_iload_n hx hb dX3_zerosFrom_2 rfl (lv_at hl 2 rfl) ?_
  refine lv_bipush (v := 8) hx hb dX3_zerosFrom_3 kc_b_8 ?_
  refine lv_icmp_ge (tgt := 25) hx hb dX3_zerosFrom_5 (by decide) (fun hq => ?_) (fun hq => ?_)
  · have hf := gift hq hf
    refine lv_iload_n hx hb dX3_zerosFrom_25 rfl (lv_at hl 2 rfl) ?_
    refine lv_iload_n hx hb dX3_zerosFrom_26 rfl (lv_at hl 1 rfl) ?_
    refine lv_isub hx hb dX3_zerosFrom_27 ?_
    exact gw_iret C I hr dX3_zerosFrom_28 hf
  · have hf := giff hq hf
    refine gw_aload_n hx hb dX3_zerosFrom_8 rfl (lv_at hl 0 rfl) ?_
    refine gw_getr (k := 0) C I gcls_2 (by decide) rfl kw_14 dX3_zerosFrom_9 hf (fun v1 hf => ?_)
    refine lv_iload_n hx hb dX3_zerosFrom_12 rfl (lv_at hl 2 rfl) ?_
    refine gw_callV (rest := []) C I hl.1 gcls_0 (m_X0_numberAt G l v1 x2) gl_RX3_66 gn_X0_numberAt ⟨Nat.le_of_ble_eq_true rfl, Nat.le_of_ble_eq_true rfl⟩ rfl (gc4 (Nat.le_of_ble_eq_true rfl)) rfl dX3_zerosFrom_13 hf (fun v2 σ H locs cells slots I hf => ?_)
    refine W.eq (g2 := F0 m 16 ls [.int v2]) rfl ?_
    refine lv_if_ne (tgt := 25) hx hb dX3_zerosFrom_16 (by decide) (fun hq => ?_) (fun hq => ?_)
    · have hf := giff hq hf
      refine lv_iload_n hx hb dX3_zerosFrom_25 rfl (lv_at hl 2 rfl) ?_
      refine lv_iload_n hx hb dX3_zerosFrom_26 rfl (lv_at hl 1 rfl) ?_
      refine lv_isub hx hb dX3_zerosFrom_27 ?_
      exact gw_iret C I hr dX3_zerosFrom_28 hf
    · have hf := gift hq hf
      refine lv_iinc (v := x2 + 1) (lv' := [(2, .int (x2 + 1)), (0, va_rf x0), (1, .int x1)]) hx hb dX3_zerosFrom_19 hl (k := 2) rfl rfl (by decide) rfl (fun ls hl => ?_)
      refine lv_goto (tgt := 2) hx hb dX3_zerosFrom_22 (by decide) ?_
      exact hrec2 x0 x1 (x2 + 1) _ _ _ _ _ _ hf I (lv_sub hl [1, 2, 0] rfl)
theorem w_X3_zerosFrom_L2 (C : gC G p s m args meth c cX3_zerosFrom 3 RX3) (hr : meth.sig.returnType = (some .int))  : ∀ (n : Nat) (x0 : Option Nat) (x1 : Int32) (x2 : Int32), gJ G p l e 1 21 mc ms s m args below meth c gri y 3 2 [(0, va_rf x0), (1, .int x1), (2, .int x2)] [] (f_X3_zerosFrom_L2  n x0 x1 x2) := by
  intro n
  induction n with
  | zero => intro x0 x1 x2 σ H locs cells slots ls hf; exact (gno_some hf).elim
  | succ n ih => intro x0 x1 x2; exact w_X3_zerosFrom_2 C hr  ih x0 x1 x2
set_option maxHeartbeats 4000000 in
set_option maxRecDepth 100000 in
theorem w_X3_zerosFrom_0 (C : gC G p s m args meth c cX3_zerosFrom 3 RX3) (hr : meth.sig.returnType = (some .int))  (a0 : Option Nat) (a1 : Int32) : gJ G p l e 1 21 mc ms s m args below meth c gri y 3 0 [(0, va_rf a0), (1, .int a1)] [] (f_X3_zerosFrom  a0 a1) := by
  have hx := C.1
  have hb := C.2.1
  intro σ H locs cells slots ls hf I hl
  unfold f_X3_zerosFrom at hf
  refine lv_iload_n hx hb dX3_zerosFrom_0 rfl (lv_at hl 1 rfl) ?_
  refine lv_istore_n (lv' := [(2, .int a1), (0, va_rf a0), (1, .int a1)]) hx hb dX3_zerosFrom_1 rfl hl (by decide) rfl (fun ls hl => ?_)
  exact w_X3_zerosFrom_L2 C hr  _ a0 a1 a1 _ _ _ _ _ _ hf I (lv_sub hl [1, 2, 0] rfl)
end S_X3_zerosFrom
theorem m_X3_zerosFrom (G : gX) (l : Launch) (a0 : Option Nat) (a1 : Int32) : gMet G l yX3_zerosFrom cX3_zerosFrom 3 (some .int) 1 21 [va_rf a0, .int a1] gri (f_X3_zerosFrom a0 a1) := by
  refine gMet_of (by decide) ?_
  intro σ y p e s m below meth c mc ms hf C hr hnm I
  obtain ⟨ls, e1, hl⟩ := gentry m [va_rf a0, .int a1] 3 [(0, va_rf a0), (1, .int a1)] (by simp [lg_sl, grc, gcat_i, gcat_l]) (by simp [lv_args, grc, gcat_i, gcat_l])
  rw [e1]
  exact w_X3_zerosFrom_0 C hr a0 a1 _ _ _ _ _ _ hf I hl
def f_X5_addHex_17 (rec3 : Option Nat → Int32 → Int32 → gM Unit) (x0 : Option Nat) (x1 : Int32) (x2 : Int32) : gM Unit := gb (tk 9) fun _ => gb (f_J0_charAt_5068e 9 (((x1.toUInt32 >>> (x2.toUInt32 &&& Int32.toUInt32 31)).toInt32) &&& 15)) fun v1 => gb (nn 4 x0) fun _ => gb (f_X5_add x0 v1) fun _ => rec3 x0 x1 (x2 + (-4))
def f_X5_addHex_3 (rec3 : Option Nat → Int32 → Int32 → gM Unit) (x0 : Option Nat) (x1 : Int32) (x2 : Int32) : gM Unit := if x2 < 0 then (gp ()) else (if ((x1.toUInt32 >>> (x2.toUInt32 &&& Int32.toUInt32 31)).toInt32) = 0 then (if x2 = 0 then (f_X5_addHex_17 rec3 x0 x1 x2) else (rec3 x0 x1 (x2 + (-4)))) else (f_X5_addHex_17 rec3 x0 x1 x2))
def f_X5_addHex_L3  : Nat → Option Nat → Int32 → Int32 → gM Unit
  | 0, _, _, _ => gno
  | n + 1, x0, x1, x2 => f_X5_addHex_3  (f_X5_addHex_L3  n) x0 x1 x2
def f_X5_addHex  (a0 : Option Nat) (a1 : Int32) : gM Unit := f_X5_addHex_L3  gF a0 a1 12
section S_X5_addHex
variable {G : gX} {p : Program} {l : Launch} {e : Env} {s : State} {m : MethodId} {args : Array Value} {below : List Frame} {meth : Method} {c : Code} {mc ms : Nat} {y : Unit × gS}
set_option maxHeartbeats 4000000 in
set_option maxRecDepth 100000 in
theorem w_X5_addHex_17 (C : gC G p s m args meth c cX5_addHex 3 RX5) (hr : meth.sig.returnType = none) {rec3 : Option Nat → Int32 → Int32 → gM Unit} (hrec3 : ∀ (x0 : Option Nat) (x1 : Int32) (x2 : Int32), gJ G p l e 4 85 mc ms s m args below meth c grv y 3 3 [(0, va_rf x0), (1, .int x1), (2, .int x2)] [] (rec3 x0 x1 x2)) (x0 : Option Nat) (x1 : Int32) (x2 : Int32) : gJ G p l e 4 85 mc ms s m args below meth c grv y 3 17 [(0, va_rf x0), (1, .int x1), (2, .int x2)] [] (f_X5_addHex_17 rec3 x0 x1 x2) := by
  have hx := C.1
  have hb := C.2.1
  intro σ H locs cells slots ls hf I hl
  unfold f_X5_addHex_17 at hf
  refine gw_aload_n hx hb dX5_addHex_17 rfl (lv_at hl 0 rfl) ?_
  refine gw_ldcs C 9 (tx := "0123456789abcdef") rfl dX5_addHex_18 ?_
  refine lv_iload_n hx hb dX5_addHex_20 rfl (lv_at hl 1 rfl) ?_
  refine lv_iload_n hx hb dX5_addHex_21 rfl (lv_at hl 2 rfl) ?_
  refine lv_iushr hx hb dX5_addHex_22 rfl ?_
  refine lv_bipush (v := 15) hx hb dX5_addHex_23 kc_b_15 ?_
  refine lv_iand hx hb dX5_addHex_25 ?_
  refine gw_callT (rest := [va_rf x0]) C I hl.1 (m_J0_charAt_5068e G l 9 (((x1.toUInt32 >>> (x2.toUInt32 &&& Int32.toUInt32 31)).toInt32) &&& 15)) gl_RX5_38 gn_J0_charAt_5068e ⟨Nat.le_of_ble_eq_true rfl, Nat.le_of_ble_eq_true rfl⟩ rfl (gc4 (Nat.le_of_ble_eq_true rfl)) rfl dX5_addHex_26 hf (fun v1 σ H locs cells slots I hf => ?_)
  refine W.eq (g2 := F0 m 29 ls [.int v1, va_rf x0]) rfl ?_
  refine gw_callV (rest := []) C I hl.1 gcls_4 (m_X5_add G l x0 v1) gl_RX5_29 gn_X5_add ⟨Nat.le_of_ble_eq_true rfl, Nat.le_of_ble_eq_true rfl⟩ rfl (gc4 (Nat.le_of_ble_eq_true rfl)) rfl dX5_addHex_29 hf (fun _ σ H locs cells slots I hf => ?_)
  refine W.eq (g2 := F0 m 32 ls []) rfl ?_
  refine lv_iinc (v := x2 + (-4)) (lv' := [(2, .int (x2 + (-4))), (0, va_rf x0), (1, .int x1)]) hx hb dX5_addHex_32 hl (k := 2) rfl rfl (by decide) rfl (fun ls hl => ?_)
  refine lv_goto (tgt := 3) hx hb dX5_addHex_35 (by decide) ?_
  exact hrec3 x0 x1 (x2 + (-4)) _ _ _ _ _ _ hf I (lv_sub hl [1, 2, 0] rfl)
set_option maxHeartbeats 4000000 in
set_option maxRecDepth 100000 in
theorem w_X5_addHex_3 (C : gC G p s m args meth c cX5_addHex 3 RX5) (hr : meth.sig.returnType = none) {rec3 : Option Nat → Int32 → Int32 → gM Unit} (hrec3 : ∀ (x0 : Option Nat) (x1 : Int32) (x2 : Int32), gJ G p l e 4 85 mc ms s m args below meth c grv y 3 3 [(0, va_rf x0), (1, .int x1), (2, .int x2)] [] (rec3 x0 x1 x2)) (x0 : Option Nat) (x1 : Int32) (x2 : Int32) : gJ G p l e 4 85 mc ms s m args below meth c grv y 3 3 [(0, va_rf x0), (1, .int x1), (2, .int x2)] [] (f_X5_addHex_3 rec3 x0 x1 x2) := by
  have hx := C.1
  have hb := C.2.1
  intro σ H locs cells slots ls hf I hl
  unfold f_X5_addHex_3 at hf
  refine lv_iload_n hx hb dX5_addHex_3 rfl (lv_at hl 2 rfl) ?_
  refine lv_if_lt (tgt := 38) hx hb dX5_addHex_4 (by decide) (fun hq => ?_) (fun hq => ?_)
  · have hf := gift hq hf
    exact gw_vret C I hr dX5_addHex_38 hf
  · have hf := giff hq hf
    refine lv_iload_n hx hb dX5_addHex_7 rfl (lv_at hl 1 rfl) ?_
    refine lv_iload_n hx hb dX5_addHex_8 rfl (lv_at hl 2 rfl) ?_
    refine lv_iushr hx hb dX5_addHex_9 rfl ?_
    refine lv_if_ne (tgt := 17) hx hb dX5_addHex_10 (by decide) (fun hq => ?_) (fun hq => ?_)
    · have hf := giff hq hf
      exact w_X5_addHex_17 C hr hrec3 x0 x1 x2 _ _ _ _ _ _ hf I (lv_sub hl [0, 1, 2] rfl)
    · have hf := gift hq hf
      refine lv_iload_n hx hb dX5_addHex_13 rfl (lv_at hl 2 rfl) ?_
      refine lv_if_ne (tgt := 32) hx hb dX5_addHex_14 (by decide) (fun hq => ?_) (fun hq => ?_)
      · have hf := giff hq hf
        refine lv_iinc (v := x2 + (-4)) (lv' := [(2, .int (x2 + (-4))), (0, va_rf x0), (1, .int x1)]) hx hb dX5_addHex_32 hl (k := 2) rfl rfl (by decide) rfl (fun ls hl => ?_)
        refine lv_goto (tgt := 3) hx hb dX5_addHex_35 (by decide) ?_
        exact hrec3 x0 x1 (x2 + (-4)) _ _ _ _ _ _ hf I (lv_sub hl [1, 2, 0] rfl)
      · have hf := gift hq hf
        exact w_X5_addHex_17 C hr hrec3 x0 x1 x2 _ _ _ _ _ _ hf I (lv_sub hl [0, 1, 2] rfl)
theorem w_X5_addHex_L3 (C : gC G p s m args meth c cX5_addHex 3 RX5) (hr : meth.sig.returnType = none)  : ∀ (n : Nat) (x0 : Option Nat) (x1 : Int32) (x2 : Int32), gJ G p l e 4 85 mc ms s m args below meth c grv y 3 3 [(0, va_rf x0), (1, .int x1), (2, .int x2)] [] (f_X5_addHex_L3  n x0 x1 x2) := by
  intro n
  induction n with
  | zero => intro x0 x1 x2 σ H locs cells slots ls hf; exact (gno_some hf).elim
  | succ n ih => intro x0 x1 x2; exact w_X5_addHex_3 C hr  ih x0 x1 x2
set_option maxHeartbeats 4000000 in
set_option maxRecDepth 100000 in
theorem w_X5_addHex_0 (C : gC G p s m args meth c cX5_addHex 3 RX5) (hr : meth.sig.returnType = none)  (a0 : Option Nat) (a1 : Int32) : gJ G p l e 4 85 mc ms s m args below meth c grv y 3 0 [(0, va_rf a0), (1, .int a1)] [] (f_X5_addHex  a0 a1) := by
  have hx := C.1
  have hb := C.2.1
  intro σ H locs cells slots ls hf I hl
  unfold f_X5_addHex at hf
  refine lv_bipush (v := 12) hx hb dX5_addHex_0 kc_b_12 ?_
  refine lv_istore_n (lv' := [(2, .int 12), (0, va_rf a0), (1, .int a1)]) hx hb dX5_addHex_2 rfl hl (by decide) rfl (fun ls hl => ?_)
  exact w_X5_addHex_L3 C hr  _ a0 a1 12 _ _ _ _ _ _ hf I (lv_sub hl [1, 2, 0] rfl)
end S_X5_addHex
theorem m_X5_addHex (G : gX) (l : Launch) (a0 : Option Nat) (a1 : Int32) : gMet G l yX5_addHex cX5_addHex 3 none 4 85 [va_rf a0, .int a1] grv (f_X5_addHex a0 a1) := by
  refine gMet_of (by decide) ?_
  intro σ y p e s m below meth c mc ms hf C hr hnm I
  obtain ⟨ls, e1, hl⟩ := gentry m [va_rf a0, .int a1] 3 [(0, va_rf a0), (1, .int a1)] (by simp [lg_sl, grc, gcat_i, gcat_l]) (by simp [lv_args, grc, gcat_i, gcat_l])
  rw [e1]
  exact w_X5_addHex_0 C hr a0 a1 _ _ _ _ _ _ hf I hl
def f_X3_setSix_112 (rec51 : Option Nat → Int32 → Int32 → Int32 → gM Unit) (x0 : Option Nat) (x5 : Int32) (x6 : Int32) (x7 : Int32) : gM Unit := gb (rR 2 1 x0) fun v1 => gb (rR 2 0 x0) fun v2 => gb (nn 0 v2) fun _ => gb (f_X0_numberAt v2 x7) fun v3 => gb (nn 4 v1) fun _ => gb (f_X5_addHex v1 v3) fun _ => rec51 x0 x5 x6 (x7 + 1)
def f_X3_setSix_91 (rec51 : Option Nat → Int32 → Int32 → Int32 → gM Unit) (x0 : Option Nat) (x5 : Int32) (x6 : Int32) (x7 : Int32) : gM Unit := if x7 ≤ 0 then (f_X3_setSix_112 rec51 x0 x5 x6 x7) else (if x7 = x6 then (f_X3_setSix_112 rec51 x0 x5 x6 x7) else (gb (rR 2 1 x0) fun v1 => gb (nn 4 v1) fun _ => gb (f_X5_add v1 58) fun _ => f_X3_setSix_112 rec51 x0 x5 x6 x7))
def f_X3_setSix_74 (rec51 : Option Nat → Int32 → Int32 → Int32 → gM Unit) (x0 : Option Nat) (x5 : Int32) (x6 : Int32) (x7 : Int32) : gM Unit := if x7 < x5 then (f_X3_setSix_91 rec51 x0 x5 x6 x7) else (if x6 ≤ x7 then (f_X3_setSix_91 rec51 x0 x5 x6 x7) else (rec51 x0 x5 x6 (x7 + 1)))
def f_X3_setSix_51 (rec51 : Option Nat → Int32 → Int32 → Int32 → gM Unit) (x0 : Option Nat) (x5 : Int32) (x6 : Int32) (x7 : Int32) : gM Unit := if 8 ≤ x7 then (gb (rR 2 1 x0) fun v1 => gb (nn 4 v1) fun _ => gb (f_X5_add v1 93) fun _ => gp ()) else (if x7 = x5 then (gb (rR 2 1 x0) fun v2 => gb (nn 4 v2) fun _ => gb (f_X5_addText v2 8) fun _ => f_X3_setSix_74 rec51 x0 x5 x6 x7) else (f_X3_setSix_74 rec51 x0 x5 x6 x7))
def f_X3_setSix_L51  : Nat → Option Nat → Int32 → Int32 → Int32 → gM Unit
  | 0, _, _, _, _ => gno
  | n + 1, x0, x5, x6, x7 => f_X3_setSix_51  (f_X3_setSix_L51  n) x0 x5 x6 x7
def f_X3_setSix  (a0 : Option Nat) (a1 : Int32) (a2 : Int32) (a3 : Int32) (a4 : Int32) : gM Unit := gb (rR 2 0 a0) fun v1 => gb (nn 0 v1) fun _ => gb (f_X0_setTo v1 6 a1 a2 a3 a4) fun _ => gb (nn 2 a0) fun _ => gb (f_X3_firstLongestGap a0) fun v2 => gb (nn 2 a0) fun _ => gb (f_X3_zerosFrom a0 v2) fun v3 => gb (rR 2 1 a0) fun v4 => gb (nn 4 v4) fun _ => gb (f_X5_cutTo v4 0) fun _ => gb (rR 2 1 a0) fun v5 => gb (nn 4 v5) fun _ => gb (f_X5_add v5 91) fun _ => f_X3_setSix_L51  gF a0 v2 (v2 + v3) 0
section S_X3_setSix
variable {G : gX} {p : Program} {l : Launch} {e : Env} {s : State} {m : MethodId} {args : Array Value} {below : List Frame} {meth : Method} {c : Code} {mc ms : Nat} {y : Unit × gS}
set_option maxHeartbeats 4000000 in
set_option maxRecDepth 100000 in
theorem w_X3_setSix_112 (C : gC G p s m args meth c cX3_setSix 8 RX3) (hr : meth.sig.returnType = none) {rec51 : Option Nat → Int32 → Int32 → Int32 → gM Unit} (hrec51 : ∀ (x0 : Option Nat) (x5 : Int32) (x6 : Int32) (x7 : Int32), gJ G p l e 5 107 mc ms s m args below meth c grv y 8 51 [(0, va_rf x0), (5, .int x5), (6, .int x6), (7, .int x7)] [] (rec51 x0 x5 x6 x7)) (x0 : Option Nat) (x5 : Int32) (x6 : Int32) (x7 : Int32) : gJ G p l e 5 107 mc ms s m args below meth c grv y 8 112 [(0, va_rf x0), (5, .int x5), (6, .int x6), (7, .int x7)] [] (f_X3_setSix_112 rec51 x0 x5 x6 x7) := by
  have hx := C.1
  have hb := C.2.1
  intro σ H locs cells slots ls hf I hl
  unfold f_X3_setSix_112 at hf
  refine gw_aload_n hx hb dX3_setSix_112 rfl (lv_at hl 0 rfl) ?_
  refine gw_getr (k := 1) C I gcls_2 (by decide) rfl kw_19 dX3_setSix_113 hf (fun v1 hf => ?_)
  refine gw_aload_n hx hb dX3_setSix_116 rfl (lv_at hl 0 rfl) ?_
  refine gw_getr (k := 0) C I gcls_2 (by decide) rfl kw_14 dX3_setSix_117 hf (fun v2 hf => ?_)
  refine lv_iload hx hb dX3_setSix_120 (lv_at hl 3 rfl) ?_
  refine gw_callV (rest := [va_rf v1]) C I hl.1 gcls_0 (m_X0_numberAt G l v2 x7) gl_RX3_66 gn_X0_numberAt ⟨Nat.le_of_ble_eq_true rfl, Nat.le_of_ble_eq_true rfl⟩ rfl (gc4 (Nat.le_of_ble_eq_true rfl)) rfl dX3_setSix_122 hf (fun v3 σ H locs cells slots I hf => ?_)
  refine W.eq (g2 := F0 m 125 ls [.int v3, va_rf v1]) rfl ?_
  refine gw_callV (rest := []) C I hl.1 gcls_4 (m_X5_addHex G l v1 v3) gl_RX3_69 gn_X5_addHex ⟨Nat.le_of_ble_eq_true rfl, Nat.le_of_ble_eq_true rfl⟩ rfl (gc4 (Nat.le_of_ble_eq_true rfl)) rfl dX3_setSix_125 hf (fun _ σ H locs cells slots I hf => ?_)
  refine W.eq (g2 := F0 m 128 ls []) rfl ?_
  refine lv_iinc (v := x7 + 1) (lv' := [(7, .int (x7 + 1)), (0, va_rf x0), (5, .int x5), (6, .int x6)]) hx hb dX3_setSix_128 hl (k := 3) rfl rfl (by decide) rfl (fun ls hl => ?_)
  refine lv_goto (tgt := 51) hx hb dX3_setSix_131 (by decide) ?_
  exact hrec51 x0 x5 x6 (x7 + 1) _ _ _ _ _ _ hf I (lv_sub hl [1, 2, 3, 0] rfl)
set_option maxHeartbeats 4000000 in
set_option maxRecDepth 100000 in
theorem w_X3_setSix_91 (C : gC G p s m args meth c cX3_setSix 8 RX3) (hr : meth.sig.returnType = none) {rec51 : Option Nat → Int32 → Int32 → Int32 → gM Unit} (hrec51 : ∀ (x0 : Option Nat) (x5 : Int32) (x6 : Int32) (x7 : Int32), gJ G p l e 5 107 mc ms s m args below meth c grv y 8 51 [(0, va_rf x0), (5, .int x5), (6, .int x6), (7, .int x7)] [] (rec51 x0 x5 x6 x7)) (x0 : Option Nat) (x5 : Int32) (x6 : Int32) (x7 : Int32) : gJ G p l e 5 107 mc ms s m args below meth c grv y 8 91 [(0, va_rf x0), (5, .int x5), (6, .int x6), (7, .int x7)] [] (f_X3_setSix_91 rec51 x0 x5 x6 x7) := by
  have hx := C.1
  have hb := C.2.1
  intro σ H locs cells slots ls hf I hl
  unfold f_X3_setSix_91 at hf
  refine lv_iload hx hb dX3_setSix_91 (lv_at hl 3 rfl) ?_
  refine lv_if_le (tgt := 112) hx hb dX3_setSix_93 (by decide) (fun hq => ?_) (fun hq => ?_)
  · have hf := gift hq hf
    exact w_X3_setSix_112 C hr hrec51 x0 x5 x6 x7 _ _ _ _ _ _ hf I (lv_sub hl [0, 1, 2, 3] rfl)
  · have hf := giff hq hf
    refine lv_iload hx hb dX3_setSix_96 (lv_at hl 3 rfl) ?_
    refine lv_iload hx hb dX3_setSix_98 (lv_at hl 2 rfl) ?_
    refine lv_icmp_eq (tgt := 112) hx hb dX3_setSix_100 (by decide) (fun hq => ?_) (fun hq => ?_)
    · have hf := gift hq hf
      exact w_X3_setSix_112 C hr hrec51 x0 x5 x6 x7 _ _ _ _ _ _ hf I (lv_sub hl [0, 1, 2, 3] rfl)
    · have hf := giff hq hf
      refine gw_aload_n hx hb dX3_setSix_103 rfl (lv_at hl 0 rfl) ?_
      refine gw_getr (k := 1) C I gcls_2 (by decide) rfl kw_19 dX3_setSix_104 hf (fun v1 hf => ?_)
      refine lv_bipush (v := 58) hx hb dX3_setSix_107 kc_b_58 ?_
      refine gw_callV (rest := []) C I hl.1 gcls_4 (m_X5_add G l v1 58) gl_RX3_49 gn_X5_add ⟨Nat.le_of_ble_eq_true rfl, Nat.le_of_ble_eq_true rfl⟩ rfl (gc4 (Nat.le_of_ble_eq_true rfl)) rfl dX3_setSix_109 hf (fun _ σ H locs cells slots I hf => ?_)
      refine W.eq (g2 := F0 m 112 ls []) rfl ?_
      exact w_X3_setSix_112 C hr hrec51 x0 x5 x6 x7 _ _ _ _ _ _ hf I (lv_sub hl [0, 1, 2, 3] rfl)
set_option maxHeartbeats 4000000 in
set_option maxRecDepth 100000 in
theorem w_X3_setSix_74 (C : gC G p s m args meth c cX3_setSix 8 RX3) (hr : meth.sig.returnType = none) {rec51 : Option Nat → Int32 → Int32 → Int32 → gM Unit} (hrec51 : ∀ (x0 : Option Nat) (x5 : Int32) (x6 : Int32) (x7 : Int32), gJ G p l e 5 107 mc ms s m args below meth c grv y 8 51 [(0, va_rf x0), (5, .int x5), (6, .int x6), (7, .int x7)] [] (rec51 x0 x5 x6 x7)) (x0 : Option Nat) (x5 : Int32) (x6 : Int32) (x7 : Int32) : gJ G p l e 5 107 mc ms s m args below meth c grv y 8 74 [(0, va_rf x0), (5, .int x5), (6, .int x6), (7, .int x7)] [] (f_X3_setSix_74 rec51 x0 x5 x6 x7) := by
  have hx := C.1
  have hb := C.2.1
  intro σ H locs cells slots ls hf I hl
  unfold f_X3_setSix_74 at hf
  refine lv_iload hx hb dX3_setSix_74 (lv_at hl 3 rfl) ?_
  refine lv_iload hx hb dX3_setSix_76 (lv_at hl 1 rfl) ?_
  refine lv_icmp_lt (tgt := 91) hx hb dX3_setSix_78 (by decide) (fun hq => ?_) (fun hq => ?_)
  · have hf := gift hq hf
    exact w_X3_setSix_91 C hr hrec51 x0 x5 x6 x7 _ _ _ _ _ _ hf I (lv_sub hl [0, 1, 2, 3] rfl)
  · have hf := giff hq hf
    refine lv_iload hx hb dX3_setSix_81 (lv_at hl 3 rfl) ?_
    refine lv_iload hx hb dX3_setSix_83 (lv_at hl 2 rfl) ?_
    refine lv_icmp_ge (tgt := 91) hx hb dX3_setSix_85 (by decide) (fun hq => ?_) (fun hq => ?_)
    · have hf := gift hq hf
      exact w_X3_setSix_91 C hr hrec51 x0 x5 x6 x7 _ _ _ _ _ _ hf I (lv_sub hl [0, 1, 2, 3] rfl)
    · have hf := giff hq hf
      refine lv_goto (tgt := 128) hx hb dX3_setSix_88 (by decide) ?_
      refine lv_iinc (v := x7 + 1) (lv' := [(7, .int (x7 + 1)), (0, va_rf x0), (5, .int x5), (6, .int x6)]) hx hb dX3_setSix_128 hl (k := 3) rfl rfl (by decide) rfl (fun ls hl => ?_)
      refine lv_goto (tgt := 51) hx hb dX3_setSix_131 (by decide) ?_
      exact hrec51 x0 x5 x6 (x7 + 1) _ _ _ _ _ _ hf I (lv_sub hl [1, 2, 3, 0] rfl)
set_option maxHeartbeats 4000000 in
set_option maxRecDepth 100000 in
theorem w_X3_setSix_51 (C : gC G p s m args meth c cX3_setSix 8 RX3) (hr : meth.sig.returnType = none) {rec51 : Option Nat → Int32 → Int32 → Int32 → gM Unit} (hrec51 : ∀ (x0 : Option Nat) (x5 : Int32) (x6 : Int32) (x7 : Int32), gJ G p l e 5 107 mc ms s m args below meth c grv y 8 51 [(0, va_rf x0), (5, .int x5), (6, .int x6), (7, .int x7)] [] (rec51 x0 x5 x6 x7)) (x0 : Option Nat) (x5 : Int32) (x6 : Int32) (x7 : Int32) : gJ G p l e 5 107 mc ms s m args below meth c grv y 8 51 [(0, va_rf x0), (5, .int x5), (6, .int x6), (7, .int x7)] [] (f_X3_setSix_51 rec51 x0 x5 x6 x7) := by
  have hx := C.1
  have hb := C.2.1
  intro σ H locs cells slots ls hf I hl
  unfold f_X3_setSix_51 at hf
  refine lv_iload hx hb dX3_setSix_51 (lv_at hl 3 rfl) ?_
  refine lv_bipush (v := 8) hx hb dX3_setSix_53 kc_b_8 ?_
  refine lv_icmp_ge (tgt := 134) hx hb dX3_setSix_55 (by decide) (fun hq => ?_) (fun hq => ?_)
  · have hf := gift hq hf
    refine gw_aload_n hx hb dX3_setSix_134 rfl (lv_at hl 0 rfl) ?_
    refine gw_getr (k := 1) C I gcls_2 (by decide) rfl kw_19 dX3_setSix_135 hf (fun v1 hf => ?_)
    refine lv_bipush (v := 93) hx hb dX3_setSix_138 kc_b_93 ?_
    refine gw_callV (rest := []) C I hl.1 gcls_4 (m_X5_add G l v1 93) gl_RX3_49 gn_X5_add ⟨Nat.le_of_ble_eq_true rfl, Nat.le_of_ble_eq_true rfl⟩ rfl (gc4 (Nat.le_of_ble_eq_true rfl)) rfl dX3_setSix_140 hf (fun _ σ H locs cells slots I hf => ?_)
    refine W.eq (g2 := F0 m 143 ls []) rfl ?_
    exact gw_vret C I hr dX3_setSix_143 hf
  · have hf := giff hq hf
    refine lv_iload hx hb dX3_setSix_58 (lv_at hl 3 rfl) ?_
    refine lv_iload hx hb dX3_setSix_60 (lv_at hl 1 rfl) ?_
    refine lv_icmp_ne (tgt := 74) hx hb dX3_setSix_62 (by decide) (fun hq => ?_) (fun hq => ?_)
    · have hf := giff hq hf
      exact w_X3_setSix_74 C hr hrec51 x0 x5 x6 x7 _ _ _ _ _ _ hf I (lv_sub hl [0, 1, 2, 3] rfl)
    · have hf := gift hq hf
      refine gw_aload_n hx hb dX3_setSix_65 rfl (lv_at hl 0 rfl) ?_
      refine gw_getr (k := 1) C I gcls_2 (by decide) rfl kw_19 dX3_setSix_66 hf (fun v2 hf => ?_)
      refine gw_ldcs C 8 (tx := "::") rfl dX3_setSix_69 ?_
      refine gw_callV (rest := []) C I hl.1 gcls_4 (m_X5_addText G l v2 8) gl_RX3_62 gn_X5_addText ⟨Nat.le_of_ble_eq_true rfl, Nat.le_of_ble_eq_true rfl⟩ rfl (gc4 (Nat.le_of_ble_eq_true rfl)) rfl dX3_setSix_71 hf (fun _ σ H locs cells slots I hf => ?_)
      refine W.eq (g2 := F0 m 74 ls []) rfl ?_
      exact w_X3_setSix_74 C hr hrec51 x0 x5 x6 x7 _ _ _ _ _ _ hf I (lv_sub hl [0, 1, 2, 3] rfl)
theorem w_X3_setSix_L51 (C : gC G p s m args meth c cX3_setSix 8 RX3) (hr : meth.sig.returnType = none)  : ∀ (n : Nat) (x0 : Option Nat) (x5 : Int32) (x6 : Int32) (x7 : Int32), gJ G p l e 5 107 mc ms s m args below meth c grv y 8 51 [(0, va_rf x0), (5, .int x5), (6, .int x6), (7, .int x7)] [] (f_X3_setSix_L51  n x0 x5 x6 x7) := by
  intro n
  induction n with
  | zero => intro x0 x5 x6 x7 σ H locs cells slots ls hf; exact (gno_some hf).elim
  | succ n ih => intro x0 x5 x6 x7; exact w_X3_setSix_51 C hr  ih x0 x5 x6 x7
set_option maxHeartbeats 4000000 in
set_option maxRecDepth 100000 in
theorem w_X3_setSix_0 (C : gC G p s m args meth c cX3_setSix 8 RX3) (hr : meth.sig.returnType = none)  (a0 : Option Nat) (a1 : Int32) (a2 : Int32) (a3 : Int32) (a4 : Int32) : gJ G p l e 5 107 mc ms s m args below meth c grv y 8 0 [(0, va_rf a0), (1, .int a1), (2, .int a2), (3, .int a3), (4, .int a4)] [] (f_X3_setSix  a0 a1 a2 a3 a4) := by
  have hx := C.1
  have hb := C.2.1
  intro σ H locs cells slots ls hf I hl
  unfold f_X3_setSix at hf
  refine gw_aload_n hx hb dX3_setSix_0 rfl (lv_at hl 0 rfl) ?_
  refine gw_getr (k := 0) C I gcls_2 (by decide) rfl kw_14 dX3_setSix_1 hf (fun v1 hf => ?_)
  refine lv_bipush (v := 6) hx hb dX3_setSix_4 kc_b_6 ?_
  refine lv_iload_n hx hb dX3_setSix_6 rfl (lv_at hl 1 rfl) ?_
  refine lv_iload_n hx hb dX3_setSix_7 rfl (lv_at hl 2 rfl) ?_
  refine lv_iload_n hx hb dX3_setSix_8 rfl (lv_at hl 3 rfl) ?_
  refine lv_iload hx hb dX3_setSix_9 (lv_at hl 4 rfl) ?_
  refine gw_callV (rest := []) C I hl.1 gcls_0 (m_X0_setTo G l v1 6 a1 a2 a3 a4) gl_RX3_38 gn_X0_setTo ⟨Nat.le_of_ble_eq_true rfl, Nat.le_of_ble_eq_true rfl⟩ rfl (gc4 (Nat.le_of_ble_eq_true rfl)) rfl dX3_setSix_11 hf (fun _ σ H locs cells slots I hf => ?_)
  refine W.eq (g2 := F0 m 14 ls []) rfl ?_
  refine gw_aload_n hx hb dX3_setSix_14 rfl (lv_at hl 0 rfl) ?_
  refine gw_callV (rest := []) C I hl.1 gcls_2 (m_X3_firstLongestGap G l a0) gl_RX3_52 gn_X3_firstLongestGap ⟨Nat.le_of_ble_eq_true rfl, Nat.le_of_ble_eq_true rfl⟩ rfl (gc4 (Nat.le_of_ble_eq_true rfl)) rfl dX3_setSix_15 hf (fun v2 σ H locs cells slots I hf => ?_)
  refine W.eq (g2 := F0 m 18 ls [.int v2]) rfl ?_
  refine lv_istore (lv' := [(5, .int v2), (0, va_rf a0), (1, .int a1), (2, .int a2), (3, .int a3), (4, .int a4)]) hx hb dX3_setSix_18 hl (by decide) rfl (fun ls hl => ?_)
  refine lv_iload hx hb dX3_setSix_20 (lv_at hl 0 rfl) ?_
  refine gw_aload_n hx hb dX3_setSix_22 rfl (lv_at hl 1 rfl) ?_
  refine lv_iload hx hb dX3_setSix_23 (lv_at hl 0 rfl) ?_
  refine gw_callV (rest := [.int v2]) C I hl.1 gcls_2 (m_X3_zerosFrom G l a0 v2) gl_RX3_56 gn_X3_zerosFrom ⟨Nat.le_of_ble_eq_true rfl, Nat.le_of_ble_eq_true rfl⟩ rfl (gc4 (Nat.le_of_ble_eq_true rfl)) rfl dX3_setSix_25 hf (fun v3 σ H locs cells slots I hf => ?_)
  refine W.eq (g2 := F0 m 28 ls [.int v3, .int v2]) rfl ?_
  refine lv_iadd hx hb dX3_setSix_28 ?_
  refine lv_istore (lv' := [(6, .int (v2 + v3)), (5, .int v2), (0, va_rf a0), (1, .int a1), (2, .int a2), (3, .int a3), (4, .int a4)]) hx hb dX3_setSix_29 hl (by decide) rfl (fun ls hl => ?_)
  refine gw_aload_n hx hb dX3_setSix_31 rfl (lv_at hl 2 rfl) ?_
  refine gw_getr (k := 1) C I gcls_2 (by decide) rfl kw_19 dX3_setSix_32 hf (fun v4 hf => ?_)
  refine lv_iconst (v := 0) hx hb dX3_setSix_35 kc_i_0 ?_
  refine gw_callV (rest := []) C I hl.1 gcls_4 (m_X5_cutTo G l v4 0) gl_RX3_42 gn_X5_cutTo ⟨Nat.le_of_ble_eq_true rfl, Nat.le_of_ble_eq_true rfl⟩ rfl (gc4 (Nat.le_of_ble_eq_true rfl)) rfl dX3_setSix_36 hf (fun _ σ H locs cells slots I hf => ?_)
  refine W.eq (g2 := F0 m 39 ls []) rfl ?_
  refine gw_aload_n hx hb dX3_setSix_39 rfl (lv_at hl 2 rfl) ?_
  refine gw_getr (k := 1) C I gcls_2 (by decide) rfl kw_19 dX3_setSix_40 hf (fun v5 hf => ?_)
  refine lv_bipush (v := 91) hx hb dX3_setSix_43 kc_b_91 ?_
  refine gw_callV (rest := []) C I hl.1 gcls_4 (m_X5_add G l v5 91) gl_RX3_49 gn_X5_add ⟨Nat.le_of_ble_eq_true rfl, Nat.le_of_ble_eq_true rfl⟩ rfl (gc4 (Nat.le_of_ble_eq_true rfl)) rfl dX3_setSix_45 hf (fun _ σ H locs cells slots I hf => ?_)
  refine W.eq (g2 := F0 m 48 ls []) rfl ?_
  refine lv_iconst (v := 0) hx hb dX3_setSix_48 kc_i_0 ?_
  refine lv_istore (lv' := [(7, .int 0), (6, .int (v2 + v3)), (5, .int v2), (0, va_rf a0), (1, .int a1), (2, .int a2), (3, .int a3), (4, .int a4)]) hx hb dX3_setSix_49 hl (by decide) rfl (fun ls hl => ?_)
  exact w_X3_setSix_L51 C hr  _ a0 v2 (v2 + v3) 0 _ _ _ _ _ _ hf I (lv_sub hl [3, 2, 1, 0] rfl)
end S_X3_setSix
theorem m_X3_setSix (G : gX) (l : Launch) (a0 : Option Nat) (a1 : Int32) (a2 : Int32) (a3 : Int32) (a4 : Int32) : gMet G l yX3_setSix cX3_setSix 8 none 5 107 [va_rf a0, .int a1, .int a2, .int a3, .int a4] grv (f_X3_setSix a0 a1 a2 a3 a4) := by
  refine gMet_of (by decide) ?_
  intro σ y p e s m below meth c mc ms hf C hr hnm I
  obtain ⟨ls, e1, hl⟩ := gentry m [va_rf a0, .int a1, .int a2, .int a3, .int a4] 8 [(0, va_rf a0), (1, .int a1), (2, .int a2), (3, .int a3), (4, .int a4)] (by simp [lg_sl, grc, gcat_i, gcat_l]) (by simp [lv_args, grc, gcat_i, gcat_l])
  rw [e1]
  exact w_X3_setSix_0 C hr a0 a1 a2 a3 a4 _ _ _ _ _ _ hf I hl
def f_X4_readSix_100  (x0 : Option Nat) (x4 : Option Nat) (x7 : Int32) : gM Int32 := gb (nn 3 x0) fun _ => gb (f_X4_spread x0 x7) fun _ => gb (nn 3 x0) fun _ => gb (f_X4_wordAt x0 0) fun v1 => gb (nn 3 x0) fun _ => gb (f_X4_wordAt x0 2) fun v2 => gb (nn 3 x0) fun _ => gb (f_X4_wordAt x0 4) fun v3 => gb (nn 3 x0) fun _ => gb (f_X4_wordAt x0 6) fun v4 => gb (nn 2 x4) fun _ => gb (f_X3_setSix x4 v1 v2 v3 v4) fun _ => gp 0
def f_X4_readSix_71  (x0 : Option Nat) (x4 : Option Nat) (x6 : Int32) (x7 : Int32) : gM Int32 := if x6 = 0 then (gb (rI 3 2 x0) fun v1 => if v1 ≤ 7 then (f_X4_readSix_100  x0 x4 x7) else (gp (-16))) else (gb (rI 3 2 x0) fun v2 => if v2 = 8 then (f_X4_readSix_100  x0 x4 x7) else (gp (-16)))
def f_X4_readSix_20  (x0 : Option Nat) (x1 : Option Nat) (x2 : Int32) (x3 : Int32) (x4 : Option Nat) (x5 : Int32) (s0 : Int32) : gM Int32 := gb (wI 3 2 x0 0) fun _ => gb (nn 3 x0) fun _ => gb (f_X4_readPieces x0 x1 x2 x5 s0) fun v1 => if v1 = 0 then (gp (-16)) else (gb (rI 3 2 x0) fun v2 => if s0 = 0 then (gb (nn 3 x0) fun _ => gb (f_X4_readPieces x0 x1 (x5 + 2) x3 1) fun v3 => if v3 = 0 then (gp (-16)) else (f_X4_readSix_71  x0 x4 s0 v2)) else (f_X4_readSix_71  x0 x4 s0 v2))
def f_X4_readSix  (a0 : Option Nat) (a1 : Option Nat) (a2 : Int32) (a3 : Int32) (a4 : Option Nat) : gM Int32 := gb (nn 3 a0) fun _ => gb (f_X4_findGap a0 a1 a2 a3) fun v1 => if v1 = a3 then (f_X4_readSix_20  a0 a1 a2 a3 a4 v1 1) else (f_X4_readSix_20  a0 a1 a2 a3 a4 v1 0)
section S_X4_readSix
variable {G : gX} {p : Program} {l : Launch} {e : Env} {s : State} {m : MethodId} {args : Array Value} {below : List Frame} {meth : Method} {c : Code} {mc ms : Nat} {y : Int32 × gS}
set_option maxHeartbeats 4000000 in
set_option maxRecDepth 100000 in
theorem w_X4_readSix_100 (C : gC G p s m args meth c cX4_readSix 8 RX4) (hr : meth.sig.returnType = (some .int))  (x0 : Option Nat) (x4 : Option Nat) (x7 : Int32) : gJ G p l e 6 134 mc ms s m args below meth c gri y 8 100 [(0, va_rf x0), (4, va_rf x4), (7, .int x7)] [] (f_X4_readSix_100  x0 x4 x7) := by
  have hx := C.1
  have hb := C.2.1
  intro σ H locs cells slots ls hf I hl
  unfold f_X4_readSix_100 at hf
  refine gw_aload_n hx hb dX4_readSix_100 rfl (lv_at hl 0 rfl) ?_
  refine lv_iload hx hb dX4_readSix_101 (lv_at hl 2 rfl) ?_
  refine gw_callV (rest := []) C I hl.1 gcls_3 (m_X4_spread G l x0 x7) gl_RX4_129 gn_X4_spread ⟨Nat.le_of_ble_eq_true rfl, Nat.le_of_ble_eq_true rfl⟩ rfl (gc4 (Nat.le_of_ble_eq_true rfl)) rfl dX4_readSix_103 hf (fun _ σ H locs cells slots I hf => ?_)
  refine W.eq (g2 := F0 m 106 ls []) rfl ?_
  refine gw_aload hx hb dX4_readSix_106 (lv_at hl 1 rfl) ?_
  refine gw_aload_n hx hb dX4_readSix_108 rfl (lv_at hl 0 rfl) ?_
  refine lv_iconst (v := 0) hx hb dX4_readSix_109 kc_i_0 ?_
  refine gw_callV (rest := [va_rf x4]) C I hl.1 gcls_3 (m_X4_wordAt G l x0 0) gl_RX4_132 gn_X4_wordAt ⟨Nat.le_of_ble_eq_true rfl, Nat.le_of_ble_eq_true rfl⟩ rfl (gc4 (Nat.le_of_ble_eq_true rfl)) rfl dX4_readSix_110 hf (fun v1 σ H locs cells slots I hf => ?_)
  refine W.eq (g2 := F0 m 113 ls [.int v1, va_rf x4]) rfl ?_
  refine gw_aload_n hx hb dX4_readSix_113 rfl (lv_at hl 0 rfl) ?_
  refine lv_iconst (v := 2) hx hb dX4_readSix_114 kc_i_2 ?_
  refine gw_callV (rest := [.int v1, va_rf x4]) C I hl.1 gcls_3 (m_X4_wordAt G l x0 2) gl_RX4_132 gn_X4_wordAt ⟨Nat.le_of_ble_eq_true rfl, Nat.le_of_ble_eq_true rfl⟩ rfl (gc4 (Nat.le_of_ble_eq_true rfl)) rfl dX4_readSix_115 hf (fun v2 σ H locs cells slots I hf => ?_)
  refine W.eq (g2 := F0 m 118 ls [.int v2, .int v1, va_rf x4]) rfl ?_
  refine gw_aload_n hx hb dX4_readSix_118 rfl (lv_at hl 0 rfl) ?_
  refine lv_iconst (v := 4) hx hb dX4_readSix_119 kc_i_4 ?_
  refine gw_callV (rest := [.int v2, .int v1, va_rf x4]) C I hl.1 gcls_3 (m_X4_wordAt G l x0 4) gl_RX4_132 gn_X4_wordAt ⟨Nat.le_of_ble_eq_true rfl, Nat.le_of_ble_eq_true rfl⟩ rfl (gc4 (Nat.le_of_ble_eq_true rfl)) rfl dX4_readSix_120 hf (fun v3 σ H locs cells slots I hf => ?_)
  refine W.eq (g2 := F0 m 123 ls [.int v3, .int v2, .int v1, va_rf x4]) rfl ?_
  refine gw_aload_n hx hb dX4_readSix_123 rfl (lv_at hl 0 rfl) ?_
  refine lv_bipush (v := 6) hx hb dX4_readSix_124 kc_b_6 ?_
  refine gw_callV (rest := [.int v3, .int v2, .int v1, va_rf x4]) C I hl.1 gcls_3 (m_X4_wordAt G l x0 6) gl_RX4_132 gn_X4_wordAt ⟨Nat.le_of_ble_eq_true rfl, Nat.le_of_ble_eq_true rfl⟩ rfl (gc4 (Nat.le_of_ble_eq_true rfl)) rfl dX4_readSix_126 hf (fun v4 σ H locs cells slots I hf => ?_)
  refine W.eq (g2 := F0 m 129 ls [.int v4, .int v3, .int v2, .int v1, va_rf x4]) rfl ?_
  refine gw_callV (rest := []) C I hl.1 gcls_2 (m_X3_setSix G l x4 v1 v2 v3 v4) gl_RX4_135 gn_X3_setSix ⟨Nat.le_of_ble_eq_true rfl, Nat.le_of_ble_eq_true rfl⟩ rfl (gc4 (Nat.le_of_ble_eq_true rfl)) rfl dX4_readSix_129 hf (fun _ σ H locs cells slots I hf => ?_)
  refine W.eq (g2 := F0 m 132 ls []) rfl ?_
  refine lv_iconst (v := 0) hx hb dX4_readSix_132 kc_i_0 ?_
  exact gw_iret C I hr dX4_readSix_133 hf
set_option maxHeartbeats 4000000 in
set_option maxRecDepth 100000 in
theorem w_X4_readSix_71 (C : gC G p s m args meth c cX4_readSix 8 RX4) (hr : meth.sig.returnType = (some .int))  (x0 : Option Nat) (x4 : Option Nat) (x6 : Int32) (x7 : Int32) : gJ G p l e 6 134 mc ms s m args below meth c gri y 8 71 [(0, va_rf x0), (4, va_rf x4), (6, .int x6), (7, .int x7)] [] (f_X4_readSix_71  x0 x4 x6 x7) := by
  have hx := C.1
  have hb := C.2.1
  intro σ H locs cells slots ls hf I hl
  unfold f_X4_readSix_71 at hf
  refine lv_iload hx hb dX4_readSix_71 (lv_at hl 2 rfl) ?_
  refine lv_if_eq (tgt := 88) hx hb dX4_readSix_73 (by decide) (fun hq => ?_) (fun hq => ?_)
  · have hf := gift hq hf
    refine gw_aload_n hx hb dX4_readSix_88 rfl (lv_at hl 0 rfl) ?_
    refine gw_geti (k := 2) C I gcls_3 (by decide) rfl kw_24 dX4_readSix_89 hf (fun v1 hf => ?_)
    refine lv_bipush (v := 7) hx hb dX4_readSix_92 kc_b_7 ?_
    refine lv_icmp_le (tgt := 100) hx hb dX4_readSix_94 (by decide) (fun hq => ?_) (fun hq => ?_)
    · have hf := gift hq hf
      exact w_X4_readSix_100 C hr  x0 x4 x7 _ _ _ _ _ _ hf I (lv_sub hl [0, 1, 3] rfl)
    · have hf := giff hq hf
      refine lv_bipush (v := (-16)) hx hb dX4_readSix_97 kc_b_m16 ?_
      exact gw_iret C I hr dX4_readSix_99 hf
  · have hf := giff hq hf
    refine gw_aload_n hx hb dX4_readSix_76 rfl (lv_at hl 0 rfl) ?_
    refine gw_geti (k := 2) C I gcls_3 (by decide) rfl kw_24 dX4_readSix_77 hf (fun v2 hf => ?_)
    refine lv_bipush (v := 8) hx hb dX4_readSix_80 kc_b_8 ?_
    refine lv_icmp_eq (tgt := 100) hx hb dX4_readSix_82 (by decide) (fun hq => ?_) (fun hq => ?_)
    · have hf := gift hq hf
      exact w_X4_readSix_100 C hr  x0 x4 x7 _ _ _ _ _ _ hf I (lv_sub hl [0, 1, 3] rfl)
    · have hf := giff hq hf
      refine lv_goto (tgt := 97) hx hb dX4_readSix_85 (by decide) ?_
      refine lv_bipush (v := (-16)) hx hb dX4_readSix_97 kc_b_m16 ?_
      exact gw_iret C I hr dX4_readSix_99 hf
set_option maxHeartbeats 4000000 in
set_option maxRecDepth 100000 in
theorem w_X4_readSix_20 (C : gC G p s m args meth c cX4_readSix 8 RX4) (hr : meth.sig.returnType = (some .int))  (x0 : Option Nat) (x1 : Option Nat) (x2 : Int32) (x3 : Int32) (x4 : Option Nat) (x5 : Int32) (s0 : Int32) : gJ G p l e 6 134 mc ms s m args below meth c gri y 8 20 [(0, va_rf x0), (1, va_rf x1), (2, .int x2), (3, .int x3), (4, va_rf x4), (5, .int x5)] [.int s0] (f_X4_readSix_20  x0 x1 x2 x3 x4 x5 s0) := by
  have hx := C.1
  have hb := C.2.1
  intro σ H locs cells slots ls hf I hl
  unfold f_X4_readSix_20 at hf
  refine lv_istore (lv' := [(6, .int s0), (0, va_rf x0), (1, va_rf x1), (2, .int x2), (3, .int x3), (4, va_rf x4), (5, .int x5)]) hx hb dX4_readSix_20 hl (by decide) rfl (fun ls hl => ?_)
  refine gw_aload_n hx hb dX4_readSix_22 rfl (lv_at hl 1 rfl) ?_
  refine lv_iconst (v := 0) hx hb dX4_readSix_23 kc_i_0 ?_
  refine gw_puti (k := 2) C I gcls_3 (by decide) rfl kw_24 (Or.inl rfl) (by decide +kernel) dX4_readSix_24 hf (fun σ H locs I hf => ?_)
  refine gw_aload_n hx hb dX4_readSix_27 rfl (lv_at hl 1 rfl) ?_
  refine gw_aload_n hx hb dX4_readSix_28 rfl (lv_at hl 2 rfl) ?_
  refine lv_iload_n hx hb dX4_readSix_29 rfl (lv_at hl 3 rfl) ?_
  refine lv_iload hx hb dX4_readSix_30 (lv_at hl 6 rfl) ?_
  refine lv_iload hx hb dX4_readSix_32 (lv_at hl 0 rfl) ?_
  refine gw_callV (rest := []) C I hl.1 gcls_3 (m_X4_readPieces G l x0 x1 x2 x5 s0) gl_RX4_125 gn_X4_readPieces ⟨Nat.le_of_ble_eq_true rfl, Nat.le_of_ble_eq_true rfl⟩ rfl (gc4 (Nat.le_of_ble_eq_true rfl)) rfl dX4_readSix_34 hf (fun v1 σ H locs cells slots I hf => ?_)
  refine W.eq (g2 := F0 m 37 ls [.int v1]) rfl ?_
  refine lv_if_ne (tgt := 43) hx hb dX4_readSix_37 (by decide) (fun hq => ?_) (fun hq => ?_)
  · have hf := giff hq hf
    refine gw_aload_n hx hb dX4_readSix_43 rfl (lv_at hl 1 rfl) ?_
    refine gw_geti (k := 2) C I gcls_3 (by decide) rfl kw_24 dX4_readSix_44 hf (fun v2 hf => ?_)
    refine lv_istore (lv' := [(7, .int v2), (6, .int s0), (0, va_rf x0), (1, va_rf x1), (2, .int x2), (3, .int x3), (4, va_rf x4), (5, .int x5)]) hx hb dX4_readSix_47 hl (by decide) rfl (fun ls hl => ?_)
    refine lv_iload hx hb dX4_readSix_49 (lv_at hl 1 rfl) ?_
    refine lv_if_ne (tgt := 71) hx hb dX4_readSix_51 (by decide) (fun hq => ?_) (fun hq => ?_)
    · have hf := giff hq hf
      exact w_X4_readSix_71 C hr  x0 x4 s0 v2 _ _ _ _ _ _ hf I (lv_sub hl [2, 6, 1, 0] rfl)
    · have hf := gift hq hf
      refine gw_aload_n hx hb dX4_readSix_54 rfl (lv_at hl 2 rfl) ?_
      refine gw_aload_n hx hb dX4_readSix_55 rfl (lv_at hl 3 rfl) ?_
      refine lv_iload hx hb dX4_readSix_56 (lv_at hl 7 rfl) ?_
      refine lv_iconst (v := 2) hx hb dX4_readSix_58 kc_i_2 ?_
      refine lv_iadd hx hb dX4_readSix_59 ?_
      refine lv_iload_n hx hb dX4_readSix_60 rfl (lv_at hl 5 rfl) ?_
      refine lv_iconst (v := 1) hx hb dX4_readSix_61 kc_i_1 ?_
      refine gw_callV (rest := []) C I hl.1 gcls_3 (m_X4_readPieces G l x0 x1 (x5 + 2) x3 1) gl_RX4_125 gn_X4_readPieces ⟨Nat.le_of_ble_eq_true rfl, Nat.le_of_ble_eq_true rfl⟩ rfl (gc4 (Nat.le_of_ble_eq_true rfl)) rfl dX4_readSix_62 hf (fun v3 σ H locs cells slots I hf => ?_)
      refine W.eq (g2 := F0 m 65 ls [.int v3]) rfl ?_
      refine lv_if_ne (tgt := 71) hx hb dX4_readSix_65 (by decide) (fun hq => ?_) (fun hq => ?_)
      · have hf := giff hq hf
        exact w_X4_readSix_71 C hr  x0 x4 s0 v2 _ _ _ _ _ _ hf I (lv_sub hl [2, 6, 1, 0] rfl)
      · have hf := gift hq hf
        refine lv_bipush (v := (-16)) hx hb dX4_readSix_68 kc_b_m16 ?_
        exact gw_iret C I hr dX4_readSix_70 hf
  · have hf := gift hq hf
    refine lv_bipush (v := (-16)) hx hb dX4_readSix_40 kc_b_m16 ?_
    exact gw_iret C I hr dX4_readSix_42 hf
set_option maxHeartbeats 4000000 in
set_option maxRecDepth 100000 in
theorem w_X4_readSix_0 (C : gC G p s m args meth c cX4_readSix 8 RX4) (hr : meth.sig.returnType = (some .int))  (a0 : Option Nat) (a1 : Option Nat) (a2 : Int32) (a3 : Int32) (a4 : Option Nat) : gJ G p l e 6 134 mc ms s m args below meth c gri y 8 0 [(0, va_rf a0), (1, va_rf a1), (2, .int a2), (3, .int a3), (4, va_rf a4)] [] (f_X4_readSix  a0 a1 a2 a3 a4) := by
  have hx := C.1
  have hb := C.2.1
  intro σ H locs cells slots ls hf I hl
  unfold f_X4_readSix at hf
  refine gw_aload_n hx hb dX4_readSix_0 rfl (lv_at hl 0 rfl) ?_
  refine gw_aload_n hx hb dX4_readSix_1 rfl (lv_at hl 1 rfl) ?_
  refine lv_iload_n hx hb dX4_readSix_2 rfl (lv_at hl 2 rfl) ?_
  refine lv_iload_n hx hb dX4_readSix_3 rfl (lv_at hl 3 rfl) ?_
  refine gw_callV (rest := []) C I hl.1 gcls_3 (m_X4_findGap G l a0 a1 a2 a3) gl_RX4_121 gn_X4_findGap ⟨Nat.le_of_ble_eq_true rfl, Nat.le_of_ble_eq_true rfl⟩ rfl (gc4 (Nat.le_of_ble_eq_true rfl)) rfl dX4_readSix_4 hf (fun v1 σ H locs cells slots I hf => ?_)
  refine W.eq (g2 := F0 m 7 ls [.int v1]) rfl ?_
  refine lv_istore (lv' := [(5, .int v1), (0, va_rf a0), (1, va_rf a1), (2, .int a2), (3, .int a3), (4, va_rf a4)]) hx hb dX4_readSix_7 hl (by decide) (by cases a4 <;> rfl) (fun ls hl => ?_)
  refine lv_iload hx hb dX4_readSix_9 (lv_at hl 0 rfl) ?_
  refine lv_iload_n hx hb dX4_readSix_11 rfl (lv_at hl 4 rfl) ?_
  refine lv_icmp_ne (tgt := 19) hx hb dX4_readSix_12 (by decide) (fun hq => ?_) (fun hq => ?_)
  · have hf := giff hq hf
    refine lv_iconst (v := 0) hx hb dX4_readSix_19 kc_i_0 ?_
    exact w_X4_readSix_20 C hr  a0 a1 a2 a3 a4 v1 0 _ _ _ _ _ _ hf I (lv_sub hl [1, 2, 3, 4, 5, 0] rfl)
  · have hf := gift hq hf
    refine lv_iconst (v := 1) hx hb dX4_readSix_15 kc_i_1 ?_
    refine lv_goto (tgt := 20) hx hb dX4_readSix_16 (by decide) ?_
    exact w_X4_readSix_20 C hr  a0 a1 a2 a3 a4 v1 1 _ _ _ _ _ _ hf I (lv_sub hl [1, 2, 3, 4, 5, 0] rfl)
end S_X4_readSix
theorem m_X4_readSix (G : gX) (l : Launch) (a0 : Option Nat) (a1 : Option Nat) (a2 : Int32) (a3 : Int32) (a4 : Option Nat) : gMet G l yX4_readSix cX4_readSix 8 (some .int) 6 134 [va_rf a0, va_rf a1, .int a2, .int a3, va_rf a4] gri (f_X4_readSix a0 a1 a2 a3 a4) := by
  refine gMet_of (by decide) ?_
  intro σ y p e s m below meth c mc ms hf C hr hnm I
  obtain ⟨ls, e1, hl⟩ := gentry m [va_rf a0, va_rf a1, .int a2, .int a3, va_rf a4] 8 [(0, va_rf a0), (1, va_rf a1), (2, .int a2), (3, .int a3), (4, va_rf a4)] (by simp [lg_sl, grc, gcat_i, gcat_l]) (by simp [lv_args, grc, gcat_i, gcat_l])
  rw [e1]
  exact w_X4_readSix_0 C hr a0 a1 a2 a3 a4 _ _ _ _ _ _ hf I hl
