theorem dX9_isWrongByte_0 : decode cX9_isWrongByte 0 = .ok (.iload_n 0, 1) := by decide +kernel
theorem dX9_isWrongByte_1 : decode cX9_isWrongByte 1 = .ok (.bipush 32, 2) := by decide +kernel
theorem dX9_isWrongByte_3 : decode cX9_isWrongByte 3 = .ok (.if_icmp .le 87, 3) := by decide +kernel
theorem dX9_isWrongByte_6 : decode cX9_isWrongByte 6 = .ok (.iload_n 0, 1) := by decide +kernel
theorem dX9_isWrongByte_7 : decode cX9_isWrongByte 7 = .ok (.bipush 127, 2) := by decide +kernel
theorem dX9_isWrongByte_9 : decode cX9_isWrongByte 9 = .ok (.if_icmp .ge 81, 3) := by decide +kernel
theorem dX9_isWrongByte_12 : decode cX9_isWrongByte 12 = .ok (.iload_n 0, 1) := by decide +kernel
theorem dX9_isWrongByte_13 : decode cX9_isWrongByte 13 = .ok (.bipush 35, 2) := by decide +kernel
theorem dX9_isWrongByte_15 : decode cX9_isWrongByte 15 = .ok (.if_icmp .eq 75, 3) := by decide +kernel
theorem dX9_isWrongByte_18 : decode cX9_isWrongByte 18 = .ok (.iload_n 0, 1) := by decide +kernel
theorem dX9_isWrongByte_19 : decode cX9_isWrongByte 19 = .ok (.bipush 37, 2) := by decide +kernel
theorem dX9_isWrongByte_21 : decode cX9_isWrongByte 21 = .ok (.if_icmp .eq 69, 3) := by decide +kernel
theorem dX9_isWrongByte_24 : decode cX9_isWrongByte 24 = .ok (.iload_n 0, 1) := by decide +kernel
theorem dX9_isWrongByte_25 : decode cX9_isWrongByte 25 = .ok (.bipush 47, 2) := by decide +kernel
theorem dX9_isWrongByte_27 : decode cX9_isWrongByte 27 = .ok (.if_icmp .eq 63, 3) := by decide +kernel
theorem dX9_isWrongByte_30 : decode cX9_isWrongByte 30 = .ok (.iload_n 0, 1) := by decide +kernel
theorem dX9_isWrongByte_31 : decode cX9_isWrongByte 31 = .ok (.bipush 58, 2) := by decide +kernel
theorem dX9_isWrongByte_33 : decode cX9_isWrongByte 33 = .ok (.if_icmp .eq 57, 3) := by decide +kernel
theorem dX9_isWrongByte_36 : decode cX9_isWrongByte 36 = .ok (.iload_n 0, 1) := by decide +kernel
theorem dX9_isWrongByte_37 : decode cX9_isWrongByte 37 = .ok (.bipush 60, 2) := by decide +kernel
theorem dX9_isWrongByte_39 : decode cX9_isWrongByte 39 = .ok (.if_icmp .eq 51, 3) := by decide +kernel
theorem dX9_isWrongByte_42 : decode cX9_isWrongByte 42 = .ok (.iload_n 0, 1) := by decide +kernel
theorem dX9_isWrongByte_43 : decode cX9_isWrongByte 43 = .ok (.bipush 62, 2) := by decide +kernel
theorem dX9_isWrongByte_45 : decode cX9_isWrongByte 45 = .ok (.if_icmp .eq 45, 3) := by decide +kernel
theorem dX9_isWrongByte_48 : decode cX9_isWrongByte 48 = .ok (.iload_n 0, 1) := by decide +kernel
theorem dX9_isWrongByte_49 : decode cX9_isWrongByte 49 = .ok (.bipush 63, 2) := by decide +kernel
theorem dX9_isWrongByte_51 : decode cX9_isWrongByte 51 = .ok (.if_icmp .eq 39, 3) := by decide +kernel
theorem dX9_isWrongByte_54 : decode cX9_isWrongByte 54 = .ok (.iload_n 0, 1) := by decide +kernel
theorem dX9_isWrongByte_55 : decode cX9_isWrongByte 55 = .ok (.bipush 64, 2) := by decide +kernel
theorem dX9_isWrongByte_57 : decode cX9_isWrongByte 57 = .ok (.if_icmp .eq 33, 3) := by decide +kernel
theorem dX9_isWrongByte_60 : decode cX9_isWrongByte 60 = .ok (.iload_n 0, 1) := by decide +kernel
theorem dX9_isWrongByte_61 : decode cX9_isWrongByte 61 = .ok (.bipush 91, 2) := by decide +kernel
theorem dX9_isWrongByte_63 : decode cX9_isWrongByte 63 = .ok (.if_icmp .eq 27, 3) := by decide +kernel
theorem dX9_isWrongByte_66 : decode cX9_isWrongByte 66 = .ok (.iload_n 0, 1) := by decide +kernel
theorem dX9_isWrongByte_67 : decode cX9_isWrongByte 67 = .ok (.bipush 92, 2) := by decide +kernel
theorem dX9_isWrongByte_69 : decode cX9_isWrongByte 69 = .ok (.if_icmp .eq 21, 3) := by decide +kernel
theorem dX9_isWrongByte_72 : decode cX9_isWrongByte 72 = .ok (.iload_n 0, 1) := by decide +kernel
theorem dX9_isWrongByte_73 : decode cX9_isWrongByte 73 = .ok (.bipush 93, 2) := by decide +kernel
theorem dX9_isWrongByte_75 : decode cX9_isWrongByte 75 = .ok (.if_icmp .eq 15, 3) := by decide +kernel
theorem dX9_isWrongByte_78 : decode cX9_isWrongByte 78 = .ok (.iload_n 0, 1) := by decide +kernel
theorem dX9_isWrongByte_79 : decode cX9_isWrongByte 79 = .ok (.bipush 94, 2) := by decide +kernel
theorem dX9_isWrongByte_81 : decode cX9_isWrongByte 81 = .ok (.if_icmp .eq 9, 3) := by decide +kernel
theorem dX9_isWrongByte_84 : decode cX9_isWrongByte 84 = .ok (.iload_n 0, 1) := by decide +kernel
theorem dX9_isWrongByte_85 : decode cX9_isWrongByte 85 = .ok (.bipush 124, 2) := by decide +kernel
theorem dX9_isWrongByte_87 : decode cX9_isWrongByte 87 = .ok (.if_icmp .ne 7, 3) := by decide +kernel
theorem dX9_isWrongByte_90 : decode cX9_isWrongByte 90 = .ok (.iconst 1, 1) := by decide +kernel
theorem dX9_isWrongByte_91 : decode cX9_isWrongByte 91 = .ok (.goto 4, 3) := by decide +kernel
theorem dX9_isWrongByte_94 : decode cX9_isWrongByte 94 = .ok (.iconst 0, 1) := by decide +kernel
theorem dX9_isWrongByte_95 : decode cX9_isWrongByte 95 = .ok (.ireturn, 1) := by decide +kernel
theorem dX9_numberOf_0 : decode cX9_numberOf 0 = .ok (.bipush 10, 2) := by decide +kernel
theorem dX9_numberOf_2 : decode cX9_numberOf 2 = .ok (.istore_n 3, 1) := by decide +kernel
theorem dX9_numberOf_3 : decode cX9_numberOf 3 = .ok (.iload_n 1, 1) := by decide +kernel
theorem dX9_numberOf_4 : decode cX9_numberOf 4 = .ok (.istore 4, 2) := by decide +kernel
theorem dX9_numberOf_6 : decode cX9_numberOf 6 = .ok (.iload_n 2, 1) := by decide +kernel
theorem dX9_numberOf_7 : decode cX9_numberOf 7 = .ok (.iload_n 1, 1) := by decide +kernel
theorem dX9_numberOf_8 : decode cX9_numberOf 8 = .ok (.isub, 1) := by decide +kernel
theorem dX9_numberOf_9 : decode cX9_numberOf 9 = .ok (.iconst 2, 1) := by decide +kernel
theorem dX9_numberOf_10 : decode cX9_numberOf 10 = .ok (.if_icmp .lt 38, 3) := by decide +kernel
theorem dX9_numberOf_13 : decode cX9_numberOf 13 = .ok (.aload_n 0, 1) := by decide +kernel
theorem dX9_numberOf_14 : decode cX9_numberOf 14 = .ok (.getfield 46, 3) := by decide +kernel
theorem dX9_numberOf_17 : decode cX9_numberOf 17 = .ok (.iload_n 1, 1) := by decide +kernel
theorem dX9_numberOf_18 : decode cX9_numberOf 18 = .ok (.baload, 1) := by decide +kernel
theorem dX9_numberOf_19 : decode cX9_numberOf 19 = .ok (.bipush 48, 2) := by decide +kernel
theorem dX9_numberOf_21 : decode cX9_numberOf 21 = .ok (.if_icmp .ne 27, 3) := by decide +kernel
theorem dX9_numberOf_24 : decode cX9_numberOf 24 = .ok (.aload_n 0, 1) := by decide +kernel
theorem dX9_numberOf_25 : decode cX9_numberOf 25 = .ok (.getfield 46, 3) := by decide +kernel
theorem dX9_numberOf_28 : decode cX9_numberOf 28 = .ok (.iload_n 1, 1) := by decide +kernel
theorem dX9_numberOf_29 : decode cX9_numberOf 29 = .ok (.iconst 1, 1) := by decide +kernel
theorem dX9_numberOf_30 : decode cX9_numberOf 30 = .ok (.iadd, 1) := by decide +kernel
theorem dX9_numberOf_31 : decode cX9_numberOf 31 = .ok (.baload, 1) := by decide +kernel
theorem dX9_numberOf_32 : decode cX9_numberOf 32 = .ok (.bipush 120, 2) := by decide +kernel
theorem dX9_numberOf_34 : decode cX9_numberOf 34 = .ok (.if_icmp .ne 14, 3) := by decide +kernel
theorem dX9_numberOf_37 : decode cX9_numberOf 37 = .ok (.bipush 16, 2) := by decide +kernel
theorem dX9_numberOf_39 : decode cX9_numberOf 39 = .ok (.istore_n 3, 1) := by decide +kernel
theorem dX9_numberOf_40 : decode cX9_numberOf 40 = .ok (.iload_n 1, 1) := by decide +kernel
theorem dX9_numberOf_41 : decode cX9_numberOf 41 = .ok (.iconst 2, 1) := by decide +kernel
theorem dX9_numberOf_42 : decode cX9_numberOf 42 = .ok (.iadd, 1) := by decide +kernel
theorem dX9_numberOf_43 : decode cX9_numberOf 43 = .ok (.istore 4, 2) := by decide +kernel
theorem dX9_numberOf_45 : decode cX9_numberOf 45 = .ok (.goto 34, 3) := by decide +kernel
theorem dX9_numberOf_48 : decode cX9_numberOf 48 = .ok (.iload_n 2, 1) := by decide +kernel
theorem dX9_numberOf_49 : decode cX9_numberOf 49 = .ok (.iload_n 1, 1) := by decide +kernel
theorem dX9_numberOf_50 : decode cX9_numberOf 50 = .ok (.if_icmp .le 20, 3) := by decide +kernel
theorem dX9_numberOf_53 : decode cX9_numberOf 53 = .ok (.aload_n 0, 1) := by decide +kernel
theorem dX9_numberOf_54 : decode cX9_numberOf 54 = .ok (.getfield 46, 3) := by decide +kernel
theorem dX9_numberOf_57 : decode cX9_numberOf 57 = .ok (.iload_n 1, 1) := by decide +kernel
theorem dX9_numberOf_58 : decode cX9_numberOf 58 = .ok (.baload, 1) := by decide +kernel
theorem dX9_numberOf_59 : decode cX9_numberOf 59 = .ok (.bipush 48, 2) := by decide +kernel
theorem dX9_numberOf_61 : decode cX9_numberOf 61 = .ok (.if_icmp .ne 9, 3) := by decide +kernel
theorem dX9_numberOf_64 : decode cX9_numberOf 64 = .ok (.bipush 8, 2) := by decide +kernel
theorem dX9_numberOf_66 : decode cX9_numberOf 66 = .ok (.istore_n 3, 1) := by decide +kernel
theorem dX9_numberOf_67 : decode cX9_numberOf 67 = .ok (.goto 12, 3) := by decide +kernel
theorem dX9_numberOf_70 : decode cX9_numberOf 70 = .ok (.iload_n 2, 1) := by decide +kernel
theorem dX9_numberOf_71 : decode cX9_numberOf 71 = .ok (.iload_n 1, 1) := by decide +kernel
theorem dX9_numberOf_72 : decode cX9_numberOf 72 = .ok (.if_icmp .ne 7, 3) := by decide +kernel
theorem dX9_numberOf_75 : decode cX9_numberOf 75 = .ok (.ldc2_w 253, 3) := by decide +kernel
theorem dX9_numberOf_78 : decode cX9_numberOf 78 = .ok (.lreturn, 1) := by decide +kernel
theorem dX9_numberOf_79 : decode cX9_numberOf 79 = .ok (.lconst 0, 1) := by decide +kernel
theorem dX9_numberOf_80 : decode cX9_numberOf 80 = .ok (.lstore 5, 2) := by decide +kernel
theorem dX9_numberOf_82 : decode cX9_numberOf 82 = .ok (.iload 4, 2) := by decide +kernel
theorem dX9_numberOf_84 : decode cX9_numberOf 84 = .ok (.iload_n 2, 1) := by decide +kernel
theorem dX9_numberOf_85 : decode cX9_numberOf 85 = .ok (.if_icmp .ge 53, 3) := by decide +kernel
theorem dX9_numberOf_88 : decode cX9_numberOf 88 = .ok (.aload_n 0, 1) := by decide +kernel
theorem dX9_numberOf_89 : decode cX9_numberOf 89 = .ok (.getfield 46, 3) := by decide +kernel
theorem dX9_numberOf_92 : decode cX9_numberOf 92 = .ok (.iload 4, 2) := by decide +kernel
theorem dX9_numberOf_94 : decode cX9_numberOf 94 = .ok (.baload, 1) := by decide +kernel
theorem dX9_numberOf_95 : decode cX9_numberOf 95 = .ok (.invokestatic 237, 3) := by decide +kernel
theorem dX9_numberOf_98 : decode cX9_numberOf 98 = .ok (.istore 7, 2) := by decide +kernel
theorem dX9_numberOf_100 : decode cX9_numberOf 100 = .ok (.iload 7, 2) := by decide +kernel
theorem dX9_numberOf_102 : decode cX9_numberOf 102 = .ok (.ifCond .lt 9, 3) := by decide +kernel
theorem dX9_numberOf_105 : decode cX9_numberOf 105 = .ok (.iload 7, 2) := by decide +kernel
theorem dX9_numberOf_107 : decode cX9_numberOf 107 = .ok (.iload_n 3, 1) := by decide +kernel
theorem dX9_numberOf_108 : decode cX9_numberOf 108 = .ok (.if_icmp .lt 7, 3) := by decide +kernel
theorem dX9_numberOf_111 : decode cX9_numberOf 111 = .ok (.ldc2_w 253, 3) := by decide +kernel
theorem dX9_numberOf_114 : decode cX9_numberOf 114 = .ok (.lreturn, 1) := by decide +kernel
theorem dX9_numberOf_115 : decode cX9_numberOf 115 = .ok (.ldc2_w 255, 3) := by decide +kernel
theorem dX9_numberOf_118 : decode cX9_numberOf 118 = .ok (.lload 5, 2) := by decide +kernel
theorem dX9_numberOf_120 : decode cX9_numberOf 120 = .ok (.iload_n 3, 1) := by decide +kernel
theorem dX9_numberOf_121 : decode cX9_numberOf 121 = .ok (.i2l, 1) := by decide +kernel
theorem dX9_numberOf_122 : decode cX9_numberOf 122 = .ok (.lmul, 1) := by decide +kernel
theorem dX9_numberOf_123 : decode cX9_numberOf 123 = .ok (.iload 7, 2) := by decide +kernel
theorem dX9_numberOf_125 : decode cX9_numberOf 125 = .ok (.i2l, 1) := by decide +kernel
theorem dX9_numberOf_126 : decode cX9_numberOf 126 = .ok (.ladd, 1) := by decide +kernel
theorem dX9_numberOf_127 : decode cX9_numberOf 127 = .ok (.invokestatic 257, 3) := by decide +kernel
theorem dX9_numberOf_130 : decode cX9_numberOf 130 = .ok (.lstore 5, 2) := by decide +kernel
theorem dX9_numberOf_132 : decode cX9_numberOf 132 = .ok (.iinc 4 1, 3) := by decide +kernel
theorem dX9_numberOf_135 : decode cX9_numberOf 135 = .ok (.goto (-53), 3) := by decide +kernel
theorem dX9_numberOf_138 : decode cX9_numberOf 138 = .ok (.lload 5, 2) := by decide +kernel
theorem dX9_numberOf_140 : decode cX9_numberOf 140 = .ok (.lreturn, 1) := by decide +kernel
theorem dX9_readFour_0 : decode cX9_readFour 0 = .ok (.aload_n 0, 1) := by decide +kernel
theorem dX9_readFour_1 : decode cX9_readFour 1 = .ok (.getfield 217, 3) := by decide +kernel
theorem dX9_readFour_4 : decode cX9_readFour 4 = .ok (.istore_n 1, 1) := by decide +kernel
theorem dX9_readFour_5 : decode cX9_readFour 5 = .ok (.iload_n 1, 1) := by decide +kernel
theorem dX9_readFour_6 : decode cX9_readFour 6 = .ok (.iconst 1, 1) := by decide +kernel
theorem dX9_readFour_7 : decode cX9_readFour 7 = .ok (.if_icmp .le 19, 3) := by decide +kernel
theorem dX9_readFour_10 : decode cX9_readFour 10 = .ok (.aload_n 0, 1) := by decide +kernel
theorem dX9_readFour_11 : decode cX9_readFour 11 = .ok (.getfield 46, 3) := by decide +kernel
theorem dX9_readFour_14 : decode cX9_readFour 14 = .ok (.iload_n 1, 1) := by decide +kernel
theorem dX9_readFour_15 : decode cX9_readFour 15 = .ok (.iconst 1, 1) := by decide +kernel
theorem dX9_readFour_16 : decode cX9_readFour 16 = .ok (.isub, 1) := by decide +kernel
theorem dX9_readFour_17 : decode cX9_readFour 17 = .ok (.baload, 1) := by decide +kernel
theorem dX9_readFour_18 : decode cX9_readFour 18 = .ok (.bipush 46, 2) := by decide +kernel
theorem dX9_readFour_20 : decode cX9_readFour 20 = .ok (.if_icmp .ne 6, 3) := by decide +kernel
theorem dX9_readFour_23 : decode cX9_readFour 23 = .ok (.iinc 1 (-1), 3) := by decide +kernel
theorem dX9_readFour_26 : decode cX9_readFour 26 = .ok (.iload_n 1, 1) := by decide +kernel
theorem dX9_readFour_27 : decode cX9_readFour 27 = .ok (.istore_n 2, 1) := by decide +kernel
theorem dX9_readFour_28 : decode cX9_readFour 28 = .ok (.iload_n 2, 1) := by decide +kernel
theorem dX9_readFour_29 : decode cX9_readFour 29 = .ok (.ifCond .le 22, 3) := by decide +kernel
theorem dX9_readFour_32 : decode cX9_readFour 32 = .ok (.aload_n 0, 1) := by decide +kernel
theorem dX9_readFour_33 : decode cX9_readFour 33 = .ok (.getfield 46, 3) := by decide +kernel
theorem dX9_readFour_36 : decode cX9_readFour 36 = .ok (.iload_n 2, 1) := by decide +kernel
theorem dX9_readFour_37 : decode cX9_readFour 37 = .ok (.iconst 1, 1) := by decide +kernel
theorem dX9_readFour_38 : decode cX9_readFour 38 = .ok (.isub, 1) := by decide +kernel
theorem dX9_readFour_39 : decode cX9_readFour 39 = .ok (.baload, 1) := by decide +kernel
theorem dX9_readFour_40 : decode cX9_readFour 40 = .ok (.bipush 46, 2) := by decide +kernel
theorem dX9_readFour_42 : decode cX9_readFour 42 = .ok (.if_icmp .eq 9, 3) := by decide +kernel
theorem dX9_readFour_45 : decode cX9_readFour 45 = .ok (.iinc 2 (-1), 3) := by decide +kernel
theorem dX9_readFour_48 : decode cX9_readFour 48 = .ok (.goto (-20), 3) := by decide +kernel
theorem dX9_readFour_51 : decode cX9_readFour 51 = .ok (.iload_n 2, 1) := by decide +kernel
theorem dX9_readFour_52 : decode cX9_readFour 52 = .ok (.iload_n 1, 1) := by decide +kernel
theorem dX9_readFour_53 : decode cX9_readFour 53 = .ok (.if_icmp .ge 7, 3) := by decide +kernel
theorem dX9_readFour_56 : decode cX9_readFour 56 = .ok (.iconst 1, 1) := by decide +kernel
theorem dX9_readFour_57 : decode cX9_readFour 57 = .ok (.goto 4, 3) := by decide +kernel
theorem dX9_readFour_60 : decode cX9_readFour 60 = .ok (.iconst 0, 1) := by decide +kernel
theorem dX9_readFour_61 : decode cX9_readFour 61 = .ok (.istore_n 3, 1) := by decide +kernel
theorem dX9_readFour_62 : decode cX9_readFour 62 = .ok (.iload_n 2, 1) := by decide +kernel
theorem dX9_readFour_63 : decode cX9_readFour 63 = .ok (.istore 4, 2) := by decide +kernel
theorem dX9_readFour_65 : decode cX9_readFour 65 = .ok (.iload 4, 2) := by decide +kernel
theorem dX9_readFour_67 : decode cX9_readFour 67 = .ok (.iload_n 1, 1) := by decide +kernel
theorem dX9_readFour_68 : decode cX9_readFour 68 = .ok (.if_icmp .ge 32, 3) := by decide +kernel
theorem dX9_readFour_71 : decode cX9_readFour 71 = .ok (.iload_n 3, 1) := by decide +kernel
theorem dX9_readFour_72 : decode cX9_readFour 72 = .ok (.ifCond .eq 20, 3) := by decide +kernel
theorem dX9_readFour_75 : decode cX9_readFour 75 = .ok (.aload_n 0, 1) := by decide +kernel
theorem dX9_readFour_76 : decode cX9_readFour 76 = .ok (.getfield 46, 3) := by decide +kernel
theorem dX9_readFour_79 : decode cX9_readFour 79 = .ok (.iload 4, 2) := by decide +kernel
theorem dX9_readFour_81 : decode cX9_readFour 81 = .ok (.baload, 1) := by decide +kernel
theorem dX9_readFour_82 : decode cX9_readFour 82 = .ok (.invokestatic 95, 3) := by decide +kernel
theorem dX9_readFour_85 : decode cX9_readFour 85 = .ok (.ifCond .eq 7, 3) := by decide +kernel
theorem dX9_readFour_88 : decode cX9_readFour 88 = .ok (.iconst 1, 1) := by decide +kernel
theorem dX9_readFour_89 : decode cX9_readFour 89 = .ok (.goto 4, 3) := by decide +kernel
theorem dX9_readFour_92 : decode cX9_readFour 92 = .ok (.iconst 0, 1) := by decide +kernel
theorem dX9_readFour_93 : decode cX9_readFour 93 = .ok (.istore_n 3, 1) := by decide +kernel
theorem dX9_readFour_94 : decode cX9_readFour 94 = .ok (.iinc 4 1, 3) := by decide +kernel
theorem dX9_readFour_97 : decode cX9_readFour 97 = .ok (.goto (-32), 3) := by decide +kernel
theorem dX9_readFour_100 : decode cX9_readFour 100 = .ok (.iload_n 1, 1) := by decide +kernel
theorem dX9_readFour_101 : decode cX9_readFour 101 = .ok (.iload_n 2, 1) := by decide +kernel
theorem dX9_readFour_102 : decode cX9_readFour 102 = .ok (.isub, 1) := by decide +kernel
theorem dX9_readFour_103 : decode cX9_readFour 103 = .ok (.iconst 2, 1) := by decide +kernel
theorem dX9_readFour_104 : decode cX9_readFour 104 = .ok (.if_icmp .lt 31, 3) := by decide +kernel
theorem dX9_readFour_107 : decode cX9_readFour 107 = .ok (.aload_n 0, 1) := by decide +kernel
theorem dX9_readFour_108 : decode cX9_readFour 108 = .ok (.getfield 46, 3) := by decide +kernel
theorem dX9_readFour_111 : decode cX9_readFour 111 = .ok (.iload_n 2, 1) := by decide +kernel
theorem dX9_readFour_112 : decode cX9_readFour 112 = .ok (.baload, 1) := by decide +kernel
theorem dX9_readFour_113 : decode cX9_readFour 113 = .ok (.bipush 48, 2) := by decide +kernel
theorem dX9_readFour_115 : decode cX9_readFour 115 = .ok (.if_icmp .ne 20, 3) := by decide +kernel
theorem dX9_readFour_118 : decode cX9_readFour 118 = .ok (.aload_n 0, 1) := by decide +kernel
theorem dX9_readFour_119 : decode cX9_readFour 119 = .ok (.getfield 46, 3) := by decide +kernel
theorem dX9_readFour_122 : decode cX9_readFour 122 = .ok (.iload_n 2, 1) := by decide +kernel
theorem dX9_readFour_123 : decode cX9_readFour 123 = .ok (.iconst 1, 1) := by decide +kernel
theorem dX9_readFour_124 : decode cX9_readFour 124 = .ok (.iadd, 1) := by decide +kernel
theorem dX9_readFour_125 : decode cX9_readFour 125 = .ok (.baload, 1) := by decide +kernel
theorem dX9_readFour_126 : decode cX9_readFour 126 = .ok (.bipush 120, 2) := by decide +kernel
theorem dX9_readFour_128 : decode cX9_readFour 128 = .ok (.if_icmp .ne 7, 3) := by decide +kernel
theorem dX9_readFour_131 : decode cX9_readFour 131 = .ok (.iconst 1, 1) := by decide +kernel
theorem dX9_readFour_132 : decode cX9_readFour 132 = .ok (.goto 4, 3) := by decide +kernel
theorem dX9_readFour_135 : decode cX9_readFour 135 = .ok (.iconst 0, 1) := by decide +kernel
theorem dX9_readFour_136 : decode cX9_readFour 136 = .ok (.istore 4, 2) := by decide +kernel
theorem dX9_readFour_138 : decode cX9_readFour 138 = .ok (.iload_n 2, 1) := by decide +kernel
theorem dX9_readFour_139 : decode cX9_readFour 139 = .ok (.iconst 2, 1) := by decide +kernel
theorem dX9_readFour_140 : decode cX9_readFour 140 = .ok (.iadd, 1) := by decide +kernel
theorem dX9_readFour_141 : decode cX9_readFour 141 = .ok (.istore 5, 2) := by decide +kernel
theorem dX9_readFour_143 : decode cX9_readFour 143 = .ok (.iload 5, 2) := by decide +kernel
theorem dX9_readFour_145 : decode cX9_readFour 145 = .ok (.iload_n 1, 1) := by decide +kernel
theorem dX9_readFour_146 : decode cX9_readFour 146 = .ok (.if_icmp .ge 34, 3) := by decide +kernel
theorem dX9_readFour_149 : decode cX9_readFour 149 = .ok (.iload 4, 2) := by decide +kernel
theorem dX9_readFour_151 : decode cX9_readFour 151 = .ok (.ifCond .eq 20, 3) := by decide +kernel
theorem dX9_readFour_154 : decode cX9_readFour 154 = .ok (.aload_n 0, 1) := by decide +kernel
theorem dX9_readFour_155 : decode cX9_readFour 155 = .ok (.getfield 46, 3) := by decide +kernel
theorem dX9_readFour_158 : decode cX9_readFour 158 = .ok (.iload 5, 2) := by decide +kernel
theorem dX9_readFour_160 : decode cX9_readFour 160 = .ok (.baload, 1) := by decide +kernel
theorem dX9_readFour_161 : decode cX9_readFour 161 = .ok (.invokestatic 237, 3) := by decide +kernel
theorem dX9_readFour_164 : decode cX9_readFour 164 = .ok (.ifCond .lt 7, 3) := by decide +kernel
theorem dX9_readFour_167 : decode cX9_readFour 167 = .ok (.iconst 1, 1) := by decide +kernel
theorem dX9_readFour_168 : decode cX9_readFour 168 = .ok (.goto 4, 3) := by decide +kernel
theorem dX9_readFour_171 : decode cX9_readFour 171 = .ok (.iconst 0, 1) := by decide +kernel
theorem dX9_readFour_172 : decode cX9_readFour 172 = .ok (.istore 4, 2) := by decide +kernel
theorem dX9_readFour_174 : decode cX9_readFour 174 = .ok (.iinc 5 1, 3) := by decide +kernel
theorem dX9_readFour_177 : decode cX9_readFour 177 = .ok (.goto (-34), 3) := by decide +kernel
theorem dX9_readFour_180 : decode cX9_readFour 180 = .ok (.iload_n 3, 1) := by decide +kernel
theorem dX9_readFour_181 : decode cX9_readFour 181 = .ok (.ifCond .ne 10, 3) := by decide +kernel
theorem dX9_readFour_184 : decode cX9_readFour 184 = .ok (.iload 4, 2) := by decide +kernel
theorem dX9_readFour_186 : decode cX9_readFour 186 = .ok (.ifCond .ne 5, 3) := by decide +kernel
theorem dX9_readFour_189 : decode cX9_readFour 189 = .ok (.iconst 0, 1) := by decide +kernel
theorem dX9_readFour_190 : decode cX9_readFour 190 = .ok (.ireturn, 1) := by decide +kernel
theorem dX9_readFour_191 : decode cX9_readFour 191 = .ok (.iconst 1, 1) := by decide +kernel
theorem dX9_readFour_192 : decode cX9_readFour 192 = .ok (.istore 5, 2) := by decide +kernel
theorem dX9_readFour_194 : decode cX9_readFour 194 = .ok (.iconst 0, 1) := by decide +kernel
theorem dX9_readFour_195 : decode cX9_readFour 195 = .ok (.istore 6, 2) := by decide +kernel
theorem dX9_readFour_197 : decode cX9_readFour 197 = .ok (.iload 6, 2) := by decide +kernel
theorem dX9_readFour_199 : decode cX9_readFour 199 = .ok (.iload_n 1, 1) := by decide +kernel
theorem dX9_readFour_200 : decode cX9_readFour 200 = .ok (.if_icmp .ge 32, 3) := by decide +kernel
theorem dX9_readFour_203 : decode cX9_readFour 203 = .ok (.aload_n 0, 1) := by decide +kernel
theorem dX9_readFour_204 : decode cX9_readFour 204 = .ok (.getfield 46, 3) := by decide +kernel
theorem dX9_readFour_207 : decode cX9_readFour 207 = .ok (.iload 6, 2) := by decide +kernel
theorem dX9_readFour_209 : decode cX9_readFour 209 = .ok (.baload, 1) := by decide +kernel
theorem dX9_readFour_210 : decode cX9_readFour 210 = .ok (.bipush 46, 2) := by decide +kernel
theorem dX9_readFour_212 : decode cX9_readFour 212 = .ok (.if_icmp .ne 10, 3) := by decide +kernel
theorem dX9_readFour_215 : decode cX9_readFour 215 = .ok (.iload 5, 2) := by decide +kernel
theorem dX9_readFour_217 : decode cX9_readFour 217 = .ok (.iconst 1, 1) := by decide +kernel
theorem dX9_readFour_218 : decode cX9_readFour 218 = .ok (.iadd, 1) := by decide +kernel
theorem dX9_readFour_219 : decode cX9_readFour 219 = .ok (.goto 5, 3) := by decide +kernel
theorem dX9_readFour_222 : decode cX9_readFour 222 = .ok (.iload 5, 2) := by decide +kernel
theorem dX9_readFour_224 : decode cX9_readFour 224 = .ok (.istore 5, 2) := by decide +kernel
theorem dX9_readFour_226 : decode cX9_readFour 226 = .ok (.iinc 6 1, 3) := by decide +kernel
theorem dX9_readFour_229 : decode cX9_readFour 229 = .ok (.goto (-32), 3) := by decide +kernel
theorem dX9_readFour_232 : decode cX9_readFour 232 = .ok (.iload 5, 2) := by decide +kernel
theorem dX9_readFour_234 : decode cX9_readFour 234 = .ok (.iconst 4, 1) := by decide +kernel
theorem dX9_readFour_235 : decode cX9_readFour 235 = .ok (.if_icmp .le 6, 3) := by decide +kernel
theorem dX9_readFour_238 : decode cX9_readFour 238 = .ok (.bipush (-15), 2) := by decide +kernel
theorem dX9_readFour_240 : decode cX9_readFour 240 = .ok (.ireturn, 1) := by decide +kernel
theorem dX9_readFour_241 : decode cX9_readFour 241 = .ok (.lconst 0, 1) := by decide +kernel
theorem dX9_readFour_242 : decode cX9_readFour 242 = .ok (.lstore 6, 2) := by decide +kernel
theorem dX9_readFour_244 : decode cX9_readFour 244 = .ok (.iconst 0, 1) := by decide +kernel
theorem dX9_readFour_245 : decode cX9_readFour 245 = .ok (.istore 8, 2) := by decide +kernel
theorem dX9_readFour_247 : decode cX9_readFour 247 = .ok (.iconst 0, 1) := by decide +kernel
theorem dX9_readFour_248 : decode cX9_readFour 248 = .ok (.istore 9, 2) := by decide +kernel
theorem dX9_readFour_250 : decode cX9_readFour 250 = .ok (.iload 9, 2) := by decide +kernel
theorem dX9_readFour_252 : decode cX9_readFour 252 = .ok (.iload 5, 2) := by decide +kernel
theorem dX9_readFour_254 : decode cX9_readFour 254 = .ok (.if_icmp .ge 126, 3) := by decide +kernel
theorem dX9_readFour_257 : decode cX9_readFour 257 = .ok (.iload 8, 2) := by decide +kernel
theorem dX9_readFour_259 : decode cX9_readFour 259 = .ok (.istore 10, 2) := by decide +kernel
theorem dX9_readFour_261 : decode cX9_readFour 261 = .ok (.iload 10, 2) := by decide +kernel
theorem dX9_readFour_263 : decode cX9_readFour 263 = .ok (.iload_n 1, 1) := by decide +kernel
theorem dX9_readFour_264 : decode cX9_readFour 264 = .ok (.if_icmp .ge 21, 3) := by decide +kernel
theorem dX9_readFour_267 : decode cX9_readFour 267 = .ok (.aload_n 0, 1) := by decide +kernel
theorem dX9_readFour_268 : decode cX9_readFour 268 = .ok (.getfield 46, 3) := by decide +kernel
theorem dX9_readFour_271 : decode cX9_readFour 271 = .ok (.iload 10, 2) := by decide +kernel
theorem dX9_readFour_273 : decode cX9_readFour 273 = .ok (.baload, 1) := by decide +kernel
theorem dX9_readFour_274 : decode cX9_readFour 274 = .ok (.bipush 46, 2) := by decide +kernel
theorem dX9_readFour_276 : decode cX9_readFour 276 = .ok (.if_icmp .eq 9, 3) := by decide +kernel
theorem dX9_readFour_279 : decode cX9_readFour 279 = .ok (.iinc 10 1, 3) := by decide +kernel
theorem dX9_readFour_282 : decode cX9_readFour 282 = .ok (.goto (-21), 3) := by decide +kernel
theorem dX9_readFour_285 : decode cX9_readFour 285 = .ok (.aload_n 0, 1) := by decide +kernel
theorem dX9_readFour_286 : decode cX9_readFour 286 = .ok (.iload 8, 2) := by decide +kernel
theorem dX9_readFour_288 : decode cX9_readFour 288 = .ok (.iload 10, 2) := by decide +kernel
theorem dX9_readFour_290 : decode cX9_readFour 290 = .ok (.invokevirtual 247, 3) := by decide +kernel
theorem dX9_readFour_293 : decode cX9_readFour 293 = .ok (.lstore 11, 2) := by decide +kernel
theorem dX9_readFour_295 : decode cX9_readFour 295 = .ok (.iload 9, 2) := by decide +kernel
theorem dX9_readFour_297 : decode cX9_readFour 297 = .ok (.iconst 1, 1) := by decide +kernel
theorem dX9_readFour_298 : decode cX9_readFour 298 = .ok (.iadd, 1) := by decide +kernel
theorem dX9_readFour_299 : decode cX9_readFour 299 = .ok (.iload 5, 2) := by decide +kernel
theorem dX9_readFour_301 : decode cX9_readFour 301 = .ok (.if_icmp .ge 9, 3) := by decide +kernel
theorem dX9_readFour_304 : decode cX9_readFour 304 = .ok (.ldc2_w 251, 3) := by decide +kernel
theorem dX9_readFour_307 : decode cX9_readFour 307 = .ok (.goto 12, 3) := by decide +kernel
theorem dX9_readFour_310 : decode cX9_readFour 310 = .ok (.lconst 1, 1) := by decide +kernel
theorem dX9_readFour_311 : decode cX9_readFour 311 = .ok (.bipush 8, 2) := by decide +kernel
theorem dX9_readFour_313 : decode cX9_readFour 313 = .ok (.iconst 5, 1) := by decide +kernel
theorem dX9_readFour_314 : decode cX9_readFour 314 = .ok (.iload 5, 2) := by decide +kernel
theorem dX9_readFour_316 : decode cX9_readFour 316 = .ok (.isub, 1) := by decide +kernel
theorem dX9_readFour_317 : decode cX9_readFour 317 = .ok (.imul, 1) := by decide +kernel
theorem dX9_readFour_318 : decode cX9_readFour 318 = .ok (.lshl, 1) := by decide +kernel
theorem dX9_readFour_319 : decode cX9_readFour 319 = .ok (.lstore 13, 2) := by decide +kernel
theorem dX9_readFour_321 : decode cX9_readFour 321 = .ok (.lload 11, 2) := by decide +kernel
theorem dX9_readFour_323 : decode cX9_readFour 323 = .ok (.lconst 0, 1) := by decide +kernel
theorem dX9_readFour_324 : decode cX9_readFour 324 = .ok (.lcmp, 1) := by decide +kernel
theorem dX9_readFour_325 : decode cX9_readFour 325 = .ok (.ifCond .lt 11, 3) := by decide +kernel
theorem dX9_readFour_328 : decode cX9_readFour 328 = .ok (.lload 11, 2) := by decide +kernel
theorem dX9_readFour_330 : decode cX9_readFour 330 = .ok (.lload 13, 2) := by decide +kernel
theorem dX9_readFour_332 : decode cX9_readFour 332 = .ok (.lcmp, 1) := by decide +kernel
theorem dX9_readFour_333 : decode cX9_readFour 333 = .ok (.ifCond .lt 6, 3) := by decide +kernel
theorem dX9_readFour_336 : decode cX9_readFour 336 = .ok (.bipush (-15), 2) := by decide +kernel
theorem dX9_readFour_338 : decode cX9_readFour 338 = .ok (.ireturn, 1) := by decide +kernel
theorem dX9_readFour_339 : decode cX9_readFour 339 = .ok (.lload 6, 2) := by decide +kernel
theorem dX9_readFour_341 : decode cX9_readFour 341 = .ok (.iload 9, 2) := by decide +kernel
theorem dX9_readFour_343 : decode cX9_readFour 343 = .ok (.iconst 1, 1) := by decide +kernel
theorem dX9_readFour_344 : decode cX9_readFour 344 = .ok (.iadd, 1) := by decide +kernel
theorem dX9_readFour_345 : decode cX9_readFour 345 = .ok (.iload 5, 2) := by decide +kernel
theorem dX9_readFour_347 : decode cX9_readFour 347 = .ok (.if_icmp .ge 16, 3) := by decide +kernel
theorem dX9_readFour_350 : decode cX9_readFour 350 = .ok (.lload 11, 2) := by decide +kernel
theorem dX9_readFour_352 : decode cX9_readFour 352 = .ok (.bipush 8, 2) := by decide +kernel
theorem dX9_readFour_354 : decode cX9_readFour 354 = .ok (.iconst 3, 1) := by decide +kernel
theorem dX9_readFour_355 : decode cX9_readFour 355 = .ok (.iload 9, 2) := by decide +kernel
theorem dX9_readFour_357 : decode cX9_readFour 357 = .ok (.isub, 1) := by decide +kernel
theorem dX9_readFour_358 : decode cX9_readFour 358 = .ok (.imul, 1) := by decide +kernel
theorem dX9_readFour_359 : decode cX9_readFour 359 = .ok (.lshl, 1) := by decide +kernel
theorem dX9_readFour_360 : decode cX9_readFour 360 = .ok (.goto 5, 3) := by decide +kernel
theorem dX9_readFour_363 : decode cX9_readFour 363 = .ok (.lload 11, 2) := by decide +kernel
theorem dX9_readFour_365 : decode cX9_readFour 365 = .ok (.ladd, 1) := by decide +kernel
theorem dX9_readFour_366 : decode cX9_readFour 366 = .ok (.lstore 6, 2) := by decide +kernel
theorem dX9_readFour_368 : decode cX9_readFour 368 = .ok (.iload 10, 2) := by decide +kernel
theorem dX9_readFour_370 : decode cX9_readFour 370 = .ok (.iconst 1, 1) := by decide +kernel
theorem dX9_readFour_371 : decode cX9_readFour 371 = .ok (.iadd, 1) := by decide +kernel
theorem dX9_readFour_372 : decode cX9_readFour 372 = .ok (.istore 8, 2) := by decide +kernel
theorem dX9_readFour_374 : decode cX9_readFour 374 = .ok (.iinc 9 1, 3) := by decide +kernel
theorem dX9_readFour_377 : decode cX9_readFour 377 = .ok (.goto (-127), 3) := by decide +kernel
theorem dX9_readFour_380 : decode cX9_readFour 380 = .ok (.aload_n 0, 1) := by decide +kernel
theorem dX9_readFour_381 : decode cX9_readFour 381 = .ok (.iconst 4, 1) := by decide +kernel
theorem dX9_readFour_382 : decode cX9_readFour 382 = .ok (.putfield 214, 3) := by decide +kernel
theorem dX9_readFour_385 : decode cX9_readFour 385 = .ok (.aload_n 0, 1) := by decide +kernel
theorem dX9_readFour_386 : decode cX9_readFour 386 = .ok (.getfield 49, 3) := by decide +kernel
theorem dX9_readFour_389 : decode cX9_readFour 389 = .ok (.iconst 0, 1) := by decide +kernel
theorem dX9_readFour_390 : decode cX9_readFour 390 = .ok (.lload 6, 2) := by decide +kernel
theorem dX9_readFour_392 : decode cX9_readFour 392 = .ok (.l2i, 1) := by decide +kernel
theorem dX9_readFour_393 : decode cX9_readFour 393 = .ok (.iastore, 1) := by decide +kernel
theorem dX9_readFour_394 : decode cX9_readFour 394 = .ok (.iconst 0, 1) := by decide +kernel
theorem dX9_readFour_395 : decode cX9_readFour 395 = .ok (.ireturn, 1) := by decide +kernel
theorem dX9_readHost_0 : decode cX9_readHost 0 = .ok (.iconst 0, 1) := by decide +kernel
theorem dX9_readHost_1 : decode cX9_readHost 1 = .ok (.istore_n 3, 1) := by decide +kernel
theorem dX9_readHost_2 : decode cX9_readHost 2 = .ok (.iload_n 3, 1) := by decide +kernel
theorem dX9_readHost_3 : decode cX9_readHost 3 = .ok (.bipush 8, 2) := by decide +kernel
theorem dX9_readHost_5 : decode cX9_readHost 5 = .ok (.if_icmp .ge 16, 3) := by decide +kernel
theorem dX9_readHost_8 : decode cX9_readHost 8 = .ok (.aload_n 0, 1) := by decide +kernel
theorem dX9_readHost_9 : decode cX9_readHost 9 = .ok (.getfield 49, 3) := by decide +kernel
theorem dX9_readHost_12 : decode cX9_readHost 12 = .ok (.iload_n 3, 1) := by decide +kernel
theorem dX9_readHost_13 : decode cX9_readHost 13 = .ok (.iconst 0, 1) := by decide +kernel
theorem dX9_readHost_14 : decode cX9_readHost 14 = .ok (.iastore, 1) := by decide +kernel
theorem dX9_readHost_15 : decode cX9_readHost 15 = .ok (.iinc 3 1, 3) := by decide +kernel
theorem dX9_readHost_18 : decode cX9_readHost 18 = .ok (.goto (-16), 3) := by decide +kernel
theorem dX9_readHost_21 : decode cX9_readHost 21 = .ok (.aload_n 0, 1) := by decide +kernel
theorem dX9_readHost_22 : decode cX9_readHost 22 = .ok (.iconst 0, 1) := by decide +kernel
theorem dX9_readHost_23 : decode cX9_readHost 23 = .ok (.putfield 217, 3) := by decide +kernel
theorem dX9_readHost_26 : decode cX9_readHost 26 = .ok (.iload_n 1, 1) := by decide +kernel
theorem dX9_readHost_27 : decode cX9_readHost 27 = .ok (.iload_n 2, 1) := by decide +kernel
theorem dX9_readHost_28 : decode cX9_readHost 28 = .ok (.if_icmp .ge 56, 3) := by decide +kernel
theorem dX9_readHost_31 : decode cX9_readHost 31 = .ok (.aload_n 0, 1) := by decide +kernel
theorem dX9_readHost_32 : decode cX9_readHost 32 = .ok (.getfield 43, 3) := by decide +kernel
theorem dX9_readHost_35 : decode cX9_readHost 35 = .ok (.iload_n 1, 1) := by decide +kernel
theorem dX9_readHost_36 : decode cX9_readHost 36 = .ok (.baload, 1) := by decide +kernel
theorem dX9_readHost_37 : decode cX9_readHost 37 = .ok (.bipush 91, 2) := by decide +kernel
theorem dX9_readHost_39 : decode cX9_readHost 39 = .ok (.if_icmp .ne 45, 3) := by decide +kernel
theorem dX9_readHost_42 : decode cX9_readHost 42 = .ok (.aload_n 0, 1) := by decide +kernel
theorem dX9_readHost_43 : decode cX9_readHost 43 = .ok (.bipush 6, 2) := by decide +kernel
theorem dX9_readHost_45 : decode cX9_readHost 45 = .ok (.putfield 214, 3) := by decide +kernel
theorem dX9_readHost_48 : decode cX9_readHost 48 = .ok (.aload_n 0, 1) := by decide +kernel
theorem dX9_readHost_49 : decode cX9_readHost 49 = .ok (.getfield 43, 3) := by decide +kernel
theorem dX9_readHost_52 : decode cX9_readHost 52 = .ok (.iload_n 2, 1) := by decide +kernel
theorem dX9_readHost_53 : decode cX9_readHost 53 = .ok (.iconst 1, 1) := by decide +kernel
theorem dX9_readHost_54 : decode cX9_readHost 54 = .ok (.isub, 1) := by decide +kernel
theorem dX9_readHost_55 : decode cX9_readHost 55 = .ok (.baload, 1) := by decide +kernel
theorem dX9_readHost_56 : decode cX9_readHost 56 = .ok (.bipush 93, 2) := by decide +kernel
theorem dX9_readHost_58 : decode cX9_readHost 58 = .ok (.if_icmp .ne 23, 3) := by decide +kernel
theorem dX9_readHost_61 : decode cX9_readHost 61 = .ok (.iload_n 2, 1) := by decide +kernel
theorem dX9_readHost_62 : decode cX9_readHost 62 = .ok (.iload_n 1, 1) := by decide +kernel
theorem dX9_readHost_63 : decode cX9_readHost 63 = .ok (.isub, 1) := by decide +kernel
theorem dX9_readHost_64 : decode cX9_readHost 64 = .ok (.iconst 1, 1) := by decide +kernel
theorem dX9_readHost_65 : decode cX9_readHost 65 = .ok (.if_icmp .le 16, 3) := by decide +kernel
theorem dX9_readHost_68 : decode cX9_readHost 68 = .ok (.aload_n 0, 1) := by decide +kernel
theorem dX9_readHost_69 : decode cX9_readHost 69 = .ok (.iload_n 1, 1) := by decide +kernel
theorem dX9_readHost_70 : decode cX9_readHost 70 = .ok (.iconst 1, 1) := by decide +kernel
theorem dX9_readHost_71 : decode cX9_readHost 71 = .ok (.iadd, 1) := by decide +kernel
theorem dX9_readHost_72 : decode cX9_readHost 72 = .ok (.iload_n 2, 1) := by decide +kernel
theorem dX9_readHost_73 : decode cX9_readHost 73 = .ok (.iconst 1, 1) := by decide +kernel
theorem dX9_readHost_74 : decode cX9_readHost 74 = .ok (.isub, 1) := by decide +kernel
theorem dX9_readHost_75 : decode cX9_readHost 75 = .ok (.invokevirtual 234, 3) := by decide +kernel
theorem dX9_readHost_78 : decode cX9_readHost 78 = .ok (.goto 5, 3) := by decide +kernel
theorem dX9_readHost_81 : decode cX9_readHost 81 = .ok (.bipush (-16), 2) := by decide +kernel
theorem dX9_readHost_83 : decode cX9_readHost 83 = .ok (.ireturn, 1) := by decide +kernel
theorem dX9_readHost_84 : decode cX9_readHost 84 = .ok (.aload_n 0, 1) := by decide +kernel
theorem dX9_readHost_85 : decode cX9_readHost 85 = .ok (.iconst 0, 1) := by decide +kernel
theorem dX9_readHost_86 : decode cX9_readHost 86 = .ok (.putfield 214, 3) := by decide +kernel
theorem dX9_readHost_89 : decode cX9_readHost 89 = .ok (.iload_n 1, 1) := by decide +kernel
theorem dX9_readHost_90 : decode cX9_readHost 90 = .ok (.istore_n 3, 1) := by decide +kernel
theorem dX9_readHost_91 : decode cX9_readHost 91 = .ok (.iload_n 3, 1) := by decide +kernel
theorem dX9_readHost_92 : decode cX9_readHost 92 = .ok (.iload_n 2, 1) := by decide +kernel
theorem dX9_readHost_93 : decode cX9_readHost 93 = .ok (.if_icmp .ge 152, 3) := by decide +kernel
theorem dX9_readHost_96 : decode cX9_readHost 96 = .ok (.aload_n 0, 1) := by decide +kernel
theorem dX9_readHost_97 : decode cX9_readHost 97 = .ok (.getfield 43, 3) := by decide +kernel
theorem dX9_readHost_100 : decode cX9_readHost 100 = .ok (.iload_n 3, 1) := by decide +kernel
theorem dX9_readHost_101 : decode cX9_readHost 101 = .ok (.baload, 1) := by decide +kernel
theorem dX9_readHost_102 : decode cX9_readHost 102 = .ok (.sipush 255, 3) := by decide +kernel
theorem dX9_readHost_105 : decode cX9_readHost 105 = .ok (.iand, 1) := by decide +kernel
theorem dX9_readHost_106 : decode cX9_readHost 106 = .ok (.istore 4, 2) := by decide +kernel
theorem dX9_readHost_108 : decode cX9_readHost 108 = .ok (.iload 4, 2) := by decide +kernel
theorem dX9_readHost_110 : decode cX9_readHost 110 = .ok (.bipush 37, 2) := by decide +kernel
theorem dX9_readHost_112 : decode cX9_readHost 112 = .ok (.if_icmp .ne 50, 3) := by decide +kernel
theorem dX9_readHost_115 : decode cX9_readHost 115 = .ok (.iload_n 3, 1) := by decide +kernel
theorem dX9_readHost_116 : decode cX9_readHost 116 = .ok (.iconst 2, 1) := by decide +kernel
theorem dX9_readHost_117 : decode cX9_readHost 117 = .ok (.iadd, 1) := by decide +kernel
theorem dX9_readHost_118 : decode cX9_readHost 118 = .ok (.iload_n 2, 1) := by decide +kernel
theorem dX9_readHost_119 : decode cX9_readHost 119 = .ok (.if_icmp .ge 43, 3) := by decide +kernel
theorem dX9_readHost_122 : decode cX9_readHost 122 = .ok (.aload_n 0, 1) := by decide +kernel
theorem dX9_readHost_123 : decode cX9_readHost 123 = .ok (.getfield 43, 3) := by decide +kernel
theorem dX9_readHost_126 : decode cX9_readHost 126 = .ok (.iload_n 3, 1) := by decide +kernel
theorem dX9_readHost_127 : decode cX9_readHost 127 = .ok (.iconst 1, 1) := by decide +kernel
theorem dX9_readHost_128 : decode cX9_readHost 128 = .ok (.iadd, 1) := by decide +kernel
theorem dX9_readHost_129 : decode cX9_readHost 129 = .ok (.baload, 1) := by decide +kernel
theorem dX9_readHost_130 : decode cX9_readHost 130 = .ok (.sipush 255, 3) := by decide +kernel
theorem dX9_readHost_133 : decode cX9_readHost 133 = .ok (.iand, 1) := by decide +kernel
theorem dX9_readHost_134 : decode cX9_readHost 134 = .ok (.invokestatic 237, 3) := by decide +kernel
theorem dX9_readHost_137 : decode cX9_readHost 137 = .ok (.ifCond .lt 25, 3) := by decide +kernel
theorem dX9_readHost_140 : decode cX9_readHost 140 = .ok (.aload_n 0, 1) := by decide +kernel
theorem dX9_readHost_141 : decode cX9_readHost 141 = .ok (.getfield 43, 3) := by decide +kernel
theorem dX9_readHost_144 : decode cX9_readHost 144 = .ok (.iload_n 3, 1) := by decide +kernel
theorem dX9_readHost_145 : decode cX9_readHost 145 = .ok (.iconst 2, 1) := by decide +kernel
theorem dX9_readHost_146 : decode cX9_readHost 146 = .ok (.iadd, 1) := by decide +kernel
theorem dX9_readHost_147 : decode cX9_readHost 147 = .ok (.baload, 1) := by decide +kernel
theorem dX9_readHost_148 : decode cX9_readHost 148 = .ok (.sipush 255, 3) := by decide +kernel
theorem dX9_readHost_151 : decode cX9_readHost 151 = .ok (.iand, 1) := by decide +kernel
theorem dX9_readHost_152 : decode cX9_readHost 152 = .ok (.invokestatic 237, 3) := by decide +kernel
theorem dX9_readHost_155 : decode cX9_readHost 155 = .ok (.ifCond .lt 7, 3) := by decide +kernel
theorem dX9_readHost_158 : decode cX9_readHost 158 = .ok (.iconst 1, 1) := by decide +kernel
theorem dX9_readHost_159 : decode cX9_readHost 159 = .ok (.goto 4, 3) := by decide +kernel
theorem dX9_readHost_162 : decode cX9_readHost 162 = .ok (.iconst 0, 1) := by decide +kernel
theorem dX9_readHost_163 : decode cX9_readHost 163 = .ok (.istore 5, 2) := by decide +kernel
theorem dX9_readHost_165 : decode cX9_readHost 165 = .ok (.aload_n 0, 1) := by decide +kernel
theorem dX9_readHost_166 : decode cX9_readHost 166 = .ok (.getfield 46, 3) := by decide +kernel
theorem dX9_readHost_169 : decode cX9_readHost 169 = .ok (.aload_n 0, 1) := by decide +kernel
theorem dX9_readHost_170 : decode cX9_readHost 170 = .ok (.getfield 217, 3) := by decide +kernel
theorem dX9_readHost_173 : decode cX9_readHost 173 = .ok (.iload 5, 2) := by decide +kernel
theorem dX9_readHost_175 : decode cX9_readHost 175 = .ok (.ifCond .eq 40, 3) := by decide +kernel
theorem dX9_readHost_178 : decode cX9_readHost 178 = .ok (.bipush 16, 2) := by decide +kernel
theorem dX9_readHost_180 : decode cX9_readHost 180 = .ok (.aload_n 0, 1) := by decide +kernel
theorem dX9_readHost_181 : decode cX9_readHost 181 = .ok (.getfield 43, 3) := by decide +kernel
theorem dX9_readHost_184 : decode cX9_readHost 184 = .ok (.iload_n 3, 1) := by decide +kernel
theorem dX9_readHost_185 : decode cX9_readHost 185 = .ok (.iconst 1, 1) := by decide +kernel
theorem dX9_readHost_186 : decode cX9_readHost 186 = .ok (.iadd, 1) := by decide +kernel
theorem dX9_readHost_187 : decode cX9_readHost 187 = .ok (.baload, 1) := by decide +kernel
theorem dX9_readHost_188 : decode cX9_readHost 188 = .ok (.sipush 255, 3) := by decide +kernel
theorem dX9_readHost_191 : decode cX9_readHost 191 = .ok (.iand, 1) := by decide +kernel
theorem dX9_readHost_192 : decode cX9_readHost 192 = .ok (.invokestatic 237, 3) := by decide +kernel
theorem dX9_readHost_195 : decode cX9_readHost 195 = .ok (.imul, 1) := by decide +kernel
theorem dX9_readHost_196 : decode cX9_readHost 196 = .ok (.aload_n 0, 1) := by decide +kernel
theorem dX9_readHost_197 : decode cX9_readHost 197 = .ok (.getfield 43, 3) := by decide +kernel
theorem dX9_readHost_200 : decode cX9_readHost 200 = .ok (.iload_n 3, 1) := by decide +kernel
theorem dX9_readHost_201 : decode cX9_readHost 201 = .ok (.iconst 2, 1) := by decide +kernel
theorem dX9_readHost_202 : decode cX9_readHost 202 = .ok (.iadd, 1) := by decide +kernel
theorem dX9_readHost_203 : decode cX9_readHost 203 = .ok (.baload, 1) := by decide +kernel
theorem dX9_readHost_204 : decode cX9_readHost 204 = .ok (.sipush 255, 3) := by decide +kernel
theorem dX9_readHost_207 : decode cX9_readHost 207 = .ok (.iand, 1) := by decide +kernel
theorem dX9_readHost_208 : decode cX9_readHost 208 = .ok (.invokestatic 237, 3) := by decide +kernel
theorem dX9_readHost_211 : decode cX9_readHost 211 = .ok (.iadd, 1) := by decide +kernel
theorem dX9_readHost_212 : decode cX9_readHost 212 = .ok (.goto 5, 3) := by decide +kernel
theorem dX9_readHost_215 : decode cX9_readHost 215 = .ok (.iload 4, 2) := by decide +kernel
theorem dX9_readHost_217 : decode cX9_readHost 217 = .ok (.i2b, 1) := by decide +kernel
theorem dX9_readHost_218 : decode cX9_readHost 218 = .ok (.bastore, 1) := by decide +kernel
theorem dX9_readHost_219 : decode cX9_readHost 219 = .ok (.aload_n 0, 1) := by decide +kernel
theorem dX9_readHost_220 : decode cX9_readHost 220 = .ok (.dup, 1) := by decide +kernel
theorem dX9_readHost_221 : decode cX9_readHost 221 = .ok (.getfield 217, 3) := by decide +kernel
theorem dX9_readHost_224 : decode cX9_readHost 224 = .ok (.iconst 1, 1) := by decide +kernel
theorem dX9_readHost_225 : decode cX9_readHost 225 = .ok (.iadd, 1) := by decide +kernel
theorem dX9_readHost_226 : decode cX9_readHost 226 = .ok (.putfield 217, 3) := by decide +kernel
theorem dX9_readHost_229 : decode cX9_readHost 229 = .ok (.iload_n 3, 1) := by decide +kernel
theorem dX9_readHost_230 : decode cX9_readHost 230 = .ok (.iload 5, 2) := by decide +kernel
theorem dX9_readHost_232 : decode cX9_readHost 232 = .ok (.ifCond .eq 7, 3) := by decide +kernel
theorem dX9_readHost_235 : decode cX9_readHost 235 = .ok (.iconst 3, 1) := by decide +kernel
theorem dX9_readHost_236 : decode cX9_readHost 236 = .ok (.goto 4, 3) := by decide +kernel
theorem dX9_readHost_239 : decode cX9_readHost 239 = .ok (.iconst 1, 1) := by decide +kernel
theorem dX9_readHost_240 : decode cX9_readHost 240 = .ok (.iadd, 1) := by decide +kernel
theorem dX9_readHost_241 : decode cX9_readHost 241 = .ok (.istore_n 3, 1) := by decide +kernel
theorem dX9_readHost_242 : decode cX9_readHost 242 = .ok (.goto (-151), 3) := by decide +kernel
theorem dX9_readHost_245 : decode cX9_readHost 245 = .ok (.iconst 0, 1) := by decide +kernel
theorem dX9_readHost_246 : decode cX9_readHost 246 = .ok (.istore 4, 2) := by decide +kernel
theorem dX9_readHost_248 : decode cX9_readHost 248 = .ok (.iload 4, 2) := by decide +kernel
theorem dX9_readHost_250 : decode cX9_readHost 250 = .ok (.aload_n 0, 1) := by decide +kernel
theorem dX9_readHost_251 : decode cX9_readHost 251 = .ok (.getfield 217, 3) := by decide +kernel
theorem dX9_readHost_254 : decode cX9_readHost 254 = .ok (.if_icmp .ge 46, 3) := by decide +kernel
theorem dX9_readHost_257 : decode cX9_readHost 257 = .ok (.aload_n 0, 1) := by decide +kernel
theorem dX9_readHost_258 : decode cX9_readHost 258 = .ok (.getfield 46, 3) := by decide +kernel
theorem dX9_readHost_261 : decode cX9_readHost 261 = .ok (.iload 4, 2) := by decide +kernel
theorem dX9_readHost_263 : decode cX9_readHost 263 = .ok (.baload, 1) := by decide +kernel
theorem dX9_readHost_264 : decode cX9_readHost 264 = .ok (.sipush 255, 3) := by decide +kernel
theorem dX9_readHost_267 : decode cX9_readHost 267 = .ok (.iand, 1) := by decide +kernel
theorem dX9_readHost_268 : decode cX9_readHost 268 = .ok (.istore 5, 2) := by decide +kernel
theorem dX9_readHost_270 : decode cX9_readHost 270 = .ok (.iload 5, 2) := by decide +kernel
theorem dX9_readHost_272 : decode cX9_readHost 272 = .ok (.invokestatic 240, 3) := by decide +kernel
theorem dX9_readHost_275 : decode cX9_readHost 275 = .ok (.ifCond .eq 6, 3) := by decide +kernel
theorem dX9_readHost_278 : decode cX9_readHost 278 = .ok (.bipush (-14), 2) := by decide +kernel
theorem dX9_readHost_280 : decode cX9_readHost 280 = .ok (.ireturn, 1) := by decide +kernel
theorem dX9_readHost_281 : decode cX9_readHost 281 = .ok (.aload_n 0, 1) := by decide +kernel
theorem dX9_readHost_282 : decode cX9_readHost 282 = .ok (.getfield 46, 3) := by decide +kernel
theorem dX9_readHost_285 : decode cX9_readHost 285 = .ok (.iload 4, 2) := by decide +kernel
theorem dX9_readHost_287 : decode cX9_readHost 287 = .ok (.iload 5, 2) := by decide +kernel
theorem dX9_readHost_289 : decode cX9_readHost 289 = .ok (.invokestatic 99, 3) := by decide +kernel
theorem dX9_readHost_292 : decode cX9_readHost 292 = .ok (.i2b, 1) := by decide +kernel
theorem dX9_readHost_293 : decode cX9_readHost 293 = .ok (.bastore, 1) := by decide +kernel
theorem dX9_readHost_294 : decode cX9_readHost 294 = .ok (.iinc 4 1, 3) := by decide +kernel
theorem dX9_readHost_297 : decode cX9_readHost 297 = .ok (.goto (-49), 3) := by decide +kernel
theorem dX9_readHost_300 : decode cX9_readHost 300 = .ok (.aload_n 0, 1) := by decide +kernel
theorem dX9_readHost_301 : decode cX9_readHost 301 = .ok (.getfield 217, 3) := by decide +kernel
theorem dX9_readHost_304 : decode cX9_readHost 304 = .ok (.ifCond .ne 6, 3) := by decide +kernel
theorem dX9_readHost_307 : decode cX9_readHost 307 = .ok (.bipush (-14), 2) := by decide +kernel
theorem dX9_readHost_309 : decode cX9_readHost 309 = .ok (.ireturn, 1) := by decide +kernel
theorem dX9_readHost_310 : decode cX9_readHost 310 = .ok (.iconst 0, 1) := by decide +kernel
theorem dX9_readHost_311 : decode cX9_readHost 311 = .ok (.istore 4, 2) := by decide +kernel
theorem dX9_readHost_313 : decode cX9_readHost 313 = .ok (.iload 4, 2) := by decide +kernel
theorem dX9_readHost_315 : decode cX9_readHost 315 = .ok (.iconst 3, 1) := by decide +kernel
theorem dX9_readHost_316 : decode cX9_readHost 316 = .ok (.iadd, 1) := by decide +kernel
theorem dX9_readHost_317 : decode cX9_readHost 317 = .ok (.aload_n 0, 1) := by decide +kernel
theorem dX9_readHost_318 : decode cX9_readHost 318 = .ok (.getfield 217, 3) := by decide +kernel
theorem dX9_readHost_321 : decode cX9_readHost 321 = .ok (.if_icmp .ge 97, 3) := by decide +kernel
theorem dX9_readHost_324 : decode cX9_readHost 324 = .ok (.iload 4, 2) := by decide +kernel
theorem dX9_readHost_326 : decode cX9_readHost 326 = .ok (.ifCond .eq 17, 3) := by decide +kernel
theorem dX9_readHost_329 : decode cX9_readHost 329 = .ok (.aload_n 0, 1) := by decide +kernel
theorem dX9_readHost_330 : decode cX9_readHost 330 = .ok (.getfield 46, 3) := by decide +kernel
theorem dX9_readHost_333 : decode cX9_readHost 333 = .ok (.iload 4, 2) := by decide +kernel
theorem dX9_readHost_335 : decode cX9_readHost 335 = .ok (.iconst 1, 1) := by decide +kernel
theorem dX9_readHost_336 : decode cX9_readHost 336 = .ok (.isub, 1) := by decide +kernel
theorem dX9_readHost_337 : decode cX9_readHost 337 = .ok (.baload, 1) := by decide +kernel
theorem dX9_readHost_338 : decode cX9_readHost 338 = .ok (.bipush 46, 2) := by decide +kernel
theorem dX9_readHost_340 : decode cX9_readHost 340 = .ok (.if_icmp .ne 7, 3) := by decide +kernel
theorem dX9_readHost_343 : decode cX9_readHost 343 = .ok (.iconst 1, 1) := by decide +kernel
theorem dX9_readHost_344 : decode cX9_readHost 344 = .ok (.goto 4, 3) := by decide +kernel
theorem dX9_readHost_347 : decode cX9_readHost 347 = .ok (.iconst 0, 1) := by decide +kernel
theorem dX9_readHost_348 : decode cX9_readHost 348 = .ok (.istore 5, 2) := by decide +kernel
theorem dX9_readHost_350 : decode cX9_readHost 350 = .ok (.iload 5, 2) := by decide +kernel
theorem dX9_readHost_352 : decode cX9_readHost 352 = .ok (.ifCond .eq 60, 3) := by decide +kernel
theorem dX9_readHost_355 : decode cX9_readHost 355 = .ok (.aload_n 0, 1) := by decide +kernel
theorem dX9_readHost_356 : decode cX9_readHost 356 = .ok (.getfield 46, 3) := by decide +kernel
theorem dX9_readHost_359 : decode cX9_readHost 359 = .ok (.iload 4, 2) := by decide +kernel
theorem dX9_readHost_361 : decode cX9_readHost 361 = .ok (.baload, 1) := by decide +kernel
theorem dX9_readHost_362 : decode cX9_readHost 362 = .ok (.bipush 120, 2) := by decide +kernel
theorem dX9_readHost_364 : decode cX9_readHost 364 = .ok (.if_icmp .ne 48, 3) := by decide +kernel
theorem dX9_readHost_367 : decode cX9_readHost 367 = .ok (.aload_n 0, 1) := by decide +kernel
theorem dX9_readHost_368 : decode cX9_readHost 368 = .ok (.getfield 46, 3) := by decide +kernel
theorem dX9_readHost_371 : decode cX9_readHost 371 = .ok (.iload 4, 2) := by decide +kernel
theorem dX9_readHost_373 : decode cX9_readHost 373 = .ok (.iconst 1, 1) := by decide +kernel
theorem dX9_readHost_374 : decode cX9_readHost 374 = .ok (.iadd, 1) := by decide +kernel
theorem dX9_readHost_375 : decode cX9_readHost 375 = .ok (.baload, 1) := by decide +kernel
theorem dX9_readHost_376 : decode cX9_readHost 376 = .ok (.bipush 110, 2) := by decide +kernel
theorem dX9_readHost_378 : decode cX9_readHost 378 = .ok (.if_icmp .ne 34, 3) := by decide +kernel
theorem dX9_readHost_381 : decode cX9_readHost 381 = .ok (.aload_n 0, 1) := by decide +kernel
theorem dX9_readHost_382 : decode cX9_readHost 382 = .ok (.getfield 46, 3) := by decide +kernel
theorem dX9_readHost_385 : decode cX9_readHost 385 = .ok (.iload 4, 2) := by decide +kernel
theorem dX9_readHost_387 : decode cX9_readHost 387 = .ok (.iconst 2, 1) := by decide +kernel
theorem dX9_readHost_388 : decode cX9_readHost 388 = .ok (.iadd, 1) := by decide +kernel
theorem dX9_readHost_389 : decode cX9_readHost 389 = .ok (.baload, 1) := by decide +kernel
theorem dX9_readHost_390 : decode cX9_readHost 390 = .ok (.bipush 45, 2) := by decide +kernel
theorem dX9_readHost_392 : decode cX9_readHost 392 = .ok (.if_icmp .ne 20, 3) := by decide +kernel
theorem dX9_readHost_395 : decode cX9_readHost 395 = .ok (.aload_n 0, 1) := by decide +kernel
theorem dX9_readHost_396 : decode cX9_readHost 396 = .ok (.getfield 46, 3) := by decide +kernel
theorem dX9_readHost_399 : decode cX9_readHost 399 = .ok (.iload 4, 2) := by decide +kernel
theorem dX9_readHost_401 : decode cX9_readHost 401 = .ok (.iconst 3, 1) := by decide +kernel
theorem dX9_readHost_402 : decode cX9_readHost 402 = .ok (.iadd, 1) := by decide +kernel
theorem dX9_readHost_403 : decode cX9_readHost 403 = .ok (.baload, 1) := by decide +kernel
theorem dX9_readHost_404 : decode cX9_readHost 404 = .ok (.bipush 45, 2) := by decide +kernel
theorem dX9_readHost_406 : decode cX9_readHost 406 = .ok (.if_icmp .ne 6, 3) := by decide +kernel
theorem dX9_readHost_409 : decode cX9_readHost 409 = .ok (.bipush (-14), 2) := by decide +kernel
theorem dX9_readHost_411 : decode cX9_readHost 411 = .ok (.ireturn, 1) := by decide +kernel
theorem dX9_readHost_412 : decode cX9_readHost 412 = .ok (.iinc 4 1, 3) := by decide +kernel
theorem dX9_readHost_415 : decode cX9_readHost 415 = .ok (.goto (-102), 3) := by decide +kernel
theorem dX9_readHost_418 : decode cX9_readHost 418 = .ok (.aload_n 0, 1) := by decide +kernel
theorem dX9_readHost_419 : decode cX9_readHost 419 = .ok (.invokevirtual 243, 3) := by decide +kernel
theorem dX9_readHost_422 : decode cX9_readHost 422 = .ok (.ireturn, 1) := by decide +kernel
def f_X9_isWrongByte  (a0 : Int32) : gM Int32 := if a0 ≤ 32 then (gz 1) else (if 127 ≤ a0 then (gz 1) else (if a0 = 35 then (gz 1) else (if a0 = 37 then (gz 1) else (if a0 = 47 then (gz 1) else (if a0 = 58 then (gz 1) else (if a0 = 60 then (gz 1) else (if a0 = 62 then (gz 1) else (if a0 = 63 then (gz 1) else (if a0 = 64 then (gz 1) else (if a0 = 91 then (gz 1) else (if a0 = 92 then (gz 1) else (if a0 = 93 then (gz 1) else (if a0 = 94 then (gz 1) else (if a0 = 124 then (gz 1) else (gz 0)))))))))))))))
section S_X9_isWrongByte
variable {G : gX} {p : Program} {l : Launch} {e : Env} {s : State} {m : MethodId} {args : Array Value} {below : List Frame} {meth : Method} {c : Code} {mc ms : Nat} {y : Int32 × gS}
set_option maxHeartbeats 4000000 in
set_option maxRecDepth 100000 in
theorem w_X9_isWrongByte_0 (C : gC G p s m args meth c cX9_isWrongByte 1 RX9) (hr : meth.sig.returnType = (some .boolean))  (a0 : Int32) : gJ G p l e 0 0 mc ms s m args below meth c gri y 1 0 [(0, .int a0)] [] (f_X9_isWrongByte  a0) := by
  have hx := C.1
  have hb := C.2.1
  intro σ H locs cells slots ls hf I hl
  unfold f_X9_isWrongByte at hf
  refine lv_iload_n hx hb dX9_isWrongByte_0 rfl (lv_at hl 0 rfl) ?_
  refine lv_bipush (v := 32) hx hb dX9_isWrongByte_1 kc_b_32 ?_
  refine lv_icmp_le (tgt := 90) hx hb dX9_isWrongByte_3 (by decide) (fun hq => ?_) (fun hq => ?_)
  · have hf := gift hq hf
    refine lv_iconst (v := 1) hx hb dX9_isWrongByte_90 kc_i_1 ?_
    refine lv_goto (tgt := 95) hx hb dX9_isWrongByte_91 (by decide) ?_
    exact gw_zret C I hr dX9_isWrongByte_95 hf
  · have hf := giff hq hf
    refine lv_iload_n hx hb dX9_isWrongByte_6 rfl (lv_at hl 0 rfl) ?_
    refine lv_bipush (v := 127) hx hb dX9_isWrongByte_7 kc_b_127 ?_
    refine lv_icmp_ge (tgt := 90) hx hb dX9_isWrongByte_9 (by decide) (fun hq => ?_) (fun hq => ?_)
    · have hf := gift hq hf
      refine lv_iconst (v := 1) hx hb dX9_isWrongByte_90 kc_i_1 ?_
      refine lv_goto (tgt := 95) hx hb dX9_isWrongByte_91 (by decide) ?_
      exact gw_zret C I hr dX9_isWrongByte_95 hf
    · have hf := giff hq hf
      refine lv_iload_n hx hb dX9_isWrongByte_12 rfl (lv_at hl 0 rfl) ?_
      refine lv_bipush (v := 35) hx hb dX9_isWrongByte_13 kc_b_35 ?_
      refine lv_icmp_eq (tgt := 90) hx hb dX9_isWrongByte_15 (by decide) (fun hq => ?_) (fun hq => ?_)
      · have hf := gift hq hf
        refine lv_iconst (v := 1) hx hb dX9_isWrongByte_90 kc_i_1 ?_
        refine lv_goto (tgt := 95) hx hb dX9_isWrongByte_91 (by decide) ?_
        exact gw_zret C I hr dX9_isWrongByte_95 hf
      · have hf := giff hq hf
        refine lv_iload_n hx hb dX9_isWrongByte_18 rfl (lv_at hl 0 rfl) ?_
        refine lv_bipush (v := 37) hx hb dX9_isWrongByte_19 kc_b_37 ?_
        refine lv_icmp_eq (tgt := 90) hx hb dX9_isWrongByte_21 (by decide) (fun hq => ?_) (fun hq => ?_)
        · have hf := gift hq hf
          refine lv_iconst (v := 1) hx hb dX9_isWrongByte_90 kc_i_1 ?_
          refine lv_goto (tgt := 95) hx hb dX9_isWrongByte_91 (by decide) ?_
          exact gw_zret C I hr dX9_isWrongByte_95 hf
        · have hf := giff hq hf
          refine lv_iload_n hx hb dX9_isWrongByte_24 rfl (lv_at hl 0 rfl) ?_
          refine lv_bipush (v := 47) hx hb dX9_isWrongByte_25 kc_b_47 ?_
          refine lv_icmp_eq (tgt := 90) hx hb dX9_isWrongByte_27 (by decide) (fun hq => ?_) (fun hq => ?_)
          · have hf := gift hq hf
            refine lv_iconst (v := 1) hx hb dX9_isWrongByte_90 kc_i_1 ?_
            refine lv_goto (tgt := 95) hx hb dX9_isWrongByte_91 (by decide) ?_
            exact gw_zret C I hr dX9_isWrongByte_95 hf
          · have hf := giff hq hf
            refine lv_iload_n hx hb dX9_isWrongByte_30 rfl (lv_at hl 0 rfl) ?_
            refine lv_bipush (v := 58) hx hb dX9_isWrongByte_31 kc_b_58 ?_
            refine lv_icmp_eq (tgt := 90) hx hb dX9_isWrongByte_33 (by decide) (fun hq => ?_) (fun hq => ?_)
            · have hf := gift hq hf
              refine lv_iconst (v := 1) hx hb dX9_isWrongByte_90 kc_i_1 ?_
              refine lv_goto (tgt := 95) hx hb dX9_isWrongByte_91 (by decide) ?_
              exact gw_zret C I hr dX9_isWrongByte_95 hf
            · have hf := giff hq hf
              refine lv_iload_n hx hb dX9_isWrongByte_36 rfl (lv_at hl 0 rfl) ?_
              refine lv_bipush (v := 60) hx hb dX9_isWrongByte_37 kc_b_60 ?_
              refine lv_icmp_eq (tgt := 90) hx hb dX9_isWrongByte_39 (by decide) (fun hq => ?_) (fun hq => ?_)
              · have hf := gift hq hf
                refine lv_iconst (v := 1) hx hb dX9_isWrongByte_90 kc_i_1 ?_
                refine lv_goto (tgt := 95) hx hb dX9_isWrongByte_91 (by decide) ?_
                exact gw_zret C I hr dX9_isWrongByte_95 hf
              · have hf := giff hq hf
                refine lv_iload_n hx hb dX9_isWrongByte_42 rfl (lv_at hl 0 rfl) ?_
                refine lv_bipush (v := 62) hx hb dX9_isWrongByte_43 kc_b_62 ?_
                refine lv_icmp_eq (tgt := 90) hx hb dX9_isWrongByte_45 (by decide) (fun hq => ?_) (fun hq => ?_)
                · have hf := gift hq hf
                  refine lv_iconst (v := 1) hx hb dX9_isWrongByte_90 kc_i_1 ?_
                  refine lv_goto (tgt := 95) hx hb dX9_isWrongByte_91 (by decide) ?_
                  exact gw_zret C I hr dX9_isWrongByte_95 hf
                · have hf := giff hq hf
                  refine lv_iload_n hx hb dX9_isWrongByte_48 rfl (lv_at hl 0 rfl) ?_
                  refine lv_bipush (v := 63) hx hb dX9_isWrongByte_49 kc_b_63 ?_
                  refine lv_icmp_eq (tgt := 90) hx hb dX9_isWrongByte_51 (by decide) (fun hq => ?_) (fun hq => ?_)
                  · have hf := gift hq hf
                    refine lv_iconst (v := 1) hx hb dX9_isWrongByte_90 kc_i_1 ?_
                    refine lv_goto (tgt := 95) hx hb dX9_isWrongByte_91 (by decide) ?_
                    exact gw_zret C I hr dX9_isWrongByte_95 hf
                  · have hf := giff hq hf
                    refine lv_iload_n hx hb dX9_isWrongByte_54 rfl (lv_at hl 0 rfl) ?_
                    refine lv_bipush (v := 64) hx hb dX9_isWrongByte_55 kc_b_64 ?_
                    refine lv_icmp_eq (tgt := 90) hx hb dX9_isWrongByte_57 (by decide) (fun hq => ?_) (fun hq => ?_)
                    · have hf := gift hq hf
                      refine lv_iconst (v := 1) hx hb dX9_isWrongByte_90 kc_i_1 ?_
                      refine lv_goto (tgt := 95) hx hb dX9_isWrongByte_91 (by decide) ?_
                      exact gw_zret C I hr dX9_isWrongByte_95 hf
                    · have hf := giff hq hf
                      refine lv_iload_n hx hb dX9_isWrongByte_60 rfl (lv_at hl 0 rfl) ?_
                      refine lv_bipush (v := 91) hx hb dX9_isWrongByte_61 kc_b_91 ?_
                      refine lv_icmp_eq (tgt := 90) hx hb dX9_isWrongByte_63 (by decide) (fun hq => ?_) (fun hq => ?_)
                      · have hf := gift hq hf
                        refine lv_iconst (v := 1) hx hb dX9_isWrongByte_90 kc_i_1 ?_
                        refine lv_goto (tgt := 95) hx hb dX9_isWrongByte_91 (by decide) ?_
                        exact gw_zret C I hr dX9_isWrongByte_95 hf
                      · have hf := giff hq hf
                        refine lv_iload_n hx hb dX9_isWrongByte_66 rfl (lv_at hl 0 rfl) ?_
                        refine lv_bipush (v := 92) hx hb dX9_isWrongByte_67 kc_b_92 ?_
                        refine lv_icmp_eq (tgt := 90) hx hb dX9_isWrongByte_69 (by decide) (fun hq => ?_) (fun hq => ?_)
                        · have hf := gift hq hf
                          refine lv_iconst (v := 1) hx hb dX9_isWrongByte_90 kc_i_1 ?_
                          refine lv_goto (tgt := 95) hx hb dX9_isWrongByte_91 (by decide) ?_
                          exact gw_zret C I hr dX9_isWrongByte_95 hf
                        · have hf := giff hq hf
                          refine lv_iload_n hx hb dX9_isWrongByte_72 rfl (lv_at hl 0 rfl) ?_
                          refine lv_bipush (v := 93) hx hb dX9_isWrongByte_73 kc_b_93 ?_
                          refine lv_icmp_eq (tgt := 90) hx hb dX9_isWrongByte_75 (by decide) (fun hq => ?_) (fun hq => ?_)
                          · have hf := gift hq hf
                            refine lv_iconst (v := 1) hx hb dX9_isWrongByte_90 kc_i_1 ?_
                            refine lv_goto (tgt := 95) hx hb dX9_isWrongByte_91 (by decide) ?_
                            exact gw_zret C I hr dX9_isWrongByte_95 hf
                          · have hf := giff hq hf
                            refine lv_iload_n hx hb dX9_isWrongByte_78 rfl (lv_at hl 0 rfl) ?_
                            refine lv_bipush (v := 94) hx hb dX9_isWrongByte_79 kc_b_94 ?_
                            refine lv_icmp_eq (tgt := 90) hx hb dX9_isWrongByte_81 (by decide) (fun hq => ?_) (fun hq => ?_)
                            · have hf := gift hq hf
                              refine lv_iconst (v := 1) hx hb dX9_isWrongByte_90 kc_i_1 ?_
                              refine lv_goto (tgt := 95) hx hb dX9_isWrongByte_91 (by decide) ?_
                              exact gw_zret C I hr dX9_isWrongByte_95 hf
                            · have hf := giff hq hf
                              refine lv_iload_n hx hb dX9_isWrongByte_84 rfl (lv_at hl 0 rfl) ?_
                              refine lv_bipush (v := 124) hx hb dX9_isWrongByte_85 kc_b_124 ?_
                              refine lv_icmp_ne (tgt := 94) hx hb dX9_isWrongByte_87 (by decide) (fun hq => ?_) (fun hq => ?_)
                              · have hf := giff hq hf
                                refine lv_iconst (v := 0) hx hb dX9_isWrongByte_94 kc_i_0 ?_
                                exact gw_zret C I hr dX9_isWrongByte_95 hf
                              · have hf := gift hq hf
                                refine lv_iconst (v := 1) hx hb dX9_isWrongByte_90 kc_i_1 ?_
                                refine lv_goto (tgt := 95) hx hb dX9_isWrongByte_91 (by decide) ?_
                                exact gw_zret C I hr dX9_isWrongByte_95 hf
end S_X9_isWrongByte
theorem m_X9_isWrongByte (G : gX) (l : Launch) (a0 : Int32) : gMet G l yX9_isWrongByte cX9_isWrongByte 1 (some .boolean) 0 0 [.int a0] gri (f_X9_isWrongByte a0) := by
  refine gMet_of (by decide) ?_
  intro σ y p e s m below meth c mc ms hf C hr hnm I
  obtain ⟨ls, e1, hl⟩ := gentry m [.int a0] 1 [(0, .int a0)] (by simp [lg_sl, grc, gcat_i, gcat_l]) (by simp [lv_args, grc, gcat_i, gcat_l])
  rw [e1]
  exact w_X9_isWrongByte_0 C hr a0 _ _ _ _ _ _ hf I hl
def f_X9_numberOf_111   : gM Int64 := gp (-1)
def f_X9_numberOf_82 (rec82 : Option Nat → Int32 → Int32 → Int32 → Int64 → gM Int64) (x0 : Option Nat) (x2 : Int32) (x3 : Int32) (x4 : Int32) (x5 : Int64) : gM Int64 := if x2 ≤ x4 then (gp x5) else (gb (rR 8 14 x0) fun v1 => gb (aI 0 v1 x4) fun v2 => gb (f_X9_hex v2) fun v3 => if v3 < 0 then (f_X9_numberOf_111  ) else (if v3 < x3 then (rec82 x0 x2 x3 (x4 + 1) (if (x5 * x3.toInt64) + v3.toInt64 < 1099511627776 then (x5 * x3.toInt64) + v3.toInt64 else 1099511627776)) else (f_X9_numberOf_111  )))
def f_X9_numberOf_L82  : Nat → Option Nat → Int32 → Int32 → Int32 → Int64 → gM Int64
  | 0, _, _, _, _, _ => gno
  | n + 1, x0, x2, x3, x4, x5 => f_X9_numberOf_82  (f_X9_numberOf_L82  n) x0 x2 x3 x4 x5
def f_X9_numberOf_79  (x0 : Option Nat) (x2 : Int32) (x3 : Int32) (x4 : Int32) : gM Int64 := f_X9_numberOf_L82  gF x0 x2 x3 x4 0
def f_X9_numberOf_70  (x0 : Option Nat) (x1 : Int32) (x2 : Int32) (x3 : Int32) (x4 : Int32) : gM Int64 := if x2 = x1 then (gp (-1)) else (f_X9_numberOf_79  x0 x2 x3 x4)
def f_X9_numberOf_48  (x0 : Option Nat) (x1 : Int32) (x2 : Int32) (x3 : Int32) (x4 : Int32) : gM Int64 := if x2 ≤ x1 then (f_X9_numberOf_70  x0 x1 x2 x3 x4) else (gb (rR 8 14 x0) fun v1 => gb (aI 0 v1 x1) fun v2 => if v2 = 48 then (f_X9_numberOf_79  x0 x2 8 x4) else (f_X9_numberOf_70  x0 x1 x2 x3 x4))
def f_X9_numberOf  (a0 : Option Nat) (a1 : Int32) (a2 : Int32) : gM Int64 := if (a2 - a1) < 2 then (f_X9_numberOf_48  a0 a1 a2 10 a1) else (gb (rR 8 14 a0) fun v1 => gb (aI 0 v1 a1) fun v2 => if v2 = 48 then (gb (rR 8 14 a0) fun v3 => gb (aI 0 v3 (a1 + 1)) fun v4 => if v4 = 120 then (f_X9_numberOf_79  a0 a2 16 (a1 + 2)) else (f_X9_numberOf_48  a0 a1 a2 10 a1)) else (f_X9_numberOf_48  a0 a1 a2 10 a1))
section S_X9_numberOf
variable {G : gX} {p : Program} {l : Launch} {e : Env} {s : State} {m : MethodId} {args : Array Value} {below : List Frame} {meth : Method} {c : Code} {mc ms : Nat} {y : Int64 × gS}
set_option maxHeartbeats 4000000 in
set_option maxRecDepth 100000 in
theorem w_X9_numberOf_111 (C : gC G p s m args meth c cX9_numberOf 8 RX9) (hr : meth.sig.returnType = (some .long))   : gJ G p l e 3 62 mc ms s m args below meth c grl y 8 111 [] [] (f_X9_numberOf_111  ) := by
  have hx := C.1
  have hb := C.2.1
  intro σ H locs cells slots ls hf I hl
  unfold f_X9_numberOf_111 at hf
  refine gw_ldc2 C (v := (-1)) kw_205 dX9_numberOf_111 ?_
  exact gw_lret C I hr dX9_numberOf_114 hf
set_option maxHeartbeats 4000000 in
set_option maxRecDepth 100000 in
theorem w_X9_numberOf_82 (C : gC G p s m args meth c cX9_numberOf 8 RX9) (hr : meth.sig.returnType = (some .long)) {rec82 : Option Nat → Int32 → Int32 → Int32 → Int64 → gM Int64} (hrec82 : ∀ (x0 : Option Nat) (x2 : Int32) (x3 : Int32) (x4 : Int32) (x5 : Int64), gJ G p l e 3 62 mc ms s m args below meth c grl y 8 82 [(0, va_rf x0), (2, .int x2), (3, .int x3), (4, .int x4), (5, .long x5)] [] (rec82 x0 x2 x3 x4 x5)) (x0 : Option Nat) (x2 : Int32) (x3 : Int32) (x4 : Int32) (x5 : Int64) : gJ G p l e 3 62 mc ms s m args below meth c grl y 8 82 [(0, va_rf x0), (2, .int x2), (3, .int x3), (4, .int x4), (5, .long x5)] [] (f_X9_numberOf_82 rec82 x0 x2 x3 x4 x5) := by
  have hx := C.1
  have hb := C.2.1
  intro σ H locs cells slots ls hf I hl
  unfold f_X9_numberOf_82 at hf
  refine lv_iload hx hb dX9_numberOf_82 (lv_at hl 3 rfl) ?_
  refine lv_iload_n hx hb dX9_numberOf_84 rfl (lv_at hl 1 rfl) ?_
  refine lv_icmp_ge (tgt := 138) hx hb dX9_numberOf_85 (by decide) (fun hq => ?_) (fun hq => ?_)
  · have hf := gift hq hf
    refine lv_lload hx hb dX9_numberOf_138 (lv_at hl 4 rfl) ?_
    exact gw_lret C I hr dX9_numberOf_140 hf
  · have hf := giff hq hf
    refine gw_aload_n hx hb dX9_numberOf_88 rfl (lv_at hl 0 rfl) ?_
    refine gw_getr (k := 14) C I gcls_8 (by decide) rfl kw_177 dX9_numberOf_89 hf (fun v1 hf => ?_)
    refine lv_iload hx hb dX9_numberOf_92 (lv_at hl 3 rfl) ?_
    refine gw_bald C I dX9_numberOf_94 hf (fun v2 hf => ?_)
    refine gw_callS (rest := []) C I hl.1 (m_X9_hex G l v2) gl_RX9_237 kw_204 ⟨Nat.le_of_ble_eq_true rfl, Nat.le_of_ble_eq_true rfl⟩ rfl (gc4 (Nat.le_of_ble_eq_true rfl)) rfl dX9_numberOf_95 hf (fun v3 σ H locs cells slots I hf => ?_)
    refine W.eq (g2 := F0 m 98 ls [.int v3]) rfl ?_
    refine lv_istore (lv' := [(7, .int v3), (0, va_rf x0), (2, .int x2), (3, .int x3), (4, .int x4), (5, .long x5)]) hx hb dX9_numberOf_98 hl (by decide) rfl (fun ls hl => ?_)
    refine lv_iload hx hb dX9_numberOf_100 (lv_at hl 0 rfl) ?_
    refine lv_if_lt (tgt := 111) hx hb dX9_numberOf_102 (by decide) (fun hq => ?_) (fun hq => ?_)
    · have hf := gift hq hf
      exact w_X9_numberOf_111 C hr   _ _ _ _ _ _ hf I (lv_sub hl [] rfl)
    · have hf := giff hq hf
      refine lv_iload hx hb dX9_numberOf_105 (lv_at hl 0 rfl) ?_
      refine lv_iload_n hx hb dX9_numberOf_107 rfl (lv_at hl 3 rfl) ?_
      refine lv_icmp_lt (tgt := 115) hx hb dX9_numberOf_108 (by decide) (fun hq => ?_) (fun hq => ?_)
      · have hf := gift hq hf
        refine gw_ldc2 C (v := 1099511627776) kw_206 dX9_numberOf_115 ?_
        refine lv_lload hx hb dX9_numberOf_118 (lv_at hl 5 rfl) ?_
        refine lv_iload_n hx hb dX9_numberOf_120 rfl (lv_at hl 3 rfl) ?_
        refine lv_i2l hx hb dX9_numberOf_121 rfl ?_
        refine lv_lmul hx hb dX9_numberOf_122 ?_
        refine lv_iload hx hb dX9_numberOf_123 (lv_at hl 0 rfl) ?_
        refine lv_i2l hx hb dX9_numberOf_125 rfl ?_
        refine lv_ladd hx hb dX9_numberOf_126 ?_
        refine gw_mminl (rest := []) C I hl.1 ⟨kw_207, kw_135, kw_92, kw_136⟩ ⟨Nat.le_of_ble_eq_true rfl, Nat.le_of_ble_eq_true rfl⟩ (gc4 (Nat.le_of_ble_eq_true rfl)) dX9_numberOf_127 hf ?_
        refine lv_lstore (lv' := [(5, .long (if (x5 * x3.toInt64) + v3.toInt64 < 1099511627776 then (x5 * x3.toInt64) + v3.toInt64 else 1099511627776)), (7, .int v3), (0, va_rf x0), (2, .int x2), (3, .int x3), (4, .int x4)]) hx hb dX9_numberOf_130 hl (by decide) rfl (fun ls hl => ?_)
        refine lv_iinc (v := x4 + 1) (lv' := [(4, .int (x4 + 1)), (5, .long (if (x5 * x3.toInt64) + v3.toInt64 < 1099511627776 then (x5 * x3.toInt64) + v3.toInt64 else 1099511627776)), (7, .int v3), (0, va_rf x0), (2, .int x2), (3, .int x3)]) hx hb dX9_numberOf_132 hl (k := 5) rfl rfl (by decide) rfl (fun ls hl => ?_)
        refine lv_goto (tgt := 82) hx hb dX9_numberOf_135 (by decide) ?_
        exact hrec82 x0 x2 x3 (x4 + 1) (if (x5 * x3.toInt64) + v3.toInt64 < 1099511627776 then (x5 * x3.toInt64) + v3.toInt64 else 1099511627776) _ _ _ _ _ _ hf I (lv_sub hl [3, 4, 5, 0, 1] rfl)
      · have hf := giff hq hf
        exact w_X9_numberOf_111 C hr   _ _ _ _ _ _ hf I (lv_sub hl [] rfl)
theorem w_X9_numberOf_L82 (C : gC G p s m args meth c cX9_numberOf 8 RX9) (hr : meth.sig.returnType = (some .long))  : ∀ (n : Nat) (x0 : Option Nat) (x2 : Int32) (x3 : Int32) (x4 : Int32) (x5 : Int64), gJ G p l e 3 62 mc ms s m args below meth c grl y 8 82 [(0, va_rf x0), (2, .int x2), (3, .int x3), (4, .int x4), (5, .long x5)] [] (f_X9_numberOf_L82  n x0 x2 x3 x4 x5) := by
  intro n
  induction n with
  | zero => intro x0 x2 x3 x4 x5 σ H locs cells slots ls hf; exact (gno_some hf).elim
  | succ n ih => intro x0 x2 x3 x4 x5; exact w_X9_numberOf_82 C hr  ih x0 x2 x3 x4 x5
set_option maxHeartbeats 4000000 in
set_option maxRecDepth 100000 in
theorem w_X9_numberOf_79 (C : gC G p s m args meth c cX9_numberOf 8 RX9) (hr : meth.sig.returnType = (some .long))  (x0 : Option Nat) (x2 : Int32) (x3 : Int32) (x4 : Int32) : gJ G p l e 3 62 mc ms s m args below meth c grl y 8 79 [(0, va_rf x0), (2, .int x2), (3, .int x3), (4, .int x4)] [] (f_X9_numberOf_79  x0 x2 x3 x4) := by
  have hx := C.1
  have hb := C.2.1
  intro σ H locs cells slots ls hf I hl
  unfold f_X9_numberOf_79 at hf
  refine lv_lconst (v := 0) hx hb dX9_numberOf_79 rfl ?_
  refine lv_lstore (lv' := [(5, .long 0), (0, va_rf x0), (2, .int x2), (3, .int x3), (4, .int x4)]) hx hb dX9_numberOf_80 hl (by decide) rfl (fun ls hl => ?_)
  exact w_X9_numberOf_L82 C hr  _ x0 x2 x3 x4 0 _ _ _ _ _ _ hf I (lv_sub hl [1, 2, 3, 4, 0] rfl)
set_option maxHeartbeats 4000000 in
set_option maxRecDepth 100000 in
theorem w_X9_numberOf_70 (C : gC G p s m args meth c cX9_numberOf 8 RX9) (hr : meth.sig.returnType = (some .long))  (x0 : Option Nat) (x1 : Int32) (x2 : Int32) (x3 : Int32) (x4 : Int32) : gJ G p l e 3 62 mc ms s m args below meth c grl y 8 70 [(0, va_rf x0), (1, .int x1), (2, .int x2), (3, .int x3), (4, .int x4)] [] (f_X9_numberOf_70  x0 x1 x2 x3 x4) := by
  have hx := C.1
  have hb := C.2.1
  intro σ H locs cells slots ls hf I hl
  unfold f_X9_numberOf_70 at hf
  refine lv_iload_n hx hb dX9_numberOf_70 rfl (lv_at hl 2 rfl) ?_
  refine lv_iload_n hx hb dX9_numberOf_71 rfl (lv_at hl 1 rfl) ?_
  refine lv_icmp_ne (tgt := 79) hx hb dX9_numberOf_72 (by decide) (fun hq => ?_) (fun hq => ?_)
  · have hf := giff hq hf
    exact w_X9_numberOf_79 C hr  x0 x2 x3 x4 _ _ _ _ _ _ hf I (lv_sub hl [0, 2, 3, 4] rfl)
  · have hf := gift hq hf
    refine gw_ldc2 C (v := (-1)) kw_205 dX9_numberOf_75 ?_
    exact gw_lret C I hr dX9_numberOf_78 hf
set_option maxHeartbeats 4000000 in
set_option maxRecDepth 100000 in
theorem w_X9_numberOf_48 (C : gC G p s m args meth c cX9_numberOf 8 RX9) (hr : meth.sig.returnType = (some .long))  (x0 : Option Nat) (x1 : Int32) (x2 : Int32) (x3 : Int32) (x4 : Int32) : gJ G p l e 3 62 mc ms s m args below meth c grl y 8 48 [(0, va_rf x0), (1, .int x1), (2, .int x2), (3, .int x3), (4, .int x4)] [] (f_X9_numberOf_48  x0 x1 x2 x3 x4) := by
  have hx := C.1
  have hb := C.2.1
  intro σ H locs cells slots ls hf I hl
  unfold f_X9_numberOf_48 at hf
  refine lv_iload_n hx hb dX9_numberOf_48 rfl (lv_at hl 2 rfl) ?_
  refine lv_iload_n hx hb dX9_numberOf_49 rfl (lv_at hl 1 rfl) ?_
  refine lv_icmp_le (tgt := 70) hx hb dX9_numberOf_50 (by decide) (fun hq => ?_) (fun hq => ?_)
  · have hf := gift hq hf
    exact w_X9_numberOf_70 C hr  x0 x1 x2 x3 x4 _ _ _ _ _ _ hf I (lv_sub hl [0, 1, 2, 3, 4] rfl)
  · have hf := giff hq hf
    refine gw_aload_n hx hb dX9_numberOf_53 rfl (lv_at hl 0 rfl) ?_
    refine gw_getr (k := 14) C I gcls_8 (by decide) rfl kw_177 dX9_numberOf_54 hf (fun v1 hf => ?_)
    refine lv_iload_n hx hb dX9_numberOf_57 rfl (lv_at hl 1 rfl) ?_
    refine gw_bald C I dX9_numberOf_58 hf (fun v2 hf => ?_)
    refine lv_bipush (v := 48) hx hb dX9_numberOf_59 kc_b_48 ?_
    refine lv_icmp_ne (tgt := 70) hx hb dX9_numberOf_61 (by decide) (fun hq => ?_) (fun hq => ?_)
    · have hf := giff hq hf
      exact w_X9_numberOf_70 C hr  x0 x1 x2 x3 x4 _ _ _ _ _ _ hf I (lv_sub hl [0, 1, 2, 3, 4] rfl)
    · have hf := gift hq hf
      refine lv_bipush (v := 8) hx hb dX9_numberOf_64 kc_b_8 ?_
      refine lv_istore_n (lv' := [(3, .int 8), (0, va_rf x0), (1, .int x1), (2, .int x2), (4, .int x4)]) hx hb dX9_numberOf_66 rfl hl (by decide) rfl (fun ls hl => ?_)
      refine lv_goto (tgt := 79) hx hb dX9_numberOf_67 (by decide) ?_
      exact w_X9_numberOf_79 C hr  x0 x2 8 x4 _ _ _ _ _ _ hf I (lv_sub hl [1, 3, 0, 4] rfl)
set_option maxHeartbeats 4000000 in
set_option maxRecDepth 100000 in
theorem w_X9_numberOf_0 (C : gC G p s m args meth c cX9_numberOf 8 RX9) (hr : meth.sig.returnType = (some .long))  (a0 : Option Nat) (a1 : Int32) (a2 : Int32) : gJ G p l e 3 62 mc ms s m args below meth c grl y 8 0 [(0, va_rf a0), (1, .int a1), (2, .int a2)] [] (f_X9_numberOf  a0 a1 a2) := by
  have hx := C.1
  have hb := C.2.1
  intro σ H locs cells slots ls hf I hl
  unfold f_X9_numberOf at hf
  refine lv_bipush (v := 10) hx hb dX9_numberOf_0 kc_b_10 ?_
  refine lv_istore_n (lv' := [(3, .int 10), (0, va_rf a0), (1, .int a1), (2, .int a2)]) hx hb dX9_numberOf_2 rfl hl (by decide) rfl (fun ls hl => ?_)
  refine lv_iload_n hx hb dX9_numberOf_3 rfl (lv_at hl 2 rfl) ?_
  refine lv_istore (lv' := [(4, .int a1), (3, .int 10), (0, va_rf a0), (1, .int a1), (2, .int a2)]) hx hb dX9_numberOf_4 hl (by decide) rfl (fun ls hl => ?_)
  refine lv_iload_n hx hb dX9_numberOf_6 rfl (lv_at hl 4 rfl) ?_
  refine lv_iload_n hx hb dX9_numberOf_7 rfl (lv_at hl 3 rfl) ?_
  refine lv_isub hx hb dX9_numberOf_8 ?_
  refine lv_iconst (v := 2) hx hb dX9_numberOf_9 kc_i_2 ?_
  refine lv_icmp_lt (tgt := 48) hx hb dX9_numberOf_10 (by decide) (fun hq => ?_) (fun hq => ?_)
  · have hf := gift hq hf
    exact w_X9_numberOf_48 C hr  a0 a1 a2 10 a1 _ _ _ _ _ _ hf I (lv_sub hl [2, 3, 4, 1, 0] rfl)
  · have hf := giff hq hf
    refine gw_aload_n hx hb dX9_numberOf_13 rfl (lv_at hl 2 rfl) ?_
    refine gw_getr (k := 14) C I gcls_8 (by decide) rfl kw_177 dX9_numberOf_14 hf (fun v1 hf => ?_)
    refine lv_iload_n hx hb dX9_numberOf_17 rfl (lv_at hl 3 rfl) ?_
    refine gw_bald C I dX9_numberOf_18 hf (fun v2 hf => ?_)
    refine lv_bipush (v := 48) hx hb dX9_numberOf_19 kc_b_48 ?_
    refine lv_icmp_ne (tgt := 48) hx hb dX9_numberOf_21 (by decide) (fun hq => ?_) (fun hq => ?_)
    · have hf := giff hq hf
      exact w_X9_numberOf_48 C hr  a0 a1 a2 10 a1 _ _ _ _ _ _ hf I (lv_sub hl [2, 3, 4, 1, 0] rfl)
    · have hf := gift hq hf
      refine gw_aload_n hx hb dX9_numberOf_24 rfl (lv_at hl 2 rfl) ?_
      refine gw_getr (k := 14) C I gcls_8 (by decide) rfl kw_177 dX9_numberOf_25 hf (fun v3 hf => ?_)
      refine lv_iload_n hx hb dX9_numberOf_28 rfl (lv_at hl 3 rfl) ?_
      refine lv_iconst (v := 1) hx hb dX9_numberOf_29 kc_i_1 ?_
      refine lv_iadd hx hb dX9_numberOf_30 ?_
      refine gw_bald C I dX9_numberOf_31 hf (fun v4 hf => ?_)
      refine lv_bipush (v := 120) hx hb dX9_numberOf_32 kc_b_120 ?_
      refine lv_icmp_ne (tgt := 48) hx hb dX9_numberOf_34 (by decide) (fun hq => ?_) (fun hq => ?_)
      · have hf := giff hq hf
        exact w_X9_numberOf_48 C hr  a0 a1 a2 10 a1 _ _ _ _ _ _ hf I (lv_sub hl [2, 3, 4, 1, 0] rfl)
      · have hf := gift hq hf
        refine lv_bipush (v := 16) hx hb dX9_numberOf_37 kc_b_16 ?_
        refine lv_istore_n (lv' := [(3, .int 16), (4, .int a1), (0, va_rf a0), (1, .int a1), (2, .int a2)]) hx hb dX9_numberOf_39 rfl hl (by decide) rfl (fun ls hl => ?_)
        refine lv_iload_n hx hb dX9_numberOf_40 rfl (lv_at hl 3 rfl) ?_
        refine lv_iconst (v := 2) hx hb dX9_numberOf_41 kc_i_2 ?_
        refine lv_iadd hx hb dX9_numberOf_42 ?_
        refine lv_istore (lv' := [(4, .int (a1 + 2)), (3, .int 16), (0, va_rf a0), (1, .int a1), (2, .int a2)]) hx hb dX9_numberOf_43 hl (by decide) rfl (fun ls hl => ?_)
        refine lv_goto (tgt := 79) hx hb dX9_numberOf_45 (by decide) ?_
        exact w_X9_numberOf_79 C hr  a0 a2 16 (a1 + 2) _ _ _ _ _ _ hf I (lv_sub hl [2, 4, 1, 0] rfl)
end S_X9_numberOf
theorem m_X9_numberOf (G : gX) (l : Launch) (a0 : Option Nat) (a1 : Int32) (a2 : Int32) : gMet G l yX9_numberOf cX9_numberOf 8 (some .long) 3 62 [va_rf a0, .int a1, .int a2] grl (f_X9_numberOf a0 a1 a2) := by
  refine gMet_of (by decide) ?_
  intro σ y p e s m below meth c mc ms hf C hr hnm I
  obtain ⟨ls, e1, hl⟩ := gentry m [va_rf a0, .int a1, .int a2] 8 [(0, va_rf a0), (1, .int a1), (2, .int a2)] (by simp [lg_sl, grc, gcat_i, gcat_l]) (by simp [lv_args, grc, gcat_i, gcat_l])
  rw [e1]
  exact w_X9_numberOf_0 C hr a0 a1 a2 _ _ _ _ _ _ hf I hl
def f_X9_readFour_365 (rec250 : Option Nat → Int32 → Int32 → Int64 → Int32 → Int32 → gM Int32) (x0 : Option Nat) (x1 : Int32) (x5 : Int32) (x9 : Int32) (x10 : Int32) (s0 : Int64) (s1 : Int64) : gM Int32 := rec250 x0 x1 x5 (s0 + s1) (x10 + 1) (x9 + 1)
def f_X9_readFour_319 (rec250 : Option Nat → Int32 → Int32 → Int64 → Int32 → Int32 → gM Int32) (x0 : Option Nat) (x1 : Int32) (x5 : Int32) (x6 : Int64) (x9 : Int32) (x10 : Int32) (x11 : Int64) (s0 : Int64) : gM Int32 := if (lg_cmp x11 0) < 0 then (gp (-15)) else (if (lg_cmp x11 s0) < 0 then (if x5 ≤ (x9 + 1) then (f_X9_readFour_365 rec250 x0 x1 x5 x9 x10 x6 x11) else (f_X9_readFour_365 rec250 x0 x1 x5 x9 x10 x6 (x11 <<< ((8 * (3 - x9)).toInt64 &&& 63)))) else (gp (-15)))
def f_X9_readFour_285 (rec250 : Option Nat → Int32 → Int32 → Int64 → Int32 → Int32 → gM Int32) (x0 : Option Nat) (x1 : Int32) (x5 : Int32) (x6 : Int64) (x8 : Int32) (x9 : Int32) (x10 : Int32) : gM Int32 := gb (nn 8 x0) fun _ => gb (f_X9_numberOf x0 x8 x10) fun v1 => if x5 ≤ (x9 + 1) then (f_X9_readFour_319 rec250 x0 x1 x5 x6 x9 x10 v1 ((1 : Int64) <<< ((8 * (5 - x5)).toInt64 &&& 63))) else (f_X9_readFour_319 rec250 x0 x1 x5 x6 x9 x10 v1 256)
def f_X9_readFour_261 (rec250 : Option Nat → Int32 → Int32 → Int64 → Int32 → Int32 → gM Int32) (rec261 : Option Nat → Int32 → Int32 → Int64 → Int32 → Int32 → Int32 → gM Int32) (x0 : Option Nat) (x1 : Int32) (x5 : Int32) (x6 : Int64) (x8 : Int32) (x9 : Int32) (x10 : Int32) : gM Int32 := if x1 ≤ x10 then (f_X9_readFour_285 rec250 x0 x1 x5 x6 x8 x9 x10) else (gb (rR 8 14 x0) fun v1 => gb (aI 0 v1 x10) fun v2 => if v2 = 46 then (f_X9_readFour_285 rec250 x0 x1 x5 x6 x8 x9 x10) else (rec261 x0 x1 x5 x6 x8 x9 (x10 + 1)))
def f_X9_readFour_L261 (rec250 : Option Nat → Int32 → Int32 → Int64 → Int32 → Int32 → gM Int32) : Nat → Option Nat → Int32 → Int32 → Int64 → Int32 → Int32 → Int32 → gM Int32
  | 0, _, _, _, _, _, _, _ => gno
  | n + 1, x0, x1, x5, x6, x8, x9, x10 => f_X9_readFour_261 rec250 (f_X9_readFour_L261 rec250 n) x0 x1 x5 x6 x8 x9 x10
def f_X9_readFour_250 (rec250 : Option Nat → Int32 → Int32 → Int64 → Int32 → Int32 → gM Int32) (x0 : Option Nat) (x1 : Int32) (x5 : Int32) (x6 : Int64) (x8 : Int32) (x9 : Int32) : gM Int32 := if x5 ≤ x9 then (gb (wI 8 16 x0 4) fun _ => gb (rR 8 17 x0) fun v1 => gb (sI 1 v1 0 x6.toInt32) fun _ => gp 0) else (f_X9_readFour_L261 rec250 gF x0 x1 x5 x6 x8 x9 x8)
def f_X9_readFour_L250  : Nat → Option Nat → Int32 → Int32 → Int64 → Int32 → Int32 → gM Int32
  | 0, _, _, _, _, _, _ => gno
  | n + 1, x0, x1, x5, x6, x8, x9 => f_X9_readFour_250  (f_X9_readFour_L250  n) x0 x1 x5 x6 x8 x9
def f_X9_readFour_197 (rec197 : Option Nat → Int32 → Int32 → Int32 → gM Int32) (x0 : Option Nat) (x1 : Int32) (x5 : Int32) (x6 : Int32) : gM Int32 := if x1 ≤ x6 then (if x5 ≤ 4 then (f_X9_readFour_L250  gF x0 x1 x5 0 0 0) else (gp (-15))) else (gb (rR 8 14 x0) fun v1 => gb (aI 0 v1 x6) fun v2 => if v2 = 46 then (rec197 x0 x1 (x5 + 1) (x6 + 1)) else (rec197 x0 x1 x5 (x6 + 1)))
def f_X9_readFour_L197  : Nat → Option Nat → Int32 → Int32 → Int32 → gM Int32
  | 0, _, _, _, _ => gno
  | n + 1, x0, x1, x5, x6 => f_X9_readFour_197  (f_X9_readFour_L197  n) x0 x1 x5 x6
def f_X9_readFour_143 (rec143 : Option Nat → Int32 → Int32 → Int32 → Int32 → gM Int32) (x0 : Option Nat) (x1 : Int32) (x3 : Int32) (x4 : Int32) (x5 : Int32) : gM Int32 := if x1 ≤ x5 then (if x3 = 0 then (if x4 = 0 then (gp 0) else (f_X9_readFour_L197  gF x0 x1 1 0)) else (f_X9_readFour_L197  gF x0 x1 1 0)) else (if x4 = 0 then (rec143 x0 x1 x3 0 (x5 + 1)) else (gb (rR 8 14 x0) fun v1 => gb (aI 0 v1 x5) fun v2 => gb (f_X9_hex v2) fun v3 => if v3 < 0 then (rec143 x0 x1 x3 0 (x5 + 1)) else (rec143 x0 x1 x3 1 (x5 + 1))))
def f_X9_readFour_L143  : Nat → Option Nat → Int32 → Int32 → Int32 → Int32 → gM Int32
  | 0, _, _, _, _, _ => gno
  | n + 1, x0, x1, x3, x4, x5 => f_X9_readFour_143  (f_X9_readFour_L143  n) x0 x1 x3 x4 x5
def f_X9_readFour_65 (rec65 : Option Nat → Int32 → Int32 → Int32 → Int32 → gM Int32) (x0 : Option Nat) (x1 : Int32) (x2 : Int32) (x3 : Int32) (x4 : Int32) : gM Int32 := if x1 ≤ x4 then (if (x1 - x2) < 2 then (f_X9_readFour_L143  gF x0 x1 x3 0 (x2 + 2)) else (gb (rR 8 14 x0) fun v1 => gb (aI 0 v1 x2) fun v2 => if v2 = 48 then (gb (rR 8 14 x0) fun v3 => gb (aI 0 v3 (x2 + 1)) fun v4 => if v4 = 120 then (f_X9_readFour_L143  gF x0 x1 x3 1 (x2 + 2)) else (f_X9_readFour_L143  gF x0 x1 x3 0 (x2 + 2))) else (f_X9_readFour_L143  gF x0 x1 x3 0 (x2 + 2)))) else (if x3 = 0 then (rec65 x0 x1 x2 0 (x4 + 1)) else (gb (rR 8 14 x0) fun v5 => gb (aI 0 v5 x4) fun v6 => gb (f_X9_isDigit v6) fun v7 => if v7 = 0 then (rec65 x0 x1 x2 0 (x4 + 1)) else (rec65 x0 x1 x2 1 (x4 + 1))))
def f_X9_readFour_L65  : Nat → Option Nat → Int32 → Int32 → Int32 → Int32 → gM Int32
  | 0, _, _, _, _, _ => gno
  | n + 1, x0, x1, x2, x3, x4 => f_X9_readFour_65  (f_X9_readFour_L65  n) x0 x1 x2 x3 x4
def f_X9_readFour_51  (x0 : Option Nat) (x1 : Int32) (x2 : Int32) : gM Int32 := if x1 ≤ x2 then (f_X9_readFour_L65  gF x0 x1 x2 0 x2) else (f_X9_readFour_L65  gF x0 x1 x2 1 x2)
def f_X9_readFour_28 (rec28 : Option Nat → Int32 → Int32 → gM Int32) (x0 : Option Nat) (x1 : Int32) (x2 : Int32) : gM Int32 := if x2 ≤ 0 then (f_X9_readFour_51  x0 x1 x2) else (gb (rR 8 14 x0) fun v1 => gb (aI 0 v1 (x2 - 1)) fun v2 => if v2 = 46 then (f_X9_readFour_51  x0 x1 x2) else (rec28 x0 x1 (x2 + (-1))))
def f_X9_readFour_L28  : Nat → Option Nat → Int32 → Int32 → gM Int32
  | 0, _, _, _ => gno
  | n + 1, x0, x1, x2 => f_X9_readFour_28  (f_X9_readFour_L28  n) x0 x1 x2
def f_X9_readFour  (a0 : Option Nat) : gM Int32 := gb (rI 8 15 a0) fun v1 => if v1 ≤ 1 then (f_X9_readFour_L28  gF a0 v1 v1) else (gb (rR 8 14 a0) fun v2 => gb (aI 0 v2 (v1 - 1)) fun v3 => if v3 = 46 then (f_X9_readFour_L28  gF a0 (v1 + (-1)) (v1 + (-1))) else (f_X9_readFour_L28  gF a0 v1 v1))
section S_X9_readFour
variable {G : gX} {p : Program} {l : Launch} {e : Env} {s : State} {m : MethodId} {args : Array Value} {below : List Frame} {meth : Method} {c : Code} {mc ms : Nat} {y : Int32 × gS}
set_option maxHeartbeats 4000000 in
set_option maxRecDepth 100000 in
theorem w_X9_readFour_365 (C : gC G p s m args meth c cX9_readFour 15 RX9) (hr : meth.sig.returnType = (some .int)) {rec250 : Option Nat → Int32 → Int32 → Int64 → Int32 → Int32 → gM Int32} (hrec250 : ∀ (x0 : Option Nat) (x1 : Int32) (x5 : Int32) (x6 : Int64) (x8 : Int32) (x9 : Int32), gJ G p l e 4 89 mc ms s m args below meth c gri y 15 250 [(0, va_rf x0), (1, .int x1), (5, .int x5), (6, .long x6), (8, .int x8), (9, .int x9)] [] (rec250 x0 x1 x5 x6 x8 x9)) (x0 : Option Nat) (x1 : Int32) (x5 : Int32) (x9 : Int32) (x10 : Int32) (s0 : Int64) (s1 : Int64) : gJ G p l e 4 89 mc ms s m args below meth c gri y 15 365 [(0, va_rf x0), (1, .int x1), (5, .int x5), (9, .int x9), (10, .int x10)] [.long s1, .long s0] (f_X9_readFour_365 rec250 x0 x1 x5 x9 x10 s0 s1) := by
  have hx := C.1
  have hb := C.2.1
  intro σ H locs cells slots ls hf I hl
  unfold f_X9_readFour_365 at hf
  refine lv_ladd hx hb dX9_readFour_365 ?_
  refine lv_lstore (lv' := [(6, .long (s0 + s1)), (0, va_rf x0), (1, .int x1), (5, .int x5), (9, .int x9), (10, .int x10)]) hx hb dX9_readFour_366 hl (by decide) rfl (fun ls hl => ?_)
  refine lv_iload hx hb dX9_readFour_368 (lv_at hl 5 rfl) ?_
  refine lv_iconst (v := 1) hx hb dX9_readFour_370 kc_i_1 ?_
  refine lv_iadd hx hb dX9_readFour_371 ?_
  refine lv_istore (lv' := [(8, .int (x10 + 1)), (6, .long (s0 + s1)), (0, va_rf x0), (1, .int x1), (5, .int x5), (9, .int x9), (10, .int x10)]) hx hb dX9_readFour_372 hl (by decide) rfl (fun ls hl => ?_)
  refine lv_iinc (v := x9 + 1) (lv' := [(9, .int (x9 + 1)), (8, .int (x10 + 1)), (6, .long (s0 + s1)), (0, va_rf x0), (1, .int x1), (5, .int x5), (10, .int x10)]) hx hb dX9_readFour_374 hl (k := 5) rfl rfl (by decide) rfl (fun ls hl => ?_)
  refine lv_goto (tgt := 250) hx hb dX9_readFour_377 (by decide) ?_
  exact hrec250 x0 x1 x5 (s0 + s1) (x10 + 1) (x9 + 1) _ _ _ _ _ _ hf I (lv_sub hl [3, 4, 5, 2, 1, 0] rfl)
set_option maxHeartbeats 4000000 in
set_option maxRecDepth 100000 in
theorem w_X9_readFour_319 (C : gC G p s m args meth c cX9_readFour 15 RX9) (hr : meth.sig.returnType = (some .int)) {rec250 : Option Nat → Int32 → Int32 → Int64 → Int32 → Int32 → gM Int32} (hrec250 : ∀ (x0 : Option Nat) (x1 : Int32) (x5 : Int32) (x6 : Int64) (x8 : Int32) (x9 : Int32), gJ G p l e 4 89 mc ms s m args below meth c gri y 15 250 [(0, va_rf x0), (1, .int x1), (5, .int x5), (6, .long x6), (8, .int x8), (9, .int x9)] [] (rec250 x0 x1 x5 x6 x8 x9)) (x0 : Option Nat) (x1 : Int32) (x5 : Int32) (x6 : Int64) (x9 : Int32) (x10 : Int32) (x11 : Int64) (s0 : Int64) : gJ G p l e 4 89 mc ms s m args below meth c gri y 15 319 [(0, va_rf x0), (1, .int x1), (5, .int x5), (6, .long x6), (9, .int x9), (10, .int x10), (11, .long x11)] [.long s0] (f_X9_readFour_319 rec250 x0 x1 x5 x6 x9 x10 x11 s0) := by
  have hx := C.1
  have hb := C.2.1
  intro σ H locs cells slots ls hf I hl
  unfold f_X9_readFour_319 at hf
  refine lv_lstore (lv' := [(13, .long s0), (0, va_rf x0), (1, .int x1), (5, .int x5), (6, .long x6), (9, .int x9), (10, .int x10), (11, .long x11)]) hx hb dX9_readFour_319 hl (by decide) rfl (fun ls hl => ?_)
  refine lv_lload hx hb dX9_readFour_321 (lv_at hl 7 rfl) ?_
  refine lv_lconst (v := 0) hx hb dX9_readFour_323 rfl ?_
  refine W.lcmp hx hb dX9_readFour_324 ?_
  refine lv_if_lt (tgt := 336) hx hb dX9_readFour_325 (by decide) (fun hq => ?_) (fun hq => ?_)
  · have hf := gift hq hf
    refine lv_bipush (v := (-15)) hx hb dX9_readFour_336 kc_b_m15 ?_
    exact gw_iret C I hr dX9_readFour_338 hf
  · have hf := giff hq hf
    refine lv_lload hx hb dX9_readFour_328 (lv_at hl 7 rfl) ?_
    refine lv_lload hx hb dX9_readFour_330 (lv_at hl 0 rfl) ?_
    refine W.lcmp hx hb dX9_readFour_332 ?_
    refine lv_if_lt (tgt := 339) hx hb dX9_readFour_333 (by decide) (fun hq => ?_) (fun hq => ?_)
    · have hf := gift hq hf
      refine lv_lload hx hb dX9_readFour_339 (lv_at hl 4 rfl) ?_
      refine lv_iload hx hb dX9_readFour_341 (lv_at hl 5 rfl) ?_
      refine lv_iconst (v := 1) hx hb dX9_readFour_343 kc_i_1 ?_
      refine lv_iadd hx hb dX9_readFour_344 ?_
      refine lv_iload hx hb dX9_readFour_345 (lv_at hl 3 rfl) ?_
      refine lv_icmp_ge (tgt := 363) hx hb dX9_readFour_347 (by decide) (fun hq => ?_) (fun hq => ?_)
      · have hf := gift hq hf
        refine lv_lload hx hb dX9_readFour_363 (lv_at hl 7 rfl) ?_
        exact w_X9_readFour_365 C hr hrec250 x0 x1 x5 x9 x10 x6 x11 _ _ _ _ _ _ hf I (lv_sub hl [1, 2, 3, 5, 6] rfl)
      · have hf := giff hq hf
        refine lv_lload hx hb dX9_readFour_350 (lv_at hl 7 rfl) ?_
        refine lv_bipush (v := 8) hx hb dX9_readFour_352 kc_b_8 ?_
        refine lv_iconst (v := 3) hx hb dX9_readFour_354 kc_i_3 ?_
        refine lv_iload hx hb dX9_readFour_355 (lv_at hl 5 rfl) ?_
        refine lv_isub hx hb dX9_readFour_357 ?_
        refine lv_imul hx hb dX9_readFour_358 ?_
        refine lv_lshl hx hb dX9_readFour_359 rfl ?_
        refine lv_goto (tgt := 365) hx hb dX9_readFour_360 (by decide) ?_
        exact w_X9_readFour_365 C hr hrec250 x0 x1 x5 x9 x10 x6 (x11 <<< ((8 * (3 - x9)).toInt64 &&& 63)) _ _ _ _ _ _ hf I (lv_sub hl [1, 2, 3, 5, 6] rfl)
    · have hf := giff hq hf
      refine lv_bipush (v := (-15)) hx hb dX9_readFour_336 kc_b_m15 ?_
      exact gw_iret C I hr dX9_readFour_338 hf
set_option maxHeartbeats 4000000 in
set_option maxRecDepth 100000 in
theorem w_X9_readFour_285 (C : gC G p s m args meth c cX9_readFour 15 RX9) (hr : meth.sig.returnType = (some .int)) {rec250 : Option Nat → Int32 → Int32 → Int64 → Int32 → Int32 → gM Int32} (hrec250 : ∀ (x0 : Option Nat) (x1 : Int32) (x5 : Int32) (x6 : Int64) (x8 : Int32) (x9 : Int32), gJ G p l e 4 89 mc ms s m args below meth c gri y 15 250 [(0, va_rf x0), (1, .int x1), (5, .int x5), (6, .long x6), (8, .int x8), (9, .int x9)] [] (rec250 x0 x1 x5 x6 x8 x9)) (x0 : Option Nat) (x1 : Int32) (x5 : Int32) (x6 : Int64) (x8 : Int32) (x9 : Int32) (x10 : Int32) : gJ G p l e 4 89 mc ms s m args below meth c gri y 15 285 [(0, va_rf x0), (1, .int x1), (5, .int x5), (6, .long x6), (8, .int x8), (9, .int x9), (10, .int x10)] [] (f_X9_readFour_285 rec250 x0 x1 x5 x6 x8 x9 x10) := by
  have hx := C.1
  have hb := C.2.1
  intro σ H locs cells slots ls hf I hl
  unfold f_X9_readFour_285 at hf
  refine gw_aload_n hx hb dX9_readFour_285 rfl (lv_at hl 0 rfl) ?_
  refine lv_iload hx hb dX9_readFour_286 (lv_at hl 4 rfl) ?_
  refine lv_iload hx hb dX9_readFour_288 (lv_at hl 6 rfl) ?_
  refine gw_callV (rest := []) C I hl.1 gcls_8 (m_X9_numberOf G l x0 x8 x10) gl_RX9_247 gn_X9_numberOf ⟨Nat.le_of_ble_eq_true rfl, Nat.le_of_ble_eq_true rfl⟩ rfl (gc4 (Nat.le_of_ble_eq_true rfl)) rfl dX9_readFour_290 hf (fun v1 σ H locs cells slots I hf => ?_)
  refine W.eq (g2 := F0 m 293 ls [.long v1]) rfl ?_
  refine lv_lstore (lv' := [(11, .long v1), (0, va_rf x0), (1, .int x1), (5, .int x5), (6, .long x6), (8, .int x8), (9, .int x9), (10, .int x10)]) hx hb dX9_readFour_293 hl (by decide) rfl (fun ls hl => ?_)
  refine lv_iload hx hb dX9_readFour_295 (lv_at hl 6 rfl) ?_
  refine lv_iconst (v := 1) hx hb dX9_readFour_297 kc_i_1 ?_
  refine lv_iadd hx hb dX9_readFour_298 ?_
  refine lv_iload hx hb dX9_readFour_299 (lv_at hl 3 rfl) ?_
  refine lv_icmp_ge (tgt := 310) hx hb dX9_readFour_301 (by decide) (fun hq => ?_) (fun hq => ?_)
  · have hf := gift hq hf
    refine lv_lconst (v := 1) hx hb dX9_readFour_310 rfl ?_
    refine lv_bipush (v := 8) hx hb dX9_readFour_311 kc_b_8 ?_
    refine lv_iconst (v := 5) hx hb dX9_readFour_313 kc_i_5 ?_
    refine lv_iload hx hb dX9_readFour_314 (lv_at hl 3 rfl) ?_
    refine lv_isub hx hb dX9_readFour_316 ?_
    refine lv_imul hx hb dX9_readFour_317 ?_
    refine lv_lshl hx hb dX9_readFour_318 rfl ?_
    exact w_X9_readFour_319 C hr hrec250 x0 x1 x5 x6 x9 x10 v1 ((1 : Int64) <<< ((8 * (5 - x5)).toInt64 &&& 63)) _ _ _ _ _ _ hf I (lv_sub hl [1, 2, 3, 4, 6, 7, 0] rfl)
  · have hf := giff hq hf
    refine gw_ldc2 C (v := 256) kw_210 dX9_readFour_304 ?_
    refine lv_goto (tgt := 319) hx hb dX9_readFour_307 (by decide) ?_
    exact w_X9_readFour_319 C hr hrec250 x0 x1 x5 x6 x9 x10 v1 256 _ _ _ _ _ _ hf I (lv_sub hl [1, 2, 3, 4, 6, 7, 0] rfl)
set_option maxHeartbeats 4000000 in
set_option maxRecDepth 100000 in
theorem w_X9_readFour_261 (C : gC G p s m args meth c cX9_readFour 15 RX9) (hr : meth.sig.returnType = (some .int)) {rec250 : Option Nat → Int32 → Int32 → Int64 → Int32 → Int32 → gM Int32} (hrec250 : ∀ (x0 : Option Nat) (x1 : Int32) (x5 : Int32) (x6 : Int64) (x8 : Int32) (x9 : Int32), gJ G p l e 4 89 mc ms s m args below meth c gri y 15 250 [(0, va_rf x0), (1, .int x1), (5, .int x5), (6, .long x6), (8, .int x8), (9, .int x9)] [] (rec250 x0 x1 x5 x6 x8 x9)) {rec261 : Option Nat → Int32 → Int32 → Int64 → Int32 → Int32 → Int32 → gM Int32} (hrec261 : ∀ (x0 : Option Nat) (x1 : Int32) (x5 : Int32) (x6 : Int64) (x8 : Int32) (x9 : Int32) (x10 : Int32), gJ G p l e 4 89 mc ms s m args below meth c gri y 15 261 [(0, va_rf x0), (1, .int x1), (5, .int x5), (6, .long x6), (8, .int x8), (9, .int x9), (10, .int x10)] [] (rec261 x0 x1 x5 x6 x8 x9 x10)) (x0 : Option Nat) (x1 : Int32) (x5 : Int32) (x6 : Int64) (x8 : Int32) (x9 : Int32) (x10 : Int32) : gJ G p l e 4 89 mc ms s m args below meth c gri y 15 261 [(0, va_rf x0), (1, .int x1), (5, .int x5), (6, .long x6), (8, .int x8), (9, .int x9), (10, .int x10)] [] (f_X9_readFour_261 rec250 rec261 x0 x1 x5 x6 x8 x9 x10) := by
  have hx := C.1
  have hb := C.2.1
  intro σ H locs cells slots ls hf I hl
  unfold f_X9_readFour_261 at hf
  refine lv_iload hx hb dX9_readFour_261 (lv_at hl 6 rfl) ?_
  refine lv_iload_n hx hb dX9_readFour_263 rfl (lv_at hl 1 rfl) ?_
  refine lv_icmp_ge (tgt := 285) hx hb dX9_readFour_264 (by decide) (fun hq => ?_) (fun hq => ?_)
  · have hf := gift hq hf
    exact w_X9_readFour_285 C hr hrec250 x0 x1 x5 x6 x8 x9 x10 _ _ _ _ _ _ hf I (lv_sub hl [0, 1, 2, 3, 4, 5, 6] rfl)
  · have hf := giff hq hf
    refine gw_aload_n hx hb dX9_readFour_267 rfl (lv_at hl 0 rfl) ?_
    refine gw_getr (k := 14) C I gcls_8 (by decide) rfl kw_177 dX9_readFour_268 hf (fun v1 hf => ?_)
    refine lv_iload hx hb dX9_readFour_271 (lv_at hl 6 rfl) ?_
    refine gw_bald C I dX9_readFour_273 hf (fun v2 hf => ?_)
    refine lv_bipush (v := 46) hx hb dX9_readFour_274 kc_b_46 ?_
    refine lv_icmp_eq (tgt := 285) hx hb dX9_readFour_276 (by decide) (fun hq => ?_) (fun hq => ?_)
    · have hf := gift hq hf
      exact w_X9_readFour_285 C hr hrec250 x0 x1 x5 x6 x8 x9 x10 _ _ _ _ _ _ hf I (lv_sub hl [0, 1, 2, 3, 4, 5, 6] rfl)
    · have hf := giff hq hf
      refine lv_iinc (v := x10 + 1) (lv' := [(10, .int (x10 + 1)), (0, va_rf x0), (1, .int x1), (5, .int x5), (6, .long x6), (8, .int x8), (9, .int x9)]) hx hb dX9_readFour_279 hl (k := 6) rfl rfl (by decide) rfl (fun ls hl => ?_)
      refine lv_goto (tgt := 261) hx hb dX9_readFour_282 (by decide) ?_
      exact hrec261 x0 x1 x5 x6 x8 x9 (x10 + 1) _ _ _ _ _ _ hf I (lv_sub hl [1, 2, 3, 4, 5, 6, 0] rfl)
theorem w_X9_readFour_L261 (C : gC G p s m args meth c cX9_readFour 15 RX9) (hr : meth.sig.returnType = (some .int)) {rec250 : Option Nat → Int32 → Int32 → Int64 → Int32 → Int32 → gM Int32} (hrec250 : ∀ (x0 : Option Nat) (x1 : Int32) (x5 : Int32) (x6 : Int64) (x8 : Int32) (x9 : Int32), gJ G p l e 4 89 mc ms s m args below meth c gri y 15 250 [(0, va_rf x0), (1, .int x1), (5, .int x5), (6, .long x6), (8, .int x8), (9, .int x9)] [] (rec250 x0 x1 x5 x6 x8 x9)) : ∀ (n : Nat) (x0 : Option Nat) (x1 : Int32) (x5 : Int32) (x6 : Int64) (x8 : Int32) (x9 : Int32) (x10 : Int32), gJ G p l e 4 89 mc ms s m args below meth c gri y 15 261 [(0, va_rf x0), (1, .int x1), (5, .int x5), (6, .long x6), (8, .int x8), (9, .int x9), (10, .int x10)] [] (f_X9_readFour_L261 rec250 n x0 x1 x5 x6 x8 x9 x10) := by
  intro n
  induction n with
  | zero => intro x0 x1 x5 x6 x8 x9 x10 σ H locs cells slots ls hf; exact (gno_some hf).elim
  | succ n ih => intro x0 x1 x5 x6 x8 x9 x10; exact w_X9_readFour_261 C hr hrec250 ih x0 x1 x5 x6 x8 x9 x10
set_option maxHeartbeats 4000000 in
set_option maxRecDepth 100000 in
theorem w_X9_readFour_250 (C : gC G p s m args meth c cX9_readFour 15 RX9) (hr : meth.sig.returnType = (some .int)) {rec250 : Option Nat → Int32 → Int32 → Int64 → Int32 → Int32 → gM Int32} (hrec250 : ∀ (x0 : Option Nat) (x1 : Int32) (x5 : Int32) (x6 : Int64) (x8 : Int32) (x9 : Int32), gJ G p l e 4 89 mc ms s m args below meth c gri y 15 250 [(0, va_rf x0), (1, .int x1), (5, .int x5), (6, .long x6), (8, .int x8), (9, .int x9)] [] (rec250 x0 x1 x5 x6 x8 x9)) (x0 : Option Nat) (x1 : Int32) (x5 : Int32) (x6 : Int64) (x8 : Int32) (x9 : Int32) : gJ G p l e 4 89 mc ms s m args below meth c gri y 15 250 [(0, va_rf x0), (1, .int x1), (5, .int x5), (6, .long x6), (8, .int x8), (9, .int x9)] [] (f_X9_readFour_250 rec250 x0 x1 x5 x6 x8 x9) := by
  have hx := C.1
  have hb := C.2.1
  intro σ H locs cells slots ls hf I hl
  unfold f_X9_readFour_250 at hf
  refine lv_iload hx hb dX9_readFour_250 (lv_at hl 5 rfl) ?_
  refine lv_iload hx hb dX9_readFour_252 (lv_at hl 2 rfl) ?_
  refine lv_icmp_ge (tgt := 380) hx hb dX9_readFour_254 (by decide) (fun hq => ?_) (fun hq => ?_)
  · have hf := gift hq hf
    refine gw_aload_n hx hb dX9_readFour_380 rfl (lv_at hl 0 rfl) ?_
    refine lv_iconst (v := 4) hx hb dX9_readFour_381 kc_i_4 ?_
    refine gw_puti (k := 16) C I gcls_8 (by decide) rfl kw_209 (Or.inl rfl) (by decide +kernel) dX9_readFour_382 hf (fun σ H locs I hf => ?_)
    refine gw_aload_n hx hb dX9_readFour_385 rfl (lv_at hl 0 rfl) ?_
    refine gw_getr (k := 17) C I gcls_8 (by decide) rfl kw_178 dX9_readFour_386 hf (fun v1 hf => ?_)
    refine lv_iconst (v := 0) hx hb dX9_readFour_389 kc_i_0 ?_
    refine lv_lload hx hb dX9_readFour_390 (lv_at hl 3 rfl) ?_
    refine lv_l2i hx hb dX9_readFour_392 rfl ?_
    refine gw_iast C I dX9_readFour_393 hf (fun σ H locs I hf => ?_)
    refine lv_iconst (v := 0) hx hb dX9_readFour_394 kc_i_0 ?_
    exact gw_iret C I hr dX9_readFour_395 hf
  · have hf := giff hq hf
    refine lv_iload hx hb dX9_readFour_257 (lv_at hl 4 rfl) ?_
    refine lv_istore (lv' := [(10, .int x8), (0, va_rf x0), (1, .int x1), (5, .int x5), (6, .long x6), (8, .int x8), (9, .int x9)]) hx hb dX9_readFour_259 hl (by decide) rfl (fun ls hl => ?_)
    exact w_X9_readFour_L261 C hr hrec250 _ x0 x1 x5 x6 x8 x9 x8 _ _ _ _ _ _ hf I (lv_sub hl [1, 2, 3, 4, 5, 6, 0] rfl)
theorem w_X9_readFour_L250 (C : gC G p s m args meth c cX9_readFour 15 RX9) (hr : meth.sig.returnType = (some .int))  : ∀ (n : Nat) (x0 : Option Nat) (x1 : Int32) (x5 : Int32) (x6 : Int64) (x8 : Int32) (x9 : Int32), gJ G p l e 4 89 mc ms s m args below meth c gri y 15 250 [(0, va_rf x0), (1, .int x1), (5, .int x5), (6, .long x6), (8, .int x8), (9, .int x9)] [] (f_X9_readFour_L250  n x0 x1 x5 x6 x8 x9) := by
  intro n
  induction n with
  | zero => intro x0 x1 x5 x6 x8 x9 σ H locs cells slots ls hf; exact (gno_some hf).elim
  | succ n ih => intro x0 x1 x5 x6 x8 x9; exact w_X9_readFour_250 C hr  ih x0 x1 x5 x6 x8 x9
set_option maxHeartbeats 4000000 in
set_option maxRecDepth 100000 in
theorem w_X9_readFour_197 (C : gC G p s m args meth c cX9_readFour 15 RX9) (hr : meth.sig.returnType = (some .int)) {rec197 : Option Nat → Int32 → Int32 → Int32 → gM Int32} (hrec197 : ∀ (x0 : Option Nat) (x1 : Int32) (x5 : Int32) (x6 : Int32), gJ G p l e 4 89 mc ms s m args below meth c gri y 15 197 [(0, va_rf x0), (1, .int x1), (5, .int x5), (6, .int x6)] [] (rec197 x0 x1 x5 x6)) (x0 : Option Nat) (x1 : Int32) (x5 : Int32) (x6 : Int32) : gJ G p l e 4 89 mc ms s m args below meth c gri y 15 197 [(0, va_rf x0), (1, .int x1), (5, .int x5), (6, .int x6)] [] (f_X9_readFour_197 rec197 x0 x1 x5 x6) := by
  have hx := C.1
  have hb := C.2.1
  intro σ H locs cells slots ls hf I hl
  unfold f_X9_readFour_197 at hf
  refine lv_iload hx hb dX9_readFour_197 (lv_at hl 3 rfl) ?_
  refine lv_iload_n hx hb dX9_readFour_199 rfl (lv_at hl 1 rfl) ?_
  refine lv_icmp_ge (tgt := 232) hx hb dX9_readFour_200 (by decide) (fun hq => ?_) (fun hq => ?_)
  · have hf := gift hq hf
    refine lv_iload hx hb dX9_readFour_232 (lv_at hl 2 rfl) ?_
    refine lv_iconst (v := 4) hx hb dX9_readFour_234 kc_i_4 ?_
    refine lv_icmp_le (tgt := 241) hx hb dX9_readFour_235 (by decide) (fun hq => ?_) (fun hq => ?_)
    · have hf := gift hq hf
      refine lv_lconst (v := 0) hx hb dX9_readFour_241 rfl ?_
      refine lv_lstore (lv' := [(6, .long 0), (0, va_rf x0), (1, .int x1), (5, .int x5)]) hx hb dX9_readFour_242 hl (by decide) rfl (fun ls hl => ?_)
      refine lv_iconst (v := 0) hx hb dX9_readFour_244 kc_i_0 ?_
      refine lv_istore (lv' := [(8, .int 0), (6, .long 0), (0, va_rf x0), (1, .int x1), (5, .int x5)]) hx hb dX9_readFour_245 hl (by decide) rfl (fun ls hl => ?_)
      refine lv_iconst (v := 0) hx hb dX9_readFour_247 kc_i_0 ?_
      refine lv_istore (lv' := [(9, .int 0), (8, .int 0), (6, .long 0), (0, va_rf x0), (1, .int x1), (5, .int x5)]) hx hb dX9_readFour_248 hl (by decide) rfl (fun ls hl => ?_)
      exact w_X9_readFour_L250 C hr  _ x0 x1 x5 0 0 0 _ _ _ _ _ _ hf I (lv_sub hl [3, 4, 5, 2, 1, 0] rfl)
    · have hf := giff hq hf
      refine lv_bipush (v := (-15)) hx hb dX9_readFour_238 kc_b_m15 ?_
      exact gw_iret C I hr dX9_readFour_240 hf
  · have hf := giff hq hf
    refine gw_aload_n hx hb dX9_readFour_203 rfl (lv_at hl 0 rfl) ?_
    refine gw_getr (k := 14) C I gcls_8 (by decide) rfl kw_177 dX9_readFour_204 hf (fun v1 hf => ?_)
    refine lv_iload hx hb dX9_readFour_207 (lv_at hl 3 rfl) ?_
    refine gw_bald C I dX9_readFour_209 hf (fun v2 hf => ?_)
    refine lv_bipush (v := 46) hx hb dX9_readFour_210 kc_b_46 ?_
    refine lv_icmp_ne (tgt := 222) hx hb dX9_readFour_212 (by decide) (fun hq => ?_) (fun hq => ?_)
    · have hf := giff hq hf
      refine lv_iload hx hb dX9_readFour_222 (lv_at hl 2 rfl) ?_
      refine lv_istore (lv' := [(5, .int x5), (0, va_rf x0), (1, .int x1), (6, .int x6)]) hx hb dX9_readFour_224 hl (by decide) rfl (fun ls hl => ?_)
      refine lv_iinc (v := x6 + 1) (lv' := [(6, .int (x6 + 1)), (5, .int x5), (0, va_rf x0), (1, .int x1)]) hx hb dX9_readFour_226 hl (k := 3) rfl rfl (by decide) rfl (fun ls hl => ?_)
      refine lv_goto (tgt := 197) hx hb dX9_readFour_229 (by decide) ?_
      exact hrec197 x0 x1 x5 (x6 + 1) _ _ _ _ _ _ hf I (lv_sub hl [2, 3, 1, 0] rfl)
    · have hf := gift hq hf
      refine lv_iload hx hb dX9_readFour_215 (lv_at hl 2 rfl) ?_
      refine lv_iconst (v := 1) hx hb dX9_readFour_217 kc_i_1 ?_
      refine lv_iadd hx hb dX9_readFour_218 ?_
      refine lv_goto (tgt := 224) hx hb dX9_readFour_219 (by decide) ?_
      refine lv_istore (lv' := [(5, .int (x5 + 1)), (0, va_rf x0), (1, .int x1), (6, .int x6)]) hx hb dX9_readFour_224 hl (by decide) rfl (fun ls hl => ?_)
      refine lv_iinc (v := x6 + 1) (lv' := [(6, .int (x6 + 1)), (5, .int (x5 + 1)), (0, va_rf x0), (1, .int x1)]) hx hb dX9_readFour_226 hl (k := 3) rfl rfl (by decide) rfl (fun ls hl => ?_)
      refine lv_goto (tgt := 197) hx hb dX9_readFour_229 (by decide) ?_
      exact hrec197 x0 x1 (x5 + 1) (x6 + 1) _ _ _ _ _ _ hf I (lv_sub hl [2, 3, 1, 0] rfl)
theorem w_X9_readFour_L197 (C : gC G p s m args meth c cX9_readFour 15 RX9) (hr : meth.sig.returnType = (some .int))  : ∀ (n : Nat) (x0 : Option Nat) (x1 : Int32) (x5 : Int32) (x6 : Int32), gJ G p l e 4 89 mc ms s m args below meth c gri y 15 197 [(0, va_rf x0), (1, .int x1), (5, .int x5), (6, .int x6)] [] (f_X9_readFour_L197  n x0 x1 x5 x6) := by
  intro n
  induction n with
  | zero => intro x0 x1 x5 x6 σ H locs cells slots ls hf; exact (gno_some hf).elim
  | succ n ih => intro x0 x1 x5 x6; exact w_X9_readFour_197 C hr  ih x0 x1 x5 x6
set_option maxHeartbeats 4000000 in
set_option maxRecDepth 100000 in
theorem w_X9_readFour_143 (C : gC G p s m args meth c cX9_readFour 15 RX9) (hr : meth.sig.returnType = (some .int)) {rec143 : Option Nat → Int32 → Int32 → Int32 → Int32 → gM Int32} (hrec143 : ∀ (x0 : Option Nat) (x1 : Int32) (x3 : Int32) (x4 : Int32) (x5 : Int32), gJ G p l e 4 89 mc ms s m args below meth c gri y 15 143 [(0, va_rf x0), (1, .int x1), (3, .int x3), (4, .int x4), (5, .int x5)] [] (rec143 x0 x1 x3 x4 x5)) (x0 : Option Nat) (x1 : Int32) (x3 : Int32) (x4 : Int32) (x5 : Int32) : gJ G p l e 4 89 mc ms s m args below meth c gri y 15 143 [(0, va_rf x0), (1, .int x1), (3, .int x3), (4, .int x4), (5, .int x5)] [] (f_X9_readFour_143 rec143 x0 x1 x3 x4 x5) := by
  have hx := C.1
  have hb := C.2.1
  intro σ H locs cells slots ls hf I hl
  unfold f_X9_readFour_143 at hf
  refine lv_iload hx hb dX9_readFour_143 (lv_at hl 4 rfl) ?_
  refine lv_iload_n hx hb dX9_readFour_145 rfl (lv_at hl 1 rfl) ?_
  refine lv_icmp_ge (tgt := 180) hx hb dX9_readFour_146 (by decide) (fun hq => ?_) (fun hq => ?_)
  · have hf := gift hq hf
    refine lv_iload_n hx hb dX9_readFour_180 rfl (lv_at hl 2 rfl) ?_
    refine lv_if_ne (tgt := 191) hx hb dX9_readFour_181 (by decide) (fun hq => ?_) (fun hq => ?_)
    · have hf := giff hq hf
      refine lv_iconst (v := 1) hx hb dX9_readFour_191 kc_i_1 ?_
      refine lv_istore (lv' := [(5, .int 1), (0, va_rf x0), (1, .int x1), (3, .int x3), (4, .int x4)]) hx hb dX9_readFour_192 hl (by decide) rfl (fun ls hl => ?_)
      refine lv_iconst (v := 0) hx hb dX9_readFour_194 kc_i_0 ?_
      refine lv_istore (lv' := [(6, .int 0), (5, .int 1), (0, va_rf x0), (1, .int x1), (3, .int x3), (4, .int x4)]) hx hb dX9_readFour_195 hl (by decide) rfl (fun ls hl => ?_)
      exact w_X9_readFour_L197 C hr  _ x0 x1 1 0 _ _ _ _ _ _ hf I (lv_sub hl [2, 3, 1, 0] rfl)
    · have hf := gift hq hf
      refine lv_iload hx hb dX9_readFour_184 (lv_at hl 3 rfl) ?_
      refine lv_if_ne (tgt := 191) hx hb dX9_readFour_186 (by decide) (fun hq => ?_) (fun hq => ?_)
      · have hf := giff hq hf
        refine lv_iconst (v := 1) hx hb dX9_readFour_191 kc_i_1 ?_
        refine lv_istore (lv' := [(5, .int 1), (0, va_rf x0), (1, .int x1), (3, .int x3), (4, .int x4)]) hx hb dX9_readFour_192 hl (by decide) rfl (fun ls hl => ?_)
        refine lv_iconst (v := 0) hx hb dX9_readFour_194 kc_i_0 ?_
        refine lv_istore (lv' := [(6, .int 0), (5, .int 1), (0, va_rf x0), (1, .int x1), (3, .int x3), (4, .int x4)]) hx hb dX9_readFour_195 hl (by decide) rfl (fun ls hl => ?_)
        exact w_X9_readFour_L197 C hr  _ x0 x1 1 0 _ _ _ _ _ _ hf I (lv_sub hl [2, 3, 1, 0] rfl)
      · have hf := gift hq hf
        refine lv_iconst (v := 0) hx hb dX9_readFour_189 kc_i_0 ?_
        exact gw_iret C I hr dX9_readFour_190 hf
  · have hf := giff hq hf
    refine lv_iload hx hb dX9_readFour_149 (lv_at hl 3 rfl) ?_
    refine lv_if_eq (tgt := 171) hx hb dX9_readFour_151 (by decide) (fun hq => ?_) (fun hq => ?_)
    · have hf := gift hq hf
      refine lv_iconst (v := 0) hx hb dX9_readFour_171 kc_i_0 ?_
      refine lv_istore (lv' := [(4, .int 0), (0, va_rf x0), (1, .int x1), (3, .int x3), (5, .int x5)]) hx hb dX9_readFour_172 hl (by decide) rfl (fun ls hl => ?_)
      refine lv_iinc (v := x5 + 1) (lv' := [(5, .int (x5 + 1)), (4, .int 0), (0, va_rf x0), (1, .int x1), (3, .int x3)]) hx hb dX9_readFour_174 hl (k := 4) rfl rfl (by decide) rfl (fun ls hl => ?_)
      refine lv_goto (tgt := 143) hx hb dX9_readFour_177 (by decide) ?_
      exact hrec143 x0 x1 x3 0 (x5 + 1) _ _ _ _ _ _ hf I (lv_sub hl [2, 3, 4, 1, 0] rfl)
    · have hf := giff hq hf
      refine gw_aload_n hx hb dX9_readFour_154 rfl (lv_at hl 0 rfl) ?_
      refine gw_getr (k := 14) C I gcls_8 (by decide) rfl kw_177 dX9_readFour_155 hf (fun v1 hf => ?_)
      refine lv_iload hx hb dX9_readFour_158 (lv_at hl 4 rfl) ?_
      refine gw_bald C I dX9_readFour_160 hf (fun v2 hf => ?_)
      refine gw_callS (rest := []) C I hl.1 (m_X9_hex G l v2) gl_RX9_237 kw_204 ⟨Nat.le_of_ble_eq_true rfl, Nat.le_of_ble_eq_true rfl⟩ rfl (gc4 (Nat.le_of_ble_eq_true rfl)) rfl dX9_readFour_161 hf (fun v3 σ H locs cells slots I hf => ?_)
      refine W.eq (g2 := F0 m 164 ls [.int v3]) rfl ?_
      refine lv_if_lt (tgt := 171) hx hb dX9_readFour_164 (by decide) (fun hq => ?_) (fun hq => ?_)
      · have hf := gift hq hf
        refine lv_iconst (v := 0) hx hb dX9_readFour_171 kc_i_0 ?_
        refine lv_istore (lv' := [(4, .int 0), (0, va_rf x0), (1, .int x1), (3, .int x3), (5, .int x5)]) hx hb dX9_readFour_172 hl (by decide) rfl (fun ls hl => ?_)
        refine lv_iinc (v := x5 + 1) (lv' := [(5, .int (x5 + 1)), (4, .int 0), (0, va_rf x0), (1, .int x1), (3, .int x3)]) hx hb dX9_readFour_174 hl (k := 4) rfl rfl (by decide) rfl (fun ls hl => ?_)
        refine lv_goto (tgt := 143) hx hb dX9_readFour_177 (by decide) ?_
        exact hrec143 x0 x1 x3 0 (x5 + 1) _ _ _ _ _ _ hf I (lv_sub hl [2, 3, 4, 1, 0] rfl)
      · have hf := giff hq hf
        refine lv_iconst (v := 1) hx hb dX9_readFour_167 kc_i_1 ?_
        refine lv_goto (tgt := 172) hx hb dX9_readFour_168 (by decide) ?_
        refine lv_istore (lv' := [(4, .int 1), (0, va_rf x0), (1, .int x1), (3, .int x3), (5, .int x5)]) hx hb dX9_readFour_172 hl (by decide) rfl (fun ls hl => ?_)
        refine lv_iinc (v := x5 + 1) (lv' := [(5, .int (x5 + 1)), (4, .int 1), (0, va_rf x0), (1, .int x1), (3, .int x3)]) hx hb dX9_readFour_174 hl (k := 4) rfl rfl (by decide) rfl (fun ls hl => ?_)
        refine lv_goto (tgt := 143) hx hb dX9_readFour_177 (by decide) ?_
        exact hrec143 x0 x1 x3 1 (x5 + 1) _ _ _ _ _ _ hf I (lv_sub hl [2, 3, 4, 1, 0] rfl)
theorem w_X9_readFour_L143 (C : gC G p s m args meth c cX9_readFour 15 RX9) (hr : meth.sig.returnType = (some .int))  : ∀ (n : Nat) (x0 : Option Nat) (x1 : Int32) (x3 : Int32) (x4 : Int32) (x5 : Int32), gJ G p l e 4 89 mc ms s m args below meth c gri y 15 143 [(0, va_rf x0), (1, .int x1), (3, .int x3), (4, .int x4), (5, .int x5)] [] (f_X9_readFour_L143  n x0 x1 x3 x4 x5) := by
  intro n
  induction n with
  | zero => intro x0 x1 x3 x4 x5 σ H locs cells slots ls hf; exact (gno_some hf).elim
  | succ n ih => intro x0 x1 x3 x4 x5; exact w_X9_readFour_143 C hr  ih x0 x1 x3 x4 x5
set_option maxHeartbeats 4000000 in
set_option maxRecDepth 100000 in
theorem w_X9_readFour_65 (C : gC G p s m args meth c cX9_readFour 15 RX9) (hr : meth.sig.returnType = (some .int)) {rec65 : Option Nat → Int32 → Int32 → Int32 → Int32 → gM Int32} (hrec65 : ∀ (x0 : Option Nat) (x1 : Int32) (x2 : Int32) (x3 : Int32) (x4 : Int32), gJ G p l e 4 89 mc ms s m args below meth c gri y 15 65 [(0, va_rf x0), (1, .int x1), (2, .int x2), (3, .int x3), (4, .int x4)] [] (rec65 x0 x1 x2 x3 x4)) (x0 : Option Nat) (x1 : Int32) (x2 : Int32) (x3 : Int32) (x4 : Int32) : gJ G p l e 4 89 mc ms s m args below meth c gri y 15 65 [(0, va_rf x0), (1, .int x1), (2, .int x2), (3, .int x3), (4, .int x4)] [] (f_X9_readFour_65 rec65 x0 x1 x2 x3 x4) := by
  have hx := C.1
  have hb := C.2.1
  intro σ H locs cells slots ls hf I hl
  unfold f_X9_readFour_65 at hf
  refine lv_iload hx hb dX9_readFour_65 (lv_at hl 4 rfl) ?_
  refine lv_iload_n hx hb dX9_readFour_67 rfl (lv_at hl 1 rfl) ?_
  refine lv_icmp_ge (tgt := 100) hx hb dX9_readFour_68 (by decide) (fun hq => ?_) (fun hq => ?_)
  · have hf := gift hq hf
    refine lv_iload_n hx hb dX9_readFour_100 rfl (lv_at hl 1 rfl) ?_
    refine lv_iload_n hx hb dX9_readFour_101 rfl (lv_at hl 2 rfl) ?_
    refine lv_isub hx hb dX9_readFour_102 ?_
    refine lv_iconst (v := 2) hx hb dX9_readFour_103 kc_i_2 ?_
    refine lv_icmp_lt (tgt := 135) hx hb dX9_readFour_104 (by decide) (fun hq => ?_) (fun hq => ?_)
    · have hf := gift hq hf
      refine lv_iconst (v := 0) hx hb dX9_readFour_135 kc_i_0 ?_
      refine lv_istore (lv' := [(4, .int 0), (0, va_rf x0), (1, .int x1), (2, .int x2), (3, .int x3)]) hx hb dX9_readFour_136 hl (by decide) rfl (fun ls hl => ?_)
      refine lv_iload_n hx hb dX9_readFour_138 rfl (lv_at hl 3 rfl) ?_
      refine lv_iconst (v := 2) hx hb dX9_readFour_139 kc_i_2 ?_
      refine lv_iadd hx hb dX9_readFour_140 ?_
      refine lv_istore (lv' := [(5, .int (x2 + 2)), (4, .int 0), (0, va_rf x0), (1, .int x1), (2, .int x2), (3, .int x3)]) hx hb dX9_readFour_141 hl (by decide) rfl (fun ls hl => ?_)
      exact w_X9_readFour_L143 C hr  _ x0 x1 x3 0 (x2 + 2) _ _ _ _ _ _ hf I (lv_sub hl [2, 3, 5, 1, 0] rfl)
    · have hf := giff hq hf
      refine gw_aload_n hx hb dX9_readFour_107 rfl (lv_at hl 0 rfl) ?_
      refine gw_getr (k := 14) C I gcls_8 (by decide) rfl kw_177 dX9_readFour_108 hf (fun v1 hf => ?_)
      refine lv_iload_n hx hb dX9_readFour_111 rfl (lv_at hl 2 rfl) ?_
      refine gw_bald C I dX9_readFour_112 hf (fun v2 hf => ?_)
      refine lv_bipush (v := 48) hx hb dX9_readFour_113 kc_b_48 ?_
      refine lv_icmp_ne (tgt := 135) hx hb dX9_readFour_115 (by decide) (fun hq => ?_) (fun hq => ?_)
      · have hf := giff hq hf
        refine lv_iconst (v := 0) hx hb dX9_readFour_135 kc_i_0 ?_
        refine lv_istore (lv' := [(4, .int 0), (0, va_rf x0), (1, .int x1), (2, .int x2), (3, .int x3)]) hx hb dX9_readFour_136 hl (by decide) rfl (fun ls hl => ?_)
        refine lv_iload_n hx hb dX9_readFour_138 rfl (lv_at hl 3 rfl) ?_
        refine lv_iconst (v := 2) hx hb dX9_readFour_139 kc_i_2 ?_
        refine lv_iadd hx hb dX9_readFour_140 ?_
        refine lv_istore (lv' := [(5, .int (x2 + 2)), (4, .int 0), (0, va_rf x0), (1, .int x1), (2, .int x2), (3, .int x3)]) hx hb dX9_readFour_141 hl (by decide) rfl (fun ls hl => ?_)
        exact w_X9_readFour_L143 C hr  _ x0 x1 x3 0 (x2 + 2) _ _ _ _ _ _ hf I (lv_sub hl [2, 3, 5, 1, 0] rfl)
      · have hf := gift hq hf
        refine gw_aload_n hx hb dX9_readFour_118 rfl (lv_at hl 0 rfl) ?_
        refine gw_getr (k := 14) C I gcls_8 (by decide) rfl kw_177 dX9_readFour_119 hf (fun v3 hf => ?_)
        refine lv_iload_n hx hb dX9_readFour_122 rfl (lv_at hl 2 rfl) ?_
        refine lv_iconst (v := 1) hx hb dX9_readFour_123 kc_i_1 ?_
        refine lv_iadd hx hb dX9_readFour_124 ?_
        refine gw_bald C I dX9_readFour_125 hf (fun v4 hf => ?_)
        refine lv_bipush (v := 120) hx hb dX9_readFour_126 kc_b_120 ?_
        refine lv_icmp_ne (tgt := 135) hx hb dX9_readFour_128 (by decide) (fun hq => ?_) (fun hq => ?_)
        · have hf := giff hq hf
          refine lv_iconst (v := 0) hx hb dX9_readFour_135 kc_i_0 ?_
          refine lv_istore (lv' := [(4, .int 0), (0, va_rf x0), (1, .int x1), (2, .int x2), (3, .int x3)]) hx hb dX9_readFour_136 hl (by decide) rfl (fun ls hl => ?_)
          refine lv_iload_n hx hb dX9_readFour_138 rfl (lv_at hl 3 rfl) ?_
          refine lv_iconst (v := 2) hx hb dX9_readFour_139 kc_i_2 ?_
          refine lv_iadd hx hb dX9_readFour_140 ?_
          refine lv_istore (lv' := [(5, .int (x2 + 2)), (4, .int 0), (0, va_rf x0), (1, .int x1), (2, .int x2), (3, .int x3)]) hx hb dX9_readFour_141 hl (by decide) rfl (fun ls hl => ?_)
          exact w_X9_readFour_L143 C hr  _ x0 x1 x3 0 (x2 + 2) _ _ _ _ _ _ hf I (lv_sub hl [2, 3, 5, 1, 0] rfl)
        · have hf := gift hq hf
          refine lv_iconst (v := 1) hx hb dX9_readFour_131 kc_i_1 ?_
          refine lv_goto (tgt := 136) hx hb dX9_readFour_132 (by decide) ?_
          refine lv_istore (lv' := [(4, .int 1), (0, va_rf x0), (1, .int x1), (2, .int x2), (3, .int x3)]) hx hb dX9_readFour_136 hl (by decide) rfl (fun ls hl => ?_)
          refine lv_iload_n hx hb dX9_readFour_138 rfl (lv_at hl 3 rfl) ?_
          refine lv_iconst (v := 2) hx hb dX9_readFour_139 kc_i_2 ?_
          refine lv_iadd hx hb dX9_readFour_140 ?_
          refine lv_istore (lv' := [(5, .int (x2 + 2)), (4, .int 1), (0, va_rf x0), (1, .int x1), (2, .int x2), (3, .int x3)]) hx hb dX9_readFour_141 hl (by decide) rfl (fun ls hl => ?_)
          exact w_X9_readFour_L143 C hr  _ x0 x1 x3 1 (x2 + 2) _ _ _ _ _ _ hf I (lv_sub hl [2, 3, 5, 1, 0] rfl)
  · have hf := giff hq hf
    refine lv_iload_n hx hb dX9_readFour_71 rfl (lv_at hl 3 rfl) ?_
    refine lv_if_eq (tgt := 92) hx hb dX9_readFour_72 (by decide) (fun hq => ?_) (fun hq => ?_)
    · have hf := gift hq hf
      refine lv_iconst (v := 0) hx hb dX9_readFour_92 kc_i_0 ?_
      refine lv_istore_n (lv' := [(3, .int 0), (0, va_rf x0), (1, .int x1), (2, .int x2), (4, .int x4)]) hx hb dX9_readFour_93 rfl hl (by decide) rfl (fun ls hl => ?_)
      refine lv_iinc (v := x4 + 1) (lv' := [(4, .int (x4 + 1)), (3, .int 0), (0, va_rf x0), (1, .int x1), (2, .int x2)]) hx hb dX9_readFour_94 hl (k := 4) rfl rfl (by decide) rfl (fun ls hl => ?_)
      refine lv_goto (tgt := 65) hx hb dX9_readFour_97 (by decide) ?_
      exact hrec65 x0 x1 x2 0 (x4 + 1) _ _ _ _ _ _ hf I (lv_sub hl [2, 3, 4, 1, 0] rfl)
    · have hf := giff hq hf
      refine gw_aload_n hx hb dX9_readFour_75 rfl (lv_at hl 0 rfl) ?_
      refine gw_getr (k := 14) C I gcls_8 (by decide) rfl kw_177 dX9_readFour_76 hf (fun v5 hf => ?_)
      refine lv_iload hx hb dX9_readFour_79 (lv_at hl 4 rfl) ?_
      refine gw_bald C I dX9_readFour_81 hf (fun v6 hf => ?_)
      refine gw_callS (rest := []) C I hl.1 (m_X9_isDigit G l v6) gl_RX9_95 kw_193 ⟨Nat.le_of_ble_eq_true rfl, Nat.le_of_ble_eq_true rfl⟩ rfl (gc4 (Nat.le_of_ble_eq_true rfl)) rfl dX9_readFour_82 hf (fun v7 σ H locs cells slots I hf => ?_)
      refine W.eq (g2 := F0 m 85 ls [.int v7]) rfl ?_
      refine lv_if_eq (tgt := 92) hx hb dX9_readFour_85 (by decide) (fun hq => ?_) (fun hq => ?_)
      · have hf := gift hq hf
        refine lv_iconst (v := 0) hx hb dX9_readFour_92 kc_i_0 ?_
        refine lv_istore_n (lv' := [(3, .int 0), (0, va_rf x0), (1, .int x1), (2, .int x2), (4, .int x4)]) hx hb dX9_readFour_93 rfl hl (by decide) rfl (fun ls hl => ?_)
        refine lv_iinc (v := x4 + 1) (lv' := [(4, .int (x4 + 1)), (3, .int 0), (0, va_rf x0), (1, .int x1), (2, .int x2)]) hx hb dX9_readFour_94 hl (k := 4) rfl rfl (by decide) rfl (fun ls hl => ?_)
        refine lv_goto (tgt := 65) hx hb dX9_readFour_97 (by decide) ?_
        exact hrec65 x0 x1 x2 0 (x4 + 1) _ _ _ _ _ _ hf I (lv_sub hl [2, 3, 4, 1, 0] rfl)
      · have hf := giff hq hf
        refine lv_iconst (v := 1) hx hb dX9_readFour_88 kc_i_1 ?_
        refine lv_goto (tgt := 93) hx hb dX9_readFour_89 (by decide) ?_
        refine lv_istore_n (lv' := [(3, .int 1), (0, va_rf x0), (1, .int x1), (2, .int x2), (4, .int x4)]) hx hb dX9_readFour_93 rfl hl (by decide) rfl (fun ls hl => ?_)
        refine lv_iinc (v := x4 + 1) (lv' := [(4, .int (x4 + 1)), (3, .int 1), (0, va_rf x0), (1, .int x1), (2, .int x2)]) hx hb dX9_readFour_94 hl (k := 4) rfl rfl (by decide) rfl (fun ls hl => ?_)
        refine lv_goto (tgt := 65) hx hb dX9_readFour_97 (by decide) ?_
        exact hrec65 x0 x1 x2 1 (x4 + 1) _ _ _ _ _ _ hf I (lv_sub hl [2, 3, 4, 1, 0] rfl)
theorem w_X9_readFour_L65 (C : gC G p s m args meth c cX9_readFour 15 RX9) (hr : meth.sig.returnType = (some .int))  : ∀ (n : Nat) (x0 : Option Nat) (x1 : Int32) (x2 : Int32) (x3 : Int32) (x4 : Int32), gJ G p l e 4 89 mc ms s m args below meth c gri y 15 65 [(0, va_rf x0), (1, .int x1), (2, .int x2), (3, .int x3), (4, .int x4)] [] (f_X9_readFour_L65  n x0 x1 x2 x3 x4) := by
  intro n
  induction n with
  | zero => intro x0 x1 x2 x3 x4 σ H locs cells slots ls hf; exact (gno_some hf).elim
  | succ n ih => intro x0 x1 x2 x3 x4; exact w_X9_readFour_65 C hr  ih x0 x1 x2 x3 x4
set_option maxHeartbeats 4000000 in
set_option maxRecDepth 100000 in
theorem w_X9_readFour_51 (C : gC G p s m args meth c cX9_readFour 15 RX9) (hr : meth.sig.returnType = (some .int))  (x0 : Option Nat) (x1 : Int32) (x2 : Int32) : gJ G p l e 4 89 mc ms s m args below meth c gri y 15 51 [(0, va_rf x0), (1, .int x1), (2, .int x2)] [] (f_X9_readFour_51  x0 x1 x2) := by
  have hx := C.1
  have hb := C.2.1
  intro σ H locs cells slots ls hf I hl
  unfold f_X9_readFour_51 at hf
  refine lv_iload_n hx hb dX9_readFour_51 rfl (lv_at hl 2 rfl) ?_
  refine lv_iload_n hx hb dX9_readFour_52 rfl (lv_at hl 1 rfl) ?_
  refine lv_icmp_ge (tgt := 60) hx hb dX9_readFour_53 (by decide) (fun hq => ?_) (fun hq => ?_)
  · have hf := gift hq hf
    refine lv_iconst (v := 0) hx hb dX9_readFour_60 kc_i_0 ?_
    refine lv_istore_n (lv' := [(3, .int 0), (0, va_rf x0), (1, .int x1), (2, .int x2)]) hx hb dX9_readFour_61 rfl hl (by decide) rfl (fun ls hl => ?_)
    refine lv_iload_n hx hb dX9_readFour_62 rfl (lv_at hl 3 rfl) ?_
    refine lv_istore (lv' := [(4, .int x2), (3, .int 0), (0, va_rf x0), (1, .int x1), (2, .int x2)]) hx hb dX9_readFour_63 hl (by decide) rfl (fun ls hl => ?_)
    exact w_X9_readFour_L65 C hr  _ x0 x1 x2 0 x2 _ _ _ _ _ _ hf I (lv_sub hl [2, 3, 4, 1, 0] rfl)
  · have hf := giff hq hf
    refine lv_iconst (v := 1) hx hb dX9_readFour_56 kc_i_1 ?_
    refine lv_goto (tgt := 61) hx hb dX9_readFour_57 (by decide) ?_
    refine lv_istore_n (lv' := [(3, .int 1), (0, va_rf x0), (1, .int x1), (2, .int x2)]) hx hb dX9_readFour_61 rfl hl (by decide) rfl (fun ls hl => ?_)
    refine lv_iload_n hx hb dX9_readFour_62 rfl (lv_at hl 3 rfl) ?_
    refine lv_istore (lv' := [(4, .int x2), (3, .int 1), (0, va_rf x0), (1, .int x1), (2, .int x2)]) hx hb dX9_readFour_63 hl (by decide) rfl (fun ls hl => ?_)
    exact w_X9_readFour_L65 C hr  _ x0 x1 x2 1 x2 _ _ _ _ _ _ hf I (lv_sub hl [2, 3, 4, 1, 0] rfl)
set_option maxHeartbeats 4000000 in
set_option maxRecDepth 100000 in
theorem w_X9_readFour_28 (C : gC G p s m args meth c cX9_readFour 15 RX9) (hr : meth.sig.returnType = (some .int)) {rec28 : Option Nat → Int32 → Int32 → gM Int32} (hrec28 : ∀ (x0 : Option Nat) (x1 : Int32) (x2 : Int32), gJ G p l e 4 89 mc ms s m args below meth c gri y 15 28 [(0, va_rf x0), (1, .int x1), (2, .int x2)] [] (rec28 x0 x1 x2)) (x0 : Option Nat) (x1 : Int32) (x2 : Int32) : gJ G p l e 4 89 mc ms s m args below meth c gri y 15 28 [(0, va_rf x0), (1, .int x1), (2, .int x2)] [] (f_X9_readFour_28 rec28 x0 x1 x2) := by
  have hx := C.1
  have hb := C.2.1
  intro σ H locs cells slots ls hf I hl
  unfold f_X9_readFour_28 at hf
  refine lv_iload_n hx hb dX9_readFour_28 rfl (lv_at hl 2 rfl) ?_
  refine lv_if_le (tgt := 51) hx hb dX9_readFour_29 (by decide) (fun hq => ?_) (fun hq => ?_)
  · have hf := gift hq hf
    exact w_X9_readFour_51 C hr  x0 x1 x2 _ _ _ _ _ _ hf I (lv_sub hl [0, 1, 2] rfl)
  · have hf := giff hq hf
    refine gw_aload_n hx hb dX9_readFour_32 rfl (lv_at hl 0 rfl) ?_
    refine gw_getr (k := 14) C I gcls_8 (by decide) rfl kw_177 dX9_readFour_33 hf (fun v1 hf => ?_)
    refine lv_iload_n hx hb dX9_readFour_36 rfl (lv_at hl 2 rfl) ?_
    refine lv_iconst (v := 1) hx hb dX9_readFour_37 kc_i_1 ?_
    refine lv_isub hx hb dX9_readFour_38 ?_
    refine gw_bald C I dX9_readFour_39 hf (fun v2 hf => ?_)
    refine lv_bipush (v := 46) hx hb dX9_readFour_40 kc_b_46 ?_
    refine lv_icmp_eq (tgt := 51) hx hb dX9_readFour_42 (by decide) (fun hq => ?_) (fun hq => ?_)
    · have hf := gift hq hf
      exact w_X9_readFour_51 C hr  x0 x1 x2 _ _ _ _ _ _ hf I (lv_sub hl [0, 1, 2] rfl)
    · have hf := giff hq hf
      refine lv_iinc (v := x2 + (-1)) (lv' := [(2, .int (x2 + (-1))), (0, va_rf x0), (1, .int x1)]) hx hb dX9_readFour_45 hl (k := 2) rfl rfl (by decide) rfl (fun ls hl => ?_)
      refine lv_goto (tgt := 28) hx hb dX9_readFour_48 (by decide) ?_
      exact hrec28 x0 x1 (x2 + (-1)) _ _ _ _ _ _ hf I (lv_sub hl [1, 2, 0] rfl)
theorem w_X9_readFour_L28 (C : gC G p s m args meth c cX9_readFour 15 RX9) (hr : meth.sig.returnType = (some .int))  : ∀ (n : Nat) (x0 : Option Nat) (x1 : Int32) (x2 : Int32), gJ G p l e 4 89 mc ms s m args below meth c gri y 15 28 [(0, va_rf x0), (1, .int x1), (2, .int x2)] [] (f_X9_readFour_L28  n x0 x1 x2) := by
  intro n
  induction n with
  | zero => intro x0 x1 x2 σ H locs cells slots ls hf; exact (gno_some hf).elim
  | succ n ih => intro x0 x1 x2; exact w_X9_readFour_28 C hr  ih x0 x1 x2
set_option maxHeartbeats 4000000 in
set_option maxRecDepth 100000 in
theorem w_X9_readFour_0 (C : gC G p s m args meth c cX9_readFour 15 RX9) (hr : meth.sig.returnType = (some .int))  (a0 : Option Nat) : gJ G p l e 4 89 mc ms s m args below meth c gri y 15 0 [(0, va_rf a0)] [] (f_X9_readFour  a0) := by
  have hx := C.1
  have hb := C.2.1
  intro σ H locs cells slots ls hf I hl
  unfold f_X9_readFour at hf
  refine gw_aload_n hx hb dX9_readFour_0 rfl (lv_at hl 0 rfl) ?_
  refine gw_geti (k := 15) C I gcls_8 (by decide) rfl kw_208 dX9_readFour_1 hf (fun v1 hf => ?_)
  refine lv_istore_n (lv' := [(1, .int v1), (0, va_rf a0)]) hx hb dX9_readFour_4 rfl hl (by decide) (by cases a0 <;> rfl) (fun ls hl => ?_)
  refine lv_iload_n hx hb dX9_readFour_5 rfl (lv_at hl 0 rfl) ?_
  refine lv_iconst (v := 1) hx hb dX9_readFour_6 kc_i_1 ?_
  refine lv_icmp_le (tgt := 26) hx hb dX9_readFour_7 (by decide) (fun hq => ?_) (fun hq => ?_)
  · have hf := gift hq hf
    refine lv_iload_n hx hb dX9_readFour_26 rfl (lv_at hl 0 rfl) ?_
    refine lv_istore_n (lv' := [(2, .int v1), (1, .int v1), (0, va_rf a0)]) hx hb dX9_readFour_27 rfl hl (by decide) rfl (fun ls hl => ?_)
    exact w_X9_readFour_L28 C hr  _ a0 v1 v1 _ _ _ _ _ _ hf I (lv_sub hl [2, 1, 0] rfl)
  · have hf := giff hq hf
    refine gw_aload_n hx hb dX9_readFour_10 rfl (lv_at hl 1 rfl) ?_
    refine gw_getr (k := 14) C I gcls_8 (by decide) rfl kw_177 dX9_readFour_11 hf (fun v2 hf => ?_)
    refine lv_iload_n hx hb dX9_readFour_14 rfl (lv_at hl 0 rfl) ?_
    refine lv_iconst (v := 1) hx hb dX9_readFour_15 kc_i_1 ?_
    refine lv_isub hx hb dX9_readFour_16 ?_
    refine gw_bald C I dX9_readFour_17 hf (fun v3 hf => ?_)
    refine lv_bipush (v := 46) hx hb dX9_readFour_18 kc_b_46 ?_
    refine lv_icmp_ne (tgt := 26) hx hb dX9_readFour_20 (by decide) (fun hq => ?_) (fun hq => ?_)
    · have hf := giff hq hf
      refine lv_iload_n hx hb dX9_readFour_26 rfl (lv_at hl 0 rfl) ?_
      refine lv_istore_n (lv' := [(2, .int v1), (1, .int v1), (0, va_rf a0)]) hx hb dX9_readFour_27 rfl hl (by decide) rfl (fun ls hl => ?_)
      exact w_X9_readFour_L28 C hr  _ a0 v1 v1 _ _ _ _ _ _ hf I (lv_sub hl [2, 1, 0] rfl)
    · have hf := gift hq hf
      refine lv_iinc (v := v1 + (-1)) (lv' := [(1, .int (v1 + (-1))), (0, va_rf a0)]) hx hb dX9_readFour_23 hl (k := 0) rfl rfl (by decide) (by cases a0 <;> rfl) (fun ls hl => ?_)
      refine lv_iload_n hx hb dX9_readFour_26 rfl (lv_at hl 0 rfl) ?_
      refine lv_istore_n (lv' := [(2, .int (v1 + (-1))), (1, .int (v1 + (-1))), (0, va_rf a0)]) hx hb dX9_readFour_27 rfl hl (by decide) rfl (fun ls hl => ?_)
      exact w_X9_readFour_L28 C hr  _ a0 (v1 + (-1)) (v1 + (-1)) _ _ _ _ _ _ hf I (lv_sub hl [2, 1, 0] rfl)
end S_X9_readFour
theorem m_X9_readFour (G : gX) (l : Launch) (a0 : Option Nat) : gMet G l yX9_readFour cX9_readFour 15 (some .int) 4 89 [va_rf a0] gri (f_X9_readFour a0) := by
  refine gMet_of (by decide) ?_
  intro σ y p e s m below meth c mc ms hf C hr hnm I
  obtain ⟨ls, e1, hl⟩ := gentry m [va_rf a0] 15 [(0, va_rf a0)] (by simp [lg_sl, grc, gcat_i, gcat_l]) (by simp [lv_args, grc, gcat_i, gcat_l])
  rw [e1]
  exact w_X9_readFour_0 C hr a0 _ _ _ _ _ _ hf I hl
def f_X9_readHost_217 (rec91 : Option Nat → Int32 → Int32 → gM Int32) (x0 : Option Nat) (x2 : Int32) (x3 : Int32) (x5 : Int32) (s0 : Option Nat) (s1 : Int32) (s2 : Int32) : gM Int32 := gb (sI 0 s0 s1 s2.toInt8.toInt32) fun _ => gb (rI 8 15 x0) fun v1 => gb (wI 8 15 x0 (v1 + 1)) fun _ => if x5 = 0 then (rec91 x0 x2 (x3 + 1)) else (rec91 x0 x2 (x3 + 3))
def f_X9_readHost_163 (rec91 : Option Nat → Int32 → Int32 → gM Int32) (x0 : Option Nat) (x2 : Int32) (x3 : Int32) (x4 : Int32) (s0 : Int32) : gM Int32 := gb (rR 8 14 x0) fun v1 => gb (rI 8 15 x0) fun v2 => if s0 = 0 then (f_X9_readHost_217 rec91 x0 x2 x3 s0 v1 v2 x4) else (gb (rR 8 11 x0) fun v3 => gb (aI 0 v3 (x3 + 1)) fun v4 => gb (f_X9_hex (v4 &&& 255)) fun v5 => gb (rR 8 11 x0) fun v6 => gb (aI 0 v6 (x3 + 2)) fun v7 => gb (f_X9_hex (v7 &&& 255)) fun v8 => f_X9_readHost_217 rec91 x0 x2 x3 s0 v1 v2 ((16 * v5) + v8))
def f_X9_readHost_162 (rec91 : Option Nat → Int32 → Int32 → gM Int32) (x0 : Option Nat) (x2 : Int32) (x3 : Int32) (x4 : Int32) : gM Int32 := f_X9_readHost_163 rec91 x0 x2 x3 x4 0
def f_X9_readHost_348 (rec313 : Option Nat → Int32 → gM Int32) (x0 : Option Nat) (x4 : Int32) (s0 : Int32) : gM Int32 := if s0 = 0 then (rec313 x0 (x4 + 1)) else (gb (rR 8 14 x0) fun v1 => gb (aI 0 v1 x4) fun v2 => if v2 = 120 then (gb (rR 8 14 x0) fun v3 => gb (aI 0 v3 (x4 + 1)) fun v4 => if v4 = 110 then (gb (rR 8 14 x0) fun v5 => gb (aI 0 v5 (x4 + 2)) fun v6 => if v6 = 45 then (gb (rR 8 14 x0) fun v7 => gb (aI 0 v7 (x4 + 3)) fun v8 => if v8 = 45 then (gp (-14)) else (rec313 x0 (x4 + 1))) else (rec313 x0 (x4 + 1))) else (rec313 x0 (x4 + 1))) else (rec313 x0 (x4 + 1)))
def f_X9_readHost_343 (rec313 : Option Nat → Int32 → gM Int32) (x0 : Option Nat) (x4 : Int32) : gM Int32 := f_X9_readHost_348 rec313 x0 x4 1
def f_X9_readHost_313 (rec313 : Option Nat → Int32 → gM Int32) (x0 : Option Nat) (x4 : Int32) : gM Int32 := gb (rI 8 15 x0) fun v1 => if v1 ≤ (x4 + 3) then (gb (nn 8 x0) fun _ => gb (f_X9_readFour x0) fun v2 => gp v2) else (if x4 = 0 then (f_X9_readHost_343 rec313 x0 x4) else (gb (rR 8 14 x0) fun v3 => gb (aI 0 v3 (x4 - 1)) fun v4 => if v4 = 46 then (f_X9_readHost_343 rec313 x0 x4) else (f_X9_readHost_348 rec313 x0 x4 0)))
def f_X9_readHost_L313  : Nat → Option Nat → Int32 → gM Int32
  | 0, _, _ => gno
  | n + 1, x0, x4 => f_X9_readHost_313  (f_X9_readHost_L313  n) x0 x4
def f_X9_readHost_248 (rec248 : Option Nat → Int32 → gM Int32) (x0 : Option Nat) (x4 : Int32) : gM Int32 := gb (rI 8 15 x0) fun v1 => if v1 ≤ x4 then (gb (rI 8 15 x0) fun v2 => if v2 = 0 then (gp (-14)) else (f_X9_readHost_L313  gF x0 0)) else (gb (rR 8 14 x0) fun v3 => gb (aI 0 v3 x4) fun v4 => gb (f_X9_isWrongByte (v4 &&& 255)) fun v5 => if v5 = 0 then (gb (rR 8 14 x0) fun v6 => gb (f_X9_low (v4 &&& 255)) fun v7 => gb (sI 0 v6 x4 v7.toInt8.toInt32) fun _ => rec248 x0 (x4 + 1)) else (gp (-14)))
def f_X9_readHost_L248  : Nat → Option Nat → Int32 → gM Int32
  | 0, _, _ => gno
  | n + 1, x0, x4 => f_X9_readHost_248  (f_X9_readHost_L248  n) x0 x4
def f_X9_readHost_91 (rec91 : Option Nat → Int32 → Int32 → gM Int32) (x0 : Option Nat) (x2 : Int32) (x3 : Int32) : gM Int32 := if x2 ≤ x3 then (f_X9_readHost_L248  gF x0 0) else (gb (rR 8 11 x0) fun v1 => gb (aI 0 v1 x3) fun v2 => if (v2 &&& 255) = 37 then (if x2 ≤ (x3 + 2) then (f_X9_readHost_162 rec91 x0 x2 x3 (v2 &&& 255)) else (gb (rR 8 11 x0) fun v3 => gb (aI 0 v3 (x3 + 1)) fun v4 => gb (f_X9_hex (v4 &&& 255)) fun v5 => if v5 < 0 then (f_X9_readHost_162 rec91 x0 x2 x3 (v2 &&& 255)) else (gb (rR 8 11 x0) fun v6 => gb (aI 0 v6 (x3 + 2)) fun v7 => gb (f_X9_hex (v7 &&& 255)) fun v8 => if v8 < 0 then (f_X9_readHost_162 rec91 x0 x2 x3 (v2 &&& 255)) else (f_X9_readHost_163 rec91 x0 x2 x3 (v2 &&& 255) 1)))) else (f_X9_readHost_162 rec91 x0 x2 x3 (v2 &&& 255)))
def f_X9_readHost_L91  : Nat → Option Nat → Int32 → Int32 → gM Int32
  | 0, _, _, _ => gno
  | n + 1, x0, x2, x3 => f_X9_readHost_91  (f_X9_readHost_L91  n) x0 x2 x3
def f_X9_readHost_84  (x0 : Option Nat) (x1 : Int32) (x2 : Int32) : gM Int32 := gb (wI 8 16 x0 0) fun _ => f_X9_readHost_L91  gF x0 x2 x1
def f_X9_readHost_2 (rec2 : Option Nat → Int32 → Int32 → Int32 → gM Int32) (x0 : Option Nat) (x1 : Int32) (x2 : Int32) (x3 : Int32) : gM Int32 := if 8 ≤ x3 then (gb (wI 8 15 x0 0) fun _ => if x2 ≤ x1 then (f_X9_readHost_84  x0 x1 x2) else (gb (rR 8 11 x0) fun v1 => gb (aI 0 v1 x1) fun v2 => if v2 = 91 then (gb (wI 8 16 x0 6) fun _ => gb (rR 8 11 x0) fun v3 => gb (aI 0 v3 (x2 - 1)) fun v4 => if v4 = 93 then (if (x2 - x1) ≤ 1 then (gp (-16)) else (gb (nn 8 x0) fun _ => gb (f_X9_readSix x0 (x1 + 1) (x2 - 1)) fun v5 => gp v5)) else (gp (-16))) else (f_X9_readHost_84  x0 x1 x2))) else (gb (rR 8 17 x0) fun v6 => gb (sI 1 v6 x3 0) fun _ => rec2 x0 x1 x2 (x3 + 1))
def f_X9_readHost_L2  : Nat → Option Nat → Int32 → Int32 → Int32 → gM Int32
  | 0, _, _, _, _ => gno
  | n + 1, x0, x1, x2, x3 => f_X9_readHost_2  (f_X9_readHost_L2  n) x0 x1 x2 x3
def f_X9_readHost  (a0 : Option Nat) (a1 : Int32) (a2 : Int32) : gM Int32 := f_X9_readHost_L2  gF a0 a1 a2 0
section S_X9_readHost
variable {G : gX} {p : Program} {l : Launch} {e : Env} {s : State} {m : MethodId} {args : Array Value} {below : List Frame} {meth : Method} {c : Code} {mc ms : Nat} {y : Int32 × gS}
set_option maxHeartbeats 4000000 in
set_option maxRecDepth 100000 in
theorem w_X9_readHost_217 (C : gC G p s m args meth c cX9_readHost 6 RX9) (hr : meth.sig.returnType = (some .int)) {rec91 : Option Nat → Int32 → Int32 → gM Int32} (hrec91 : ∀ (x0 : Option Nat) (x2 : Int32) (x3 : Int32), gJ G p l e 5 123 mc ms s m args below meth c gri y 6 91 [(0, va_rf x0), (2, .int x2), (3, .int x3)] [] (rec91 x0 x2 x3)) (x0 : Option Nat) (x2 : Int32) (x3 : Int32) (x5 : Int32) (s0 : Option Nat) (s1 : Int32) (s2 : Int32) : gJ G p l e 5 123 mc ms s m args below meth c gri y 6 217 [(0, va_rf x0), (2, .int x2), (3, .int x3), (5, .int x5)] [.int s2, .int s1, va_rf s0] (f_X9_readHost_217 rec91 x0 x2 x3 x5 s0 s1 s2) := by
  have hx := C.1
  have hb := C.2.1
  intro σ H locs cells slots ls hf I hl
  unfold f_X9_readHost_217 at hf
  refine lv_i2b hx hb dX9_readHost_217 rfl ?_
  refine gw_bast C I dX9_readHost_218 hf (fun σ H locs I hf => ?_)
  refine gw_aload_n hx hb dX9_readHost_219 rfl (lv_at hl 0 rfl) ?_
  refine lv_dup hx hb dX9_readHost_220 (grc _) ?_
  refine gw_geti (k := 15) C I gcls_8 (by decide) rfl kw_208 dX9_readHost_221 hf (fun v1 hf => ?_)
  refine lv_iconst (v := 1) hx hb dX9_readHost_224 kc_i_1 ?_
  refine lv_iadd hx hb dX9_readHost_225 ?_
  refine gw_puti (k := 15) C I gcls_8 (by decide) rfl kw_208 (Or.inl rfl) (by decide +kernel) dX9_readHost_226 hf (fun σ H locs I hf => ?_)
  refine lv_iload_n hx hb dX9_readHost_229 rfl (lv_at hl 2 rfl) ?_
  refine lv_iload hx hb dX9_readHost_230 (lv_at hl 3 rfl) ?_
  refine lv_if_eq (tgt := 239) hx hb dX9_readHost_232 (by decide) (fun hq => ?_) (fun hq => ?_)
  · have hf := gift hq hf
    refine lv_iconst (v := 1) hx hb dX9_readHost_239 kc_i_1 ?_
    refine lv_iadd hx hb dX9_readHost_240 ?_
    refine lv_istore_n (lv' := [(3, .int (x3 + 1)), (0, va_rf x0), (2, .int x2), (5, .int x5)]) hx hb dX9_readHost_241 rfl hl (by decide) rfl (fun ls hl => ?_)
    refine lv_goto (tgt := 91) hx hb dX9_readHost_242 (by decide) ?_
    exact hrec91 x0 x2 (x3 + 1) _ _ _ _ _ _ hf I (lv_sub hl [1, 2, 0] rfl)
  · have hf := giff hq hf
    refine lv_iconst (v := 3) hx hb dX9_readHost_235 kc_i_3 ?_
    refine lv_goto (tgt := 240) hx hb dX9_readHost_236 (by decide) ?_
    refine lv_iadd hx hb dX9_readHost_240 ?_
    refine lv_istore_n (lv' := [(3, .int (x3 + 3)), (0, va_rf x0), (2, .int x2), (5, .int x5)]) hx hb dX9_readHost_241 rfl hl (by decide) rfl (fun ls hl => ?_)
    refine lv_goto (tgt := 91) hx hb dX9_readHost_242 (by decide) ?_
    exact hrec91 x0 x2 (x3 + 3) _ _ _ _ _ _ hf I (lv_sub hl [1, 2, 0] rfl)
set_option maxHeartbeats 4000000 in
set_option maxRecDepth 100000 in
theorem w_X9_readHost_163 (C : gC G p s m args meth c cX9_readHost 6 RX9) (hr : meth.sig.returnType = (some .int)) {rec91 : Option Nat → Int32 → Int32 → gM Int32} (hrec91 : ∀ (x0 : Option Nat) (x2 : Int32) (x3 : Int32), gJ G p l e 5 123 mc ms s m args below meth c gri y 6 91 [(0, va_rf x0), (2, .int x2), (3, .int x3)] [] (rec91 x0 x2 x3)) (x0 : Option Nat) (x2 : Int32) (x3 : Int32) (x4 : Int32) (s0 : Int32) : gJ G p l e 5 123 mc ms s m args below meth c gri y 6 163 [(0, va_rf x0), (2, .int x2), (3, .int x3), (4, .int x4)] [.int s0] (f_X9_readHost_163 rec91 x0 x2 x3 x4 s0) := by
  have hx := C.1
  have hb := C.2.1
  intro σ H locs cells slots ls hf I hl
  unfold f_X9_readHost_163 at hf
  refine lv_istore (lv' := [(5, .int s0), (0, va_rf x0), (2, .int x2), (3, .int x3), (4, .int x4)]) hx hb dX9_readHost_163 hl (by decide) rfl (fun ls hl => ?_)
  refine gw_aload_n hx hb dX9_readHost_165 rfl (lv_at hl 1 rfl) ?_
  refine gw_getr (k := 14) C I gcls_8 (by decide) rfl kw_177 dX9_readHost_166 hf (fun v1 hf => ?_)
  refine gw_aload_n hx hb dX9_readHost_169 rfl (lv_at hl 1 rfl) ?_
  refine gw_geti (k := 15) C I gcls_8 (by decide) rfl kw_208 dX9_readHost_170 hf (fun v2 hf => ?_)
  refine lv_iload hx hb dX9_readHost_173 (lv_at hl 0 rfl) ?_
  refine lv_if_eq (tgt := 215) hx hb dX9_readHost_175 (by decide) (fun hq => ?_) (fun hq => ?_)
  · have hf := gift hq hf
    refine lv_iload hx hb dX9_readHost_215 (lv_at hl 4 rfl) ?_
    exact w_X9_readHost_217 C hr hrec91 x0 x2 x3 s0 v1 v2 x4 _ _ _ _ _ _ hf I (lv_sub hl [1, 2, 3, 0] rfl)
  · have hf := giff hq hf
    refine lv_bipush (v := 16) hx hb dX9_readHost_178 kc_b_16 ?_
    refine gw_aload_n hx hb dX9_readHost_180 rfl (lv_at hl 1 rfl) ?_
    refine gw_getr (k := 11) C I gcls_8 (by decide) rfl kw_176 dX9_readHost_181 hf (fun v3 hf => ?_)
    refine lv_iload_n hx hb dX9_readHost_184 rfl (lv_at hl 3 rfl) ?_
    refine lv_iconst (v := 1) hx hb dX9_readHost_185 kc_i_1 ?_
    refine lv_iadd hx hb dX9_readHost_186 ?_
    refine gw_bald C I dX9_readHost_187 hf (fun v4 hf => ?_)
    refine lv_sipush (v := 255) hx hb dX9_readHost_188 kc_s_255 ?_
    refine lv_iand hx hb dX9_readHost_191 ?_
    refine gw_callS (rest := [.int 16, .int v2, va_rf v1]) C I hl.1 (m_X9_hex G l (v4 &&& 255)) gl_RX9_237 kw_204 ⟨Nat.le_of_ble_eq_true rfl, Nat.le_of_ble_eq_true rfl⟩ rfl (gc4 (Nat.le_of_ble_eq_true rfl)) rfl dX9_readHost_192 hf (fun v5 σ H locs cells slots I hf => ?_)
    refine W.eq (g2 := F0 m 195 ls [.int v5, .int 16, .int v2, va_rf v1]) rfl ?_
    refine lv_imul hx hb dX9_readHost_195 ?_
    refine gw_aload_n hx hb dX9_readHost_196 rfl (lv_at hl 1 rfl) ?_
    refine gw_getr (k := 11) C I gcls_8 (by decide) rfl kw_176 dX9_readHost_197 hf (fun v6 hf => ?_)
    refine lv_iload_n hx hb dX9_readHost_200 rfl (lv_at hl 3 rfl) ?_
    refine lv_iconst (v := 2) hx hb dX9_readHost_201 kc_i_2 ?_
    refine lv_iadd hx hb dX9_readHost_202 ?_
    refine gw_bald C I dX9_readHost_203 hf (fun v7 hf => ?_)
    refine lv_sipush (v := 255) hx hb dX9_readHost_204 kc_s_255 ?_
    refine lv_iand hx hb dX9_readHost_207 ?_
    refine gw_callS (rest := [.int (16 * v5), .int v2, va_rf v1]) C I hl.1 (m_X9_hex G l (v7 &&& 255)) gl_RX9_237 kw_204 ⟨Nat.le_of_ble_eq_true rfl, Nat.le_of_ble_eq_true rfl⟩ rfl (gc4 (Nat.le_of_ble_eq_true rfl)) rfl dX9_readHost_208 hf (fun v8 σ H locs cells slots I hf => ?_)
    refine W.eq (g2 := F0 m 211 ls [.int v8, .int (16 * v5), .int v2, va_rf v1]) rfl ?_
    refine lv_iadd hx hb dX9_readHost_211 ?_
    refine lv_goto (tgt := 217) hx hb dX9_readHost_212 (by decide) ?_
    exact w_X9_readHost_217 C hr hrec91 x0 x2 x3 s0 v1 v2 ((16 * v5) + v8) _ _ _ _ _ _ hf I (lv_sub hl [1, 2, 3, 0] rfl)
set_option maxHeartbeats 4000000 in
set_option maxRecDepth 100000 in
theorem w_X9_readHost_162 (C : gC G p s m args meth c cX9_readHost 6 RX9) (hr : meth.sig.returnType = (some .int)) {rec91 : Option Nat → Int32 → Int32 → gM Int32} (hrec91 : ∀ (x0 : Option Nat) (x2 : Int32) (x3 : Int32), gJ G p l e 5 123 mc ms s m args below meth c gri y 6 91 [(0, va_rf x0), (2, .int x2), (3, .int x3)] [] (rec91 x0 x2 x3)) (x0 : Option Nat) (x2 : Int32) (x3 : Int32) (x4 : Int32) : gJ G p l e 5 123 mc ms s m args below meth c gri y 6 162 [(0, va_rf x0), (2, .int x2), (3, .int x3), (4, .int x4)] [] (f_X9_readHost_162 rec91 x0 x2 x3 x4) := by
  have hx := C.1
  have hb := C.2.1
  intro σ H locs cells slots ls hf I hl
  unfold f_X9_readHost_162 at hf
  refine lv_iconst (v := 0) hx hb dX9_readHost_162 kc_i_0 ?_
  exact w_X9_readHost_163 C hr hrec91 x0 x2 x3 x4 0 _ _ _ _ _ _ hf I (lv_sub hl [0, 1, 2, 3] rfl)
set_option maxHeartbeats 4000000 in
set_option maxRecDepth 100000 in
theorem w_X9_readHost_348 (C : gC G p s m args meth c cX9_readHost 6 RX9) (hr : meth.sig.returnType = (some .int)) {rec313 : Option Nat → Int32 → gM Int32} (hrec313 : ∀ (x0 : Option Nat) (x4 : Int32), gJ G p l e 5 123 mc ms s m args below meth c gri y 6 313 [(0, va_rf x0), (4, .int x4)] [] (rec313 x0 x4)) (x0 : Option Nat) (x4 : Int32) (s0 : Int32) : gJ G p l e 5 123 mc ms s m args below meth c gri y 6 348 [(0, va_rf x0), (4, .int x4)] [.int s0] (f_X9_readHost_348 rec313 x0 x4 s0) := by
  have hx := C.1
  have hb := C.2.1
  intro σ H locs cells slots ls hf I hl
  unfold f_X9_readHost_348 at hf
  refine lv_istore (lv' := [(5, .int s0), (0, va_rf x0), (4, .int x4)]) hx hb dX9_readHost_348 hl (by decide) rfl (fun ls hl => ?_)
  refine lv_iload hx hb dX9_readHost_350 (lv_at hl 0 rfl) ?_
  refine lv_if_eq (tgt := 412) hx hb dX9_readHost_352 (by decide) (fun hq => ?_) (fun hq => ?_)
  · have hf := gift hq hf
    refine lv_iinc (v := x4 + 1) (lv' := [(4, .int (x4 + 1)), (5, .int s0), (0, va_rf x0)]) hx hb dX9_readHost_412 hl (k := 2) rfl rfl (by decide) rfl (fun ls hl => ?_)
    refine lv_goto (tgt := 313) hx hb dX9_readHost_415 (by decide) ?_
    exact hrec313 x0 (x4 + 1) _ _ _ _ _ _ hf I (lv_sub hl [2, 0] rfl)
  · have hf := giff hq hf
    refine gw_aload_n hx hb dX9_readHost_355 rfl (lv_at hl 1 rfl) ?_
    refine gw_getr (k := 14) C I gcls_8 (by decide) rfl kw_177 dX9_readHost_356 hf (fun v1 hf => ?_)
    refine lv_iload hx hb dX9_readHost_359 (lv_at hl 2 rfl) ?_
    refine gw_bald C I dX9_readHost_361 hf (fun v2 hf => ?_)
    refine lv_bipush (v := 120) hx hb dX9_readHost_362 kc_b_120 ?_
    refine lv_icmp_ne (tgt := 412) hx hb dX9_readHost_364 (by decide) (fun hq => ?_) (fun hq => ?_)
    · have hf := giff hq hf
      refine lv_iinc (v := x4 + 1) (lv' := [(4, .int (x4 + 1)), (5, .int s0), (0, va_rf x0)]) hx hb dX9_readHost_412 hl (k := 2) rfl rfl (by decide) rfl (fun ls hl => ?_)
      refine lv_goto (tgt := 313) hx hb dX9_readHost_415 (by decide) ?_
      exact hrec313 x0 (x4 + 1) _ _ _ _ _ _ hf I (lv_sub hl [2, 0] rfl)
    · have hf := gift hq hf
      refine gw_aload_n hx hb dX9_readHost_367 rfl (lv_at hl 1 rfl) ?_
      refine gw_getr (k := 14) C I gcls_8 (by decide) rfl kw_177 dX9_readHost_368 hf (fun v3 hf => ?_)
      refine lv_iload hx hb dX9_readHost_371 (lv_at hl 2 rfl) ?_
      refine lv_iconst (v := 1) hx hb dX9_readHost_373 kc_i_1 ?_
      refine lv_iadd hx hb dX9_readHost_374 ?_
      refine gw_bald C I dX9_readHost_375 hf (fun v4 hf => ?_)
      refine lv_bipush (v := 110) hx hb dX9_readHost_376 kc_b_110 ?_
      refine lv_icmp_ne (tgt := 412) hx hb dX9_readHost_378 (by decide) (fun hq => ?_) (fun hq => ?_)
      · have hf := giff hq hf
        refine lv_iinc (v := x4 + 1) (lv' := [(4, .int (x4 + 1)), (5, .int s0), (0, va_rf x0)]) hx hb dX9_readHost_412 hl (k := 2) rfl rfl (by decide) rfl (fun ls hl => ?_)
        refine lv_goto (tgt := 313) hx hb dX9_readHost_415 (by decide) ?_
        exact hrec313 x0 (x4 + 1) _ _ _ _ _ _ hf I (lv_sub hl [2, 0] rfl)
      · have hf := gift hq hf
        refine gw_aload_n hx hb dX9_readHost_381 rfl (lv_at hl 1 rfl) ?_
        refine gw_getr (k := 14) C I gcls_8 (by decide) rfl kw_177 dX9_readHost_382 hf (fun v5 hf => ?_)
        refine lv_iload hx hb dX9_readHost_385 (lv_at hl 2 rfl) ?_
        refine lv_iconst (v := 2) hx hb dX9_readHost_387 kc_i_2 ?_
        refine lv_iadd hx hb dX9_readHost_388 ?_
        refine gw_bald C I dX9_readHost_389 hf (fun v6 hf => ?_)
        refine lv_bipush (v := 45) hx hb dX9_readHost_390 kc_b_45 ?_
        refine lv_icmp_ne (tgt := 412) hx hb dX9_readHost_392 (by decide) (fun hq => ?_) (fun hq => ?_)
        · have hf := giff hq hf
          refine lv_iinc (v := x4 + 1) (lv' := [(4, .int (x4 + 1)), (5, .int s0), (0, va_rf x0)]) hx hb dX9_readHost_412 hl (k := 2) rfl rfl (by decide) rfl (fun ls hl => ?_)
          refine lv_goto (tgt := 313) hx hb dX9_readHost_415 (by decide) ?_
          exact hrec313 x0 (x4 + 1) _ _ _ _ _ _ hf I (lv_sub hl [2, 0] rfl)
        · have hf := gift hq hf
          refine gw_aload_n hx hb dX9_readHost_395 rfl (lv_at hl 1 rfl) ?_
          refine gw_getr (k := 14) C I gcls_8 (by decide) rfl kw_177 dX9_readHost_396 hf (fun v7 hf => ?_)
          refine lv_iload hx hb dX9_readHost_399 (lv_at hl 2 rfl) ?_
          refine lv_iconst (v := 3) hx hb dX9_readHost_401 kc_i_3 ?_
          refine lv_iadd hx hb dX9_readHost_402 ?_
          refine gw_bald C I dX9_readHost_403 hf (fun v8 hf => ?_)
          refine lv_bipush (v := 45) hx hb dX9_readHost_404 kc_b_45 ?_
          refine lv_icmp_ne (tgt := 412) hx hb dX9_readHost_406 (by decide) (fun hq => ?_) (fun hq => ?_)
          · have hf := giff hq hf
            refine lv_iinc (v := x4 + 1) (lv' := [(4, .int (x4 + 1)), (5, .int s0), (0, va_rf x0)]) hx hb dX9_readHost_412 hl (k := 2) rfl rfl (by decide) rfl (fun ls hl => ?_)
            refine lv_goto (tgt := 313) hx hb dX9_readHost_415 (by decide) ?_
            exact hrec313 x0 (x4 + 1) _ _ _ _ _ _ hf I (lv_sub hl [2, 0] rfl)
          · have hf := gift hq hf
            refine lv_bipush (v := (-14)) hx hb dX9_readHost_409 kc_b_m14 ?_
            exact gw_iret C I hr dX9_readHost_411 hf
set_option maxHeartbeats 4000000 in
set_option maxRecDepth 100000 in
theorem w_X9_readHost_343 (C : gC G p s m args meth c cX9_readHost 6 RX9) (hr : meth.sig.returnType = (some .int)) {rec313 : Option Nat → Int32 → gM Int32} (hrec313 : ∀ (x0 : Option Nat) (x4 : Int32), gJ G p l e 5 123 mc ms s m args below meth c gri y 6 313 [(0, va_rf x0), (4, .int x4)] [] (rec313 x0 x4)) (x0 : Option Nat) (x4 : Int32) : gJ G p l e 5 123 mc ms s m args below meth c gri y 6 343 [(0, va_rf x0), (4, .int x4)] [] (f_X9_readHost_343 rec313 x0 x4) := by
  have hx := C.1
  have hb := C.2.1
  intro σ H locs cells slots ls hf I hl
  unfold f_X9_readHost_343 at hf
  refine lv_iconst (v := 1) hx hb dX9_readHost_343 kc_i_1 ?_
  refine lv_goto (tgt := 348) hx hb dX9_readHost_344 (by decide) ?_
  exact w_X9_readHost_348 C hr hrec313 x0 x4 1 _ _ _ _ _ _ hf I (lv_sub hl [0, 1] rfl)
set_option maxHeartbeats 4000000 in
set_option maxRecDepth 100000 in
theorem w_X9_readHost_313 (C : gC G p s m args meth c cX9_readHost 6 RX9) (hr : meth.sig.returnType = (some .int)) {rec313 : Option Nat → Int32 → gM Int32} (hrec313 : ∀ (x0 : Option Nat) (x4 : Int32), gJ G p l e 5 123 mc ms s m args below meth c gri y 6 313 [(0, va_rf x0), (4, .int x4)] [] (rec313 x0 x4)) (x0 : Option Nat) (x4 : Int32) : gJ G p l e 5 123 mc ms s m args below meth c gri y 6 313 [(0, va_rf x0), (4, .int x4)] [] (f_X9_readHost_313 rec313 x0 x4) := by
  have hx := C.1
  have hb := C.2.1
  intro σ H locs cells slots ls hf I hl
  unfold f_X9_readHost_313 at hf
  refine lv_iload hx hb dX9_readHost_313 (lv_at hl 1 rfl) ?_
  refine lv_iconst (v := 3) hx hb dX9_readHost_315 kc_i_3 ?_
  refine lv_iadd hx hb dX9_readHost_316 ?_
  refine gw_aload_n hx hb dX9_readHost_317 rfl (lv_at hl 0 rfl) ?_
  refine gw_geti (k := 15) C I gcls_8 (by decide) rfl kw_208 dX9_readHost_318 hf (fun v1 hf => ?_)
  refine lv_icmp_ge (tgt := 418) hx hb dX9_readHost_321 (by decide) (fun hq => ?_) (fun hq => ?_)
  · have hf := gift hq hf
    refine gw_aload_n hx hb dX9_readHost_418 rfl (lv_at hl 0 rfl) ?_
    refine gw_callV (rest := []) C I hl.1 gcls_8 (m_X9_readFour G l x0) gl_RX9_243 gn_X9_readFour ⟨Nat.le_of_ble_eq_true rfl, Nat.le_of_ble_eq_true rfl⟩ rfl (gc4 (Nat.le_of_ble_eq_true rfl)) rfl dX9_readHost_419 hf (fun v2 σ H locs cells slots I hf => ?_)
    refine W.eq (g2 := F0 m 422 ls [.int v2]) rfl ?_
    exact gw_iret C I hr dX9_readHost_422 hf
  · have hf := giff hq hf
    refine lv_iload hx hb dX9_readHost_324 (lv_at hl 1 rfl) ?_
    refine lv_if_eq (tgt := 343) hx hb dX9_readHost_326 (by decide) (fun hq => ?_) (fun hq => ?_)
    · have hf := gift hq hf
      exact w_X9_readHost_343 C hr hrec313 x0 x4 _ _ _ _ _ _ hf I (lv_sub hl [0, 1] rfl)
    · have hf := giff hq hf
      refine gw_aload_n hx hb dX9_readHost_329 rfl (lv_at hl 0 rfl) ?_
      refine gw_getr (k := 14) C I gcls_8 (by decide) rfl kw_177 dX9_readHost_330 hf (fun v3 hf => ?_)
      refine lv_iload hx hb dX9_readHost_333 (lv_at hl 1 rfl) ?_
      refine lv_iconst (v := 1) hx hb dX9_readHost_335 kc_i_1 ?_
      refine lv_isub hx hb dX9_readHost_336 ?_
      refine gw_bald C I dX9_readHost_337 hf (fun v4 hf => ?_)
      refine lv_bipush (v := 46) hx hb dX9_readHost_338 kc_b_46 ?_
      refine lv_icmp_ne (tgt := 347) hx hb dX9_readHost_340 (by decide) (fun hq => ?_) (fun hq => ?_)
      · have hf := giff hq hf
        refine lv_iconst (v := 0) hx hb dX9_readHost_347 kc_i_0 ?_
        exact w_X9_readHost_348 C hr hrec313 x0 x4 0 _ _ _ _ _ _ hf I (lv_sub hl [0, 1] rfl)
      · have hf := gift hq hf
        exact w_X9_readHost_343 C hr hrec313 x0 x4 _ _ _ _ _ _ hf I (lv_sub hl [0, 1] rfl)
theorem w_X9_readHost_L313 (C : gC G p s m args meth c cX9_readHost 6 RX9) (hr : meth.sig.returnType = (some .int))  : ∀ (n : Nat) (x0 : Option Nat) (x4 : Int32), gJ G p l e 5 123 mc ms s m args below meth c gri y 6 313 [(0, va_rf x0), (4, .int x4)] [] (f_X9_readHost_L313  n x0 x4) := by
  intro n
  induction n with
  | zero => intro x0 x4 σ H locs cells slots ls hf; exact (gno_some hf).elim
  | succ n ih => intro x0 x4; exact w_X9_readHost_313 C hr  ih x0 x4
set_option maxHeartbeats 4000000 in
set_option maxRecDepth 100000 in
theorem w_X9_readHost_248 (C : gC G p s m args meth c cX9_readHost 6 RX9) (hr : meth.sig.returnType = (some .int)) {rec248 : Option Nat → Int32 → gM Int32} (hrec248 : ∀ (x0 : Option Nat) (x4 : Int32), gJ G p l e 5 123 mc ms s m args below meth c gri y 6 248 [(0, va_rf x0), (4, .int x4)] [] (rec248 x0 x4)) (x0 : Option Nat) (x4 : Int32) : gJ G p l e 5 123 mc ms s m args below meth c gri y 6 248 [(0, va_rf x0), (4, .int x4)] [] (f_X9_readHost_248 rec248 x0 x4) := by
  have hx := C.1
  have hb := C.2.1
  intro σ H locs cells slots ls hf I hl
  unfold f_X9_readHost_248 at hf
  refine lv_iload hx hb dX9_readHost_248 (lv_at hl 1 rfl) ?_
  refine gw_aload_n hx hb dX9_readHost_250 rfl (lv_at hl 0 rfl) ?_
  refine gw_geti (k := 15) C I gcls_8 (by decide) rfl kw_208 dX9_readHost_251 hf (fun v1 hf => ?_)
  refine lv_icmp_ge (tgt := 300) hx hb dX9_readHost_254 (by decide) (fun hq => ?_) (fun hq => ?_)
  · have hf := gift hq hf
    refine gw_aload_n hx hb dX9_readHost_300 rfl (lv_at hl 0 rfl) ?_
    refine gw_geti (k := 15) C I gcls_8 (by decide) rfl kw_208 dX9_readHost_301 hf (fun v2 hf => ?_)
    refine lv_if_ne (tgt := 310) hx hb dX9_readHost_304 (by decide) (fun hq => ?_) (fun hq => ?_)
    · have hf := giff hq hf
      refine lv_iconst (v := 0) hx hb dX9_readHost_310 kc_i_0 ?_
      refine lv_istore (lv' := [(4, .int 0), (0, va_rf x0)]) hx hb dX9_readHost_311 hl (by decide) rfl (fun ls hl => ?_)
      exact w_X9_readHost_L313 C hr  _ x0 0 _ _ _ _ _ _ hf I (lv_sub hl [1, 0] rfl)
    · have hf := gift hq hf
      refine lv_bipush (v := (-14)) hx hb dX9_readHost_307 kc_b_m14 ?_
      exact gw_iret C I hr dX9_readHost_309 hf
  · have hf := giff hq hf
    refine gw_aload_n hx hb dX9_readHost_257 rfl (lv_at hl 0 rfl) ?_
    refine gw_getr (k := 14) C I gcls_8 (by decide) rfl kw_177 dX9_readHost_258 hf (fun v3 hf => ?_)
    refine lv_iload hx hb dX9_readHost_261 (lv_at hl 1 rfl) ?_
    refine gw_bald C I dX9_readHost_263 hf (fun v4 hf => ?_)
    refine lv_sipush (v := 255) hx hb dX9_readHost_264 kc_s_255 ?_
    refine lv_iand hx hb dX9_readHost_267 ?_
    refine lv_istore (lv' := [(5, .int (v4 &&& 255)), (0, va_rf x0), (4, .int x4)]) hx hb dX9_readHost_268 hl (by decide) rfl (fun ls hl => ?_)
    refine lv_iload hx hb dX9_readHost_270 (lv_at hl 0 rfl) ?_
    refine gw_callS (rest := []) C I hl.1 (m_X9_isWrongByte G l (v4 &&& 255)) gl_RX9_240 kw_211 ⟨Nat.le_of_ble_eq_true rfl, Nat.le_of_ble_eq_true rfl⟩ rfl (gc4 (Nat.le_of_ble_eq_true rfl)) rfl dX9_readHost_272 hf (fun v5 σ H locs cells slots I hf => ?_)
    refine W.eq (g2 := F0 m 275 ls [.int v5]) rfl ?_
    refine lv_if_eq (tgt := 281) hx hb dX9_readHost_275 (by decide) (fun hq => ?_) (fun hq => ?_)
    · have hf := gift hq hf
      refine gw_aload_n hx hb dX9_readHost_281 rfl (lv_at hl 1 rfl) ?_
      refine gw_getr (k := 14) C I gcls_8 (by decide) rfl kw_177 dX9_readHost_282 hf (fun v6 hf => ?_)
      refine lv_iload hx hb dX9_readHost_285 (lv_at hl 2 rfl) ?_
      refine lv_iload hx hb dX9_readHost_287 (lv_at hl 0 rfl) ?_
      refine gw_callS (rest := [.int x4, va_rf v6]) C I hl.1 (m_X9_low G l (v4 &&& 255)) gl_RX9_99 kw_194 ⟨Nat.le_of_ble_eq_true rfl, Nat.le_of_ble_eq_true rfl⟩ rfl (gc4 (Nat.le_of_ble_eq_true rfl)) rfl dX9_readHost_289 hf (fun v7 σ H locs cells slots I hf => ?_)
      refine W.eq (g2 := F0 m 292 ls [.int v7, .int x4, va_rf v6]) rfl ?_
      refine lv_i2b hx hb dX9_readHost_292 rfl ?_
      refine gw_bast C I dX9_readHost_293 hf (fun σ H locs I hf => ?_)
      refine lv_iinc (v := x4 + 1) (lv' := [(4, .int (x4 + 1)), (5, .int (v4 &&& 255)), (0, va_rf x0)]) hx hb dX9_readHost_294 hl (k := 2) rfl rfl (by decide) rfl (fun ls hl => ?_)
      refine lv_goto (tgt := 248) hx hb dX9_readHost_297 (by decide) ?_
      exact hrec248 x0 (x4 + 1) _ _ _ _ _ _ hf I (lv_sub hl [2, 0] rfl)
    · have hf := giff hq hf
      refine lv_bipush (v := (-14)) hx hb dX9_readHost_278 kc_b_m14 ?_
      exact gw_iret C I hr dX9_readHost_280 hf
theorem w_X9_readHost_L248 (C : gC G p s m args meth c cX9_readHost 6 RX9) (hr : meth.sig.returnType = (some .int))  : ∀ (n : Nat) (x0 : Option Nat) (x4 : Int32), gJ G p l e 5 123 mc ms s m args below meth c gri y 6 248 [(0, va_rf x0), (4, .int x4)] [] (f_X9_readHost_L248  n x0 x4) := by
  intro n
  induction n with
  | zero => intro x0 x4 σ H locs cells slots ls hf; exact (gno_some hf).elim
  | succ n ih => intro x0 x4; exact w_X9_readHost_248 C hr  ih x0 x4
set_option maxHeartbeats 4000000 in
set_option maxRecDepth 100000 in
theorem w_X9_readHost_91 (C : gC G p s m args meth c cX9_readHost 6 RX9) (hr : meth.sig.returnType = (some .int)) {rec91 : Option Nat → Int32 → Int32 → gM Int32} (hrec91 : ∀ (x0 : Option Nat) (x2 : Int32) (x3 : Int32), gJ G p l e 5 123 mc ms s m args below meth c gri y 6 91 [(0, va_rf x0), (2, .int x2), (3, .int x3)] [] (rec91 x0 x2 x3)) (x0 : Option Nat) (x2 : Int32) (x3 : Int32) : gJ G p l e 5 123 mc ms s m args below meth c gri y 6 91 [(0, va_rf x0), (2, .int x2), (3, .int x3)] [] (f_X9_readHost_91 rec91 x0 x2 x3) := by
  have hx := C.1
  have hb := C.2.1
  intro σ H locs cells slots ls hf I hl
  unfold f_X9_readHost_91 at hf
  refine lv_iload_n hx hb dX9_readHost_91 rfl (lv_at hl 2 rfl) ?_
  refine lv_iload_n hx hb dX9_readHost_92 rfl (lv_at hl 1 rfl) ?_
  refine lv_icmp_ge (tgt := 245) hx hb dX9_readHost_93 (by decide) (fun hq => ?_) (fun hq => ?_)
  · have hf := gift hq hf
    refine lv_iconst (v := 0) hx hb dX9_readHost_245 kc_i_0 ?_
    refine lv_istore (lv' := [(4, .int 0), (0, va_rf x0), (2, .int x2), (3, .int x3)]) hx hb dX9_readHost_246 hl (by decide) rfl (fun ls hl => ?_)
    exact w_X9_readHost_L248 C hr  _ x0 0 _ _ _ _ _ _ hf I (lv_sub hl [1, 0] rfl)
  · have hf := giff hq hf
    refine gw_aload_n hx hb dX9_readHost_96 rfl (lv_at hl 0 rfl) ?_
    refine gw_getr (k := 11) C I gcls_8 (by decide) rfl kw_176 dX9_readHost_97 hf (fun v1 hf => ?_)
    refine lv_iload_n hx hb dX9_readHost_100 rfl (lv_at hl 2 rfl) ?_
    refine gw_bald C I dX9_readHost_101 hf (fun v2 hf => ?_)
    refine lv_sipush (v := 255) hx hb dX9_readHost_102 kc_s_255 ?_
    refine lv_iand hx hb dX9_readHost_105 ?_
    refine lv_istore (lv' := [(4, .int (v2 &&& 255)), (0, va_rf x0), (2, .int x2), (3, .int x3)]) hx hb dX9_readHost_106 hl (by decide) rfl (fun ls hl => ?_)
    refine lv_iload hx hb dX9_readHost_108 (lv_at hl 0 rfl) ?_
    refine lv_bipush (v := 37) hx hb dX9_readHost_110 kc_b_37 ?_
    refine lv_icmp_ne (tgt := 162) hx hb dX9_readHost_112 (by decide) (fun hq => ?_) (fun hq => ?_)
    · have hf := giff hq hf
      exact w_X9_readHost_162 C hr hrec91 x0 x2 x3 (v2 &&& 255) _ _ _ _ _ _ hf I (lv_sub hl [1, 2, 3, 0] rfl)
    · have hf := gift hq hf
      refine lv_iload_n hx hb dX9_readHost_115 rfl (lv_at hl 3 rfl) ?_
      refine lv_iconst (v := 2) hx hb dX9_readHost_116 kc_i_2 ?_
      refine lv_iadd hx hb dX9_readHost_117 ?_
      refine lv_iload_n hx hb dX9_readHost_118 rfl (lv_at hl 2 rfl) ?_
      refine lv_icmp_ge (tgt := 162) hx hb dX9_readHost_119 (by decide) (fun hq => ?_) (fun hq => ?_)
      · have hf := gift hq hf
        exact w_X9_readHost_162 C hr hrec91 x0 x2 x3 (v2 &&& 255) _ _ _ _ _ _ hf I (lv_sub hl [1, 2, 3, 0] rfl)
      · have hf := giff hq hf
        refine gw_aload_n hx hb dX9_readHost_122 rfl (lv_at hl 1 rfl) ?_
        refine gw_getr (k := 11) C I gcls_8 (by decide) rfl kw_176 dX9_readHost_123 hf (fun v3 hf => ?_)
        refine lv_iload_n hx hb dX9_readHost_126 rfl (lv_at hl 3 rfl) ?_
        refine lv_iconst (v := 1) hx hb dX9_readHost_127 kc_i_1 ?_
        refine lv_iadd hx hb dX9_readHost_128 ?_
        refine gw_bald C I dX9_readHost_129 hf (fun v4 hf => ?_)
        refine lv_sipush (v := 255) hx hb dX9_readHost_130 kc_s_255 ?_
        refine lv_iand hx hb dX9_readHost_133 ?_
        refine gw_callS (rest := []) C I hl.1 (m_X9_hex G l (v4 &&& 255)) gl_RX9_237 kw_204 ⟨Nat.le_of_ble_eq_true rfl, Nat.le_of_ble_eq_true rfl⟩ rfl (gc4 (Nat.le_of_ble_eq_true rfl)) rfl dX9_readHost_134 hf (fun v5 σ H locs cells slots I hf => ?_)
        refine W.eq (g2 := F0 m 137 ls [.int v5]) rfl ?_
        refine lv_if_lt (tgt := 162) hx hb dX9_readHost_137 (by decide) (fun hq => ?_) (fun hq => ?_)
        · have hf := gift hq hf
          exact w_X9_readHost_162 C hr hrec91 x0 x2 x3 (v2 &&& 255) _ _ _ _ _ _ hf I (lv_sub hl [1, 2, 3, 0] rfl)
        · have hf := giff hq hf
          refine gw_aload_n hx hb dX9_readHost_140 rfl (lv_at hl 1 rfl) ?_
          refine gw_getr (k := 11) C I gcls_8 (by decide) rfl kw_176 dX9_readHost_141 hf (fun v6 hf => ?_)
          refine lv_iload_n hx hb dX9_readHost_144 rfl (lv_at hl 3 rfl) ?_
          refine lv_iconst (v := 2) hx hb dX9_readHost_145 kc_i_2 ?_
          refine lv_iadd hx hb dX9_readHost_146 ?_
          refine gw_bald C I dX9_readHost_147 hf (fun v7 hf => ?_)
          refine lv_sipush (v := 255) hx hb dX9_readHost_148 kc_s_255 ?_
          refine lv_iand hx hb dX9_readHost_151 ?_
          refine gw_callS (rest := []) C I hl.1 (m_X9_hex G l (v7 &&& 255)) gl_RX9_237 kw_204 ⟨Nat.le_of_ble_eq_true rfl, Nat.le_of_ble_eq_true rfl⟩ rfl (gc4 (Nat.le_of_ble_eq_true rfl)) rfl dX9_readHost_152 hf (fun v8 σ H locs cells slots I hf => ?_)
          refine W.eq (g2 := F0 m 155 ls [.int v8]) rfl ?_
          refine lv_if_lt (tgt := 162) hx hb dX9_readHost_155 (by decide) (fun hq => ?_) (fun hq => ?_)
          · have hf := gift hq hf
            exact w_X9_readHost_162 C hr hrec91 x0 x2 x3 (v2 &&& 255) _ _ _ _ _ _ hf I (lv_sub hl [1, 2, 3, 0] rfl)
          · have hf := giff hq hf
            refine lv_iconst (v := 1) hx hb dX9_readHost_158 kc_i_1 ?_
            refine lv_goto (tgt := 163) hx hb dX9_readHost_159 (by decide) ?_
            exact w_X9_readHost_163 C hr hrec91 x0 x2 x3 (v2 &&& 255) 1 _ _ _ _ _ _ hf I (lv_sub hl [1, 2, 3, 0] rfl)
theorem w_X9_readHost_L91 (C : gC G p s m args meth c cX9_readHost 6 RX9) (hr : meth.sig.returnType = (some .int))  : ∀ (n : Nat) (x0 : Option Nat) (x2 : Int32) (x3 : Int32), gJ G p l e 5 123 mc ms s m args below meth c gri y 6 91 [(0, va_rf x0), (2, .int x2), (3, .int x3)] [] (f_X9_readHost_L91  n x0 x2 x3) := by
  intro n
  induction n with
  | zero => intro x0 x2 x3 σ H locs cells slots ls hf; exact (gno_some hf).elim
  | succ n ih => intro x0 x2 x3; exact w_X9_readHost_91 C hr  ih x0 x2 x3
set_option maxHeartbeats 4000000 in
set_option maxRecDepth 100000 in
theorem w_X9_readHost_84 (C : gC G p s m args meth c cX9_readHost 6 RX9) (hr : meth.sig.returnType = (some .int))  (x0 : Option Nat) (x1 : Int32) (x2 : Int32) : gJ G p l e 5 123 mc ms s m args below meth c gri y 6 84 [(0, va_rf x0), (1, .int x1), (2, .int x2)] [] (f_X9_readHost_84  x0 x1 x2) := by
  have hx := C.1
  have hb := C.2.1
  intro σ H locs cells slots ls hf I hl
  unfold f_X9_readHost_84 at hf
  refine gw_aload_n hx hb dX9_readHost_84 rfl (lv_at hl 0 rfl) ?_
  refine lv_iconst (v := 0) hx hb dX9_readHost_85 kc_i_0 ?_
  refine gw_puti (k := 16) C I gcls_8 (by decide) rfl kw_209 (Or.inl rfl) (by decide +kernel) dX9_readHost_86 hf (fun σ H locs I hf => ?_)
  refine lv_iload_n hx hb dX9_readHost_89 rfl (lv_at hl 1 rfl) ?_
  refine lv_istore_n (lv' := [(3, .int x1), (0, va_rf x0), (1, .int x1), (2, .int x2)]) hx hb dX9_readHost_90 rfl hl (by decide) rfl (fun ls hl => ?_)
  exact w_X9_readHost_L91 C hr  _ x0 x2 x1 _ _ _ _ _ _ hf I (lv_sub hl [1, 3, 0] rfl)
set_option maxHeartbeats 4000000 in
set_option maxRecDepth 100000 in
theorem w_X9_readHost_2 (C : gC G p s m args meth c cX9_readHost 6 RX9) (hr : meth.sig.returnType = (some .int)) {rec2 : Option Nat → Int32 → Int32 → Int32 → gM Int32} (hrec2 : ∀ (x0 : Option Nat) (x1 : Int32) (x2 : Int32) (x3 : Int32), gJ G p l e 5 123 mc ms s m args below meth c gri y 6 2 [(0, va_rf x0), (1, .int x1), (2, .int x2), (3, .int x3)] [] (rec2 x0 x1 x2 x3)) (x0 : Option Nat) (x1 : Int32) (x2 : Int32) (x3 : Int32) : gJ G p l e 5 123 mc ms s m args below meth c gri y 6 2 [(0, va_rf x0), (1, .int x1), (2, .int x2), (3, .int x3)] [] (f_X9_readHost_2 rec2 x0 x1 x2 x3) := by
  have hx := C.1
  have hb := C.2.1
  intro σ H locs cells slots ls hf I hl
  unfold f_X9_readHost_2 at hf
  refine lv_iload_n hx hb dX9_readHost_2 rfl (lv_at hl 3 rfl) ?_
  refine lv_bipush (v := 8) hx hb dX9_readHost_3 kc_b_8 ?_
  refine lv_icmp_ge (tgt := 21) hx hb dX9_readHost_5 (by decide) (fun hq => ?_) (fun hq => ?_)
  · have hf := gift hq hf
    refine gw_aload_n hx hb dX9_readHost_21 rfl (lv_at hl 0 rfl) ?_
    refine lv_iconst (v := 0) hx hb dX9_readHost_22 kc_i_0 ?_
    refine gw_puti (k := 15) C I gcls_8 (by decide) rfl kw_208 (Or.inl rfl) (by decide +kernel) dX9_readHost_23 hf (fun σ H locs I hf => ?_)
    refine lv_iload_n hx hb dX9_readHost_26 rfl (lv_at hl 1 rfl) ?_
    refine lv_iload_n hx hb dX9_readHost_27 rfl (lv_at hl 2 rfl) ?_
    refine lv_icmp_ge (tgt := 84) hx hb dX9_readHost_28 (by decide) (fun hq => ?_) (fun hq => ?_)
    · have hf := gift hq hf
      exact w_X9_readHost_84 C hr  x0 x1 x2 _ _ _ _ _ _ hf I (lv_sub hl [0, 1, 2] rfl)
    · have hf := giff hq hf
      refine gw_aload_n hx hb dX9_readHost_31 rfl (lv_at hl 0 rfl) ?_
      refine gw_getr (k := 11) C I gcls_8 (by decide) rfl kw_176 dX9_readHost_32 hf (fun v1 hf => ?_)
      refine lv_iload_n hx hb dX9_readHost_35 rfl (lv_at hl 1 rfl) ?_
      refine gw_bald C I dX9_readHost_36 hf (fun v2 hf => ?_)
      refine lv_bipush (v := 91) hx hb dX9_readHost_37 kc_b_91 ?_
      refine lv_icmp_ne (tgt := 84) hx hb dX9_readHost_39 (by decide) (fun hq => ?_) (fun hq => ?_)
      · have hf := giff hq hf
        exact w_X9_readHost_84 C hr  x0 x1 x2 _ _ _ _ _ _ hf I (lv_sub hl [0, 1, 2] rfl)
      · have hf := gift hq hf
        refine gw_aload_n hx hb dX9_readHost_42 rfl (lv_at hl 0 rfl) ?_
        refine lv_bipush (v := 6) hx hb dX9_readHost_43 kc_b_6 ?_
        refine gw_puti (k := 16) C I gcls_8 (by decide) rfl kw_209 (Or.inl rfl) (by decide +kernel) dX9_readHost_45 hf (fun σ H locs I hf => ?_)
        refine gw_aload_n hx hb dX9_readHost_48 rfl (lv_at hl 0 rfl) ?_
        refine gw_getr (k := 11) C I gcls_8 (by decide) rfl kw_176 dX9_readHost_49 hf (fun v3 hf => ?_)
        refine lv_iload_n hx hb dX9_readHost_52 rfl (lv_at hl 2 rfl) ?_
        refine lv_iconst (v := 1) hx hb dX9_readHost_53 kc_i_1 ?_
        refine lv_isub hx hb dX9_readHost_54 ?_
        refine gw_bald C I dX9_readHost_55 hf (fun v4 hf => ?_)
        refine lv_bipush (v := 93) hx hb dX9_readHost_56 kc_b_93 ?_
        refine lv_icmp_ne (tgt := 81) hx hb dX9_readHost_58 (by decide) (fun hq => ?_) (fun hq => ?_)
        · have hf := giff hq hf
          refine lv_bipush (v := (-16)) hx hb dX9_readHost_81 kc_b_m16 ?_
          exact gw_iret C I hr dX9_readHost_83 hf
        · have hf := gift hq hf
          refine lv_iload_n hx hb dX9_readHost_61 rfl (lv_at hl 2 rfl) ?_
          refine lv_iload_n hx hb dX9_readHost_62 rfl (lv_at hl 1 rfl) ?_
          refine lv_isub hx hb dX9_readHost_63 ?_
          refine lv_iconst (v := 1) hx hb dX9_readHost_64 kc_i_1 ?_
          refine lv_icmp_le (tgt := 81) hx hb dX9_readHost_65 (by decide) (fun hq => ?_) (fun hq => ?_)
          · have hf := gift hq hf
            refine lv_bipush (v := (-16)) hx hb dX9_readHost_81 kc_b_m16 ?_
            exact gw_iret C I hr dX9_readHost_83 hf
          · have hf := giff hq hf
            refine gw_aload_n hx hb dX9_readHost_68 rfl (lv_at hl 0 rfl) ?_
            refine lv_iload_n hx hb dX9_readHost_69 rfl (lv_at hl 1 rfl) ?_
            refine lv_iconst (v := 1) hx hb dX9_readHost_70 kc_i_1 ?_
            refine lv_iadd hx hb dX9_readHost_71 ?_
            refine lv_iload_n hx hb dX9_readHost_72 rfl (lv_at hl 2 rfl) ?_
            refine lv_iconst (v := 1) hx hb dX9_readHost_73 kc_i_1 ?_
            refine lv_isub hx hb dX9_readHost_74 ?_
            refine gw_callV (rest := []) C I hl.1 gcls_8 (m_X9_readSix G l x0 (x1 + 1) (x2 - 1)) gl_RX9_234 gn_X9_readSix ⟨Nat.le_of_ble_eq_true rfl, Nat.le_of_ble_eq_true rfl⟩ rfl (gc4 (Nat.le_of_ble_eq_true rfl)) rfl dX9_readHost_75 hf (fun v5 σ H locs cells slots I hf => ?_)
            refine W.eq (g2 := F0 m 78 ls [.int v5]) rfl ?_
            refine lv_goto (tgt := 83) hx hb dX9_readHost_78 (by decide) ?_
            exact gw_iret C I hr dX9_readHost_83 hf
  · have hf := giff hq hf
    refine gw_aload_n hx hb dX9_readHost_8 rfl (lv_at hl 0 rfl) ?_
    refine gw_getr (k := 17) C I gcls_8 (by decide) rfl kw_178 dX9_readHost_9 hf (fun v6 hf => ?_)
    refine lv_iload_n hx hb dX9_readHost_12 rfl (lv_at hl 3 rfl) ?_
    refine lv_iconst (v := 0) hx hb dX9_readHost_13 kc_i_0 ?_
    refine gw_iast C I dX9_readHost_14 hf (fun σ H locs I hf => ?_)
    refine lv_iinc (v := x3 + 1) (lv' := [(3, .int (x3 + 1)), (0, va_rf x0), (1, .int x1), (2, .int x2)]) hx hb dX9_readHost_15 hl (k := 3) rfl rfl (by decide) rfl (fun ls hl => ?_)
    refine lv_goto (tgt := 2) hx hb dX9_readHost_18 (by decide) ?_
    exact hrec2 x0 x1 x2 (x3 + 1) _ _ _ _ _ _ hf I (lv_sub hl [1, 2, 3, 0] rfl)
theorem w_X9_readHost_L2 (C : gC G p s m args meth c cX9_readHost 6 RX9) (hr : meth.sig.returnType = (some .int))  : ∀ (n : Nat) (x0 : Option Nat) (x1 : Int32) (x2 : Int32) (x3 : Int32), gJ G p l e 5 123 mc ms s m args below meth c gri y 6 2 [(0, va_rf x0), (1, .int x1), (2, .int x2), (3, .int x3)] [] (f_X9_readHost_L2  n x0 x1 x2 x3) := by
  intro n
  induction n with
  | zero => intro x0 x1 x2 x3 σ H locs cells slots ls hf; exact (gno_some hf).elim
  | succ n ih => intro x0 x1 x2 x3; exact w_X9_readHost_2 C hr  ih x0 x1 x2 x3
set_option maxHeartbeats 4000000 in
set_option maxRecDepth 100000 in
theorem w_X9_readHost_0 (C : gC G p s m args meth c cX9_readHost 6 RX9) (hr : meth.sig.returnType = (some .int))  (a0 : Option Nat) (a1 : Int32) (a2 : Int32) : gJ G p l e 5 123 mc ms s m args below meth c gri y 6 0 [(0, va_rf a0), (1, .int a1), (2, .int a2)] [] (f_X9_readHost  a0 a1 a2) := by
  have hx := C.1
  have hb := C.2.1
  intro σ H locs cells slots ls hf I hl
  unfold f_X9_readHost at hf
  refine lv_iconst (v := 0) hx hb dX9_readHost_0 kc_i_0 ?_
  refine lv_istore_n (lv' := [(3, .int 0), (0, va_rf a0), (1, .int a1), (2, .int a2)]) hx hb dX9_readHost_1 rfl hl (by decide) rfl (fun ls hl => ?_)
  exact w_X9_readHost_L2 C hr  _ a0 a1 a2 0 _ _ _ _ _ _ hf I (lv_sub hl [1, 2, 3, 0] rfl)
end S_X9_readHost
theorem m_X9_readHost (G : gX) (l : Launch) (a0 : Option Nat) (a1 : Int32) (a2 : Int32) : gMet G l yX9_readHost cX9_readHost 6 (some .int) 5 123 [va_rf a0, .int a1, .int a2] gri (f_X9_readHost a0 a1 a2) := by
  refine gMet_of (by decide) ?_
  intro σ y p e s m below meth c mc ms hf C hr hnm I
  obtain ⟨ls, e1, hl⟩ := gentry m [va_rf a0, .int a1, .int a2] 6 [(0, va_rf a0), (1, .int a1), (2, .int a2)] (by simp [lg_sl, grc, gcat_i, gcat_l]) (by simp [lv_args, grc, gcat_i, gcat_l])
  rw [e1]
  exact w_X9_readHost_0 C hr a0 a1 a2 _ _ _ _ _ _ hf I hl
