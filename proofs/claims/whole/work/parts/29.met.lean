theorem dX9_isSlash_0 : decode cX9_isSlash 0 = .ok (.iload_n 0, 1) := by decide +kernel
theorem dX9_isSlash_1 : decode cX9_isSlash 1 = .ok (.bipush 47, 2) := by decide +kernel
theorem dX9_isSlash_3 : decode cX9_isSlash 3 = .ok (.if_icmp .eq 9, 3) := by decide +kernel
theorem dX9_isSlash_6 : decode cX9_isSlash 6 = .ok (.iload_n 0, 1) := by decide +kernel
theorem dX9_isSlash_7 : decode cX9_isSlash 7 = .ok (.bipush 92, 2) := by decide +kernel
theorem dX9_isSlash_9 : decode cX9_isSlash 9 = .ok (.if_icmp .ne 7, 3) := by decide +kernel
theorem dX9_isSlash_12 : decode cX9_isSlash 12 = .ok (.iconst 1, 1) := by decide +kernel
theorem dX9_isSlash_13 : decode cX9_isSlash 13 = .ok (.goto 4, 3) := by decide +kernel
theorem dX9_isSlash_16 : decode cX9_isSlash 16 = .ok (.iconst 0, 1) := by decide +kernel
theorem dX9_isSlash_17 : decode cX9_isSlash 17 = .ok (.ireturn, 1) := by decide +kernel
theorem dX9_takeText_0 : decode cX9_takeText 0 = .ok (.iconst 0, 1) := by decide +kernel
theorem dX9_takeText_1 : decode cX9_takeText 1 = .ok (.istore_n 1, 1) := by decide +kernel
theorem dX9_takeText_2 : decode cX9_takeText 2 = .ok (.aload_n 0, 1) := by decide +kernel
theorem dX9_takeText_3 : decode cX9_takeText 3 = .ok (.getfield 103, 3) := by decide +kernel
theorem dX9_takeText_6 : decode cX9_takeText 6 = .ok (.istore_n 2, 1) := by decide +kernel
theorem dX9_takeText_7 : decode cX9_takeText 7 = .ok (.iload_n 1, 1) := by decide +kernel
theorem dX9_takeText_8 : decode cX9_takeText 8 = .ok (.iload_n 2, 1) := by decide +kernel
theorem dX9_takeText_9 : decode cX9_takeText 9 = .ok (.if_icmp .ge 24, 3) := by decide +kernel
theorem dX9_takeText_12 : decode cX9_takeText 12 = .ok (.aload_n 0, 1) := by decide +kernel
theorem dX9_takeText_13 : decode cX9_takeText 13 = .ok (.getfield 7, 3) := by decide +kernel
theorem dX9_takeText_16 : decode cX9_takeText 16 = .ok (.iload_n 1, 1) := by decide +kernel
theorem dX9_takeText_17 : decode cX9_takeText 17 = .ok (.baload, 1) := by decide +kernel
theorem dX9_takeText_18 : decode cX9_takeText 18 = .ok (.sipush 255, 3) := by decide +kernel
theorem dX9_takeText_21 : decode cX9_takeText 21 = .ok (.iand, 1) := by decide +kernel
theorem dX9_takeText_22 : decode cX9_takeText 22 = .ok (.bipush 32, 2) := by decide +kernel
theorem dX9_takeText_24 : decode cX9_takeText 24 = .ok (.if_icmp .gt 9, 3) := by decide +kernel
theorem dX9_takeText_27 : decode cX9_takeText 27 = .ok (.iinc 1 1, 3) := by decide +kernel
theorem dX9_takeText_30 : decode cX9_takeText 30 = .ok (.goto (-23), 3) := by decide +kernel
theorem dX9_takeText_33 : decode cX9_takeText 33 = .ok (.iload_n 2, 1) := by decide +kernel
theorem dX9_takeText_34 : decode cX9_takeText 34 = .ok (.iload_n 1, 1) := by decide +kernel
theorem dX9_takeText_35 : decode cX9_takeText 35 = .ok (.if_icmp .le 26, 3) := by decide +kernel
theorem dX9_takeText_38 : decode cX9_takeText 38 = .ok (.aload_n 0, 1) := by decide +kernel
theorem dX9_takeText_39 : decode cX9_takeText 39 = .ok (.getfield 7, 3) := by decide +kernel
theorem dX9_takeText_42 : decode cX9_takeText 42 = .ok (.iload_n 2, 1) := by decide +kernel
theorem dX9_takeText_43 : decode cX9_takeText 43 = .ok (.iconst 1, 1) := by decide +kernel
theorem dX9_takeText_44 : decode cX9_takeText 44 = .ok (.isub, 1) := by decide +kernel
theorem dX9_takeText_45 : decode cX9_takeText 45 = .ok (.baload, 1) := by decide +kernel
theorem dX9_takeText_46 : decode cX9_takeText 46 = .ok (.sipush 255, 3) := by decide +kernel
theorem dX9_takeText_49 : decode cX9_takeText 49 = .ok (.iand, 1) := by decide +kernel
theorem dX9_takeText_50 : decode cX9_takeText 50 = .ok (.bipush 32, 2) := by decide +kernel
theorem dX9_takeText_52 : decode cX9_takeText 52 = .ok (.if_icmp .gt 9, 3) := by decide +kernel
theorem dX9_takeText_55 : decode cX9_takeText 55 = .ok (.iinc 2 (-1), 3) := by decide +kernel
theorem dX9_takeText_58 : decode cX9_takeText 58 = .ok (.goto (-25), 3) := by decide +kernel
theorem dX9_takeText_61 : decode cX9_takeText 61 = .ok (.aload_n 0, 1) := by decide +kernel
theorem dX9_takeText_62 : decode cX9_takeText 62 = .ok (.iconst 0, 1) := by decide +kernel
theorem dX9_takeText_63 : decode cX9_takeText 63 = .ok (.putfield 129, 3) := by decide +kernel
theorem dX9_takeText_66 : decode cX9_takeText 66 = .ok (.iload_n 1, 1) := by decide +kernel
theorem dX9_takeText_67 : decode cX9_takeText 67 = .ok (.istore_n 3, 1) := by decide +kernel
theorem dX9_takeText_68 : decode cX9_takeText 68 = .ok (.iload_n 3, 1) := by decide +kernel
theorem dX9_takeText_69 : decode cX9_takeText 69 = .ok (.iload_n 2, 1) := by decide +kernel
theorem dX9_takeText_70 : decode cX9_takeText 70 = .ok (.if_icmp .ge 64, 3) := by decide +kernel
theorem dX9_takeText_73 : decode cX9_takeText 73 = .ok (.aload_n 0, 1) := by decide +kernel
theorem dX9_takeText_74 : decode cX9_takeText 74 = .ok (.getfield 7, 3) := by decide +kernel
theorem dX9_takeText_77 : decode cX9_takeText 77 = .ok (.iload_n 3, 1) := by decide +kernel
theorem dX9_takeText_78 : decode cX9_takeText 78 = .ok (.baload, 1) := by decide +kernel
theorem dX9_takeText_79 : decode cX9_takeText 79 = .ok (.sipush 255, 3) := by decide +kernel
theorem dX9_takeText_82 : decode cX9_takeText 82 = .ok (.iand, 1) := by decide +kernel
theorem dX9_takeText_83 : decode cX9_takeText 83 = .ok (.istore 4, 2) := by decide +kernel
theorem dX9_takeText_85 : decode cX9_takeText 85 = .ok (.iload 4, 2) := by decide +kernel
theorem dX9_takeText_87 : decode cX9_takeText 87 = .ok (.bipush 9, 2) := by decide +kernel
theorem dX9_takeText_89 : decode cX9_takeText 89 = .ok (.if_icmp .eq 39, 3) := by decide +kernel
theorem dX9_takeText_92 : decode cX9_takeText 92 = .ok (.iload 4, 2) := by decide +kernel
theorem dX9_takeText_94 : decode cX9_takeText 94 = .ok (.bipush 10, 2) := by decide +kernel
theorem dX9_takeText_96 : decode cX9_takeText 96 = .ok (.if_icmp .eq 32, 3) := by decide +kernel
theorem dX9_takeText_99 : decode cX9_takeText 99 = .ok (.iload 4, 2) := by decide +kernel
theorem dX9_takeText_101 : decode cX9_takeText 101 = .ok (.bipush 13, 2) := by decide +kernel
theorem dX9_takeText_103 : decode cX9_takeText 103 = .ok (.if_icmp .eq 25, 3) := by decide +kernel
theorem dX9_takeText_106 : decode cX9_takeText 106 = .ok (.aload_n 0, 1) := by decide +kernel
theorem dX9_takeText_107 : decode cX9_takeText 107 = .ok (.getfield 43, 3) := by decide +kernel
theorem dX9_takeText_110 : decode cX9_takeText 110 = .ok (.aload_n 0, 1) := by decide +kernel
theorem dX9_takeText_111 : decode cX9_takeText 111 = .ok (.getfield 129, 3) := by decide +kernel
theorem dX9_takeText_114 : decode cX9_takeText 114 = .ok (.iload 4, 2) := by decide +kernel
theorem dX9_takeText_116 : decode cX9_takeText 116 = .ok (.i2b, 1) := by decide +kernel
theorem dX9_takeText_117 : decode cX9_takeText 117 = .ok (.bastore, 1) := by decide +kernel
theorem dX9_takeText_118 : decode cX9_takeText 118 = .ok (.aload_n 0, 1) := by decide +kernel
theorem dX9_takeText_119 : decode cX9_takeText 119 = .ok (.dup, 1) := by decide +kernel
theorem dX9_takeText_120 : decode cX9_takeText 120 = .ok (.getfield 129, 3) := by decide +kernel
theorem dX9_takeText_123 : decode cX9_takeText 123 = .ok (.iconst 1, 1) := by decide +kernel
theorem dX9_takeText_124 : decode cX9_takeText 124 = .ok (.iadd, 1) := by decide +kernel
theorem dX9_takeText_125 : decode cX9_takeText 125 = .ok (.putfield 129, 3) := by decide +kernel
theorem dX9_takeText_128 : decode cX9_takeText 128 = .ok (.iinc 3 1, 3) := by decide +kernel
theorem dX9_takeText_131 : decode cX9_takeText 131 = .ok (.goto (-63), 3) := by decide +kernel
theorem dX9_takeText_134 : decode cX9_takeText 134 = .ok (.return_, 1) := by decide +kernel
theorem dX9_schemeSize_0 : decode cX9_schemeSize 0 = .ok (.iload_n 0, 1) := by decide +kernel
theorem dX9_schemeSize_1 : decode cX9_schemeSize 1 = .ok (.ifCond .ne 7, 3) := by decide +kernel
theorem dX9_schemeSize_4 : decode cX9_schemeSize 4 = .ok (.iconst 4, 1) := by decide +kernel
theorem dX9_schemeSize_5 : decode cX9_schemeSize 5 = .ok (.goto 22, 3) := by decide +kernel
theorem dX9_schemeSize_8 : decode cX9_schemeSize 8 = .ok (.iload_n 0, 1) := by decide +kernel
theorem dX9_schemeSize_9 : decode cX9_schemeSize 9 = .ok (.iconst 1, 1) := by decide +kernel
theorem dX9_schemeSize_10 : decode cX9_schemeSize 10 = .ok (.if_icmp .ne 7, 3) := by decide +kernel
theorem dX9_schemeSize_13 : decode cX9_schemeSize 13 = .ok (.iconst 2, 1) := by decide +kernel
theorem dX9_schemeSize_14 : decode cX9_schemeSize 14 = .ok (.goto 13, 3) := by decide +kernel
theorem dX9_schemeSize_17 : decode cX9_schemeSize 17 = .ok (.iload_n 0, 1) := by decide +kernel
theorem dX9_schemeSize_18 : decode cX9_schemeSize 18 = .ok (.iconst 2, 1) := by decide +kernel
theorem dX9_schemeSize_19 : decode cX9_schemeSize 19 = .ok (.if_icmp .ne 7, 3) := by decide +kernel
theorem dX9_schemeSize_22 : decode cX9_schemeSize 22 = .ok (.iconst 5, 1) := by decide +kernel
theorem dX9_schemeSize_23 : decode cX9_schemeSize 23 = .ok (.goto 4, 3) := by decide +kernel
theorem dX9_schemeSize_26 : decode cX9_schemeSize 26 = .ok (.iconst 3, 1) := by decide +kernel
theorem dX9_schemeSize_27 : decode cX9_schemeSize 27 = .ok (.ireturn, 1) := by decide +kernel
theorem dX9_schemeByte_0 : decode cX9_schemeByte 0 = .ok (.iload_n 0, 1) := by decide +kernel
theorem dX9_schemeByte_1 : decode cX9_schemeByte 1 = .ok (.ifCond .ne 8, 3) := by decide +kernel
theorem dX9_schemeByte_4 : decode cX9_schemeByte 4 = .ok (.ldc 132, 2) := by decide +kernel
theorem dX9_schemeByte_6 : decode cX9_schemeByte 6 = .ok (.goto 35, 3) := by decide +kernel
theorem dX9_schemeByte_9 : decode cX9_schemeByte 9 = .ok (.iload_n 0, 1) := by decide +kernel
theorem dX9_schemeByte_10 : decode cX9_schemeByte 10 = .ok (.iconst 1, 1) := by decide +kernel
theorem dX9_schemeByte_11 : decode cX9_schemeByte 11 = .ok (.if_icmp .ne 8, 3) := by decide +kernel
theorem dX9_schemeByte_14 : decode cX9_schemeByte 14 = .ok (.ldc 134, 2) := by decide +kernel
theorem dX9_schemeByte_16 : decode cX9_schemeByte 16 = .ok (.goto 25, 3) := by decide +kernel
theorem dX9_schemeByte_19 : decode cX9_schemeByte 19 = .ok (.iload_n 0, 1) := by decide +kernel
theorem dX9_schemeByte_20 : decode cX9_schemeByte 20 = .ok (.iconst 2, 1) := by decide +kernel
theorem dX9_schemeByte_21 : decode cX9_schemeByte 21 = .ok (.if_icmp .ne 8, 3) := by decide +kernel
theorem dX9_schemeByte_24 : decode cX9_schemeByte 24 = .ok (.ldc 136, 2) := by decide +kernel
theorem dX9_schemeByte_26 : decode cX9_schemeByte 26 = .ok (.goto 15, 3) := by decide +kernel
theorem dX9_schemeByte_29 : decode cX9_schemeByte 29 = .ok (.iload_n 0, 1) := by decide +kernel
theorem dX9_schemeByte_30 : decode cX9_schemeByte 30 = .ok (.iconst 3, 1) := by decide +kernel
theorem dX9_schemeByte_31 : decode cX9_schemeByte 31 = .ok (.if_icmp .ne 8, 3) := by decide +kernel
theorem dX9_schemeByte_34 : decode cX9_schemeByte 34 = .ok (.ldc 138, 2) := by decide +kernel
theorem dX9_schemeByte_36 : decode cX9_schemeByte 36 = .ok (.goto 5, 3) := by decide +kernel
theorem dX9_schemeByte_39 : decode cX9_schemeByte 39 = .ok (.ldc 140, 2) := by decide +kernel
theorem dX9_schemeByte_41 : decode cX9_schemeByte 41 = .ok (.astore_n 2, 1) := by decide +kernel
theorem dX9_schemeByte_42 : decode cX9_schemeByte 42 = .ok (.aload_n 2, 1) := by decide +kernel
theorem dX9_schemeByte_43 : decode cX9_schemeByte 43 = .ok (.iload_n 1, 1) := by decide +kernel
theorem dX9_schemeByte_44 : decode cX9_schemeByte 44 = .ok (.invokevirtual 142, 3) := by decide +kernel
theorem dX9_schemeByte_47 : decode cX9_schemeByte 47 = .ok (.ireturn, 1) := by decide +kernel
theorem dX9_isWord_0 : decode cX9_isWord 0 = .ok (.iload_n 2, 1) := by decide +kernel
theorem dX9_isWord_1 : decode cX9_isWord 1 = .ok (.invokestatic 148, 3) := by decide +kernel
theorem dX9_isWord_4 : decode cX9_isWord 4 = .ok (.iload_n 1, 1) := by decide +kernel
theorem dX9_isWord_5 : decode cX9_isWord 5 = .ok (.if_icmp .ne 7, 3) := by decide +kernel
theorem dX9_isWord_8 : decode cX9_isWord 8 = .ok (.iconst 1, 1) := by decide +kernel
theorem dX9_isWord_9 : decode cX9_isWord 9 = .ok (.goto 4, 3) := by decide +kernel
theorem dX9_isWord_12 : decode cX9_isWord 12 = .ok (.iconst 0, 1) := by decide +kernel
theorem dX9_isWord_13 : decode cX9_isWord 13 = .ok (.istore_n 3, 1) := by decide +kernel
theorem dX9_isWord_14 : decode cX9_isWord 14 = .ok (.iconst 0, 1) := by decide +kernel
theorem dX9_isWord_15 : decode cX9_isWord 15 = .ok (.istore 4, 2) := by decide +kernel
theorem dX9_isWord_17 : decode cX9_isWord 17 = .ok (.iload 4, 2) := by decide +kernel
theorem dX9_isWord_19 : decode cX9_isWord 19 = .ok (.iload_n 1, 1) := by decide +kernel
theorem dX9_isWord_20 : decode cX9_isWord 20 = .ok (.if_icmp .ge 37, 3) := by decide +kernel
theorem dX9_isWord_23 : decode cX9_isWord 23 = .ok (.iload_n 3, 1) := by decide +kernel
theorem dX9_isWord_24 : decode cX9_isWord 24 = .ok (.ifCond .eq 33, 3) := by decide +kernel
theorem dX9_isWord_27 : decode cX9_isWord 27 = .ok (.aload_n 0, 1) := by decide +kernel
theorem dX9_isWord_28 : decode cX9_isWord 28 = .ok (.iload 4, 2) := by decide +kernel
theorem dX9_isWord_30 : decode cX9_isWord 30 = .ok (.invokevirtual 151, 3) := by decide +kernel
theorem dX9_isWord_33 : decode cX9_isWord 33 = .ok (.invokestatic 99, 3) := by decide +kernel
theorem dX9_isWord_36 : decode cX9_isWord 36 = .ok (.iload_n 2, 1) := by decide +kernel
theorem dX9_isWord_37 : decode cX9_isWord 37 = .ok (.iload 4, 2) := by decide +kernel
theorem dX9_isWord_39 : decode cX9_isWord 39 = .ok (.invokestatic 154, 3) := by decide +kernel
theorem dX9_isWord_42 : decode cX9_isWord 42 = .ok (.if_icmp .ne 7, 3) := by decide +kernel
theorem dX9_isWord_45 : decode cX9_isWord 45 = .ok (.iconst 1, 1) := by decide +kernel
theorem dX9_isWord_46 : decode cX9_isWord 46 = .ok (.goto 4, 3) := by decide +kernel
theorem dX9_isWord_49 : decode cX9_isWord 49 = .ok (.iconst 0, 1) := by decide +kernel
theorem dX9_isWord_50 : decode cX9_isWord 50 = .ok (.istore_n 3, 1) := by decide +kernel
theorem dX9_isWord_51 : decode cX9_isWord 51 = .ok (.iinc 4 1, 3) := by decide +kernel
theorem dX9_isWord_54 : decode cX9_isWord 54 = .ok (.goto (-37), 3) := by decide +kernel
theorem dX9_isWord_57 : decode cX9_isWord 57 = .ok (.iload_n 3, 1) := by decide +kernel
theorem dX9_isWord_58 : decode cX9_isWord 58 = .ok (.ireturn, 1) := by decide +kernel
theorem dX9_isLetter_0 : decode cX9_isLetter 0 = .ok (.iload_n 0, 1) := by decide +kernel
theorem dX9_isLetter_1 : decode cX9_isLetter 1 = .ok (.invokestatic 99, 3) := by decide +kernel
theorem dX9_isLetter_4 : decode cX9_isLetter 4 = .ok (.bipush 97, 2) := by decide +kernel
theorem dX9_isLetter_6 : decode cX9_isLetter 6 = .ok (.bipush 122, 2) := by decide +kernel
theorem dX9_isLetter_8 : decode cX9_isLetter 8 = .ok (.invokestatic 91, 3) := by decide +kernel
theorem dX9_isLetter_11 : decode cX9_isLetter 11 = .ok (.ireturn, 1) := by decide +kernel
theorem dX9_isOver_0 : decode cX9_isOver 0 = .ok (.aload_n 0, 1) := by decide +kernel
theorem dX9_isOver_1 : decode cX9_isOver 1 = .ok (.iload_n 1, 1) := by decide +kernel
theorem dX9_isOver_2 : decode cX9_isOver 2 = .ok (.invokevirtual 151, 3) := by decide +kernel
theorem dX9_isOver_5 : decode cX9_isOver 5 = .ok (.istore_n 2, 1) := by decide +kernel
theorem dX9_isOver_6 : decode cX9_isOver 6 = .ok (.iload_n 2, 1) := by decide +kernel
theorem dX9_isOver_7 : decode cX9_isOver 7 = .ok (.ifCond .lt 22, 3) := by decide +kernel
theorem dX9_isOver_10 : decode cX9_isOver 10 = .ok (.iload_n 2, 1) := by decide +kernel
theorem dX9_isOver_11 : decode cX9_isOver 11 = .ok (.invokestatic 188, 3) := by decide +kernel
theorem dX9_isOver_14 : decode cX9_isOver 14 = .ok (.ifCond .ne 15, 3) := by decide +kernel
theorem dX9_isOver_17 : decode cX9_isOver 17 = .ok (.iload_n 2, 1) := by decide +kernel
theorem dX9_isOver_18 : decode cX9_isOver 18 = .ok (.bipush 63, 2) := by decide +kernel
theorem dX9_isOver_20 : decode cX9_isOver 20 = .ok (.if_icmp .eq 9, 3) := by decide +kernel
theorem dX9_isOver_23 : decode cX9_isOver 23 = .ok (.iload_n 2, 1) := by decide +kernel
theorem dX9_isOver_24 : decode cX9_isOver 24 = .ok (.bipush 35, 2) := by decide +kernel
theorem dX9_isOver_26 : decode cX9_isOver 26 = .ok (.if_icmp .ne 7, 3) := by decide +kernel
theorem dX9_isOver_29 : decode cX9_isOver 29 = .ok (.iconst 1, 1) := by decide +kernel
theorem dX9_isOver_30 : decode cX9_isOver 30 = .ok (.goto 4, 3) := by decide +kernel
theorem dX9_isOver_33 : decode cX9_isOver 33 = .ok (.iconst 0, 1) := by decide +kernel
theorem dX9_isOver_34 : decode cX9_isOver 34 = .ok (.ireturn, 1) := by decide +kernel
theorem dX9_readNumbers_0 : decode cX9_readNumbers 0 = .ok (.iload_n 1, 1) := by decide +kernel
theorem dX9_readNumbers_1 : decode cX9_readNumbers 1 = .ok (.istore 4, 2) := by decide +kernel
theorem dX9_readNumbers_3 : decode cX9_readNumbers 3 = .ok (.lconst 0, 1) := by decide +kernel
theorem dX9_readNumbers_4 : decode cX9_readNumbers 4 = .ok (.lstore 5, 2) := by decide +kernel
theorem dX9_readNumbers_6 : decode cX9_readNumbers 6 = .ok (.iconst 0, 1) := by decide +kernel
theorem dX9_readNumbers_7 : decode cX9_readNumbers 7 = .ok (.istore 7, 2) := by decide +kernel
theorem dX9_readNumbers_9 : decode cX9_readNumbers 9 = .ok (.iload 7, 2) := by decide +kernel
theorem dX9_readNumbers_11 : decode cX9_readNumbers 11 = .ok (.iconst 4, 1) := by decide +kernel
theorem dX9_readNumbers_12 : decode cX9_readNumbers 12 = .ok (.if_icmp .ge 144, 3) := by decide +kernel
theorem dX9_readNumbers_15 : decode cX9_readNumbers 15 = .ok (.iload 7, 2) := by decide +kernel
theorem dX9_readNumbers_17 : decode cX9_readNumbers 17 = .ok (.ifCond .le 27, 3) := by decide +kernel
theorem dX9_readNumbers_20 : decode cX9_readNumbers 20 = .ok (.iload 4, 2) := by decide +kernel
theorem dX9_readNumbers_22 : decode cX9_readNumbers 22 = .ok (.iload_n 2, 1) := by decide +kernel
theorem dX9_readNumbers_23 : decode cX9_readNumbers 23 = .ok (.if_icmp .ge 15, 3) := by decide +kernel
theorem dX9_readNumbers_26 : decode cX9_readNumbers 26 = .ok (.aload_n 0, 1) := by decide +kernel
theorem dX9_readNumbers_27 : decode cX9_readNumbers 27 = .ok (.getfield 43, 3) := by decide +kernel
theorem dX9_readNumbers_30 : decode cX9_readNumbers 30 = .ok (.iload 4, 2) := by decide +kernel
theorem dX9_readNumbers_32 : decode cX9_readNumbers 32 = .ok (.baload, 1) := by decide +kernel
theorem dX9_readNumbers_33 : decode cX9_readNumbers 33 = .ok (.bipush 46, 2) := by decide +kernel
theorem dX9_readNumbers_35 : decode cX9_readNumbers 35 = .ok (.if_icmp .eq 6, 3) := by decide +kernel
theorem dX9_readNumbers_38 : decode cX9_readNumbers 38 = .ok (.bipush (-16), 2) := by decide +kernel
theorem dX9_readNumbers_40 : decode cX9_readNumbers 40 = .ok (.ireturn, 1) := by decide +kernel
theorem dX9_readNumbers_41 : decode cX9_readNumbers 41 = .ok (.iinc 4 1, 3) := by decide +kernel
theorem dX9_readNumbers_44 : decode cX9_readNumbers 44 = .ok (.iload 4, 2) := by decide +kernel
theorem dX9_readNumbers_46 : decode cX9_readNumbers 46 = .ok (.istore 8, 2) := by decide +kernel
theorem dX9_readNumbers_48 : decode cX9_readNumbers 48 = .ok (.iconst 0, 1) := by decide +kernel
theorem dX9_readNumbers_49 : decode cX9_readNumbers 49 = .ok (.istore 9, 2) := by decide +kernel
theorem dX9_readNumbers_51 : decode cX9_readNumbers 51 = .ok (.iload 4, 2) := by decide +kernel
theorem dX9_readNumbers_53 : decode cX9_readNumbers 53 = .ok (.iload_n 2, 1) := by decide +kernel
theorem dX9_readNumbers_54 : decode cX9_readNumbers 54 = .ok (.if_icmp .ge 46, 3) := by decide +kernel
theorem dX9_readNumbers_57 : decode cX9_readNumbers 57 = .ok (.aload_n 0, 1) := by decide +kernel
theorem dX9_readNumbers_58 : decode cX9_readNumbers 58 = .ok (.getfield 43, 3) := by decide +kernel
theorem dX9_readNumbers_61 : decode cX9_readNumbers 61 = .ok (.iload 4, 2) := by decide +kernel
theorem dX9_readNumbers_63 : decode cX9_readNumbers 63 = .ok (.baload, 1) := by decide +kernel
theorem dX9_readNumbers_64 : decode cX9_readNumbers 64 = .ok (.invokestatic 95, 3) := by decide +kernel
theorem dX9_readNumbers_67 : decode cX9_readNumbers 67 = .ok (.ifCond .eq 33, 3) := by decide +kernel
theorem dX9_readNumbers_70 : decode cX9_readNumbers 70 = .ok (.sipush 1000, 3) := by decide +kernel
theorem dX9_readNumbers_73 : decode cX9_readNumbers 73 = .ok (.bipush 10, 2) := by decide +kernel
theorem dX9_readNumbers_75 : decode cX9_readNumbers 75 = .ok (.iload 9, 2) := by decide +kernel
theorem dX9_readNumbers_77 : decode cX9_readNumbers 77 = .ok (.imul, 1) := by decide +kernel
theorem dX9_readNumbers_78 : decode cX9_readNumbers 78 = .ok (.aload_n 0, 1) := by decide +kernel
theorem dX9_readNumbers_79 : decode cX9_readNumbers 79 = .ok (.getfield 43, 3) := by decide +kernel
theorem dX9_readNumbers_82 : decode cX9_readNumbers 82 = .ok (.iload 4, 2) := by decide +kernel
theorem dX9_readNumbers_84 : decode cX9_readNumbers 84 = .ok (.baload, 1) := by decide +kernel
theorem dX9_readNumbers_85 : decode cX9_readNumbers 85 = .ok (.iadd, 1) := by decide +kernel
theorem dX9_readNumbers_86 : decode cX9_readNumbers 86 = .ok (.bipush 48, 2) := by decide +kernel
theorem dX9_readNumbers_88 : decode cX9_readNumbers 88 = .ok (.isub, 1) := by decide +kernel
theorem dX9_readNumbers_89 : decode cX9_readNumbers 89 = .ok (.invokestatic 224, 3) := by decide +kernel
theorem dX9_readNumbers_92 : decode cX9_readNumbers 92 = .ok (.istore 9, 2) := by decide +kernel
theorem dX9_readNumbers_94 : decode cX9_readNumbers 94 = .ok (.iinc 4 1, 3) := by decide +kernel
theorem dX9_readNumbers_97 : decode cX9_readNumbers 97 = .ok (.goto (-46), 3) := by decide +kernel
theorem dX9_readNumbers_100 : decode cX9_readNumbers 100 = .ok (.iload 4, 2) := by decide +kernel
theorem dX9_readNumbers_102 : decode cX9_readNumbers 102 = .ok (.iload 8, 2) := by decide +kernel
theorem dX9_readNumbers_104 : decode cX9_readNumbers 104 = .ok (.if_icmp .eq 32, 3) := by decide +kernel
theorem dX9_readNumbers_107 : decode cX9_readNumbers 107 = .ok (.iload 9, 2) := by decide +kernel
theorem dX9_readNumbers_109 : decode cX9_readNumbers 109 = .ok (.sipush 255, 3) := by decide +kernel
theorem dX9_readNumbers_112 : decode cX9_readNumbers 112 = .ok (.if_icmp .gt 24, 3) := by decide +kernel
theorem dX9_readNumbers_115 : decode cX9_readNumbers 115 = .ok (.aload_n 0, 1) := by decide +kernel
theorem dX9_readNumbers_116 : decode cX9_readNumbers 116 = .ok (.getfield 43, 3) := by decide +kernel
theorem dX9_readNumbers_119 : decode cX9_readNumbers 119 = .ok (.iload 8, 2) := by decide +kernel
theorem dX9_readNumbers_121 : decode cX9_readNumbers 121 = .ok (.baload, 1) := by decide +kernel
theorem dX9_readNumbers_122 : decode cX9_readNumbers 122 = .ok (.bipush 48, 2) := by decide +kernel
theorem dX9_readNumbers_124 : decode cX9_readNumbers 124 = .ok (.if_icmp .ne 15, 3) := by decide +kernel
theorem dX9_readNumbers_127 : decode cX9_readNumbers 127 = .ok (.iload 4, 2) := by decide +kernel
theorem dX9_readNumbers_129 : decode cX9_readNumbers 129 = .ok (.iload 8, 2) := by decide +kernel
theorem dX9_readNumbers_131 : decode cX9_readNumbers 131 = .ok (.isub, 1) := by decide +kernel
theorem dX9_readNumbers_132 : decode cX9_readNumbers 132 = .ok (.iconst 1, 1) := by decide +kernel
theorem dX9_readNumbers_133 : decode cX9_readNumbers 133 = .ok (.if_icmp .le 6, 3) := by decide +kernel
theorem dX9_readNumbers_136 : decode cX9_readNumbers 136 = .ok (.bipush (-16), 2) := by decide +kernel
theorem dX9_readNumbers_138 : decode cX9_readNumbers 138 = .ok (.ireturn, 1) := by decide +kernel
theorem dX9_readNumbers_139 : decode cX9_readNumbers 139 = .ok (.lload 5, 2) := by decide +kernel
theorem dX9_readNumbers_141 : decode cX9_readNumbers 141 = .ok (.bipush 8, 2) := by decide +kernel
theorem dX9_readNumbers_143 : decode cX9_readNumbers 143 = .ok (.lshl, 1) := by decide +kernel
theorem dX9_readNumbers_144 : decode cX9_readNumbers 144 = .ok (.iload 9, 2) := by decide +kernel
theorem dX9_readNumbers_146 : decode cX9_readNumbers 146 = .ok (.i2l, 1) := by decide +kernel
theorem dX9_readNumbers_147 : decode cX9_readNumbers 147 = .ok (.lor, 1) := by decide +kernel
theorem dX9_readNumbers_148 : decode cX9_readNumbers 148 = .ok (.lstore 5, 2) := by decide +kernel
theorem dX9_readNumbers_150 : decode cX9_readNumbers 150 = .ok (.iinc 7 1, 3) := by decide +kernel
theorem dX9_readNumbers_153 : decode cX9_readNumbers 153 = .ok (.goto (-144), 3) := by decide +kernel
theorem dX9_readNumbers_156 : decode cX9_readNumbers 156 = .ok (.iload 4, 2) := by decide +kernel
theorem dX9_readNumbers_158 : decode cX9_readNumbers 158 = .ok (.iload_n 2, 1) := by decide +kernel
theorem dX9_readNumbers_159 : decode cX9_readNumbers 159 = .ok (.if_icmp .ge 6, 3) := by decide +kernel
theorem dX9_readNumbers_162 : decode cX9_readNumbers 162 = .ok (.bipush (-16), 2) := by decide +kernel
theorem dX9_readNumbers_164 : decode cX9_readNumbers 164 = .ok (.ireturn, 1) := by decide +kernel
theorem dX9_readNumbers_165 : decode cX9_readNumbers 165 = .ok (.aload_n 0, 1) := by decide +kernel
theorem dX9_readNumbers_166 : decode cX9_readNumbers 166 = .ok (.getfield 49, 3) := by decide +kernel
theorem dX9_readNumbers_169 : decode cX9_readNumbers 169 = .ok (.iload_n 3, 1) := by decide +kernel
theorem dX9_readNumbers_170 : decode cX9_readNumbers 170 = .ok (.lload 5, 2) := by decide +kernel
theorem dX9_readNumbers_172 : decode cX9_readNumbers 172 = .ok (.bipush 16, 2) := by decide +kernel
theorem dX9_readNumbers_174 : decode cX9_readNumbers 174 = .ok (.lshr, 1) := by decide +kernel
theorem dX9_readNumbers_175 : decode cX9_readNumbers 175 = .ok (.l2i, 1) := by decide +kernel
theorem dX9_readNumbers_176 : decode cX9_readNumbers 176 = .ok (.iastore, 1) := by decide +kernel
theorem dX9_readNumbers_177 : decode cX9_readNumbers 177 = .ok (.aload_n 0, 1) := by decide +kernel
theorem dX9_readNumbers_178 : decode cX9_readNumbers 178 = .ok (.getfield 49, 3) := by decide +kernel
theorem dX9_readNumbers_181 : decode cX9_readNumbers 181 = .ok (.iload_n 3, 1) := by decide +kernel
theorem dX9_readNumbers_182 : decode cX9_readNumbers 182 = .ok (.iconst 1, 1) := by decide +kernel
theorem dX9_readNumbers_183 : decode cX9_readNumbers 183 = .ok (.iadd, 1) := by decide +kernel
theorem dX9_readNumbers_184 : decode cX9_readNumbers 184 = .ok (.lload 5, 2) := by decide +kernel
theorem dX9_readNumbers_186 : decode cX9_readNumbers 186 = .ok (.ldc2_w 264, 3) := by decide +kernel
theorem dX9_readNumbers_189 : decode cX9_readNumbers 189 = .ok (.land, 1) := by decide +kernel
theorem dX9_readNumbers_190 : decode cX9_readNumbers 190 = .ok (.l2i, 1) := by decide +kernel
theorem dX9_readNumbers_191 : decode cX9_readNumbers 191 = .ok (.iastore, 1) := by decide +kernel
theorem dX9_readNumbers_192 : decode cX9_readNumbers 192 = .ok (.iconst 0, 1) := by decide +kernel
theorem dX9_readNumbers_193 : decode cX9_readNumbers 193 = .ok (.ireturn, 1) := by decide +kernel
theorem dX9_readSix_0 : decode cX9_readSix 0 = .ok (.iconst 0, 1) := by decide +kernel
theorem dX9_readSix_1 : decode cX9_readSix 1 = .ok (.istore_n 3, 1) := by decide +kernel
theorem dX9_readSix_2 : decode cX9_readSix 2 = .ok (.iconst (-1), 1) := by decide +kernel
theorem dX9_readSix_3 : decode cX9_readSix 3 = .ok (.istore 4, 2) := by decide +kernel
theorem dX9_readSix_5 : decode cX9_readSix 5 = .ok (.iload_n 1, 1) := by decide +kernel
theorem dX9_readSix_6 : decode cX9_readSix 6 = .ok (.istore 5, 2) := by decide +kernel
theorem dX9_readSix_8 : decode cX9_readSix 8 = .ok (.iload 5, 2) := by decide +kernel
theorem dX9_readSix_10 : decode cX9_readSix 10 = .ok (.iload_n 2, 1) := by decide +kernel
theorem dX9_readSix_11 : decode cX9_readSix 11 = .ok (.if_icmp .ge 46, 3) := by decide +kernel
theorem dX9_readSix_14 : decode cX9_readSix 14 = .ok (.aload_n 0, 1) := by decide +kernel
theorem dX9_readSix_15 : decode cX9_readSix 15 = .ok (.getfield 43, 3) := by decide +kernel
theorem dX9_readSix_18 : decode cX9_readSix 18 = .ok (.iload 5, 2) := by decide +kernel
theorem dX9_readSix_20 : decode cX9_readSix 20 = .ok (.baload, 1) := by decide +kernel
theorem dX9_readSix_21 : decode cX9_readSix 21 = .ok (.bipush 58, 2) := by decide +kernel
theorem dX9_readSix_23 : decode cX9_readSix 23 = .ok (.if_icmp .ne 34, 3) := by decide +kernel
theorem dX9_readSix_26 : decode cX9_readSix 26 = .ok (.iload 5, 2) := by decide +kernel
theorem dX9_readSix_28 : decode cX9_readSix 28 = .ok (.iconst 1, 1) := by decide +kernel
theorem dX9_readSix_29 : decode cX9_readSix 29 = .ok (.iadd, 1) := by decide +kernel
theorem dX9_readSix_30 : decode cX9_readSix 30 = .ok (.iload_n 2, 1) := by decide +kernel
theorem dX9_readSix_31 : decode cX9_readSix 31 = .ok (.if_icmp .ge 17, 3) := by decide +kernel
theorem dX9_readSix_34 : decode cX9_readSix 34 = .ok (.aload_n 0, 1) := by decide +kernel
theorem dX9_readSix_35 : decode cX9_readSix 35 = .ok (.getfield 43, 3) := by decide +kernel
theorem dX9_readSix_38 : decode cX9_readSix 38 = .ok (.iload 5, 2) := by decide +kernel
theorem dX9_readSix_40 : decode cX9_readSix 40 = .ok (.iconst 1, 1) := by decide +kernel
theorem dX9_readSix_41 : decode cX9_readSix 41 = .ok (.iadd, 1) := by decide +kernel
theorem dX9_readSix_42 : decode cX9_readSix 42 = .ok (.baload, 1) := by decide +kernel
theorem dX9_readSix_43 : decode cX9_readSix 43 = .ok (.bipush 58, 2) := by decide +kernel
theorem dX9_readSix_45 : decode cX9_readSix 45 = .ok (.if_icmp .eq 6, 3) := by decide +kernel
theorem dX9_readSix_48 : decode cX9_readSix 48 = .ok (.bipush (-16), 2) := by decide +kernel
theorem dX9_readSix_50 : decode cX9_readSix 50 = .ok (.ireturn, 1) := by decide +kernel
theorem dX9_readSix_51 : decode cX9_readSix 51 = .ok (.iconst 0, 1) := by decide +kernel
theorem dX9_readSix_52 : decode cX9_readSix 52 = .ok (.istore 4, 2) := by decide +kernel
theorem dX9_readSix_54 : decode cX9_readSix 54 = .ok (.iinc 5 2, 3) := by decide +kernel
theorem dX9_readSix_57 : decode cX9_readSix 57 = .ok (.iload 5, 2) := by decide +kernel
theorem dX9_readSix_59 : decode cX9_readSix 59 = .ok (.iload_n 2, 1) := by decide +kernel
theorem dX9_readSix_60 : decode cX9_readSix 60 = .ok (.if_icmp .ge 214, 3) := by decide +kernel
theorem dX9_readSix_63 : decode cX9_readSix 63 = .ok (.iload_n 3, 1) := by decide +kernel
theorem dX9_readSix_64 : decode cX9_readSix 64 = .ok (.bipush 8, 2) := by decide +kernel
theorem dX9_readSix_66 : decode cX9_readSix 66 = .ok (.if_icmp .ne 6, 3) := by decide +kernel
theorem dX9_readSix_69 : decode cX9_readSix 69 = .ok (.bipush (-16), 2) := by decide +kernel
theorem dX9_readSix_71 : decode cX9_readSix 71 = .ok (.ireturn, 1) := by decide +kernel
theorem dX9_readSix_72 : decode cX9_readSix 72 = .ok (.iconst 0, 1) := by decide +kernel
theorem dX9_readSix_73 : decode cX9_readSix 73 = .ok (.istore 6, 2) := by decide +kernel
theorem dX9_readSix_75 : decode cX9_readSix 75 = .ok (.iconst 0, 1) := by decide +kernel
theorem dX9_readSix_76 : decode cX9_readSix 76 = .ok (.istore 7, 2) := by decide +kernel
theorem dX9_readSix_78 : decode cX9_readSix 78 = .ok (.iload 5, 2) := by decide +kernel
theorem dX9_readSix_80 : decode cX9_readSix 80 = .ok (.istore 8, 2) := by decide +kernel
theorem dX9_readSix_82 : decode cX9_readSix 82 = .ok (.iload 5, 2) := by decide +kernel
theorem dX9_readSix_84 : decode cX9_readSix 84 = .ok (.iload_n 2, 1) := by decide +kernel
theorem dX9_readSix_85 : decode cX9_readSix 85 = .ok (.if_icmp .ge 57, 3) := by decide +kernel
theorem dX9_readSix_88 : decode cX9_readSix 88 = .ok (.iload 7, 2) := by decide +kernel
theorem dX9_readSix_90 : decode cX9_readSix 90 = .ok (.iconst 4, 1) := by decide +kernel
theorem dX9_readSix_91 : decode cX9_readSix 91 = .ok (.if_icmp .ge 51, 3) := by decide +kernel
theorem dX9_readSix_94 : decode cX9_readSix 94 = .ok (.aload_n 0, 1) := by decide +kernel
theorem dX9_readSix_95 : decode cX9_readSix 95 = .ok (.getfield 43, 3) := by decide +kernel
theorem dX9_readSix_98 : decode cX9_readSix 98 = .ok (.iload 5, 2) := by decide +kernel
theorem dX9_readSix_100 : decode cX9_readSix 100 = .ok (.baload, 1) := by decide +kernel
theorem dX9_readSix_101 : decode cX9_readSix 101 = .ok (.sipush 255, 3) := by decide +kernel
theorem dX9_readSix_104 : decode cX9_readSix 104 = .ok (.iand, 1) := by decide +kernel
theorem dX9_readSix_105 : decode cX9_readSix 105 = .ok (.invokestatic 237, 3) := by decide +kernel
theorem dX9_readSix_108 : decode cX9_readSix 108 = .ok (.ifCond .lt 34, 3) := by decide +kernel
theorem dX9_readSix_111 : decode cX9_readSix 111 = .ok (.bipush 16, 2) := by decide +kernel
theorem dX9_readSix_113 : decode cX9_readSix 113 = .ok (.iload 6, 2) := by decide +kernel
theorem dX9_readSix_115 : decode cX9_readSix 115 = .ok (.imul, 1) := by decide +kernel
theorem dX9_readSix_116 : decode cX9_readSix 116 = .ok (.aload_n 0, 1) := by decide +kernel
theorem dX9_readSix_117 : decode cX9_readSix 117 = .ok (.getfield 43, 3) := by decide +kernel
theorem dX9_readSix_120 : decode cX9_readSix 120 = .ok (.iload 5, 2) := by decide +kernel
theorem dX9_readSix_122 : decode cX9_readSix 122 = .ok (.baload, 1) := by decide +kernel
theorem dX9_readSix_123 : decode cX9_readSix 123 = .ok (.sipush 255, 3) := by decide +kernel
theorem dX9_readSix_126 : decode cX9_readSix 126 = .ok (.iand, 1) := by decide +kernel
theorem dX9_readSix_127 : decode cX9_readSix 127 = .ok (.invokestatic 237, 3) := by decide +kernel
theorem dX9_readSix_130 : decode cX9_readSix 130 = .ok (.iadd, 1) := by decide +kernel
theorem dX9_readSix_131 : decode cX9_readSix 131 = .ok (.istore 6, 2) := by decide +kernel
theorem dX9_readSix_133 : decode cX9_readSix 133 = .ok (.iinc 5 1, 3) := by decide +kernel
theorem dX9_readSix_136 : decode cX9_readSix 136 = .ok (.iinc 7 1, 3) := by decide +kernel
theorem dX9_readSix_139 : decode cX9_readSix 139 = .ok (.goto (-57), 3) := by decide +kernel
theorem dX9_readSix_142 : decode cX9_readSix 142 = .ok (.iload 5, 2) := by decide +kernel
theorem dX9_readSix_144 : decode cX9_readSix 144 = .ok (.iload_n 2, 1) := by decide +kernel
theorem dX9_readSix_145 : decode cX9_readSix 145 = .ok (.if_icmp .ge 49, 3) := by decide +kernel
theorem dX9_readSix_148 : decode cX9_readSix 148 = .ok (.aload_n 0, 1) := by decide +kernel
theorem dX9_readSix_149 : decode cX9_readSix 149 = .ok (.getfield 43, 3) := by decide +kernel
theorem dX9_readSix_152 : decode cX9_readSix 152 = .ok (.iload 5, 2) := by decide +kernel
theorem dX9_readSix_154 : decode cX9_readSix 154 = .ok (.baload, 1) := by decide +kernel
theorem dX9_readSix_155 : decode cX9_readSix 155 = .ok (.bipush 46, 2) := by decide +kernel
theorem dX9_readSix_157 : decode cX9_readSix 157 = .ok (.if_icmp .ne 37, 3) := by decide +kernel
theorem dX9_readSix_160 : decode cX9_readSix 160 = .ok (.iload 7, 2) := by decide +kernel
theorem dX9_readSix_162 : decode cX9_readSix 162 = .ok (.ifCond .eq 20, 3) := by decide +kernel
theorem dX9_readSix_165 : decode cX9_readSix 165 = .ok (.iload_n 3, 1) := by decide +kernel
theorem dX9_readSix_166 : decode cX9_readSix 166 = .ok (.bipush 6, 2) := by decide +kernel
theorem dX9_readSix_168 : decode cX9_readSix 168 = .ok (.if_icmp .gt 14, 3) := by decide +kernel
theorem dX9_readSix_171 : decode cX9_readSix 171 = .ok (.aload_n 0, 1) := by decide +kernel
theorem dX9_readSix_172 : decode cX9_readSix 172 = .ok (.iload 8, 2) := by decide +kernel
theorem dX9_readSix_174 : decode cX9_readSix 174 = .ok (.iload_n 2, 1) := by decide +kernel
theorem dX9_readSix_175 : decode cX9_readSix 175 = .ok (.iload_n 3, 1) := by decide +kernel
theorem dX9_readSix_176 : decode cX9_readSix 176 = .ok (.invokevirtual 260, 3) := by decide +kernel
theorem dX9_readSix_179 : decode cX9_readSix 179 = .ok (.ifCond .eq 6, 3) := by decide +kernel
theorem dX9_readSix_182 : decode cX9_readSix 182 = .ok (.bipush (-16), 2) := by decide +kernel
theorem dX9_readSix_184 : decode cX9_readSix 184 = .ok (.ireturn, 1) := by decide +kernel
theorem dX9_readSix_185 : decode cX9_readSix 185 = .ok (.iinc 3 2, 3) := by decide +kernel
theorem dX9_readSix_188 : decode cX9_readSix 188 = .ok (.iload_n 2, 1) := by decide +kernel
theorem dX9_readSix_189 : decode cX9_readSix 189 = .ok (.istore 5, 2) := by decide +kernel
theorem dX9_readSix_191 : decode cX9_readSix 191 = .ok (.goto 80, 3) := by decide +kernel
theorem dX9_readSix_194 : decode cX9_readSix 194 = .ok (.iload 7, 2) := by decide +kernel
theorem dX9_readSix_196 : decode cX9_readSix 196 = .ok (.ifCond .ne 6, 3) := by decide +kernel
theorem dX9_readSix_199 : decode cX9_readSix 199 = .ok (.bipush (-16), 2) := by decide +kernel
theorem dX9_readSix_201 : decode cX9_readSix 201 = .ok (.ireturn, 1) := by decide +kernel
theorem dX9_readSix_202 : decode cX9_readSix 202 = .ok (.aload_n 0, 1) := by decide +kernel
theorem dX9_readSix_203 : decode cX9_readSix 203 = .ok (.getfield 49, 3) := by decide +kernel
theorem dX9_readSix_206 : decode cX9_readSix 206 = .ok (.iload_n 3, 1) := by decide +kernel
theorem dX9_readSix_207 : decode cX9_readSix 207 = .ok (.iload 6, 2) := by decide +kernel
theorem dX9_readSix_209 : decode cX9_readSix 209 = .ok (.iastore, 1) := by decide +kernel
theorem dX9_readSix_210 : decode cX9_readSix 210 = .ok (.iinc 3 1, 3) := by decide +kernel
theorem dX9_readSix_213 : decode cX9_readSix 213 = .ok (.iload 5, 2) := by decide +kernel
theorem dX9_readSix_215 : decode cX9_readSix 215 = .ok (.iload_n 2, 1) := by decide +kernel
theorem dX9_readSix_216 : decode cX9_readSix 216 = .ok (.if_icmp .ge 55, 3) := by decide +kernel
theorem dX9_readSix_219 : decode cX9_readSix 219 = .ok (.aload_n 0, 1) := by decide +kernel
theorem dX9_readSix_220 : decode cX9_readSix 220 = .ok (.getfield 43, 3) := by decide +kernel
theorem dX9_readSix_223 : decode cX9_readSix 223 = .ok (.iload 5, 2) := by decide +kernel
theorem dX9_readSix_225 : decode cX9_readSix 225 = .ok (.baload, 1) := by decide +kernel
theorem dX9_readSix_226 : decode cX9_readSix 226 = .ok (.bipush 58, 2) := by decide +kernel
theorem dX9_readSix_228 : decode cX9_readSix 228 = .ok (.if_icmp .ne 11, 3) := by decide +kernel
theorem dX9_readSix_231 : decode cX9_readSix 231 = .ok (.iload 5, 2) := by decide +kernel
theorem dX9_readSix_233 : decode cX9_readSix 233 = .ok (.iconst 1, 1) := by decide +kernel
theorem dX9_readSix_234 : decode cX9_readSix 234 = .ok (.iadd, 1) := by decide +kernel
theorem dX9_readSix_235 : decode cX9_readSix 235 = .ok (.iload_n 2, 1) := by decide +kernel
theorem dX9_readSix_236 : decode cX9_readSix 236 = .ok (.if_icmp .ne 6, 3) := by decide +kernel
theorem dX9_readSix_239 : decode cX9_readSix 239 = .ok (.bipush (-16), 2) := by decide +kernel
theorem dX9_readSix_241 : decode cX9_readSix 241 = .ok (.ireturn, 1) := by decide +kernel
theorem dX9_readSix_242 : decode cX9_readSix 242 = .ok (.iinc 5 1, 3) := by decide +kernel
theorem dX9_readSix_245 : decode cX9_readSix 245 = .ok (.aload_n 0, 1) := by decide +kernel
theorem dX9_readSix_246 : decode cX9_readSix 246 = .ok (.getfield 43, 3) := by decide +kernel
theorem dX9_readSix_249 : decode cX9_readSix 249 = .ok (.iload 5, 2) := by decide +kernel
theorem dX9_readSix_251 : decode cX9_readSix 251 = .ok (.baload, 1) := by decide +kernel
theorem dX9_readSix_252 : decode cX9_readSix 252 = .ok (.bipush 58, 2) := by decide +kernel
theorem dX9_readSix_254 : decode cX9_readSix 254 = .ok (.if_icmp .ne 17, 3) := by decide +kernel
theorem dX9_readSix_257 : decode cX9_readSix 257 = .ok (.iload 4, 2) := by decide +kernel
theorem dX9_readSix_259 : decode cX9_readSix 259 = .ok (.ifCond .lt 6, 3) := by decide +kernel
theorem dX9_readSix_262 : decode cX9_readSix 262 = .ok (.bipush (-16), 2) := by decide +kernel
theorem dX9_readSix_264 : decode cX9_readSix 264 = .ok (.ireturn, 1) := by decide +kernel
theorem dX9_readSix_265 : decode cX9_readSix 265 = .ok (.iload_n 3, 1) := by decide +kernel
theorem dX9_readSix_266 : decode cX9_readSix 266 = .ok (.istore 4, 2) := by decide +kernel
theorem dX9_readSix_268 : decode cX9_readSix 268 = .ok (.iinc 5 1, 3) := by decide +kernel
theorem dX9_readSix_271 : decode cX9_readSix 271 = .ok (.goto (-214), 3) := by decide +kernel
theorem dX9_readSix_274 : decode cX9_readSix 274 = .ok (.iload 4, 2) := by decide +kernel
theorem dX9_readSix_276 : decode cX9_readSix 276 = .ok (.ifCond .ge 12, 3) := by decide +kernel
theorem dX9_readSix_279 : decode cX9_readSix 279 = .ok (.iload_n 3, 1) := by decide +kernel
theorem dX9_readSix_280 : decode cX9_readSix 280 = .ok (.bipush 8, 2) := by decide +kernel
theorem dX9_readSix_282 : decode cX9_readSix 282 = .ok (.if_icmp .eq 15, 3) := by decide +kernel
theorem dX9_readSix_285 : decode cX9_readSix 285 = .ok (.goto 9, 3) := by decide +kernel
theorem dX9_readSix_288 : decode cX9_readSix 288 = .ok (.iload_n 3, 1) := by decide +kernel
theorem dX9_readSix_289 : decode cX9_readSix 289 = .ok (.bipush 8, 2) := by decide +kernel
theorem dX9_readSix_291 : decode cX9_readSix 291 = .ok (.if_icmp .ne 6, 3) := by decide +kernel
theorem dX9_readSix_294 : decode cX9_readSix 294 = .ok (.bipush (-16), 2) := by decide +kernel
theorem dX9_readSix_296 : decode cX9_readSix 296 = .ok (.ireturn, 1) := by decide +kernel
theorem dX9_readSix_297 : decode cX9_readSix 297 = .ok (.iload 4, 2) := by decide +kernel
theorem dX9_readSix_299 : decode cX9_readSix 299 = .ok (.ifCond .lt 74, 3) := by decide +kernel
theorem dX9_readSix_302 : decode cX9_readSix 302 = .ok (.iload_n 3, 1) := by decide +kernel
theorem dX9_readSix_303 : decode cX9_readSix 303 = .ok (.iload 4, 2) := by decide +kernel
theorem dX9_readSix_305 : decode cX9_readSix 305 = .ok (.isub, 1) := by decide +kernel
theorem dX9_readSix_306 : decode cX9_readSix 306 = .ok (.istore 6, 2) := by decide +kernel
theorem dX9_readSix_308 : decode cX9_readSix 308 = .ok (.iconst 0, 1) := by decide +kernel
theorem dX9_readSix_309 : decode cX9_readSix 309 = .ok (.istore 7, 2) := by decide +kernel
theorem dX9_readSix_311 : decode cX9_readSix 311 = .ok (.iload 7, 2) := by decide +kernel
theorem dX9_readSix_313 : decode cX9_readSix 313 = .ok (.iload 6, 2) := by decide +kernel
theorem dX9_readSix_315 : decode cX9_readSix 315 = .ok (.if_icmp .ge 30, 3) := by decide +kernel
theorem dX9_readSix_318 : decode cX9_readSix 318 = .ok (.aload_n 0, 1) := by decide +kernel
theorem dX9_readSix_319 : decode cX9_readSix 319 = .ok (.getfield 49, 3) := by decide +kernel
theorem dX9_readSix_322 : decode cX9_readSix 322 = .ok (.bipush 7, 2) := by decide +kernel
theorem dX9_readSix_324 : decode cX9_readSix 324 = .ok (.iload 7, 2) := by decide +kernel
theorem dX9_readSix_326 : decode cX9_readSix 326 = .ok (.isub, 1) := by decide +kernel
theorem dX9_readSix_327 : decode cX9_readSix 327 = .ok (.aload_n 0, 1) := by decide +kernel
theorem dX9_readSix_328 : decode cX9_readSix 328 = .ok (.getfield 49, 3) := by decide +kernel
theorem dX9_readSix_331 : decode cX9_readSix 331 = .ok (.iload_n 3, 1) := by decide +kernel
theorem dX9_readSix_332 : decode cX9_readSix 332 = .ok (.iconst 1, 1) := by decide +kernel
theorem dX9_readSix_333 : decode cX9_readSix 333 = .ok (.isub, 1) := by decide +kernel
theorem dX9_readSix_334 : decode cX9_readSix 334 = .ok (.iload 7, 2) := by decide +kernel
theorem dX9_readSix_336 : decode cX9_readSix 336 = .ok (.isub, 1) := by decide +kernel
theorem dX9_readSix_337 : decode cX9_readSix 337 = .ok (.iaload, 1) := by decide +kernel
theorem dX9_readSix_338 : decode cX9_readSix 338 = .ok (.iastore, 1) := by decide +kernel
theorem dX9_readSix_339 : decode cX9_readSix 339 = .ok (.iinc 7 1, 3) := by decide +kernel
theorem dX9_readSix_342 : decode cX9_readSix 342 = .ok (.goto (-31), 3) := by decide +kernel
theorem dX9_readSix_345 : decode cX9_readSix 345 = .ok (.iload 4, 2) := by decide +kernel
theorem dX9_readSix_347 : decode cX9_readSix 347 = .ok (.istore 7, 2) := by decide +kernel
theorem dX9_readSix_349 : decode cX9_readSix 349 = .ok (.iload 7, 2) := by decide +kernel
theorem dX9_readSix_351 : decode cX9_readSix 351 = .ok (.bipush 8, 2) := by decide +kernel
theorem dX9_readSix_353 : decode cX9_readSix 353 = .ok (.iload 6, 2) := by decide +kernel
theorem dX9_readSix_355 : decode cX9_readSix 355 = .ok (.isub, 1) := by decide +kernel
theorem dX9_readSix_356 : decode cX9_readSix 356 = .ok (.if_icmp .ge 17, 3) := by decide +kernel
theorem dX9_readSix_359 : decode cX9_readSix 359 = .ok (.aload_n 0, 1) := by decide +kernel
theorem dX9_readSix_360 : decode cX9_readSix 360 = .ok (.getfield 49, 3) := by decide +kernel
theorem dX9_readSix_363 : decode cX9_readSix 363 = .ok (.iload 7, 2) := by decide +kernel
theorem dX9_readSix_365 : decode cX9_readSix 365 = .ok (.iconst 0, 1) := by decide +kernel
theorem dX9_readSix_366 : decode cX9_readSix 366 = .ok (.iastore, 1) := by decide +kernel
theorem dX9_readSix_367 : decode cX9_readSix 367 = .ok (.iinc 7 1, 3) := by decide +kernel
theorem dX9_readSix_370 : decode cX9_readSix 370 = .ok (.goto (-21), 3) := by decide +kernel
theorem dX9_readSix_373 : decode cX9_readSix 373 = .ok (.iconst 0, 1) := by decide +kernel
theorem dX9_readSix_374 : decode cX9_readSix 374 = .ok (.ireturn, 1) := by decide +kernel
def f_X9_isSlash  (a0 : Int32) : gM Int32 := if a0 = 47 then (gz 1) else (if a0 = 92 then (gz 1) else (gz 0))
section S_X9_isSlash
variable {G : gX} {p : Program} {l : Launch} {e : Env} {s : State} {m : MethodId} {args : Array Value} {below : List Frame} {meth : Method} {c : Code} {mc ms : Nat} {y : Int32 × gS}
set_option maxHeartbeats 4000000 in
set_option maxRecDepth 100000 in
theorem w_X9_isSlash_0 (C : gC G p s m args meth c cX9_isSlash 1 RX9) (hr : meth.sig.returnType = (some .boolean))  (a0 : Int32) : gJ G p l e 0 0 mc ms s m args below meth c gri y 1 0 [(0, .int a0)] [] (f_X9_isSlash  a0) := by
  have hx := C.1
  have hb := C.2.1
  intro σ H locs cells slots ls hf I hl
  unfold f_X9_isSlash at hf
  refine lv_iload_n hx hb dX9_isSlash_0 rfl (lv_at hl 0 rfl) ?_
  refine lv_bipush (v := 47) hx hb dX9_isSlash_1 kc_b_47 ?_
  refine lv_icmp_eq (tgt := 12) hx hb dX9_isSlash_3 (by decide) (fun hq => ?_) (fun hq => ?_)
  · have hf := gift hq hf
    refine lv_iconst (v := 1) hx hb dX9_isSlash_12 kc_i_1 ?_
    refine lv_goto (tgt := 17) hx hb dX9_isSlash_13 (by decide) ?_
    exact gw_zret C I hr dX9_isSlash_17 hf
  · have hf := giff hq hf
    refine lv_iload_n hx hb dX9_isSlash_6 rfl (lv_at hl 0 rfl) ?_
    refine lv_bipush (v := 92) hx hb dX9_isSlash_7 kc_b_92 ?_
    refine lv_icmp_ne (tgt := 16) hx hb dX9_isSlash_9 (by decide) (fun hq => ?_) (fun hq => ?_)
    · have hf := giff hq hf
      refine lv_iconst (v := 0) hx hb dX9_isSlash_16 kc_i_0 ?_
      exact gw_zret C I hr dX9_isSlash_17 hf
    · have hf := gift hq hf
      refine lv_iconst (v := 1) hx hb dX9_isSlash_12 kc_i_1 ?_
      refine lv_goto (tgt := 17) hx hb dX9_isSlash_13 (by decide) ?_
      exact gw_zret C I hr dX9_isSlash_17 hf
end S_X9_isSlash
theorem m_X9_isSlash (G : gX) (l : Launch) (a0 : Int32) : gMet G l yX9_isSlash cX9_isSlash 1 (some .boolean) 0 0 [.int a0] gri (f_X9_isSlash a0) := by
  refine gMet_of (by decide) ?_
  intro σ y p e s m below meth c mc ms hf C hr hnm I
  obtain ⟨ls, e1, hl⟩ := gentry m [.int a0] 1 [(0, .int a0)] (by simp [lg_sl, grc, gcat_i, gcat_l]) (by simp [lv_args, grc, gcat_i, gcat_l])
  rw [e1]
  exact w_X9_isSlash_0 C hr a0 _ _ _ _ _ _ hf I hl
def f_X9_takeText_68 (rec68 : Option Nat → Int32 → Int32 → gM Unit) (x0 : Option Nat) (x2 : Int32) (x3 : Int32) : gM Unit := if x2 ≤ x3 then (gp ()) else (gb (rR 8 0 x0) fun v1 => gb (aI 0 v1 x3) fun v2 => if (v2 &&& 255) = 9 then (rec68 x0 x2 (x3 + 1)) else (if (v2 &&& 255) = 10 then (rec68 x0 x2 (x3 + 1)) else (if (v2 &&& 255) = 13 then (rec68 x0 x2 (x3 + 1)) else (gb (rR 8 11 x0) fun v3 => gb (rI 8 12 x0) fun v4 => gb (sI 0 v3 v4 ((v2 &&& 255).toInt8.toInt32)) fun _ => gb (rI 8 12 x0) fun v5 => gb (wI 8 12 x0 (v5 + 1)) fun _ => rec68 x0 x2 (x3 + 1)))))
def f_X9_takeText_L68  : Nat → Option Nat → Int32 → Int32 → gM Unit
  | 0, _, _, _ => gno
  | n + 1, x0, x2, x3 => f_X9_takeText_68  (f_X9_takeText_L68  n) x0 x2 x3
def f_X9_takeText_61  (x0 : Option Nat) (x1 : Int32) (x2 : Int32) : gM Unit := gb (wI 8 12 x0 0) fun _ => f_X9_takeText_L68  gF x0 x2 x1
def f_X9_takeText_33 (rec33 : Option Nat → Int32 → Int32 → gM Unit) (x0 : Option Nat) (x1 : Int32) (x2 : Int32) : gM Unit := if x2 ≤ x1 then (f_X9_takeText_61  x0 x1 x2) else (gb (rR 8 0 x0) fun v1 => gb (aI 0 v1 (x2 - 1)) fun v2 => if 32 < (v2 &&& 255) then (f_X9_takeText_61  x0 x1 x2) else (rec33 x0 x1 (x2 + (-1))))
def f_X9_takeText_L33  : Nat → Option Nat → Int32 → Int32 → gM Unit
  | 0, _, _, _ => gno
  | n + 1, x0, x1, x2 => f_X9_takeText_33  (f_X9_takeText_L33  n) x0 x1 x2
def f_X9_takeText_7 (rec7 : Option Nat → Int32 → Int32 → gM Unit) (x0 : Option Nat) (x1 : Int32) (x2 : Int32) : gM Unit := if x2 ≤ x1 then (f_X9_takeText_L33  gF x0 x1 x2) else (gb (rR 8 0 x0) fun v1 => gb (aI 0 v1 x1) fun v2 => if 32 < (v2 &&& 255) then (f_X9_takeText_L33  gF x0 x1 x2) else (rec7 x0 (x1 + 1) x2))
def f_X9_takeText_L7  : Nat → Option Nat → Int32 → Int32 → gM Unit
  | 0, _, _, _ => gno
  | n + 1, x0, x1, x2 => f_X9_takeText_7  (f_X9_takeText_L7  n) x0 x1 x2
def f_X9_takeText  (a0 : Option Nat) : gM Unit := gb (rI 8 1 a0) fun v1 => f_X9_takeText_L7  gF a0 0 v1
section S_X9_takeText
variable {G : gX} {p : Program} {l : Launch} {e : Env} {s : State} {m : MethodId} {args : Array Value} {below : List Frame} {meth : Method} {c : Code} {mc ms : Nat} {y : Unit × gS}
set_option maxHeartbeats 4000000 in
set_option maxRecDepth 100000 in
theorem w_X9_takeText_68 (C : gC G p s m args meth c cX9_takeText 5 RX9) (hr : meth.sig.returnType = none) {rec68 : Option Nat → Int32 → Int32 → gM Unit} (hrec68 : ∀ (x0 : Option Nat) (x2 : Int32) (x3 : Int32), gJ G p l e 0 0 mc ms s m args below meth c grv y 5 68 [(0, va_rf x0), (2, .int x2), (3, .int x3)] [] (rec68 x0 x2 x3)) (x0 : Option Nat) (x2 : Int32) (x3 : Int32) : gJ G p l e 0 0 mc ms s m args below meth c grv y 5 68 [(0, va_rf x0), (2, .int x2), (3, .int x3)] [] (f_X9_takeText_68 rec68 x0 x2 x3) := by
  have hx := C.1
  have hb := C.2.1
  intro σ H locs cells slots ls hf I hl
  unfold f_X9_takeText_68 at hf
  refine lv_iload_n hx hb dX9_takeText_68 rfl (lv_at hl 2 rfl) ?_
  refine lv_iload_n hx hb dX9_takeText_69 rfl (lv_at hl 1 rfl) ?_
  refine lv_icmp_ge (tgt := 134) hx hb dX9_takeText_70 (by decide) (fun hq => ?_) (fun hq => ?_)
  · have hf := gift hq hf
    exact gw_vret C I hr dX9_takeText_134 hf
  · have hf := giff hq hf
    refine gw_aload_n hx hb dX9_takeText_73 rfl (lv_at hl 0 rfl) ?_
    refine gw_getr (k := 0) C I gcls_8 (by decide) rfl kw_165 dX9_takeText_74 hf (fun v1 hf => ?_)
    refine lv_iload_n hx hb dX9_takeText_77 rfl (lv_at hl 2 rfl) ?_
    refine gw_bald C I dX9_takeText_78 hf (fun v2 hf => ?_)
    refine lv_sipush (v := 255) hx hb dX9_takeText_79 kc_s_255 ?_
    refine lv_iand hx hb dX9_takeText_82 ?_
    refine lv_istore (lv' := [(4, .int (v2 &&& 255)), (0, va_rf x0), (2, .int x2), (3, .int x3)]) hx hb dX9_takeText_83 hl (by decide) rfl (fun ls hl => ?_)
    refine lv_iload hx hb dX9_takeText_85 (lv_at hl 0 rfl) ?_
    refine lv_bipush (v := 9) hx hb dX9_takeText_87 kc_b_9 ?_
    refine lv_icmp_eq (tgt := 128) hx hb dX9_takeText_89 (by decide) (fun hq => ?_) (fun hq => ?_)
    · have hf := gift hq hf
      refine lv_iinc (v := x3 + 1) (lv' := [(3, .int (x3 + 1)), (4, .int (v2 &&& 255)), (0, va_rf x0), (2, .int x2)]) hx hb dX9_takeText_128 hl (k := 3) rfl rfl (by decide) rfl (fun ls hl => ?_)
      refine lv_goto (tgt := 68) hx hb dX9_takeText_131 (by decide) ?_
      exact hrec68 x0 x2 (x3 + 1) _ _ _ _ _ _ hf I (lv_sub hl [2, 3, 0] rfl)
    · have hf := giff hq hf
      refine lv_iload hx hb dX9_takeText_92 (lv_at hl 0 rfl) ?_
      refine lv_bipush (v := 10) hx hb dX9_takeText_94 kc_b_10 ?_
      refine lv_icmp_eq (tgt := 128) hx hb dX9_takeText_96 (by decide) (fun hq => ?_) (fun hq => ?_)
      · have hf := gift hq hf
        refine lv_iinc (v := x3 + 1) (lv' := [(3, .int (x3 + 1)), (4, .int (v2 &&& 255)), (0, va_rf x0), (2, .int x2)]) hx hb dX9_takeText_128 hl (k := 3) rfl rfl (by decide) rfl (fun ls hl => ?_)
        refine lv_goto (tgt := 68) hx hb dX9_takeText_131 (by decide) ?_
        exact hrec68 x0 x2 (x3 + 1) _ _ _ _ _ _ hf I (lv_sub hl [2, 3, 0] rfl)
      · have hf := giff hq hf
        refine lv_iload hx hb dX9_takeText_99 (lv_at hl 0 rfl) ?_
        refine lv_bipush (v := 13) hx hb dX9_takeText_101 kc_b_13 ?_
        refine lv_icmp_eq (tgt := 128) hx hb dX9_takeText_103 (by decide) (fun hq => ?_) (fun hq => ?_)
        · have hf := gift hq hf
          refine lv_iinc (v := x3 + 1) (lv' := [(3, .int (x3 + 1)), (4, .int (v2 &&& 255)), (0, va_rf x0), (2, .int x2)]) hx hb dX9_takeText_128 hl (k := 3) rfl rfl (by decide) rfl (fun ls hl => ?_)
          refine lv_goto (tgt := 68) hx hb dX9_takeText_131 (by decide) ?_
          exact hrec68 x0 x2 (x3 + 1) _ _ _ _ _ _ hf I (lv_sub hl [2, 3, 0] rfl)
        · have hf := giff hq hf
          refine gw_aload_n hx hb dX9_takeText_106 rfl (lv_at hl 1 rfl) ?_
          refine gw_getr (k := 11) C I gcls_8 (by decide) rfl kw_176 dX9_takeText_107 hf (fun v3 hf => ?_)
          refine gw_aload_n hx hb dX9_takeText_110 rfl (lv_at hl 1 rfl) ?_
          refine gw_geti (k := 12) C I gcls_8 (by decide) rfl kw_198 dX9_takeText_111 hf (fun v4 hf => ?_)
          refine lv_iload hx hb dX9_takeText_114 (lv_at hl 0 rfl) ?_
          refine lv_i2b hx hb dX9_takeText_116 rfl ?_
          refine gw_bast C I dX9_takeText_117 hf (fun σ H locs I hf => ?_)
          refine gw_aload_n hx hb dX9_takeText_118 rfl (lv_at hl 1 rfl) ?_
          refine lv_dup hx hb dX9_takeText_119 (grc _) ?_
          refine gw_geti (k := 12) C I gcls_8 (by decide) rfl kw_198 dX9_takeText_120 hf (fun v5 hf => ?_)
          refine lv_iconst (v := 1) hx hb dX9_takeText_123 kc_i_1 ?_
          refine lv_iadd hx hb dX9_takeText_124 ?_
          refine gw_puti (k := 12) C I gcls_8 (by decide) rfl kw_198 (Or.inl rfl) (by decide +kernel) dX9_takeText_125 hf (fun σ H locs I hf => ?_)
          refine lv_iinc (v := x3 + 1) (lv' := [(3, .int (x3 + 1)), (4, .int (v2 &&& 255)), (0, va_rf x0), (2, .int x2)]) hx hb dX9_takeText_128 hl (k := 3) rfl rfl (by decide) rfl (fun ls hl => ?_)
          refine lv_goto (tgt := 68) hx hb dX9_takeText_131 (by decide) ?_
          exact hrec68 x0 x2 (x3 + 1) _ _ _ _ _ _ hf I (lv_sub hl [2, 3, 0] rfl)
theorem w_X9_takeText_L68 (C : gC G p s m args meth c cX9_takeText 5 RX9) (hr : meth.sig.returnType = none)  : ∀ (n : Nat) (x0 : Option Nat) (x2 : Int32) (x3 : Int32), gJ G p l e 0 0 mc ms s m args below meth c grv y 5 68 [(0, va_rf x0), (2, .int x2), (3, .int x3)] [] (f_X9_takeText_L68  n x0 x2 x3) := by
  intro n
  induction n with
  | zero => intro x0 x2 x3 σ H locs cells slots ls hf; exact (gno_some hf).elim
  | succ n ih => intro x0 x2 x3; exact w_X9_takeText_68 C hr  ih x0 x2 x3
set_option maxHeartbeats 4000000 in
set_option maxRecDepth 100000 in
theorem w_X9_takeText_61 (C : gC G p s m args meth c cX9_takeText 5 RX9) (hr : meth.sig.returnType = none)  (x0 : Option Nat) (x1 : Int32) (x2 : Int32) : gJ G p l e 0 0 mc ms s m args below meth c grv y 5 61 [(0, va_rf x0), (1, .int x1), (2, .int x2)] [] (f_X9_takeText_61  x0 x1 x2) := by
  have hx := C.1
  have hb := C.2.1
  intro σ H locs cells slots ls hf I hl
  unfold f_X9_takeText_61 at hf
  refine gw_aload_n hx hb dX9_takeText_61 rfl (lv_at hl 0 rfl) ?_
  refine lv_iconst (v := 0) hx hb dX9_takeText_62 kc_i_0 ?_
  refine gw_puti (k := 12) C I gcls_8 (by decide) rfl kw_198 (Or.inl rfl) (by decide +kernel) dX9_takeText_63 hf (fun σ H locs I hf => ?_)
  refine lv_iload_n hx hb dX9_takeText_66 rfl (lv_at hl 1 rfl) ?_
  refine lv_istore_n (lv' := [(3, .int x1), (0, va_rf x0), (1, .int x1), (2, .int x2)]) hx hb dX9_takeText_67 rfl hl (by decide) rfl (fun ls hl => ?_)
  exact w_X9_takeText_L68 C hr  _ x0 x2 x1 _ _ _ _ _ _ hf I (lv_sub hl [1, 3, 0] rfl)
set_option maxHeartbeats 4000000 in
set_option maxRecDepth 100000 in
theorem w_X9_takeText_33 (C : gC G p s m args meth c cX9_takeText 5 RX9) (hr : meth.sig.returnType = none) {rec33 : Option Nat → Int32 → Int32 → gM Unit} (hrec33 : ∀ (x0 : Option Nat) (x1 : Int32) (x2 : Int32), gJ G p l e 0 0 mc ms s m args below meth c grv y 5 33 [(0, va_rf x0), (1, .int x1), (2, .int x2)] [] (rec33 x0 x1 x2)) (x0 : Option Nat) (x1 : Int32) (x2 : Int32) : gJ G p l e 0 0 mc ms s m args below meth c grv y 5 33 [(0, va_rf x0), (1, .int x1), (2, .int x2)] [] (f_X9_takeText_33 rec33 x0 x1 x2) := by
  have hx := C.1
  have hb := C.2.1
  intro σ H locs cells slots ls hf I hl
  unfold f_X9_takeText_33 at hf
  refine lv_iload_n hx hb dX9_takeText_33 rfl (lv_at hl 2 rfl) ?_
  refine lv_iload_n hx hb dX9_takeText_34 rfl (lv_at hl 1 rfl) ?_
  refine lv_icmp_le (tgt := 61) hx hb dX9_takeText_35 (by decide) (fun hq => ?_) (fun hq => ?_)
  · have hf := gift hq hf
    exact w_X9_takeText_61 C hr  x0 x1 x2 _ _ _ _ _ _ hf I (lv_sub hl [0, 1, 2] rfl)
  · have hf := giff hq hf
    refine gw_aload_n hx hb dX9_takeText_38 rfl (lv_at hl 0 rfl) ?_
    refine gw_getr (k := 0) C I gcls_8 (by decide) rfl kw_165 dX9_takeText_39 hf (fun v1 hf => ?_)
    refine lv_iload_n hx hb dX9_takeText_42 rfl (lv_at hl 2 rfl) ?_
    refine lv_iconst (v := 1) hx hb dX9_takeText_43 kc_i_1 ?_
    refine lv_isub hx hb dX9_takeText_44 ?_
    refine gw_bald C I dX9_takeText_45 hf (fun v2 hf => ?_)
    refine lv_sipush (v := 255) hx hb dX9_takeText_46 kc_s_255 ?_
    refine lv_iand hx hb dX9_takeText_49 ?_
    refine lv_bipush (v := 32) hx hb dX9_takeText_50 kc_b_32 ?_
    refine lv_icmp_gt (tgt := 61) hx hb dX9_takeText_52 (by decide) (fun hq => ?_) (fun hq => ?_)
    · have hf := gift hq hf
      exact w_X9_takeText_61 C hr  x0 x1 x2 _ _ _ _ _ _ hf I (lv_sub hl [0, 1, 2] rfl)
    · have hf := giff hq hf
      refine lv_iinc (v := x2 + (-1)) (lv' := [(2, .int (x2 + (-1))), (0, va_rf x0), (1, .int x1)]) hx hb dX9_takeText_55 hl (k := 2) rfl rfl (by decide) rfl (fun ls hl => ?_)
      refine lv_goto (tgt := 33) hx hb dX9_takeText_58 (by decide) ?_
      exact hrec33 x0 x1 (x2 + (-1)) _ _ _ _ _ _ hf I (lv_sub hl [1, 2, 0] rfl)
theorem w_X9_takeText_L33 (C : gC G p s m args meth c cX9_takeText 5 RX9) (hr : meth.sig.returnType = none)  : ∀ (n : Nat) (x0 : Option Nat) (x1 : Int32) (x2 : Int32), gJ G p l e 0 0 mc ms s m args below meth c grv y 5 33 [(0, va_rf x0), (1, .int x1), (2, .int x2)] [] (f_X9_takeText_L33  n x0 x1 x2) := by
  intro n
  induction n with
  | zero => intro x0 x1 x2 σ H locs cells slots ls hf; exact (gno_some hf).elim
  | succ n ih => intro x0 x1 x2; exact w_X9_takeText_33 C hr  ih x0 x1 x2
set_option maxHeartbeats 4000000 in
set_option maxRecDepth 100000 in
theorem w_X9_takeText_7 (C : gC G p s m args meth c cX9_takeText 5 RX9) (hr : meth.sig.returnType = none) {rec7 : Option Nat → Int32 → Int32 → gM Unit} (hrec7 : ∀ (x0 : Option Nat) (x1 : Int32) (x2 : Int32), gJ G p l e 0 0 mc ms s m args below meth c grv y 5 7 [(0, va_rf x0), (1, .int x1), (2, .int x2)] [] (rec7 x0 x1 x2)) (x0 : Option Nat) (x1 : Int32) (x2 : Int32) : gJ G p l e 0 0 mc ms s m args below meth c grv y 5 7 [(0, va_rf x0), (1, .int x1), (2, .int x2)] [] (f_X9_takeText_7 rec7 x0 x1 x2) := by
  have hx := C.1
  have hb := C.2.1
  intro σ H locs cells slots ls hf I hl
  unfold f_X9_takeText_7 at hf
  refine lv_iload_n hx hb dX9_takeText_7 rfl (lv_at hl 1 rfl) ?_
  refine lv_iload_n hx hb dX9_takeText_8 rfl (lv_at hl 2 rfl) ?_
  refine lv_icmp_ge (tgt := 33) hx hb dX9_takeText_9 (by decide) (fun hq => ?_) (fun hq => ?_)
  · have hf := gift hq hf
    exact w_X9_takeText_L33 C hr  _ x0 x1 x2 _ _ _ _ _ _ hf I (lv_sub hl [0, 1, 2] rfl)
  · have hf := giff hq hf
    refine gw_aload_n hx hb dX9_takeText_12 rfl (lv_at hl 0 rfl) ?_
    refine gw_getr (k := 0) C I gcls_8 (by decide) rfl kw_165 dX9_takeText_13 hf (fun v1 hf => ?_)
    refine lv_iload_n hx hb dX9_takeText_16 rfl (lv_at hl 1 rfl) ?_
    refine gw_bald C I dX9_takeText_17 hf (fun v2 hf => ?_)
    refine lv_sipush (v := 255) hx hb dX9_takeText_18 kc_s_255 ?_
    refine lv_iand hx hb dX9_takeText_21 ?_
    refine lv_bipush (v := 32) hx hb dX9_takeText_22 kc_b_32 ?_
    refine lv_icmp_gt (tgt := 33) hx hb dX9_takeText_24 (by decide) (fun hq => ?_) (fun hq => ?_)
    · have hf := gift hq hf
      exact w_X9_takeText_L33 C hr  _ x0 x1 x2 _ _ _ _ _ _ hf I (lv_sub hl [0, 1, 2] rfl)
    · have hf := giff hq hf
      refine lv_iinc (v := x1 + 1) (lv' := [(1, .int (x1 + 1)), (0, va_rf x0), (2, .int x2)]) hx hb dX9_takeText_27 hl (k := 1) rfl rfl (by decide) (by cases x0 <;> rfl) (fun ls hl => ?_)
      refine lv_goto (tgt := 7) hx hb dX9_takeText_30 (by decide) ?_
      exact hrec7 x0 (x1 + 1) x2 _ _ _ _ _ _ hf I (lv_sub hl [1, 0, 2] rfl)
theorem w_X9_takeText_L7 (C : gC G p s m args meth c cX9_takeText 5 RX9) (hr : meth.sig.returnType = none)  : ∀ (n : Nat) (x0 : Option Nat) (x1 : Int32) (x2 : Int32), gJ G p l e 0 0 mc ms s m args below meth c grv y 5 7 [(0, va_rf x0), (1, .int x1), (2, .int x2)] [] (f_X9_takeText_L7  n x0 x1 x2) := by
  intro n
  induction n with
  | zero => intro x0 x1 x2 σ H locs cells slots ls hf; exact (gno_some hf).elim
  | succ n ih => intro x0 x1 x2; exact w_X9_takeText_7 C hr  ih x0 x1 x2
set_option maxHeartbeats 4000000 in
set_option maxRecDepth 100000 in
theorem w_X9_takeText_0 (C : gC G p s m args meth c cX9_takeText 5 RX9) (hr : meth.sig.returnType = none)  (a0 : Option Nat) : gJ G p l e 0 0 mc ms s m args below meth c grv y 5 0 [(0, va_rf a0)] [] (f_X9_takeText  a0) := by
  have hx := C.1
  have hb := C.2.1
  intro σ H locs cells slots ls hf I hl
  unfold f_X9_takeText at hf
  refine lv_iconst (v := 0) hx hb dX9_takeText_0 kc_i_0 ?_
  refine lv_istore_n (lv' := [(1, .int 0), (0, va_rf a0)]) hx hb dX9_takeText_1 rfl hl (by decide) (by cases a0 <;> rfl) (fun ls hl => ?_)
  refine gw_aload_n hx hb dX9_takeText_2 rfl (lv_at hl 1 rfl) ?_
  refine gw_geti (k := 1) C I gcls_8 (by decide) rfl kw_195 dX9_takeText_3 hf (fun v1 hf => ?_)
  refine lv_istore_n (lv' := [(2, .int v1), (1, .int 0), (0, va_rf a0)]) hx hb dX9_takeText_6 rfl hl (by decide) rfl (fun ls hl => ?_)
  exact w_X9_takeText_L7 C hr  _ a0 0 v1 _ _ _ _ _ _ hf I (lv_sub hl [2, 1, 0] rfl)
end S_X9_takeText
theorem m_X9_takeText (G : gX) (l : Launch) (a0 : Option Nat) : gMet G l yX9_takeText cX9_takeText 5 none 0 0 [va_rf a0] grv (f_X9_takeText a0) := by
  refine gMet_of (by decide) ?_
  intro σ y p e s m below meth c mc ms hf C hr hnm I
  obtain ⟨ls, e1, hl⟩ := gentry m [va_rf a0] 5 [(0, va_rf a0)] (by simp [lg_sl, grc, gcat_i, gcat_l]) (by simp [lv_args, grc, gcat_i, gcat_l])
  rw [e1]
  exact w_X9_takeText_0 C hr a0 _ _ _ _ _ _ hf I hl
def f_X9_schemeSize  (a0 : Int32) : gM Int32 := if a0 = 0 then (gp 4) else (if a0 = 1 then (gp 2) else (if a0 = 2 then (gp 5) else (gp 3)))
section S_X9_schemeSize
variable {G : gX} {p : Program} {l : Launch} {e : Env} {s : State} {m : MethodId} {args : Array Value} {below : List Frame} {meth : Method} {c : Code} {mc ms : Nat} {y : Int32 × gS}
set_option maxHeartbeats 4000000 in
set_option maxRecDepth 100000 in
theorem w_X9_schemeSize_0 (C : gC G p s m args meth c cX9_schemeSize 1 RX9) (hr : meth.sig.returnType = (some .int))  (a0 : Int32) : gJ G p l e 0 0 mc ms s m args below meth c gri y 1 0 [(0, .int a0)] [] (f_X9_schemeSize  a0) := by
  have hx := C.1
  have hb := C.2.1
  intro σ H locs cells slots ls hf I hl
  unfold f_X9_schemeSize at hf
  refine lv_iload_n hx hb dX9_schemeSize_0 rfl (lv_at hl 0 rfl) ?_
  refine lv_if_ne (tgt := 8) hx hb dX9_schemeSize_1 (by decide) (fun hq => ?_) (fun hq => ?_)
  · have hf := giff hq hf
    refine lv_iload_n hx hb dX9_schemeSize_8 rfl (lv_at hl 0 rfl) ?_
    refine lv_iconst (v := 1) hx hb dX9_schemeSize_9 kc_i_1 ?_
    refine lv_icmp_ne (tgt := 17) hx hb dX9_schemeSize_10 (by decide) (fun hq => ?_) (fun hq => ?_)
    · have hf := giff hq hf
      refine lv_iload_n hx hb dX9_schemeSize_17 rfl (lv_at hl 0 rfl) ?_
      refine lv_iconst (v := 2) hx hb dX9_schemeSize_18 kc_i_2 ?_
      refine lv_icmp_ne (tgt := 26) hx hb dX9_schemeSize_19 (by decide) (fun hq => ?_) (fun hq => ?_)
      · have hf := giff hq hf
        refine lv_iconst (v := 3) hx hb dX9_schemeSize_26 kc_i_3 ?_
        exact gw_iret C I hr dX9_schemeSize_27 hf
      · have hf := gift hq hf
        refine lv_iconst (v := 5) hx hb dX9_schemeSize_22 kc_i_5 ?_
        refine lv_goto (tgt := 27) hx hb dX9_schemeSize_23 (by decide) ?_
        exact gw_iret C I hr dX9_schemeSize_27 hf
    · have hf := gift hq hf
      refine lv_iconst (v := 2) hx hb dX9_schemeSize_13 kc_i_2 ?_
      refine lv_goto (tgt := 27) hx hb dX9_schemeSize_14 (by decide) ?_
      exact gw_iret C I hr dX9_schemeSize_27 hf
  · have hf := gift hq hf
    refine lv_iconst (v := 4) hx hb dX9_schemeSize_4 kc_i_4 ?_
    refine lv_goto (tgt := 27) hx hb dX9_schemeSize_5 (by decide) ?_
    exact gw_iret C I hr dX9_schemeSize_27 hf
end S_X9_schemeSize
theorem m_X9_schemeSize (G : gX) (l : Launch) (a0 : Int32) : gMet G l yX9_schemeSize cX9_schemeSize 1 (some .int) 0 0 [.int a0] gri (f_X9_schemeSize a0) := by
  refine gMet_of (by decide) ?_
  intro σ y p e s m below meth c mc ms hf C hr hnm I
  obtain ⟨ls, e1, hl⟩ := gentry m [.int a0] 1 [(0, .int a0)] (by simp [lg_sl, grc, gcat_i, gcat_l]) (by simp [lv_args, grc, gcat_i, gcat_l])
  rw [e1]
  exact w_X9_schemeSize_0 C hr a0 _ _ _ _ _ _ hf I hl
def f_X9_schemeByte_41  (x1 : Int32) (s0 : Nat) : gM Int32 := gb (tk s0) fun _ => gb (f_J0_charAt_5068e s0 x1) fun v1 => gp v1
def f_X9_schemeByte  (a0 : Int32) (a1 : Int32) : gM Int32 := if a0 = 0 then (f_X9_schemeByte_41  a1 19) else (if a0 = 1 then (f_X9_schemeByte_41  a1 20) else (if a0 = 2 then (f_X9_schemeByte_41  a1 21) else (if a0 = 3 then (f_X9_schemeByte_41  a1 22) else (f_X9_schemeByte_41  a1 23))))
section S_X9_schemeByte
variable {G : gX} {p : Program} {l : Launch} {e : Env} {s : State} {m : MethodId} {args : Array Value} {below : List Frame} {meth : Method} {c : Code} {mc ms : Nat} {y : Int32 × gS}
set_option maxHeartbeats 4000000 in
set_option maxRecDepth 100000 in
theorem w_X9_schemeByte_41 (C : gC G p s m args meth c cX9_schemeByte 3 RX9) (hr : meth.sig.returnType = (some .int))  (x1 : Int32) (s0 : Nat) : gJ G p l e 4 85 mc ms s m args below meth c gri y 3 41 [(1, .int x1)] [va_rf (some (gK G s0))] (f_X9_schemeByte_41  x1 s0) := by
  have hx := C.1
  have hb := C.2.1
  intro σ H locs cells slots ls hf I hl
  unfold f_X9_schemeByte_41 at hf
  refine gw_astore_n (lv' := [(2, va_rf (some (gK G s0))), (1, .int x1)]) hx hb dX9_schemeByte_41 rfl hl (by decide) rfl (fun ls hl => ?_)
  refine gw_aload_n hx hb dX9_schemeByte_42 rfl (lv_at hl 0 rfl) ?_
  refine lv_iload_n hx hb dX9_schemeByte_43 rfl (lv_at hl 1 rfl) ?_
  refine gw_callT (rest := []) C I hl.1 (m_J0_charAt_5068e G l s0 x1) gl_RX9_142 gn_J0_charAt_5068e ⟨Nat.le_of_ble_eq_true rfl, Nat.le_of_ble_eq_true rfl⟩ rfl (gc4 (Nat.le_of_ble_eq_true rfl)) rfl dX9_schemeByte_44 hf (fun v1 σ H locs cells slots I hf => ?_)
  refine W.eq (g2 := F0 m 47 ls [.int v1]) rfl ?_
  exact gw_iret C I hr dX9_schemeByte_47 hf
set_option maxHeartbeats 4000000 in
set_option maxRecDepth 100000 in
theorem w_X9_schemeByte_0 (C : gC G p s m args meth c cX9_schemeByte 3 RX9) (hr : meth.sig.returnType = (some .int))  (a0 : Int32) (a1 : Int32) : gJ G p l e 4 85 mc ms s m args below meth c gri y 3 0 [(0, .int a0), (1, .int a1)] [] (f_X9_schemeByte  a0 a1) := by
  have hx := C.1
  have hb := C.2.1
  intro σ H locs cells slots ls hf I hl
  unfold f_X9_schemeByte at hf
  refine lv_iload_n hx hb dX9_schemeByte_0 rfl (lv_at hl 0 rfl) ?_
  refine lv_if_ne (tgt := 9) hx hb dX9_schemeByte_1 (by decide) (fun hq => ?_) (fun hq => ?_)
  · have hf := giff hq hf
    refine lv_iload_n hx hb dX9_schemeByte_9 rfl (lv_at hl 0 rfl) ?_
    refine lv_iconst (v := 1) hx hb dX9_schemeByte_10 kc_i_1 ?_
    refine lv_icmp_ne (tgt := 19) hx hb dX9_schemeByte_11 (by decide) (fun hq => ?_) (fun hq => ?_)
    · have hf := giff hq hf
      refine lv_iload_n hx hb dX9_schemeByte_19 rfl (lv_at hl 0 rfl) ?_
      refine lv_iconst (v := 2) hx hb dX9_schemeByte_20 kc_i_2 ?_
      refine lv_icmp_ne (tgt := 29) hx hb dX9_schemeByte_21 (by decide) (fun hq => ?_) (fun hq => ?_)
      · have hf := giff hq hf
        refine lv_iload_n hx hb dX9_schemeByte_29 rfl (lv_at hl 0 rfl) ?_
        refine lv_iconst (v := 3) hx hb dX9_schemeByte_30 kc_i_3 ?_
        refine lv_icmp_ne (tgt := 39) hx hb dX9_schemeByte_31 (by decide) (fun hq => ?_) (fun hq => ?_)
        · have hf := giff hq hf
          refine gw_ldcs C 23 (tx := "ftp") rfl dX9_schemeByte_39 ?_
          exact w_X9_schemeByte_41 C hr  a1 23 _ _ _ _ _ _ hf I (lv_sub hl [1] rfl)
        · have hf := gift hq hf
          refine gw_ldcs C 22 (tx := "wss") rfl dX9_schemeByte_34 ?_
          refine lv_goto (tgt := 41) hx hb dX9_schemeByte_36 (by decide) ?_
          exact w_X9_schemeByte_41 C hr  a1 22 _ _ _ _ _ _ hf I (lv_sub hl [1] rfl)
      · have hf := gift hq hf
        refine gw_ldcs C 21 (tx := "https") rfl dX9_schemeByte_24 ?_
        refine lv_goto (tgt := 41) hx hb dX9_schemeByte_26 (by decide) ?_
        exact w_X9_schemeByte_41 C hr  a1 21 _ _ _ _ _ _ hf I (lv_sub hl [1] rfl)
    · have hf := gift hq hf
      refine gw_ldcs C 20 (tx := "ws") rfl dX9_schemeByte_14 ?_
      refine lv_goto (tgt := 41) hx hb dX9_schemeByte_16 (by decide) ?_
      exact w_X9_schemeByte_41 C hr  a1 20 _ _ _ _ _ _ hf I (lv_sub hl [1] rfl)
  · have hf := gift hq hf
    refine gw_ldcs C 19 (tx := "http") rfl dX9_schemeByte_4 ?_
    refine lv_goto (tgt := 41) hx hb dX9_schemeByte_6 (by decide) ?_
    exact w_X9_schemeByte_41 C hr  a1 19 _ _ _ _ _ _ hf I (lv_sub hl [1] rfl)
end S_X9_schemeByte
theorem m_X9_schemeByte (G : gX) (l : Launch) (a0 : Int32) (a1 : Int32) : gMet G l yX9_schemeByte cX9_schemeByte 3 (some .int) 4 85 [.int a0, .int a1] gri (f_X9_schemeByte a0 a1) := by
  refine gMet_of (by decide) ?_
  intro σ y p e s m below meth c mc ms hf C hr hnm I
  obtain ⟨ls, e1, hl⟩ := gentry m [.int a0, .int a1] 3 [(0, .int a0), (1, .int a1)] (by simp [lg_sl, grc, gcat_i, gcat_l]) (by simp [lv_args, grc, gcat_i, gcat_l])
  rw [e1]
  exact w_X9_schemeByte_0 C hr a0 a1 _ _ _ _ _ _ hf I hl
def f_X9_isWord_17 (rec17 : Option Nat → Int32 → Int32 → Int32 → Int32 → gM Int32) (x0 : Option Nat) (x1 : Int32) (x2 : Int32) (x3 : Int32) (x4 : Int32) : gM Int32 := if x1 ≤ x4 then (gz x3) else (if x3 = 0 then (gz x3) else (gb (nn 8 x0) fun _ => gb (f_X9_byteAt x0 x4) fun v1 => gb (f_X9_low v1) fun v2 => gb (f_X9_schemeByte x2 x4) fun v3 => if v2 = v3 then (rec17 x0 x1 x2 1 (x4 + 1)) else (rec17 x0 x1 x2 0 (x4 + 1))))
def f_X9_isWord_L17  : Nat → Option Nat → Int32 → Int32 → Int32 → Int32 → gM Int32
  | 0, _, _, _, _, _ => gno
  | n + 1, x0, x1, x2, x3, x4 => f_X9_isWord_17  (f_X9_isWord_L17  n) x0 x1 x2 x3 x4
def f_X9_isWord  (a0 : Option Nat) (a1 : Int32) (a2 : Int32) : gM Int32 := gb (f_X9_schemeSize a2) fun v1 => if v1 = a1 then (f_X9_isWord_L17  gF a0 a1 a2 1 0) else (f_X9_isWord_L17  gF a0 a1 a2 0 0)
section S_X9_isWord
variable {G : gX} {p : Program} {l : Launch} {e : Env} {s : State} {m : MethodId} {args : Array Value} {below : List Frame} {meth : Method} {c : Code} {mc ms : Nat} {y : Int32 × gS}
set_option maxHeartbeats 4000000 in
set_option maxRecDepth 100000 in
theorem w_X9_isWord_17 (C : gC G p s m args meth c cX9_isWord 5 RX9) (hr : meth.sig.returnType = (some .boolean)) {rec17 : Option Nat → Int32 → Int32 → Int32 → Int32 → gM Int32} (hrec17 : ∀ (x0 : Option Nat) (x1 : Int32) (x2 : Int32) (x3 : Int32) (x4 : Int32), gJ G p l e 5 107 mc ms s m args below meth c gri y 5 17 [(0, va_rf x0), (1, .int x1), (2, .int x2), (3, .int x3), (4, .int x4)] [] (rec17 x0 x1 x2 x3 x4)) (x0 : Option Nat) (x1 : Int32) (x2 : Int32) (x3 : Int32) (x4 : Int32) : gJ G p l e 5 107 mc ms s m args below meth c gri y 5 17 [(0, va_rf x0), (1, .int x1), (2, .int x2), (3, .int x3), (4, .int x4)] [] (f_X9_isWord_17 rec17 x0 x1 x2 x3 x4) := by
  have hx := C.1
  have hb := C.2.1
  intro σ H locs cells slots ls hf I hl
  unfold f_X9_isWord_17 at hf
  refine lv_iload hx hb dX9_isWord_17 (lv_at hl 4 rfl) ?_
  refine lv_iload_n hx hb dX9_isWord_19 rfl (lv_at hl 1 rfl) ?_
  refine lv_icmp_ge (tgt := 57) hx hb dX9_isWord_20 (by decide) (fun hq => ?_) (fun hq => ?_)
  · have hf := gift hq hf
    refine lv_iload_n hx hb dX9_isWord_57 rfl (lv_at hl 3 rfl) ?_
    exact gw_zret C I hr dX9_isWord_58 hf
  · have hf := giff hq hf
    refine lv_iload_n hx hb dX9_isWord_23 rfl (lv_at hl 3 rfl) ?_
    refine lv_if_eq (tgt := 57) hx hb dX9_isWord_24 (by decide) (fun hq => ?_) (fun hq => ?_)
    · have hf := gift hq hf
      refine lv_iload_n hx hb dX9_isWord_57 rfl (lv_at hl 3 rfl) ?_
      exact gw_zret C I hr dX9_isWord_58 hf
    · have hf := giff hq hf
      refine gw_aload_n hx hb dX9_isWord_27 rfl (lv_at hl 0 rfl) ?_
      refine lv_iload hx hb dX9_isWord_28 (lv_at hl 4 rfl) ?_
      refine gw_callV (rest := []) C I hl.1 gcls_8 (m_X9_byteAt G l x0 x4) gl_RX9_151 gn_X9_byteAt ⟨Nat.le_of_ble_eq_true rfl, Nat.le_of_ble_eq_true rfl⟩ rfl (gc4 (Nat.le_of_ble_eq_true rfl)) rfl dX9_isWord_30 hf (fun v1 σ H locs cells slots I hf => ?_)
      refine W.eq (g2 := F0 m 33 ls [.int v1]) rfl ?_
      refine gw_callS (rest := []) C I hl.1 (m_X9_low G l v1) gl_RX9_99 kw_194 ⟨Nat.le_of_ble_eq_true rfl, Nat.le_of_ble_eq_true rfl⟩ rfl (gc4 (Nat.le_of_ble_eq_true rfl)) rfl dX9_isWord_33 hf (fun v2 σ H locs cells slots I hf => ?_)
      refine W.eq (g2 := F0 m 36 ls [.int v2]) rfl ?_
      refine lv_iload_n hx hb dX9_isWord_36 rfl (lv_at hl 2 rfl) ?_
      refine lv_iload hx hb dX9_isWord_37 (lv_at hl 4 rfl) ?_
      refine gw_callS (rest := [.int v2]) C I hl.1 (m_X9_schemeByte G l x2 x4) gl_RX9_154 kw_200 ⟨Nat.le_of_ble_eq_true rfl, Nat.le_of_ble_eq_true rfl⟩ rfl (gc4 (Nat.le_of_ble_eq_true rfl)) rfl dX9_isWord_39 hf (fun v3 σ H locs cells slots I hf => ?_)
      refine W.eq (g2 := F0 m 42 ls [.int v3, .int v2]) rfl ?_
      refine lv_icmp_ne (tgt := 49) hx hb dX9_isWord_42 (by decide) (fun hq => ?_) (fun hq => ?_)
      · have hf := giff hq hf
        refine lv_iconst (v := 0) hx hb dX9_isWord_49 kc_i_0 ?_
        refine lv_istore_n (lv' := [(3, .int 0), (0, va_rf x0), (1, .int x1), (2, .int x2), (4, .int x4)]) hx hb dX9_isWord_50 rfl hl (by decide) rfl (fun ls hl => ?_)
        refine lv_iinc (v := x4 + 1) (lv' := [(4, .int (x4 + 1)), (3, .int 0), (0, va_rf x0), (1, .int x1), (2, .int x2)]) hx hb dX9_isWord_51 hl (k := 4) rfl rfl (by decide) rfl (fun ls hl => ?_)
        refine lv_goto (tgt := 17) hx hb dX9_isWord_54 (by decide) ?_
        exact hrec17 x0 x1 x2 0 (x4 + 1) _ _ _ _ _ _ hf I (lv_sub hl [2, 3, 4, 1, 0] rfl)
      · have hf := gift hq hf
        refine lv_iconst (v := 1) hx hb dX9_isWord_45 kc_i_1 ?_
        refine lv_goto (tgt := 50) hx hb dX9_isWord_46 (by decide) ?_
        refine lv_istore_n (lv' := [(3, .int 1), (0, va_rf x0), (1, .int x1), (2, .int x2), (4, .int x4)]) hx hb dX9_isWord_50 rfl hl (by decide) rfl (fun ls hl => ?_)
        refine lv_iinc (v := x4 + 1) (lv' := [(4, .int (x4 + 1)), (3, .int 1), (0, va_rf x0), (1, .int x1), (2, .int x2)]) hx hb dX9_isWord_51 hl (k := 4) rfl rfl (by decide) rfl (fun ls hl => ?_)
        refine lv_goto (tgt := 17) hx hb dX9_isWord_54 (by decide) ?_
        exact hrec17 x0 x1 x2 1 (x4 + 1) _ _ _ _ _ _ hf I (lv_sub hl [2, 3, 4, 1, 0] rfl)
theorem w_X9_isWord_L17 (C : gC G p s m args meth c cX9_isWord 5 RX9) (hr : meth.sig.returnType = (some .boolean))  : ∀ (n : Nat) (x0 : Option Nat) (x1 : Int32) (x2 : Int32) (x3 : Int32) (x4 : Int32), gJ G p l e 5 107 mc ms s m args below meth c gri y 5 17 [(0, va_rf x0), (1, .int x1), (2, .int x2), (3, .int x3), (4, .int x4)] [] (f_X9_isWord_L17  n x0 x1 x2 x3 x4) := by
  intro n
  induction n with
  | zero => intro x0 x1 x2 x3 x4 σ H locs cells slots ls hf; exact (gno_some hf).elim
  | succ n ih => intro x0 x1 x2 x3 x4; exact w_X9_isWord_17 C hr  ih x0 x1 x2 x3 x4
set_option maxHeartbeats 4000000 in
set_option maxRecDepth 100000 in
theorem w_X9_isWord_0 (C : gC G p s m args meth c cX9_isWord 5 RX9) (hr : meth.sig.returnType = (some .boolean))  (a0 : Option Nat) (a1 : Int32) (a2 : Int32) : gJ G p l e 5 107 mc ms s m args below meth c gri y 5 0 [(0, va_rf a0), (1, .int a1), (2, .int a2)] [] (f_X9_isWord  a0 a1 a2) := by
  have hx := C.1
  have hb := C.2.1
  intro σ H locs cells slots ls hf I hl
  unfold f_X9_isWord at hf
  refine lv_iload_n hx hb dX9_isWord_0 rfl (lv_at hl 2 rfl) ?_
  refine gw_callS (rest := []) C I hl.1 (m_X9_schemeSize G l a2) gl_RX9_148 kw_199 ⟨Nat.le_of_ble_eq_true rfl, Nat.le_of_ble_eq_true rfl⟩ rfl (gc4 (Nat.le_of_ble_eq_true rfl)) rfl dX9_isWord_1 hf (fun v1 σ H locs cells slots I hf => ?_)
  refine W.eq (g2 := F0 m 4 ls [.int v1]) rfl ?_
  refine lv_iload_n hx hb dX9_isWord_4 rfl (lv_at hl 1 rfl) ?_
  refine lv_icmp_ne (tgt := 12) hx hb dX9_isWord_5 (by decide) (fun hq => ?_) (fun hq => ?_)
  · have hf := giff hq hf
    refine lv_iconst (v := 0) hx hb dX9_isWord_12 kc_i_0 ?_
    refine lv_istore_n (lv' := [(3, .int 0), (0, va_rf a0), (1, .int a1), (2, .int a2)]) hx hb dX9_isWord_13 rfl hl (by decide) rfl (fun ls hl => ?_)
    refine lv_iconst (v := 0) hx hb dX9_isWord_14 kc_i_0 ?_
    refine lv_istore (lv' := [(4, .int 0), (3, .int 0), (0, va_rf a0), (1, .int a1), (2, .int a2)]) hx hb dX9_isWord_15 hl (by decide) rfl (fun ls hl => ?_)
    exact w_X9_isWord_L17 C hr  _ a0 a1 a2 0 0 _ _ _ _ _ _ hf I (lv_sub hl [2, 3, 4, 1, 0] rfl)
  · have hf := gift hq hf
    refine lv_iconst (v := 1) hx hb dX9_isWord_8 kc_i_1 ?_
    refine lv_goto (tgt := 13) hx hb dX9_isWord_9 (by decide) ?_
    refine lv_istore_n (lv' := [(3, .int 1), (0, va_rf a0), (1, .int a1), (2, .int a2)]) hx hb dX9_isWord_13 rfl hl (by decide) rfl (fun ls hl => ?_)
    refine lv_iconst (v := 0) hx hb dX9_isWord_14 kc_i_0 ?_
    refine lv_istore (lv' := [(4, .int 0), (3, .int 1), (0, va_rf a0), (1, .int a1), (2, .int a2)]) hx hb dX9_isWord_15 hl (by decide) rfl (fun ls hl => ?_)
    exact w_X9_isWord_L17 C hr  _ a0 a1 a2 1 0 _ _ _ _ _ _ hf I (lv_sub hl [2, 3, 4, 1, 0] rfl)
end S_X9_isWord
theorem m_X9_isWord (G : gX) (l : Launch) (a0 : Option Nat) (a1 : Int32) (a2 : Int32) : gMet G l yX9_isWord cX9_isWord 5 (some .boolean) 5 107 [va_rf a0, .int a1, .int a2] gri (f_X9_isWord a0 a1 a2) := by
  refine gMet_of (by decide) ?_
  intro σ y p e s m below meth c mc ms hf C hr hnm I
  obtain ⟨ls, e1, hl⟩ := gentry m [va_rf a0, .int a1, .int a2] 5 [(0, va_rf a0), (1, .int a1), (2, .int a2)] (by simp [lg_sl, grc, gcat_i, gcat_l]) (by simp [lv_args, grc, gcat_i, gcat_l])
  rw [e1]
  exact w_X9_isWord_0 C hr a0 a1 a2 _ _ _ _ _ _ hf I hl
def f_X9_isLetter  (a0 : Int32) : gM Int32 := gb (f_X9_low a0) fun v1 => gb (f_X9_isIn v1 97 122) fun v2 => gz v2
section S_X9_isLetter
variable {G : gX} {p : Program} {l : Launch} {e : Env} {s : State} {m : MethodId} {args : Array Value} {below : List Frame} {meth : Method} {c : Code} {mc ms : Nat} {y : Int32 × gS}
set_option maxHeartbeats 4000000 in
set_option maxRecDepth 100000 in
theorem w_X9_isLetter_0 (C : gC G p s m args meth c cX9_isLetter 1 RX9) (hr : meth.sig.returnType = (some .boolean))  (a0 : Int32) : gJ G p l e 2 42 mc ms s m args below meth c gri y 1 0 [(0, .int a0)] [] (f_X9_isLetter  a0) := by
  have hx := C.1
  have hb := C.2.1
  intro σ H locs cells slots ls hf I hl
  unfold f_X9_isLetter at hf
  refine lv_iload_n hx hb dX9_isLetter_0 rfl (lv_at hl 0 rfl) ?_
  refine gw_callS (rest := []) C I hl.1 (m_X9_low G l a0) gl_RX9_99 kw_194 ⟨Nat.le_of_ble_eq_true rfl, Nat.le_of_ble_eq_true rfl⟩ rfl (gc4 (Nat.le_of_ble_eq_true rfl)) rfl dX9_isLetter_1 hf (fun v1 σ H locs cells slots I hf => ?_)
  refine W.eq (g2 := F0 m 4 ls [.int v1]) rfl ?_
  refine lv_bipush (v := 97) hx hb dX9_isLetter_4 kc_b_97 ?_
  refine lv_bipush (v := 122) hx hb dX9_isLetter_6 kc_b_122 ?_
  refine gw_callS (rest := []) C I hl.1 (m_X9_isIn G l v1 97 122) gl_RX9_91 kw_192 ⟨Nat.le_of_ble_eq_true rfl, Nat.le_of_ble_eq_true rfl⟩ rfl (gc4 (Nat.le_of_ble_eq_true rfl)) rfl dX9_isLetter_8 hf (fun v2 σ H locs cells slots I hf => ?_)
  refine W.eq (g2 := F0 m 11 ls [.int v2]) rfl ?_
  exact gw_zret C I hr dX9_isLetter_11 hf
end S_X9_isLetter
theorem m_X9_isLetter (G : gX) (l : Launch) (a0 : Int32) : gMet G l yX9_isLetter cX9_isLetter 1 (some .boolean) 2 42 [.int a0] gri (f_X9_isLetter a0) := by
  refine gMet_of (by decide) ?_
  intro σ y p e s m below meth c mc ms hf C hr hnm I
  obtain ⟨ls, e1, hl⟩ := gentry m [.int a0] 1 [(0, .int a0)] (by simp [lg_sl, grc, gcat_i, gcat_l]) (by simp [lv_args, grc, gcat_i, gcat_l])
  rw [e1]
  exact w_X9_isLetter_0 C hr a0 _ _ _ _ _ _ hf I hl
def f_X9_isOver  (a0 : Option Nat) (a1 : Int32) : gM Int32 := gb (nn 8 a0) fun _ => gb (f_X9_byteAt a0 a1) fun v1 => if v1 < 0 then (gz 1) else (gb (f_X9_isSlash v1) fun v2 => if v2 = 0 then (if v1 = 63 then (gz 1) else (if v1 = 35 then (gz 1) else (gz 0))) else (gz 1))
section S_X9_isOver
variable {G : gX} {p : Program} {l : Launch} {e : Env} {s : State} {m : MethodId} {args : Array Value} {below : List Frame} {meth : Method} {c : Code} {mc ms : Nat} {y : Int32 × gS}
set_option maxHeartbeats 4000000 in
set_option maxRecDepth 100000 in
theorem w_X9_isOver_0 (C : gC G p s m args meth c cX9_isOver 3 RX9) (hr : meth.sig.returnType = (some .boolean))  (a0 : Option Nat) (a1 : Int32) : gJ G p l e 1 21 mc ms s m args below meth c gri y 3 0 [(0, va_rf a0), (1, .int a1)] [] (f_X9_isOver  a0 a1) := by
  have hx := C.1
  have hb := C.2.1
  intro σ H locs cells slots ls hf I hl
  unfold f_X9_isOver at hf
  refine gw_aload_n hx hb dX9_isOver_0 rfl (lv_at hl 0 rfl) ?_
  refine lv_iload_n hx hb dX9_isOver_1 rfl (lv_at hl 1 rfl) ?_
  refine gw_callV (rest := []) C I hl.1 gcls_8 (m_X9_byteAt G l a0 a1) gl_RX9_151 gn_X9_byteAt ⟨Nat.le_of_ble_eq_true rfl, Nat.le_of_ble_eq_true rfl⟩ rfl (gc4 (Nat.le_of_ble_eq_true rfl)) rfl dX9_isOver_2 hf (fun v1 σ H locs cells slots I hf => ?_)
  refine W.eq (g2 := F0 m 5 ls [.int v1]) rfl ?_
  refine lv_istore_n (lv' := [(2, .int v1), (0, va_rf a0), (1, .int a1)]) hx hb dX9_isOver_5 rfl hl (by decide) rfl (fun ls hl => ?_)
  refine lv_iload_n hx hb dX9_isOver_6 rfl (lv_at hl 0 rfl) ?_
  refine lv_if_lt (tgt := 29) hx hb dX9_isOver_7 (by decide) (fun hq => ?_) (fun hq => ?_)
  · have hf := gift hq hf
    refine lv_iconst (v := 1) hx hb dX9_isOver_29 kc_i_1 ?_
    refine lv_goto (tgt := 34) hx hb dX9_isOver_30 (by decide) ?_
    exact gw_zret C I hr dX9_isOver_34 hf
  · have hf := giff hq hf
    refine lv_iload_n hx hb dX9_isOver_10 rfl (lv_at hl 0 rfl) ?_
    refine gw_callS (rest := []) C I hl.1 (m_X9_isSlash G l v1) gl_RX9_188 kw_201 ⟨Nat.le_of_ble_eq_true rfl, Nat.le_of_ble_eq_true rfl⟩ rfl (gc4 (Nat.le_of_ble_eq_true rfl)) rfl dX9_isOver_11 hf (fun v2 σ H locs cells slots I hf => ?_)
    refine W.eq (g2 := F0 m 14 ls [.int v2]) rfl ?_
    refine lv_if_ne (tgt := 29) hx hb dX9_isOver_14 (by decide) (fun hq => ?_) (fun hq => ?_)
    · have hf := giff hq hf
      refine lv_iconst (v := 1) hx hb dX9_isOver_29 kc_i_1 ?_
      refine lv_goto (tgt := 34) hx hb dX9_isOver_30 (by decide) ?_
      exact gw_zret C I hr dX9_isOver_34 hf
    · have hf := gift hq hf
      refine lv_iload_n hx hb dX9_isOver_17 rfl (lv_at hl 0 rfl) ?_
      refine lv_bipush (v := 63) hx hb dX9_isOver_18 kc_b_63 ?_
      refine lv_icmp_eq (tgt := 29) hx hb dX9_isOver_20 (by decide) (fun hq => ?_) (fun hq => ?_)
      · have hf := gift hq hf
        refine lv_iconst (v := 1) hx hb dX9_isOver_29 kc_i_1 ?_
        refine lv_goto (tgt := 34) hx hb dX9_isOver_30 (by decide) ?_
        exact gw_zret C I hr dX9_isOver_34 hf
      · have hf := giff hq hf
        refine lv_iload_n hx hb dX9_isOver_23 rfl (lv_at hl 0 rfl) ?_
        refine lv_bipush (v := 35) hx hb dX9_isOver_24 kc_b_35 ?_
        refine lv_icmp_ne (tgt := 33) hx hb dX9_isOver_26 (by decide) (fun hq => ?_) (fun hq => ?_)
        · have hf := giff hq hf
          refine lv_iconst (v := 0) hx hb dX9_isOver_33 kc_i_0 ?_
          exact gw_zret C I hr dX9_isOver_34 hf
        · have hf := gift hq hf
          refine lv_iconst (v := 1) hx hb dX9_isOver_29 kc_i_1 ?_
          refine lv_goto (tgt := 34) hx hb dX9_isOver_30 (by decide) ?_
          exact gw_zret C I hr dX9_isOver_34 hf
end S_X9_isOver
theorem m_X9_isOver (G : gX) (l : Launch) (a0 : Option Nat) (a1 : Int32) : gMet G l yX9_isOver cX9_isOver 3 (some .boolean) 1 21 [va_rf a0, .int a1] gri (f_X9_isOver a0 a1) := by
  refine gMet_of (by decide) ?_
  intro σ y p e s m below meth c mc ms hf C hr hnm I
  obtain ⟨ls, e1, hl⟩ := gentry m [va_rf a0, .int a1] 3 [(0, va_rf a0), (1, .int a1)] (by simp [lg_sl, grc, gcat_i, gcat_l]) (by simp [lv_args, grc, gcat_i, gcat_l])
  rw [e1]
  exact w_X9_isOver_0 C hr a0 a1 _ _ _ _ _ _ hf I hl
def f_X9_readNumbers_139 (rec9 : Option Nat → Int32 → Int32 → Int32 → Int64 → Int32 → gM Int32) (x0 : Option Nat) (x2 : Int32) (x3 : Int32) (x4 : Int32) (x5 : Int64) (x7 : Int32) (x9 : Int32) : gM Int32 := rec9 x0 x2 x3 x4 ((x5 <<< ((8 : Int32).toInt64 &&& 63)) ||| x9.toInt64) (x7 + 1)
def f_X9_readNumbers_100 (rec9 : Option Nat → Int32 → Int32 → Int32 → Int64 → Int32 → gM Int32) (x0 : Option Nat) (x2 : Int32) (x3 : Int32) (x4 : Int32) (x5 : Int64) (x7 : Int32) (x8 : Int32) (x9 : Int32) : gM Int32 := if x4 = x8 then (gp (-16)) else (if 255 < x9 then (gp (-16)) else (gb (rR 8 11 x0) fun v1 => gb (aI 0 v1 x8) fun v2 => if v2 = 48 then (if (x4 - x8) ≤ 1 then (f_X9_readNumbers_139 rec9 x0 x2 x3 x4 x5 x7 x9) else (gp (-16))) else (f_X9_readNumbers_139 rec9 x0 x2 x3 x4 x5 x7 x9)))
def f_X9_readNumbers_51 (rec9 : Option Nat → Int32 → Int32 → Int32 → Int64 → Int32 → gM Int32) (rec51 : Option Nat → Int32 → Int32 → Int32 → Int64 → Int32 → Int32 → Int32 → gM Int32) (x0 : Option Nat) (x2 : Int32) (x3 : Int32) (x4 : Int32) (x5 : Int64) (x7 : Int32) (x8 : Int32) (x9 : Int32) : gM Int32 := if x2 ≤ x4 then (f_X9_readNumbers_100 rec9 x0 x2 x3 x4 x5 x7 x8 x9) else (gb (rR 8 11 x0) fun v1 => gb (aI 0 v1 x4) fun v2 => gb (f_X9_isDigit v2) fun v3 => if v3 = 0 then (f_X9_readNumbers_100 rec9 x0 x2 x3 x4 x5 x7 x8 x9) else (gb (rR 8 11 x0) fun v4 => gb (aI 0 v4 x4) fun v5 => rec51 x0 x2 x3 (x4 + 1) x5 x7 x8 (if ((10 * x9) + v5) - 48 < 1000 then ((10 * x9) + v5) - 48 else 1000)))
def f_X9_readNumbers_L51 (rec9 : Option Nat → Int32 → Int32 → Int32 → Int64 → Int32 → gM Int32) : Nat → Option Nat → Int32 → Int32 → Int32 → Int64 → Int32 → Int32 → Int32 → gM Int32
  | 0, _, _, _, _, _, _, _, _ => gno
  | n + 1, x0, x2, x3, x4, x5, x7, x8, x9 => f_X9_readNumbers_51 rec9 (f_X9_readNumbers_L51 rec9 n) x0 x2 x3 x4 x5 x7 x8 x9
def f_X9_readNumbers_9 (rec9 : Option Nat → Int32 → Int32 → Int32 → Int64 → Int32 → gM Int32) (x0 : Option Nat) (x2 : Int32) (x3 : Int32) (x4 : Int32) (x5 : Int64) (x7 : Int32) : gM Int32 := if 4 ≤ x7 then (if x2 ≤ x4 then (gb (rR 8 17 x0) fun v1 => gb (sI 1 v1 x3 ((x5 >>> ((16 : Int32).toInt64 &&& 63)).toInt32)) fun _ => gb (rR 8 17 x0) fun v2 => gb (sI 1 v2 (x3 + 1) ((x5 &&& 65535).toInt32)) fun _ => gp 0) else (gp (-16))) else (if x7 ≤ 0 then (f_X9_readNumbers_L51 rec9 gF x0 x2 x3 x4 x5 x7 x4 0) else (if x2 ≤ x4 then (gp (-16)) else (gb (rR 8 11 x0) fun v3 => gb (aI 0 v3 x4) fun v4 => if v4 = 46 then (f_X9_readNumbers_L51 rec9 gF x0 x2 x3 (x4 + 1) x5 x7 (x4 + 1) 0) else (gp (-16)))))
def f_X9_readNumbers_L9  : Nat → Option Nat → Int32 → Int32 → Int32 → Int64 → Int32 → gM Int32
  | 0, _, _, _, _, _, _ => gno
  | n + 1, x0, x2, x3, x4, x5, x7 => f_X9_readNumbers_9  (f_X9_readNumbers_L9  n) x0 x2 x3 x4 x5 x7
def f_X9_readNumbers  (a0 : Option Nat) (a1 : Int32) (a2 : Int32) (a3 : Int32) : gM Int32 := f_X9_readNumbers_L9  gF a0 a2 a3 a1 0 0
section S_X9_readNumbers
variable {G : gX} {p : Program} {l : Launch} {e : Env} {s : State} {m : MethodId} {args : Array Value} {below : List Frame} {meth : Method} {c : Code} {mc ms : Nat} {y : Int32 × gS}
set_option maxHeartbeats 4000000 in
set_option maxRecDepth 100000 in
theorem w_X9_readNumbers_139 (C : gC G p s m args meth c cX9_readNumbers 10 RX9) (hr : meth.sig.returnType = (some .int)) {rec9 : Option Nat → Int32 → Int32 → Int32 → Int64 → Int32 → gM Int32} (hrec9 : ∀ (x0 : Option Nat) (x2 : Int32) (x3 : Int32) (x4 : Int32) (x5 : Int64) (x7 : Int32), gJ G p l e 2 42 mc ms s m args below meth c gri y 10 9 [(0, va_rf x0), (2, .int x2), (3, .int x3), (4, .int x4), (5, .long x5), (7, .int x7)] [] (rec9 x0 x2 x3 x4 x5 x7)) (x0 : Option Nat) (x2 : Int32) (x3 : Int32) (x4 : Int32) (x5 : Int64) (x7 : Int32) (x9 : Int32) : gJ G p l e 2 42 mc ms s m args below meth c gri y 10 139 [(0, va_rf x0), (2, .int x2), (3, .int x3), (4, .int x4), (5, .long x5), (7, .int x7), (9, .int x9)] [] (f_X9_readNumbers_139 rec9 x0 x2 x3 x4 x5 x7 x9) := by
  have hx := C.1
  have hb := C.2.1
  intro σ H locs cells slots ls hf I hl
  unfold f_X9_readNumbers_139 at hf
  refine lv_lload hx hb dX9_readNumbers_139 (lv_at hl 4 rfl) ?_
  refine lv_bipush (v := 8) hx hb dX9_readNumbers_141 kc_b_8 ?_
  refine lv_lshl hx hb dX9_readNumbers_143 rfl ?_
  refine lv_iload hx hb dX9_readNumbers_144 (lv_at hl 6 rfl) ?_
  refine lv_i2l hx hb dX9_readNumbers_146 rfl ?_
  refine lv_lor hx hb dX9_readNumbers_147 ?_
  refine lv_lstore (lv' := [(5, .long ((x5 <<< ((8 : Int32).toInt64 &&& 63)) ||| x9.toInt64)), (0, va_rf x0), (2, .int x2), (3, .int x3), (4, .int x4), (7, .int x7), (9, .int x9)]) hx hb dX9_readNumbers_148 hl (by decide) rfl (fun ls hl => ?_)
  refine lv_iinc (v := x7 + 1) (lv' := [(7, .int (x7 + 1)), (5, .long ((x5 <<< ((8 : Int32).toInt64 &&& 63)) ||| x9.toInt64)), (0, va_rf x0), (2, .int x2), (3, .int x3), (4, .int x4), (9, .int x9)]) hx hb dX9_readNumbers_150 hl (k := 5) rfl rfl (by decide) rfl (fun ls hl => ?_)
  refine lv_goto (tgt := 9) hx hb dX9_readNumbers_153 (by decide) ?_
  exact hrec9 x0 x2 x3 x4 ((x5 <<< ((8 : Int32).toInt64 &&& 63)) ||| x9.toInt64) (x7 + 1) _ _ _ _ _ _ hf I (lv_sub hl [2, 3, 4, 5, 1, 0] rfl)
set_option maxHeartbeats 4000000 in
set_option maxRecDepth 100000 in
theorem w_X9_readNumbers_100 (C : gC G p s m args meth c cX9_readNumbers 10 RX9) (hr : meth.sig.returnType = (some .int)) {rec9 : Option Nat → Int32 → Int32 → Int32 → Int64 → Int32 → gM Int32} (hrec9 : ∀ (x0 : Option Nat) (x2 : Int32) (x3 : Int32) (x4 : Int32) (x5 : Int64) (x7 : Int32), gJ G p l e 2 42 mc ms s m args below meth c gri y 10 9 [(0, va_rf x0), (2, .int x2), (3, .int x3), (4, .int x4), (5, .long x5), (7, .int x7)] [] (rec9 x0 x2 x3 x4 x5 x7)) (x0 : Option Nat) (x2 : Int32) (x3 : Int32) (x4 : Int32) (x5 : Int64) (x7 : Int32) (x8 : Int32) (x9 : Int32) : gJ G p l e 2 42 mc ms s m args below meth c gri y 10 100 [(0, va_rf x0), (2, .int x2), (3, .int x3), (4, .int x4), (5, .long x5), (7, .int x7), (8, .int x8), (9, .int x9)] [] (f_X9_readNumbers_100 rec9 x0 x2 x3 x4 x5 x7 x8 x9) := by
  have hx := C.1
  have hb := C.2.1
  intro σ H locs cells slots ls hf I hl
  unfold f_X9_readNumbers_100 at hf
  refine lv_iload hx hb dX9_readNumbers_100 (lv_at hl 3 rfl) ?_
  refine lv_iload hx hb dX9_readNumbers_102 (lv_at hl 6 rfl) ?_
  refine lv_icmp_eq (tgt := 136) hx hb dX9_readNumbers_104 (by decide) (fun hq => ?_) (fun hq => ?_)
  · have hf := gift hq hf
    refine lv_bipush (v := (-16)) hx hb dX9_readNumbers_136 kc_b_m16 ?_
    exact gw_iret C I hr dX9_readNumbers_138 hf
  · have hf := giff hq hf
    refine lv_iload hx hb dX9_readNumbers_107 (lv_at hl 7 rfl) ?_
    refine lv_sipush (v := 255) hx hb dX9_readNumbers_109 kc_s_255 ?_
    refine lv_icmp_gt (tgt := 136) hx hb dX9_readNumbers_112 (by decide) (fun hq => ?_) (fun hq => ?_)
    · have hf := gift hq hf
      refine lv_bipush (v := (-16)) hx hb dX9_readNumbers_136 kc_b_m16 ?_
      exact gw_iret C I hr dX9_readNumbers_138 hf
    · have hf := giff hq hf
      refine gw_aload_n hx hb dX9_readNumbers_115 rfl (lv_at hl 0 rfl) ?_
      refine gw_getr (k := 11) C I gcls_8 (by decide) rfl kw_176 dX9_readNumbers_116 hf (fun v1 hf => ?_)
      refine lv_iload hx hb dX9_readNumbers_119 (lv_at hl 6 rfl) ?_
      refine gw_bald C I dX9_readNumbers_121 hf (fun v2 hf => ?_)
      refine lv_bipush (v := 48) hx hb dX9_readNumbers_122 kc_b_48 ?_
      refine lv_icmp_ne (tgt := 139) hx hb dX9_readNumbers_124 (by decide) (fun hq => ?_) (fun hq => ?_)
      · have hf := giff hq hf
        exact w_X9_readNumbers_139 C hr hrec9 x0 x2 x3 x4 x5 x7 x9 _ _ _ _ _ _ hf I (lv_sub hl [0, 1, 2, 3, 4, 5, 7] rfl)
      · have hf := gift hq hf
        refine lv_iload hx hb dX9_readNumbers_127 (lv_at hl 3 rfl) ?_
        refine lv_iload hx hb dX9_readNumbers_129 (lv_at hl 6 rfl) ?_
        refine lv_isub hx hb dX9_readNumbers_131 ?_
        refine lv_iconst (v := 1) hx hb dX9_readNumbers_132 kc_i_1 ?_
        refine lv_icmp_le (tgt := 139) hx hb dX9_readNumbers_133 (by decide) (fun hq => ?_) (fun hq => ?_)
        · have hf := gift hq hf
          exact w_X9_readNumbers_139 C hr hrec9 x0 x2 x3 x4 x5 x7 x9 _ _ _ _ _ _ hf I (lv_sub hl [0, 1, 2, 3, 4, 5, 7] rfl)
        · have hf := giff hq hf
          refine lv_bipush (v := (-16)) hx hb dX9_readNumbers_136 kc_b_m16 ?_
          exact gw_iret C I hr dX9_readNumbers_138 hf
set_option maxHeartbeats 4000000 in
set_option maxRecDepth 100000 in
theorem w_X9_readNumbers_51 (C : gC G p s m args meth c cX9_readNumbers 10 RX9) (hr : meth.sig.returnType = (some .int)) {rec9 : Option Nat → Int32 → Int32 → Int32 → Int64 → Int32 → gM Int32} (hrec9 : ∀ (x0 : Option Nat) (x2 : Int32) (x3 : Int32) (x4 : Int32) (x5 : Int64) (x7 : Int32), gJ G p l e 2 42 mc ms s m args below meth c gri y 10 9 [(0, va_rf x0), (2, .int x2), (3, .int x3), (4, .int x4), (5, .long x5), (7, .int x7)] [] (rec9 x0 x2 x3 x4 x5 x7)) {rec51 : Option Nat → Int32 → Int32 → Int32 → Int64 → Int32 → Int32 → Int32 → gM Int32} (hrec51 : ∀ (x0 : Option Nat) (x2 : Int32) (x3 : Int32) (x4 : Int32) (x5 : Int64) (x7 : Int32) (x8 : Int32) (x9 : Int32), gJ G p l e 2 42 mc ms s m args below meth c gri y 10 51 [(0, va_rf x0), (2, .int x2), (3, .int x3), (4, .int x4), (5, .long x5), (7, .int x7), (8, .int x8), (9, .int x9)] [] (rec51 x0 x2 x3 x4 x5 x7 x8 x9)) (x0 : Option Nat) (x2 : Int32) (x3 : Int32) (x4 : Int32) (x5 : Int64) (x7 : Int32) (x8 : Int32) (x9 : Int32) : gJ G p l e 2 42 mc ms s m args below meth c gri y 10 51 [(0, va_rf x0), (2, .int x2), (3, .int x3), (4, .int x4), (5, .long x5), (7, .int x7), (8, .int x8), (9, .int x9)] [] (f_X9_readNumbers_51 rec9 rec51 x0 x2 x3 x4 x5 x7 x8 x9) := by
  have hx := C.1
  have hb := C.2.1
  intro σ H locs cells slots ls hf I hl
  unfold f_X9_readNumbers_51 at hf
  refine lv_iload hx hb dX9_readNumbers_51 (lv_at hl 3 rfl) ?_
  refine lv_iload_n hx hb dX9_readNumbers_53 rfl (lv_at hl 1 rfl) ?_
  refine lv_icmp_ge (tgt := 100) hx hb dX9_readNumbers_54 (by decide) (fun hq => ?_) (fun hq => ?_)
  · have hf := gift hq hf
    exact w_X9_readNumbers_100 C hr hrec9 x0 x2 x3 x4 x5 x7 x8 x9 _ _ _ _ _ _ hf I (lv_sub hl [0, 1, 2, 3, 4, 5, 6, 7] rfl)
  · have hf := giff hq hf
    refine gw_aload_n hx hb dX9_readNumbers_57 rfl (lv_at hl 0 rfl) ?_
    refine gw_getr (k := 11) C I gcls_8 (by decide) rfl kw_176 dX9_readNumbers_58 hf (fun v1 hf => ?_)
    refine lv_iload hx hb dX9_readNumbers_61 (lv_at hl 3 rfl) ?_
    refine gw_bald C I dX9_readNumbers_63 hf (fun v2 hf => ?_)
    refine gw_callS (rest := []) C I hl.1 (m_X9_isDigit G l v2) gl_RX9_95 kw_193 ⟨Nat.le_of_ble_eq_true rfl, Nat.le_of_ble_eq_true rfl⟩ rfl (gc4 (Nat.le_of_ble_eq_true rfl)) rfl dX9_readNumbers_64 hf (fun v3 σ H locs cells slots I hf => ?_)
    refine W.eq (g2 := F0 m 67 ls [.int v3]) rfl ?_
    refine lv_if_eq (tgt := 100) hx hb dX9_readNumbers_67 (by decide) (fun hq => ?_) (fun hq => ?_)
    · have hf := gift hq hf
      exact w_X9_readNumbers_100 C hr hrec9 x0 x2 x3 x4 x5 x7 x8 x9 _ _ _ _ _ _ hf I (lv_sub hl [0, 1, 2, 3, 4, 5, 6, 7] rfl)
    · have hf := giff hq hf
      refine lv_sipush (v := 1000) hx hb dX9_readNumbers_70 kc_s_1000 ?_
      refine lv_bipush (v := 10) hx hb dX9_readNumbers_73 kc_b_10 ?_
      refine lv_iload hx hb dX9_readNumbers_75 (lv_at hl 7 rfl) ?_
      refine lv_imul hx hb dX9_readNumbers_77 ?_
      refine gw_aload_n hx hb dX9_readNumbers_78 rfl (lv_at hl 0 rfl) ?_
      refine gw_getr (k := 11) C I gcls_8 (by decide) rfl kw_176 dX9_readNumbers_79 hf (fun v4 hf => ?_)
      refine lv_iload hx hb dX9_readNumbers_82 (lv_at hl 3 rfl) ?_
      refine gw_bald C I dX9_readNumbers_84 hf (fun v5 hf => ?_)
      refine lv_iadd hx hb dX9_readNumbers_85 ?_
      refine lv_bipush (v := 48) hx hb dX9_readNumbers_86 kc_b_48 ?_
      refine lv_isub hx hb dX9_readNumbers_88 ?_
      refine gw_mmin (rest := []) C I hl.1 ⟨kw_203, kw_91, kw_92, kw_93⟩ ⟨Nat.le_of_ble_eq_true rfl, Nat.le_of_ble_eq_true rfl⟩ (gc4 (Nat.le_of_ble_eq_true rfl)) dX9_readNumbers_89 hf ?_
      refine lv_istore (lv' := [(9, .int (if ((10 * x9) + v5) - 48 < 1000 then ((10 * x9) + v5) - 48 else 1000)), (0, va_rf x0), (2, .int x2), (3, .int x3), (4, .int x4), (5, .long x5), (7, .int x7), (8, .int x8)]) hx hb dX9_readNumbers_92 hl (by decide) rfl (fun ls hl => ?_)
      refine lv_iinc (v := x4 + 1) (lv' := [(4, .int (x4 + 1)), (9, .int (if ((10 * x9) + v5) - 48 < 1000 then ((10 * x9) + v5) - 48 else 1000)), (0, va_rf x0), (2, .int x2), (3, .int x3), (5, .long x5), (7, .int x7), (8, .int x8)]) hx hb dX9_readNumbers_94 hl (k := 4) rfl rfl (by decide) rfl (fun ls hl => ?_)
      refine lv_goto (tgt := 51) hx hb dX9_readNumbers_97 (by decide) ?_
      exact hrec51 x0 x2 x3 (x4 + 1) x5 x7 x8 (if ((10 * x9) + v5) - 48 < 1000 then ((10 * x9) + v5) - 48 else 1000) _ _ _ _ _ _ hf I (lv_sub hl [2, 3, 4, 0, 5, 6, 7, 1] rfl)
theorem w_X9_readNumbers_L51 (C : gC G p s m args meth c cX9_readNumbers 10 RX9) (hr : meth.sig.returnType = (some .int)) {rec9 : Option Nat → Int32 → Int32 → Int32 → Int64 → Int32 → gM Int32} (hrec9 : ∀ (x0 : Option Nat) (x2 : Int32) (x3 : Int32) (x4 : Int32) (x5 : Int64) (x7 : Int32), gJ G p l e 2 42 mc ms s m args below meth c gri y 10 9 [(0, va_rf x0), (2, .int x2), (3, .int x3), (4, .int x4), (5, .long x5), (7, .int x7)] [] (rec9 x0 x2 x3 x4 x5 x7)) : ∀ (n : Nat) (x0 : Option Nat) (x2 : Int32) (x3 : Int32) (x4 : Int32) (x5 : Int64) (x7 : Int32) (x8 : Int32) (x9 : Int32), gJ G p l e 2 42 mc ms s m args below meth c gri y 10 51 [(0, va_rf x0), (2, .int x2), (3, .int x3), (4, .int x4), (5, .long x5), (7, .int x7), (8, .int x8), (9, .int x9)] [] (f_X9_readNumbers_L51 rec9 n x0 x2 x3 x4 x5 x7 x8 x9) := by
  intro n
  induction n with
  | zero => intro x0 x2 x3 x4 x5 x7 x8 x9 σ H locs cells slots ls hf; exact (gno_some hf).elim
  | succ n ih => intro x0 x2 x3 x4 x5 x7 x8 x9; exact w_X9_readNumbers_51 C hr hrec9 ih x0 x2 x3 x4 x5 x7 x8 x9
set_option maxHeartbeats 4000000 in
set_option maxRecDepth 100000 in
theorem w_X9_readNumbers_9 (C : gC G p s m args meth c cX9_readNumbers 10 RX9) (hr : meth.sig.returnType = (some .int)) {rec9 : Option Nat → Int32 → Int32 → Int32 → Int64 → Int32 → gM Int32} (hrec9 : ∀ (x0 : Option Nat) (x2 : Int32) (x3 : Int32) (x4 : Int32) (x5 : Int64) (x7 : Int32), gJ G p l e 2 42 mc ms s m args below meth c gri y 10 9 [(0, va_rf x0), (2, .int x2), (3, .int x3), (4, .int x4), (5, .long x5), (7, .int x7)] [] (rec9 x0 x2 x3 x4 x5 x7)) (x0 : Option Nat) (x2 : Int32) (x3 : Int32) (x4 : Int32) (x5 : Int64) (x7 : Int32) : gJ G p l e 2 42 mc ms s m args below meth c gri y 10 9 [(0, va_rf x0), (2, .int x2), (3, .int x3), (4, .int x4), (5, .long x5), (7, .int x7)] [] (f_X9_readNumbers_9 rec9 x0 x2 x3 x4 x5 x7) := by
  have hx := C.1
  have hb := C.2.1
  intro σ H locs cells slots ls hf I hl
  unfold f_X9_readNumbers_9 at hf
  refine lv_iload hx hb dX9_readNumbers_9 (lv_at hl 5 rfl) ?_
  refine lv_iconst (v := 4) hx hb dX9_readNumbers_11 kc_i_4 ?_
  refine lv_icmp_ge (tgt := 156) hx hb dX9_readNumbers_12 (by decide) (fun hq => ?_) (fun hq => ?_)
  · have hf := gift hq hf
    refine lv_iload hx hb dX9_readNumbers_156 (lv_at hl 3 rfl) ?_
    refine lv_iload_n hx hb dX9_readNumbers_158 rfl (lv_at hl 1 rfl) ?_
    refine lv_icmp_ge (tgt := 165) hx hb dX9_readNumbers_159 (by decide) (fun hq => ?_) (fun hq => ?_)
    · have hf := gift hq hf
      refine gw_aload_n hx hb dX9_readNumbers_165 rfl (lv_at hl 0 rfl) ?_
      refine gw_getr (k := 17) C I gcls_8 (by decide) rfl kw_178 dX9_readNumbers_166 hf (fun v1 hf => ?_)
      refine lv_iload_n hx hb dX9_readNumbers_169 rfl (lv_at hl 2 rfl) ?_
      refine lv_lload hx hb dX9_readNumbers_170 (lv_at hl 4 rfl) ?_
      refine lv_bipush (v := 16) hx hb dX9_readNumbers_172 kc_b_16 ?_
      refine lv_lshr hx hb dX9_readNumbers_174 rfl ?_
      refine lv_l2i hx hb dX9_readNumbers_175 rfl ?_
      refine gw_iast C I dX9_readNumbers_176 hf (fun σ H locs I hf => ?_)
      refine gw_aload_n hx hb dX9_readNumbers_177 rfl (lv_at hl 0 rfl) ?_
      refine gw_getr (k := 17) C I gcls_8 (by decide) rfl kw_178 dX9_readNumbers_178 hf (fun v2 hf => ?_)
      refine lv_iload_n hx hb dX9_readNumbers_181 rfl (lv_at hl 2 rfl) ?_
      refine lv_iconst (v := 1) hx hb dX9_readNumbers_182 kc_i_1 ?_
      refine lv_iadd hx hb dX9_readNumbers_183 ?_
      refine lv_lload hx hb dX9_readNumbers_184 (lv_at hl 4 rfl) ?_
      refine gw_ldc2 C (v := 65535) kw_202 dX9_readNumbers_186 ?_
      refine lv_land hx hb dX9_readNumbers_189 ?_
      refine lv_l2i hx hb dX9_readNumbers_190 rfl ?_
      refine gw_iast C I dX9_readNumbers_191 hf (fun σ H locs I hf => ?_)
      refine lv_iconst (v := 0) hx hb dX9_readNumbers_192 kc_i_0 ?_
      exact gw_iret C I hr dX9_readNumbers_193 hf
    · have hf := giff hq hf
      refine lv_bipush (v := (-16)) hx hb dX9_readNumbers_162 kc_b_m16 ?_
      exact gw_iret C I hr dX9_readNumbers_164 hf
  · have hf := giff hq hf
    refine lv_iload hx hb dX9_readNumbers_15 (lv_at hl 5 rfl) ?_
    refine lv_if_le (tgt := 44) hx hb dX9_readNumbers_17 (by decide) (fun hq => ?_) (fun hq => ?_)
    · have hf := gift hq hf
      refine lv_iload hx hb dX9_readNumbers_44 (lv_at hl 3 rfl) ?_
      refine lv_istore (lv' := [(8, .int x4), (0, va_rf x0), (2, .int x2), (3, .int x3), (4, .int x4), (5, .long x5), (7, .int x7)]) hx hb dX9_readNumbers_46 hl (by decide) rfl (fun ls hl => ?_)
      refine lv_iconst (v := 0) hx hb dX9_readNumbers_48 kc_i_0 ?_
      refine lv_istore (lv' := [(9, .int 0), (8, .int x4), (0, va_rf x0), (2, .int x2), (3, .int x3), (4, .int x4), (5, .long x5), (7, .int x7)]) hx hb dX9_readNumbers_49 hl (by decide) rfl (fun ls hl => ?_)
      exact w_X9_readNumbers_L51 C hr hrec9 _ x0 x2 x3 x4 x5 x7 x4 0 _ _ _ _ _ _ hf I (lv_sub hl [2, 3, 4, 5, 6, 7, 1, 0] rfl)
    · have hf := giff hq hf
      refine lv_iload hx hb dX9_readNumbers_20 (lv_at hl 3 rfl) ?_
      refine lv_iload_n hx hb dX9_readNumbers_22 rfl (lv_at hl 1 rfl) ?_
      refine lv_icmp_ge (tgt := 38) hx hb dX9_readNumbers_23 (by decide) (fun hq => ?_) (fun hq => ?_)
      · have hf := gift hq hf
        refine lv_bipush (v := (-16)) hx hb dX9_readNumbers_38 kc_b_m16 ?_
        exact gw_iret C I hr dX9_readNumbers_40 hf
      · have hf := giff hq hf
        refine gw_aload_n hx hb dX9_readNumbers_26 rfl (lv_at hl 0 rfl) ?_
        refine gw_getr (k := 11) C I gcls_8 (by decide) rfl kw_176 dX9_readNumbers_27 hf (fun v3 hf => ?_)
        refine lv_iload hx hb dX9_readNumbers_30 (lv_at hl 3 rfl) ?_
        refine gw_bald C I dX9_readNumbers_32 hf (fun v4 hf => ?_)
        refine lv_bipush (v := 46) hx hb dX9_readNumbers_33 kc_b_46 ?_
        refine lv_icmp_eq (tgt := 41) hx hb dX9_readNumbers_35 (by decide) (fun hq => ?_) (fun hq => ?_)
        · have hf := gift hq hf
          refine lv_iinc (v := x4 + 1) (lv' := [(4, .int (x4 + 1)), (0, va_rf x0), (2, .int x2), (3, .int x3), (5, .long x5), (7, .int x7)]) hx hb dX9_readNumbers_41 hl (k := 3) rfl rfl (by decide) rfl (fun ls hl => ?_)
          refine lv_iload hx hb dX9_readNumbers_44 (lv_at hl 0 rfl) ?_
          refine lv_istore (lv' := [(8, .int (x4 + 1)), (4, .int (x4 + 1)), (0, va_rf x0), (2, .int x2), (3, .int x3), (5, .long x5), (7, .int x7)]) hx hb dX9_readNumbers_46 hl (by decide) rfl (fun ls hl => ?_)
          refine lv_iconst (v := 0) hx hb dX9_readNumbers_48 kc_i_0 ?_
          refine lv_istore (lv' := [(9, .int 0), (8, .int (x4 + 1)), (4, .int (x4 + 1)), (0, va_rf x0), (2, .int x2), (3, .int x3), (5, .long x5), (7, .int x7)]) hx hb dX9_readNumbers_49 hl (by decide) rfl (fun ls hl => ?_)
          exact w_X9_readNumbers_L51 C hr hrec9 _ x0 x2 x3 (x4 + 1) x5 x7 (x4 + 1) 0 _ _ _ _ _ _ hf I (lv_sub hl [3, 4, 5, 2, 6, 7, 1, 0] rfl)
        · have hf := giff hq hf
          refine lv_bipush (v := (-16)) hx hb dX9_readNumbers_38 kc_b_m16 ?_
          exact gw_iret C I hr dX9_readNumbers_40 hf
theorem w_X9_readNumbers_L9 (C : gC G p s m args meth c cX9_readNumbers 10 RX9) (hr : meth.sig.returnType = (some .int))  : ∀ (n : Nat) (x0 : Option Nat) (x2 : Int32) (x3 : Int32) (x4 : Int32) (x5 : Int64) (x7 : Int32), gJ G p l e 2 42 mc ms s m args below meth c gri y 10 9 [(0, va_rf x0), (2, .int x2), (3, .int x3), (4, .int x4), (5, .long x5), (7, .int x7)] [] (f_X9_readNumbers_L9  n x0 x2 x3 x4 x5 x7) := by
  intro n
  induction n with
  | zero => intro x0 x2 x3 x4 x5 x7 σ H locs cells slots ls hf; exact (gno_some hf).elim
  | succ n ih => intro x0 x2 x3 x4 x5 x7; exact w_X9_readNumbers_9 C hr  ih x0 x2 x3 x4 x5 x7
set_option maxHeartbeats 4000000 in
set_option maxRecDepth 100000 in
theorem w_X9_readNumbers_0 (C : gC G p s m args meth c cX9_readNumbers 10 RX9) (hr : meth.sig.returnType = (some .int))  (a0 : Option Nat) (a1 : Int32) (a2 : Int32) (a3 : Int32) : gJ G p l e 2 42 mc ms s m args below meth c gri y 10 0 [(0, va_rf a0), (1, .int a1), (2, .int a2), (3, .int a3)] [] (f_X9_readNumbers  a0 a1 a2 a3) := by
  have hx := C.1
  have hb := C.2.1
  intro σ H locs cells slots ls hf I hl
  unfold f_X9_readNumbers at hf
  refine lv_iload_n hx hb dX9_readNumbers_0 rfl (lv_at hl 1 rfl) ?_
  refine lv_istore (lv' := [(4, .int a1), (0, va_rf a0), (1, .int a1), (2, .int a2), (3, .int a3)]) hx hb dX9_readNumbers_1 hl (by decide) rfl (fun ls hl => ?_)
  refine lv_lconst (v := 0) hx hb dX9_readNumbers_3 rfl ?_
  refine lv_lstore (lv' := [(5, .long 0), (4, .int a1), (0, va_rf a0), (1, .int a1), (2, .int a2), (3, .int a3)]) hx hb dX9_readNumbers_4 hl (by decide) rfl (fun ls hl => ?_)
  refine lv_iconst (v := 0) hx hb dX9_readNumbers_6 kc_i_0 ?_
  refine lv_istore (lv' := [(7, .int 0), (5, .long 0), (4, .int a1), (0, va_rf a0), (1, .int a1), (2, .int a2), (3, .int a3)]) hx hb dX9_readNumbers_7 hl (by decide) rfl (fun ls hl => ?_)
  exact w_X9_readNumbers_L9 C hr  _ a0 a2 a3 a1 0 0 _ _ _ _ _ _ hf I (lv_sub hl [3, 5, 6, 2, 1, 0] rfl)
end S_X9_readNumbers
theorem m_X9_readNumbers (G : gX) (l : Launch) (a0 : Option Nat) (a1 : Int32) (a2 : Int32) (a3 : Int32) : gMet G l yX9_readNumbers cX9_readNumbers 10 (some .int) 2 42 [va_rf a0, .int a1, .int a2, .int a3] gri (f_X9_readNumbers a0 a1 a2 a3) := by
  refine gMet_of (by decide) ?_
  intro σ y p e s m below meth c mc ms hf C hr hnm I
  obtain ⟨ls, e1, hl⟩ := gentry m [va_rf a0, .int a1, .int a2, .int a3] 10 [(0, va_rf a0), (1, .int a1), (2, .int a2), (3, .int a3)] (by simp [lg_sl, grc, gcat_i, gcat_l]) (by simp [lv_args, grc, gcat_i, gcat_l])
  rw [e1]
  exact w_X9_readNumbers_0 C hr a0 a1 a2 a3 _ _ _ _ _ _ hf I hl
def f_X9_readSix_194 (rec57 : Option Nat → Int32 → Int32 → Int32 → Int32 → gM Int32) (x0 : Option Nat) (x2 : Int32) (x3 : Int32) (x4 : Int32) (x5 : Int32) (x6 : Int32) (x7 : Int32) : gM Int32 := if x7 = 0 then (gp (-16)) else (gb (rR 8 17 x0) fun v1 => gb (sI 1 v1 x3 x6) fun _ => if x2 ≤ x5 then (rec57 x0 x2 (x3 + 1) x4 x5) else (gb (rR 8 11 x0) fun v2 => gb (aI 0 v2 x5) fun v3 => if v3 = 58 then (if (x5 + 1) = x2 then (gp (-16)) else (gb (rR 8 11 x0) fun v4 => gb (aI 0 v4 (x5 + 1)) fun v5 => if v5 = 58 then (if x4 < 0 then (rec57 x0 x2 (x3 + 1) (x3 + 1) ((x5 + 1) + 1)) else (gp (-16))) else (rec57 x0 x2 (x3 + 1) x4 (x5 + 1)))) else (gp (-16))))
def f_X9_readSix_142 (rec57 : Option Nat → Int32 → Int32 → Int32 → Int32 → gM Int32) (x0 : Option Nat) (x2 : Int32) (x3 : Int32) (x4 : Int32) (x5 : Int32) (x6 : Int32) (x7 : Int32) (x8 : Int32) : gM Int32 := if x2 ≤ x5 then (f_X9_readSix_194 rec57 x0 x2 x3 x4 x5 x6 x7) else (gb (rR 8 11 x0) fun v1 => gb (aI 0 v1 x5) fun v2 => if v2 = 46 then (if x7 = 0 then (gp (-16)) else (if 6 < x3 then (gp (-16)) else (gb (nn 8 x0) fun _ => gb (f_X9_readNumbers x0 x8 x2 x3) fun v3 => if v3 = 0 then (rec57 x0 x2 (x3 + 2) x4 x2) else (gp (-16))))) else (f_X9_readSix_194 rec57 x0 x2 x3 x4 x5 x6 x7))
def f_X9_readSix_82 (rec57 : Option Nat → Int32 → Int32 → Int32 → Int32 → gM Int32) (rec82 : Option Nat → Int32 → Int32 → Int32 → Int32 → Int32 → Int32 → Int32 → gM Int32) (x0 : Option Nat) (x2 : Int32) (x3 : Int32) (x4 : Int32) (x5 : Int32) (x6 : Int32) (x7 : Int32) (x8 : Int32) : gM Int32 := if x2 ≤ x5 then (f_X9_readSix_142 rec57 x0 x2 x3 x4 x5 x6 x7 x8) else (if 4 ≤ x7 then (f_X9_readSix_142 rec57 x0 x2 x3 x4 x5 x6 x7 x8) else (gb (rR 8 11 x0) fun v1 => gb (aI 0 v1 x5) fun v2 => gb (f_X9_hex (v2 &&& 255)) fun v3 => if v3 < 0 then (f_X9_readSix_142 rec57 x0 x2 x3 x4 x5 x6 x7 x8) else (gb (rR 8 11 x0) fun v4 => gb (aI 0 v4 x5) fun v5 => gb (f_X9_hex (v5 &&& 255)) fun v6 => rec82 x0 x2 x3 x4 (x5 + 1) ((16 * x6) + v6) (x7 + 1) x8)))
def f_X9_readSix_L82 (rec57 : Option Nat → Int32 → Int32 → Int32 → Int32 → gM Int32) : Nat → Option Nat → Int32 → Int32 → Int32 → Int32 → Int32 → Int32 → Int32 → gM Int32
  | 0, _, _, _, _, _, _, _, _ => gno
  | n + 1, x0, x2, x3, x4, x5, x6, x7, x8 => f_X9_readSix_82 rec57 (f_X9_readSix_L82 rec57 n) x0 x2 x3 x4 x5 x6 x7 x8
def f_X9_readSix_349 (rec349 : Option Nat → Int32 → Int32 → gM Int32) (x0 : Option Nat) (x6 : Int32) (x7 : Int32) : gM Int32 := if (8 - x6) ≤ x7 then (gp 0) else (gb (rR 8 17 x0) fun v1 => gb (sI 1 v1 x7 0) fun _ => rec349 x0 x6 (x7 + 1))
def f_X9_readSix_L349  : Nat → Option Nat → Int32 → Int32 → gM Int32
  | 0, _, _, _ => gno
  | n + 1, x0, x6, x7 => f_X9_readSix_349  (f_X9_readSix_L349  n) x0 x6 x7
def f_X9_readSix_311 (rec311 : Option Nat → Int32 → Int32 → Int32 → Int32 → gM Int32) (x0 : Option Nat) (x3 : Int32) (x4 : Int32) (x6 : Int32) (x7 : Int32) : gM Int32 := if x6 ≤ x7 then (f_X9_readSix_L349  gF x0 x6 x4) else (gb (rR 8 17 x0) fun v1 => gb (rR 8 17 x0) fun v2 => gb (aI 1 v2 ((x3 - 1) - x7)) fun v3 => gb (sI 1 v1 (7 - x7) v3) fun _ => rec311 x0 x3 x4 x6 (x7 + 1))
def f_X9_readSix_L311  : Nat → Option Nat → Int32 → Int32 → Int32 → Int32 → gM Int32
  | 0, _, _, _, _, _ => gno
  | n + 1, x0, x3, x4, x6, x7 => f_X9_readSix_311  (f_X9_readSix_L311  n) x0 x3 x4 x6 x7
def f_X9_readSix_297  (x0 : Option Nat) (x3 : Int32) (x4 : Int32) : gM Int32 := if x4 < 0 then (gp 0) else (f_X9_readSix_L311  gF x0 x3 x4 (x3 - x4) 0)
def f_X9_readSix_57 (rec57 : Option Nat → Int32 → Int32 → Int32 → Int32 → gM Int32) (x0 : Option Nat) (x2 : Int32) (x3 : Int32) (x4 : Int32) (x5 : Int32) : gM Int32 := if x2 ≤ x5 then (if 0 ≤ x4 then (if x3 = 8 then (gp (-16)) else (f_X9_readSix_297  x0 x3 x4)) else (if x3 = 8 then (f_X9_readSix_297  x0 x3 x4) else (gp (-16)))) else (if x3 = 8 then (gp (-16)) else (f_X9_readSix_L82 rec57 gF x0 x2 x3 x4 x5 0 0 x5))
def f_X9_readSix_L57  : Nat → Option Nat → Int32 → Int32 → Int32 → Int32 → gM Int32
  | 0, _, _, _, _, _ => gno
  | n + 1, x0, x2, x3, x4, x5 => f_X9_readSix_57  (f_X9_readSix_L57  n) x0 x2 x3 x4 x5
def f_X9_readSix  (a0 : Option Nat) (a1 : Int32) (a2 : Int32) : gM Int32 := if a2 ≤ a1 then (f_X9_readSix_L57  gF a0 a2 0 (-1) a1) else (gb (rR 8 11 a0) fun v1 => gb (aI 0 v1 a1) fun v2 => if v2 = 58 then (if a2 ≤ (a1 + 1) then (gp (-16)) else (gb (rR 8 11 a0) fun v3 => gb (aI 0 v3 (a1 + 1)) fun v4 => if v4 = 58 then (f_X9_readSix_L57  gF a0 a2 0 0 (a1 + 2)) else (gp (-16)))) else (f_X9_readSix_L57  gF a0 a2 0 (-1) a1))
section S_X9_readSix
variable {G : gX} {p : Program} {l : Launch} {e : Env} {s : State} {m : MethodId} {args : Array Value} {below : List Frame} {meth : Method} {c : Code} {mc ms : Nat} {y : Int32 × gS}
set_option maxHeartbeats 4000000 in
set_option maxRecDepth 100000 in
theorem w_X9_readSix_194 (C : gC G p s m args meth c cX9_readSix 9 RX9) (hr : meth.sig.returnType = (some .int)) {rec57 : Option Nat → Int32 → Int32 → Int32 → Int32 → gM Int32} (hrec57 : ∀ (x0 : Option Nat) (x2 : Int32) (x3 : Int32) (x4 : Int32) (x5 : Int32), gJ G p l e 3 71 mc ms s m args below meth c gri y 9 57 [(0, va_rf x0), (2, .int x2), (3, .int x3), (4, .int x4), (5, .int x5)] [] (rec57 x0 x2 x3 x4 x5)) (x0 : Option Nat) (x2 : Int32) (x3 : Int32) (x4 : Int32) (x5 : Int32) (x6 : Int32) (x7 : Int32) : gJ G p l e 3 71 mc ms s m args below meth c gri y 9 194 [(0, va_rf x0), (2, .int x2), (3, .int x3), (4, .int x4), (5, .int x5), (6, .int x6), (7, .int x7)] [] (f_X9_readSix_194 rec57 x0 x2 x3 x4 x5 x6 x7) := by
  have hx := C.1
  have hb := C.2.1
  intro σ H locs cells slots ls hf I hl
  unfold f_X9_readSix_194 at hf
  refine lv_iload hx hb dX9_readSix_194 (lv_at hl 6 rfl) ?_
  refine lv_if_ne (tgt := 202) hx hb dX9_readSix_196 (by decide) (fun hq => ?_) (fun hq => ?_)
  · have hf := giff hq hf
    refine gw_aload_n hx hb dX9_readSix_202 rfl (lv_at hl 0 rfl) ?_
    refine gw_getr (k := 17) C I gcls_8 (by decide) rfl kw_178 dX9_readSix_203 hf (fun v1 hf => ?_)
    refine lv_iload_n hx hb dX9_readSix_206 rfl (lv_at hl 2 rfl) ?_
    refine lv_iload hx hb dX9_readSix_207 (lv_at hl 5 rfl) ?_
    refine gw_iast C I dX9_readSix_209 hf (fun σ H locs I hf => ?_)
    refine lv_iinc (v := x3 + 1) (lv' := [(3, .int (x3 + 1)), (0, va_rf x0), (2, .int x2), (4, .int x4), (5, .int x5), (6, .int x6), (7, .int x7)]) hx hb dX9_readSix_210 hl (k := 2) rfl rfl (by decide) rfl (fun ls hl => ?_)
    refine lv_iload hx hb dX9_readSix_213 (lv_at hl 4 rfl) ?_
    refine lv_iload_n hx hb dX9_readSix_215 rfl (lv_at hl 2 rfl) ?_
    refine lv_icmp_ge (tgt := 271) hx hb dX9_readSix_216 (by decide) (fun hq => ?_) (fun hq => ?_)
    · have hf := gift hq hf
      refine lv_goto (tgt := 57) hx hb dX9_readSix_271 (by decide) ?_
      exact hrec57 x0 x2 (x3 + 1) x4 x5 _ _ _ _ _ _ hf I (lv_sub hl [1, 2, 0, 3, 4] rfl)
    · have hf := giff hq hf
      refine gw_aload_n hx hb dX9_readSix_219 rfl (lv_at hl 1 rfl) ?_
      refine gw_getr (k := 11) C I gcls_8 (by decide) rfl kw_176 dX9_readSix_220 hf (fun v2 hf => ?_)
      refine lv_iload hx hb dX9_readSix_223 (lv_at hl 4 rfl) ?_
      refine gw_bald C I dX9_readSix_225 hf (fun v3 hf => ?_)
      refine lv_bipush (v := 58) hx hb dX9_readSix_226 kc_b_58 ?_
      refine lv_icmp_ne (tgt := 239) hx hb dX9_readSix_228 (by decide) (fun hq => ?_) (fun hq => ?_)
      · have hf := giff hq hf
        refine lv_bipush (v := (-16)) hx hb dX9_readSix_239 kc_b_m16 ?_
        exact gw_iret C I hr dX9_readSix_241 hf
      · have hf := gift hq hf
        refine lv_iload hx hb dX9_readSix_231 (lv_at hl 4 rfl) ?_
        refine lv_iconst (v := 1) hx hb dX9_readSix_233 kc_i_1 ?_
        refine lv_iadd hx hb dX9_readSix_234 ?_
        refine lv_iload_n hx hb dX9_readSix_235 rfl (lv_at hl 2 rfl) ?_
        refine lv_icmp_ne (tgt := 242) hx hb dX9_readSix_236 (by decide) (fun hq => ?_) (fun hq => ?_)
        · have hf := giff hq hf
          refine lv_iinc (v := x5 + 1) (lv' := [(5, .int (x5 + 1)), (3, .int (x3 + 1)), (0, va_rf x0), (2, .int x2), (4, .int x4), (6, .int x6), (7, .int x7)]) hx hb dX9_readSix_242 hl (k := 4) rfl rfl (by decide) rfl (fun ls hl => ?_)
          refine gw_aload_n hx hb dX9_readSix_245 rfl (lv_at hl 2 rfl) ?_
          refine gw_getr (k := 11) C I gcls_8 (by decide) rfl kw_176 dX9_readSix_246 hf (fun v4 hf => ?_)
          refine lv_iload hx hb dX9_readSix_249 (lv_at hl 0 rfl) ?_
          refine gw_bald C I dX9_readSix_251 hf (fun v5 hf => ?_)
          refine lv_bipush (v := 58) hx hb dX9_readSix_252 kc_b_58 ?_
          refine lv_icmp_ne (tgt := 271) hx hb dX9_readSix_254 (by decide) (fun hq => ?_) (fun hq => ?_)
          · have hf := giff hq hf
            refine lv_goto (tgt := 57) hx hb dX9_readSix_271 (by decide) ?_
            exact hrec57 x0 x2 (x3 + 1) x4 (x5 + 1) _ _ _ _ _ _ hf I (lv_sub hl [2, 3, 1, 4, 0] rfl)
          · have hf := gift hq hf
            refine lv_iload hx hb dX9_readSix_257 (lv_at hl 4 rfl) ?_
            refine lv_if_lt (tgt := 265) hx hb dX9_readSix_259 (by decide) (fun hq => ?_) (fun hq => ?_)
            · have hf := gift hq hf
              refine lv_iload_n hx hb dX9_readSix_265 rfl (lv_at hl 1 rfl) ?_
              refine lv_istore (lv' := [(4, .int (x3 + 1)), (5, .int (x5 + 1)), (3, .int (x3 + 1)), (0, va_rf x0), (2, .int x2), (6, .int x6), (7, .int x7)]) hx hb dX9_readSix_266 hl (by decide) rfl (fun ls hl => ?_)
              refine lv_iinc (v := (x5 + 1) + 1) (lv' := [(5, .int ((x5 + 1) + 1)), (4, .int (x3 + 1)), (3, .int (x3 + 1)), (0, va_rf x0), (2, .int x2), (6, .int x6), (7, .int x7)]) hx hb dX9_readSix_268 hl (k := 1) rfl rfl (by decide) rfl (fun ls hl => ?_)
              refine lv_goto (tgt := 57) hx hb dX9_readSix_271 (by decide) ?_
              exact hrec57 x0 x2 (x3 + 1) (x3 + 1) ((x5 + 1) + 1) _ _ _ _ _ _ hf I (lv_sub hl [3, 4, 2, 1, 0] rfl)
            · have hf := giff hq hf
              refine lv_bipush (v := (-16)) hx hb dX9_readSix_262 kc_b_m16 ?_
              exact gw_iret C I hr dX9_readSix_264 hf
        · have hf := gift hq hf
          refine lv_bipush (v := (-16)) hx hb dX9_readSix_239 kc_b_m16 ?_
          exact gw_iret C I hr dX9_readSix_241 hf
  · have hf := gift hq hf
    refine lv_bipush (v := (-16)) hx hb dX9_readSix_199 kc_b_m16 ?_
    exact gw_iret C I hr dX9_readSix_201 hf
set_option maxHeartbeats 4000000 in
set_option maxRecDepth 100000 in
theorem w_X9_readSix_142 (C : gC G p s m args meth c cX9_readSix 9 RX9) (hr : meth.sig.returnType = (some .int)) {rec57 : Option Nat → Int32 → Int32 → Int32 → Int32 → gM Int32} (hrec57 : ∀ (x0 : Option Nat) (x2 : Int32) (x3 : Int32) (x4 : Int32) (x5 : Int32), gJ G p l e 3 71 mc ms s m args below meth c gri y 9 57 [(0, va_rf x0), (2, .int x2), (3, .int x3), (4, .int x4), (5, .int x5)] [] (rec57 x0 x2 x3 x4 x5)) (x0 : Option Nat) (x2 : Int32) (x3 : Int32) (x4 : Int32) (x5 : Int32) (x6 : Int32) (x7 : Int32) (x8 : Int32) : gJ G p l e 3 71 mc ms s m args below meth c gri y 9 142 [(0, va_rf x0), (2, .int x2), (3, .int x3), (4, .int x4), (5, .int x5), (6, .int x6), (7, .int x7), (8, .int x8)] [] (f_X9_readSix_142 rec57 x0 x2 x3 x4 x5 x6 x7 x8) := by
  have hx := C.1
  have hb := C.2.1
  intro σ H locs cells slots ls hf I hl
  unfold f_X9_readSix_142 at hf
  refine lv_iload hx hb dX9_readSix_142 (lv_at hl 4 rfl) ?_
  refine lv_iload_n hx hb dX9_readSix_144 rfl (lv_at hl 1 rfl) ?_
  refine lv_icmp_ge (tgt := 194) hx hb dX9_readSix_145 (by decide) (fun hq => ?_) (fun hq => ?_)
  · have hf := gift hq hf
    exact w_X9_readSix_194 C hr hrec57 x0 x2 x3 x4 x5 x6 x7 _ _ _ _ _ _ hf I (lv_sub hl [0, 1, 2, 3, 4, 5, 6] rfl)
  · have hf := giff hq hf
    refine gw_aload_n hx hb dX9_readSix_148 rfl (lv_at hl 0 rfl) ?_
    refine gw_getr (k := 11) C I gcls_8 (by decide) rfl kw_176 dX9_readSix_149 hf (fun v1 hf => ?_)
    refine lv_iload hx hb dX9_readSix_152 (lv_at hl 4 rfl) ?_
    refine gw_bald C I dX9_readSix_154 hf (fun v2 hf => ?_)
    refine lv_bipush (v := 46) hx hb dX9_readSix_155 kc_b_46 ?_
    refine lv_icmp_ne (tgt := 194) hx hb dX9_readSix_157 (by decide) (fun hq => ?_) (fun hq => ?_)
    · have hf := giff hq hf
      exact w_X9_readSix_194 C hr hrec57 x0 x2 x3 x4 x5 x6 x7 _ _ _ _ _ _ hf I (lv_sub hl [0, 1, 2, 3, 4, 5, 6] rfl)
    · have hf := gift hq hf
      refine lv_iload hx hb dX9_readSix_160 (lv_at hl 6 rfl) ?_
      refine lv_if_eq (tgt := 182) hx hb dX9_readSix_162 (by decide) (fun hq => ?_) (fun hq => ?_)
      · have hf := gift hq hf
        refine lv_bipush (v := (-16)) hx hb dX9_readSix_182 kc_b_m16 ?_
        exact gw_iret C I hr dX9_readSix_184 hf
      · have hf := giff hq hf
        refine lv_iload_n hx hb dX9_readSix_165 rfl (lv_at hl 2 rfl) ?_
        refine lv_bipush (v := 6) hx hb dX9_readSix_166 kc_b_6 ?_
        refine lv_icmp_gt (tgt := 182) hx hb dX9_readSix_168 (by decide) (fun hq => ?_) (fun hq => ?_)
        · have hf := gift hq hf
          refine lv_bipush (v := (-16)) hx hb dX9_readSix_182 kc_b_m16 ?_
          exact gw_iret C I hr dX9_readSix_184 hf
        · have hf := giff hq hf
          refine gw_aload_n hx hb dX9_readSix_171 rfl (lv_at hl 0 rfl) ?_
          refine lv_iload hx hb dX9_readSix_172 (lv_at hl 7 rfl) ?_
          refine lv_iload_n hx hb dX9_readSix_174 rfl (lv_at hl 1 rfl) ?_
          refine lv_iload_n hx hb dX9_readSix_175 rfl (lv_at hl 2 rfl) ?_
          refine gw_callV (rest := []) C I hl.1 gcls_8 (m_X9_readNumbers G l x0 x8 x2 x3) gl_RX9_260 gn_X9_readNumbers ⟨Nat.le_of_ble_eq_true rfl, Nat.le_of_ble_eq_true rfl⟩ rfl (gc4 (Nat.le_of_ble_eq_true rfl)) rfl dX9_readSix_176 hf (fun v3 σ H locs cells slots I hf => ?_)
          refine W.eq (g2 := F0 m 179 ls [.int v3]) rfl ?_
          refine lv_if_eq (tgt := 185) hx hb dX9_readSix_179 (by decide) (fun hq => ?_) (fun hq => ?_)
          · have hf := gift hq hf
            refine lv_iinc (v := x3 + 2) (lv' := [(3, .int (x3 + 2)), (0, va_rf x0), (2, .int x2), (4, .int x4), (5, .int x5), (6, .int x6), (7, .int x7), (8, .int x8)]) hx hb dX9_readSix_185 hl (k := 2) rfl rfl (by decide) rfl (fun ls hl => ?_)
            refine lv_iload_n hx hb dX9_readSix_188 rfl (lv_at hl 2 rfl) ?_
            refine lv_istore (lv' := [(5, .int x2), (3, .int (x3 + 2)), (0, va_rf x0), (2, .int x2), (4, .int x4), (6, .int x6), (7, .int x7), (8, .int x8)]) hx hb dX9_readSix_189 hl (by decide) rfl (fun ls hl => ?_)
            refine lv_goto (tgt := 271) hx hb dX9_readSix_191 (by decide) ?_
            refine lv_goto (tgt := 57) hx hb dX9_readSix_271 (by decide) ?_
            exact hrec57 x0 x2 (x3 + 2) x4 x2 _ _ _ _ _ _ hf I (lv_sub hl [2, 3, 1, 4, 0] rfl)
          · have hf := giff hq hf
            refine lv_bipush (v := (-16)) hx hb dX9_readSix_182 kc_b_m16 ?_
            exact gw_iret C I hr dX9_readSix_184 hf
set_option maxHeartbeats 4000000 in
set_option maxRecDepth 100000 in
theorem w_X9_readSix_82 (C : gC G p s m args meth c cX9_readSix 9 RX9) (hr : meth.sig.returnType = (some .int)) {rec57 : Option Nat → Int32 → Int32 → Int32 → Int32 → gM Int32} (hrec57 : ∀ (x0 : Option Nat) (x2 : Int32) (x3 : Int32) (x4 : Int32) (x5 : Int32), gJ G p l e 3 71 mc ms s m args below meth c gri y 9 57 [(0, va_rf x0), (2, .int x2), (3, .int x3), (4, .int x4), (5, .int x5)] [] (rec57 x0 x2 x3 x4 x5)) {rec82 : Option Nat → Int32 → Int32 → Int32 → Int32 → Int32 → Int32 → Int32 → gM Int32} (hrec82 : ∀ (x0 : Option Nat) (x2 : Int32) (x3 : Int32) (x4 : Int32) (x5 : Int32) (x6 : Int32) (x7 : Int32) (x8 : Int32), gJ G p l e 3 71 mc ms s m args below meth c gri y 9 82 [(0, va_rf x0), (2, .int x2), (3, .int x3), (4, .int x4), (5, .int x5), (6, .int x6), (7, .int x7), (8, .int x8)] [] (rec82 x0 x2 x3 x4 x5 x6 x7 x8)) (x0 : Option Nat) (x2 : Int32) (x3 : Int32) (x4 : Int32) (x5 : Int32) (x6 : Int32) (x7 : Int32) (x8 : Int32) : gJ G p l e 3 71 mc ms s m args below meth c gri y 9 82 [(0, va_rf x0), (2, .int x2), (3, .int x3), (4, .int x4), (5, .int x5), (6, .int x6), (7, .int x7), (8, .int x8)] [] (f_X9_readSix_82 rec57 rec82 x0 x2 x3 x4 x5 x6 x7 x8) := by
  have hx := C.1
  have hb := C.2.1
  intro σ H locs cells slots ls hf I hl
  unfold f_X9_readSix_82 at hf
  refine lv_iload hx hb dX9_readSix_82 (lv_at hl 4 rfl) ?_
  refine lv_iload_n hx hb dX9_readSix_84 rfl (lv_at hl 1 rfl) ?_
  refine lv_icmp_ge (tgt := 142) hx hb dX9_readSix_85 (by decide) (fun hq => ?_) (fun hq => ?_)
  · have hf := gift hq hf
    exact w_X9_readSix_142 C hr hrec57 x0 x2 x3 x4 x5 x6 x7 x8 _ _ _ _ _ _ hf I (lv_sub hl [0, 1, 2, 3, 4, 5, 6, 7] rfl)
  · have hf := giff hq hf
    refine lv_iload hx hb dX9_readSix_88 (lv_at hl 6 rfl) ?_
    refine lv_iconst (v := 4) hx hb dX9_readSix_90 kc_i_4 ?_
    refine lv_icmp_ge (tgt := 142) hx hb dX9_readSix_91 (by decide) (fun hq => ?_) (fun hq => ?_)
    · have hf := gift hq hf
      exact w_X9_readSix_142 C hr hrec57 x0 x2 x3 x4 x5 x6 x7 x8 _ _ _ _ _ _ hf I (lv_sub hl [0, 1, 2, 3, 4, 5, 6, 7] rfl)
    · have hf := giff hq hf
      refine gw_aload_n hx hb dX9_readSix_94 rfl (lv_at hl 0 rfl) ?_
      refine gw_getr (k := 11) C I gcls_8 (by decide) rfl kw_176 dX9_readSix_95 hf (fun v1 hf => ?_)
      refine lv_iload hx hb dX9_readSix_98 (lv_at hl 4 rfl) ?_
      refine gw_bald C I dX9_readSix_100 hf (fun v2 hf => ?_)
      refine lv_sipush (v := 255) hx hb dX9_readSix_101 kc_s_255 ?_
      refine lv_iand hx hb dX9_readSix_104 ?_
      refine gw_callS (rest := []) C I hl.1 (m_X9_hex G l (v2 &&& 255)) gl_RX9_237 kw_204 ⟨Nat.le_of_ble_eq_true rfl, Nat.le_of_ble_eq_true rfl⟩ rfl (gc4 (Nat.le_of_ble_eq_true rfl)) rfl dX9_readSix_105 hf (fun v3 σ H locs cells slots I hf => ?_)
      refine W.eq (g2 := F0 m 108 ls [.int v3]) rfl ?_
      refine lv_if_lt (tgt := 142) hx hb dX9_readSix_108 (by decide) (fun hq => ?_) (fun hq => ?_)
      · have hf := gift hq hf
        exact w_X9_readSix_142 C hr hrec57 x0 x2 x3 x4 x5 x6 x7 x8 _ _ _ _ _ _ hf I (lv_sub hl [0, 1, 2, 3, 4, 5, 6, 7] rfl)
      · have hf := giff hq hf
        refine lv_bipush (v := 16) hx hb dX9_readSix_111 kc_b_16 ?_
        refine lv_iload hx hb dX9_readSix_113 (lv_at hl 5 rfl) ?_
        refine lv_imul hx hb dX9_readSix_115 ?_
        refine gw_aload_n hx hb dX9_readSix_116 rfl (lv_at hl 0 rfl) ?_
        refine gw_getr (k := 11) C I gcls_8 (by decide) rfl kw_176 dX9_readSix_117 hf (fun v4 hf => ?_)
        refine lv_iload hx hb dX9_readSix_120 (lv_at hl 4 rfl) ?_
        refine gw_bald C I dX9_readSix_122 hf (fun v5 hf => ?_)
        refine lv_sipush (v := 255) hx hb dX9_readSix_123 kc_s_255 ?_
        refine lv_iand hx hb dX9_readSix_126 ?_
        refine gw_callS (rest := [.int (16 * x6)]) C I hl.1 (m_X9_hex G l (v5 &&& 255)) gl_RX9_237 kw_204 ⟨Nat.le_of_ble_eq_true rfl, Nat.le_of_ble_eq_true rfl⟩ rfl (gc4 (Nat.le_of_ble_eq_true rfl)) rfl dX9_readSix_127 hf (fun v6 σ H locs cells slots I hf => ?_)
        refine W.eq (g2 := F0 m 130 ls [.int v6, .int (16 * x6)]) rfl ?_
        refine lv_iadd hx hb dX9_readSix_130 ?_
        refine lv_istore (lv' := [(6, .int ((16 * x6) + v6)), (0, va_rf x0), (2, .int x2), (3, .int x3), (4, .int x4), (5, .int x5), (7, .int x7), (8, .int x8)]) hx hb dX9_readSix_131 hl (by decide) rfl (fun ls hl => ?_)
        refine lv_iinc (v := x5 + 1) (lv' := [(5, .int (x5 + 1)), (6, .int ((16 * x6) + v6)), (0, va_rf x0), (2, .int x2), (3, .int x3), (4, .int x4), (7, .int x7), (8, .int x8)]) hx hb dX9_readSix_133 hl (k := 5) rfl rfl (by decide) rfl (fun ls hl => ?_)
        refine lv_iinc (v := x7 + 1) (lv' := [(7, .int (x7 + 1)), (5, .int (x5 + 1)), (6, .int ((16 * x6) + v6)), (0, va_rf x0), (2, .int x2), (3, .int x3), (4, .int x4), (8, .int x8)]) hx hb dX9_readSix_136 hl (k := 6) rfl rfl (by decide) rfl (fun ls hl => ?_)
        refine lv_goto (tgt := 82) hx hb dX9_readSix_139 (by decide) ?_
        exact hrec82 x0 x2 x3 x4 (x5 + 1) ((16 * x6) + v6) (x7 + 1) x8 _ _ _ _ _ _ hf I (lv_sub hl [3, 4, 5, 6, 1, 2, 0, 7] rfl)
theorem w_X9_readSix_L82 (C : gC G p s m args meth c cX9_readSix 9 RX9) (hr : meth.sig.returnType = (some .int)) {rec57 : Option Nat → Int32 → Int32 → Int32 → Int32 → gM Int32} (hrec57 : ∀ (x0 : Option Nat) (x2 : Int32) (x3 : Int32) (x4 : Int32) (x5 : Int32), gJ G p l e 3 71 mc ms s m args below meth c gri y 9 57 [(0, va_rf x0), (2, .int x2), (3, .int x3), (4, .int x4), (5, .int x5)] [] (rec57 x0 x2 x3 x4 x5)) : ∀ (n : Nat) (x0 : Option Nat) (x2 : Int32) (x3 : Int32) (x4 : Int32) (x5 : Int32) (x6 : Int32) (x7 : Int32) (x8 : Int32), gJ G p l e 3 71 mc ms s m args below meth c gri y 9 82 [(0, va_rf x0), (2, .int x2), (3, .int x3), (4, .int x4), (5, .int x5), (6, .int x6), (7, .int x7), (8, .int x8)] [] (f_X9_readSix_L82 rec57 n x0 x2 x3 x4 x5 x6 x7 x8) := by
  intro n
  induction n with
  | zero => intro x0 x2 x3 x4 x5 x6 x7 x8 σ H locs cells slots ls hf; exact (gno_some hf).elim
  | succ n ih => intro x0 x2 x3 x4 x5 x6 x7 x8; exact w_X9_readSix_82 C hr hrec57 ih x0 x2 x3 x4 x5 x6 x7 x8
set_option maxHeartbeats 4000000 in
set_option maxRecDepth 100000 in
theorem w_X9_readSix_349 (C : gC G p s m args meth c cX9_readSix 9 RX9) (hr : meth.sig.returnType = (some .int)) {rec349 : Option Nat → Int32 → Int32 → gM Int32} (hrec349 : ∀ (x0 : Option Nat) (x6 : Int32) (x7 : Int32), gJ G p l e 3 71 mc ms s m args below meth c gri y 9 349 [(0, va_rf x0), (6, .int x6), (7, .int x7)] [] (rec349 x0 x6 x7)) (x0 : Option Nat) (x6 : Int32) (x7 : Int32) : gJ G p l e 3 71 mc ms s m args below meth c gri y 9 349 [(0, va_rf x0), (6, .int x6), (7, .int x7)] [] (f_X9_readSix_349 rec349 x0 x6 x7) := by
  have hx := C.1
  have hb := C.2.1
  intro σ H locs cells slots ls hf I hl
  unfold f_X9_readSix_349 at hf
  refine lv_iload hx hb dX9_readSix_349 (lv_at hl 2 rfl) ?_
  refine lv_bipush (v := 8) hx hb dX9_readSix_351 kc_b_8 ?_
  refine lv_iload hx hb dX9_readSix_353 (lv_at hl 1 rfl) ?_
  refine lv_isub hx hb dX9_readSix_355 ?_
  refine lv_icmp_ge (tgt := 373) hx hb dX9_readSix_356 (by decide) (fun hq => ?_) (fun hq => ?_)
  · have hf := gift hq hf
    refine lv_iconst (v := 0) hx hb dX9_readSix_373 kc_i_0 ?_
    exact gw_iret C I hr dX9_readSix_374 hf
  · have hf := giff hq hf
    refine gw_aload_n hx hb dX9_readSix_359 rfl (lv_at hl 0 rfl) ?_
    refine gw_getr (k := 17) C I gcls_8 (by decide) rfl kw_178 dX9_readSix_360 hf (fun v1 hf => ?_)
    refine lv_iload hx hb dX9_readSix_363 (lv_at hl 2 rfl) ?_
    refine lv_iconst (v := 0) hx hb dX9_readSix_365 kc_i_0 ?_
    refine gw_iast C I dX9_readSix_366 hf (fun σ H locs I hf => ?_)
    refine lv_iinc (v := x7 + 1) (lv' := [(7, .int (x7 + 1)), (0, va_rf x0), (6, .int x6)]) hx hb dX9_readSix_367 hl (k := 2) rfl rfl (by decide) rfl (fun ls hl => ?_)
    refine lv_goto (tgt := 349) hx hb dX9_readSix_370 (by decide) ?_
    exact hrec349 x0 x6 (x7 + 1) _ _ _ _ _ _ hf I (lv_sub hl [1, 2, 0] rfl)
theorem w_X9_readSix_L349 (C : gC G p s m args meth c cX9_readSix 9 RX9) (hr : meth.sig.returnType = (some .int))  : ∀ (n : Nat) (x0 : Option Nat) (x6 : Int32) (x7 : Int32), gJ G p l e 3 71 mc ms s m args below meth c gri y 9 349 [(0, va_rf x0), (6, .int x6), (7, .int x7)] [] (f_X9_readSix_L349  n x0 x6 x7) := by
  intro n
  induction n with
  | zero => intro x0 x6 x7 σ H locs cells slots ls hf; exact (gno_some hf).elim
  | succ n ih => intro x0 x6 x7; exact w_X9_readSix_349 C hr  ih x0 x6 x7
set_option maxHeartbeats 4000000 in
set_option maxRecDepth 100000 in
theorem w_X9_readSix_311 (C : gC G p s m args meth c cX9_readSix 9 RX9) (hr : meth.sig.returnType = (some .int)) {rec311 : Option Nat → Int32 → Int32 → Int32 → Int32 → gM Int32} (hrec311 : ∀ (x0 : Option Nat) (x3 : Int32) (x4 : Int32) (x6 : Int32) (x7 : Int32), gJ G p l e 3 71 mc ms s m args below meth c gri y 9 311 [(0, va_rf x0), (3, .int x3), (4, .int x4), (6, .int x6), (7, .int x7)] [] (rec311 x0 x3 x4 x6 x7)) (x0 : Option Nat) (x3 : Int32) (x4 : Int32) (x6 : Int32) (x7 : Int32) : gJ G p l e 3 71 mc ms s m args below meth c gri y 9 311 [(0, va_rf x0), (3, .int x3), (4, .int x4), (6, .int x6), (7, .int x7)] [] (f_X9_readSix_311 rec311 x0 x3 x4 x6 x7) := by
  have hx := C.1
  have hb := C.2.1
  intro σ H locs cells slots ls hf I hl
  unfold f_X9_readSix_311 at hf
  refine lv_iload hx hb dX9_readSix_311 (lv_at hl 4 rfl) ?_
  refine lv_iload hx hb dX9_readSix_313 (lv_at hl 3 rfl) ?_
  refine lv_icmp_ge (tgt := 345) hx hb dX9_readSix_315 (by decide) (fun hq => ?_) (fun hq => ?_)
  · have hf := gift hq hf
    refine lv_iload hx hb dX9_readSix_345 (lv_at hl 2 rfl) ?_
    refine lv_istore (lv' := [(7, .int x4), (0, va_rf x0), (3, .int x3), (4, .int x4), (6, .int x6)]) hx hb dX9_readSix_347 hl (by decide) rfl (fun ls hl => ?_)
    exact w_X9_readSix_L349 C hr  _ x0 x6 x4 _ _ _ _ _ _ hf I (lv_sub hl [1, 4, 0] rfl)
  · have hf := giff hq hf
    refine gw_aload_n hx hb dX9_readSix_318 rfl (lv_at hl 0 rfl) ?_
    refine gw_getr (k := 17) C I gcls_8 (by decide) rfl kw_178 dX9_readSix_319 hf (fun v1 hf => ?_)
    refine lv_bipush (v := 7) hx hb dX9_readSix_322 kc_b_7 ?_
    refine lv_iload hx hb dX9_readSix_324 (lv_at hl 4 rfl) ?_
    refine lv_isub hx hb dX9_readSix_326 ?_
    refine gw_aload_n hx hb dX9_readSix_327 rfl (lv_at hl 0 rfl) ?_
    refine gw_getr (k := 17) C I gcls_8 (by decide) rfl kw_178 dX9_readSix_328 hf (fun v2 hf => ?_)
    refine lv_iload_n hx hb dX9_readSix_331 rfl (lv_at hl 1 rfl) ?_
    refine lv_iconst (v := 1) hx hb dX9_readSix_332 kc_i_1 ?_
    refine lv_isub hx hb dX9_readSix_333 ?_
    refine lv_iload hx hb dX9_readSix_334 (lv_at hl 4 rfl) ?_
    refine lv_isub hx hb dX9_readSix_336 ?_
    refine gw_iald C I dX9_readSix_337 hf (fun v3 hf => ?_)
    refine gw_iast C I dX9_readSix_338 hf (fun σ H locs I hf => ?_)
    refine lv_iinc (v := x7 + 1) (lv' := [(7, .int (x7 + 1)), (0, va_rf x0), (3, .int x3), (4, .int x4), (6, .int x6)]) hx hb dX9_readSix_339 hl (k := 4) rfl rfl (by decide) rfl (fun ls hl => ?_)
    refine lv_goto (tgt := 311) hx hb dX9_readSix_342 (by decide) ?_
    exact hrec311 x0 x3 x4 x6 (x7 + 1) _ _ _ _ _ _ hf I (lv_sub hl [1, 2, 3, 4, 0] rfl)
theorem w_X9_readSix_L311 (C : gC G p s m args meth c cX9_readSix 9 RX9) (hr : meth.sig.returnType = (some .int))  : ∀ (n : Nat) (x0 : Option Nat) (x3 : Int32) (x4 : Int32) (x6 : Int32) (x7 : Int32), gJ G p l e 3 71 mc ms s m args below meth c gri y 9 311 [(0, va_rf x0), (3, .int x3), (4, .int x4), (6, .int x6), (7, .int x7)] [] (f_X9_readSix_L311  n x0 x3 x4 x6 x7) := by
  intro n
  induction n with
  | zero => intro x0 x3 x4 x6 x7 σ H locs cells slots ls hf; exact (gno_some hf).elim
  | succ n ih => intro x0 x3 x4 x6 x7; exact w_X9_readSix_311 C hr  ih x0 x3 x4 x6 x7
set_option maxHeartbeats 4000000 in
set_option maxRecDepth 100000 in
theorem w_X9_readSix_297 (C : gC G p s m args meth c cX9_readSix 9 RX9) (hr : meth.sig.returnType = (some .int))  (x0 : Option Nat) (x3 : Int32) (x4 : Int32) : gJ G p l e 3 71 mc ms s m args below meth c gri y 9 297 [(0, va_rf x0), (3, .int x3), (4, .int x4)] [] (f_X9_readSix_297  x0 x3 x4) := by
  have hx := C.1
  have hb := C.2.1
  intro σ H locs cells slots ls hf I hl
  unfold f_X9_readSix_297 at hf
  refine lv_iload hx hb dX9_readSix_297 (lv_at hl 2 rfl) ?_
  refine lv_if_lt (tgt := 373) hx hb dX9_readSix_299 (by decide) (fun hq => ?_) (fun hq => ?_)
  · have hf := gift hq hf
    refine lv_iconst (v := 0) hx hb dX9_readSix_373 kc_i_0 ?_
    exact gw_iret C I hr dX9_readSix_374 hf
  · have hf := giff hq hf
    refine lv_iload_n hx hb dX9_readSix_302 rfl (lv_at hl 1 rfl) ?_
    refine lv_iload hx hb dX9_readSix_303 (lv_at hl 2 rfl) ?_
    refine lv_isub hx hb dX9_readSix_305 ?_
    refine lv_istore (lv' := [(6, .int (x3 - x4)), (0, va_rf x0), (3, .int x3), (4, .int x4)]) hx hb dX9_readSix_306 hl (by decide) rfl (fun ls hl => ?_)
    refine lv_iconst (v := 0) hx hb dX9_readSix_308 kc_i_0 ?_
    refine lv_istore (lv' := [(7, .int 0), (6, .int (x3 - x4)), (0, va_rf x0), (3, .int x3), (4, .int x4)]) hx hb dX9_readSix_309 hl (by decide) rfl (fun ls hl => ?_)
    exact w_X9_readSix_L311 C hr  _ x0 x3 x4 (x3 - x4) 0 _ _ _ _ _ _ hf I (lv_sub hl [2, 3, 4, 1, 0] rfl)
set_option maxHeartbeats 4000000 in
set_option maxRecDepth 100000 in
theorem w_X9_readSix_57 (C : gC G p s m args meth c cX9_readSix 9 RX9) (hr : meth.sig.returnType = (some .int)) {rec57 : Option Nat → Int32 → Int32 → Int32 → Int32 → gM Int32} (hrec57 : ∀ (x0 : Option Nat) (x2 : Int32) (x3 : Int32) (x4 : Int32) (x5 : Int32), gJ G p l e 3 71 mc ms s m args below meth c gri y 9 57 [(0, va_rf x0), (2, .int x2), (3, .int x3), (4, .int x4), (5, .int x5)] [] (rec57 x0 x2 x3 x4 x5)) (x0 : Option Nat) (x2 : Int32) (x3 : Int32) (x4 : Int32) (x5 : Int32) : gJ G p l e 3 71 mc ms s m args below meth c gri y 9 57 [(0, va_rf x0), (2, .int x2), (3, .int x3), (4, .int x4), (5, .int x5)] [] (f_X9_readSix_57 rec57 x0 x2 x3 x4 x5) := by
  have hx := C.1
  have hb := C.2.1
  intro σ H locs cells slots ls hf I hl
  unfold f_X9_readSix_57 at hf
  refine lv_iload hx hb dX9_readSix_57 (lv_at hl 4 rfl) ?_
  refine lv_iload_n hx hb dX9_readSix_59 rfl (lv_at hl 1 rfl) ?_
  refine lv_icmp_ge (tgt := 274) hx hb dX9_readSix_60 (by decide) (fun hq => ?_) (fun hq => ?_)
  · have hf := gift hq hf
    refine lv_iload hx hb dX9_readSix_274 (lv_at hl 3 rfl) ?_
    refine lv_if_ge (tgt := 288) hx hb dX9_readSix_276 (by decide) (fun hq => ?_) (fun hq => ?_)
    · have hf := gift hq hf
      refine lv_iload_n hx hb dX9_readSix_288 rfl (lv_at hl 2 rfl) ?_
      refine lv_bipush (v := 8) hx hb dX9_readSix_289 kc_b_8 ?_
      refine lv_icmp_ne (tgt := 297) hx hb dX9_readSix_291 (by decide) (fun hq => ?_) (fun hq => ?_)
      · have hf := giff hq hf
        exact w_X9_readSix_297 C hr  x0 x3 x4 _ _ _ _ _ _ hf I (lv_sub hl [0, 2, 3] rfl)
      · have hf := gift hq hf
        refine lv_bipush (v := (-16)) hx hb dX9_readSix_294 kc_b_m16 ?_
        exact gw_iret C I hr dX9_readSix_296 hf
    · have hf := giff hq hf
      refine lv_iload_n hx hb dX9_readSix_279 rfl (lv_at hl 2 rfl) ?_
      refine lv_bipush (v := 8) hx hb dX9_readSix_280 kc_b_8 ?_
      refine lv_icmp_eq (tgt := 297) hx hb dX9_readSix_282 (by decide) (fun hq => ?_) (fun hq => ?_)
      · have hf := gift hq hf
        exact w_X9_readSix_297 C hr  x0 x3 x4 _ _ _ _ _ _ hf I (lv_sub hl [0, 2, 3] rfl)
      · have hf := giff hq hf
        refine lv_goto (tgt := 294) hx hb dX9_readSix_285 (by decide) ?_
        refine lv_bipush (v := (-16)) hx hb dX9_readSix_294 kc_b_m16 ?_
        exact gw_iret C I hr dX9_readSix_296 hf
  · have hf := giff hq hf
    refine lv_iload_n hx hb dX9_readSix_63 rfl (lv_at hl 2 rfl) ?_
    refine lv_bipush (v := 8) hx hb dX9_readSix_64 kc_b_8 ?_
    refine lv_icmp_ne (tgt := 72) hx hb dX9_readSix_66 (by decide) (fun hq => ?_) (fun hq => ?_)
    · have hf := giff hq hf
      refine lv_iconst (v := 0) hx hb dX9_readSix_72 kc_i_0 ?_
      refine lv_istore (lv' := [(6, .int 0), (0, va_rf x0), (2, .int x2), (3, .int x3), (4, .int x4), (5, .int x5)]) hx hb dX9_readSix_73 hl (by decide) rfl (fun ls hl => ?_)
      refine lv_iconst (v := 0) hx hb dX9_readSix_75 kc_i_0 ?_
      refine lv_istore (lv' := [(7, .int 0), (6, .int 0), (0, va_rf x0), (2, .int x2), (3, .int x3), (4, .int x4), (5, .int x5)]) hx hb dX9_readSix_76 hl (by decide) rfl (fun ls hl => ?_)
      refine lv_iload hx hb dX9_readSix_78 (lv_at hl 6 rfl) ?_
      refine lv_istore (lv' := [(8, .int x5), (7, .int 0), (6, .int 0), (0, va_rf x0), (2, .int x2), (3, .int x3), (4, .int x4), (5, .int x5)]) hx hb dX9_readSix_80 hl (by decide) rfl (fun ls hl => ?_)
      exact w_X9_readSix_L82 C hr hrec57 _ x0 x2 x3 x4 x5 0 0 x5 _ _ _ _ _ _ hf I (lv_sub hl [3, 4, 5, 6, 7, 2, 1, 0] rfl)
    · have hf := gift hq hf
      refine lv_bipush (v := (-16)) hx hb dX9_readSix_69 kc_b_m16 ?_
      exact gw_iret C I hr dX9_readSix_71 hf
theorem w_X9_readSix_L57 (C : gC G p s m args meth c cX9_readSix 9 RX9) (hr : meth.sig.returnType = (some .int))  : ∀ (n : Nat) (x0 : Option Nat) (x2 : Int32) (x3 : Int32) (x4 : Int32) (x5 : Int32), gJ G p l e 3 71 mc ms s m args below meth c gri y 9 57 [(0, va_rf x0), (2, .int x2), (3, .int x3), (4, .int x4), (5, .int x5)] [] (f_X9_readSix_L57  n x0 x2 x3 x4 x5) := by
  intro n
  induction n with
  | zero => intro x0 x2 x3 x4 x5 σ H locs cells slots ls hf; exact (gno_some hf).elim
  | succ n ih => intro x0 x2 x3 x4 x5; exact w_X9_readSix_57 C hr  ih x0 x2 x3 x4 x5
set_option maxHeartbeats 4000000 in
set_option maxRecDepth 100000 in
theorem w_X9_readSix_0 (C : gC G p s m args meth c cX9_readSix 9 RX9) (hr : meth.sig.returnType = (some .int))  (a0 : Option Nat) (a1 : Int32) (a2 : Int32) : gJ G p l e 3 71 mc ms s m args below meth c gri y 9 0 [(0, va_rf a0), (1, .int a1), (2, .int a2)] [] (f_X9_readSix  a0 a1 a2) := by
  have hx := C.1
  have hb := C.2.1
  intro σ H locs cells slots ls hf I hl
  unfold f_X9_readSix at hf
  refine lv_iconst (v := 0) hx hb dX9_readSix_0 kc_i_0 ?_
  refine lv_istore_n (lv' := [(3, .int 0), (0, va_rf a0), (1, .int a1), (2, .int a2)]) hx hb dX9_readSix_1 rfl hl (by decide) rfl (fun ls hl => ?_)
  refine lv_iconst (v := (-1)) hx hb dX9_readSix_2 kc_i_m1 ?_
  refine lv_istore (lv' := [(4, .int (-1)), (3, .int 0), (0, va_rf a0), (1, .int a1), (2, .int a2)]) hx hb dX9_readSix_3 hl (by decide) rfl (fun ls hl => ?_)
  refine lv_iload_n hx hb dX9_readSix_5 rfl (lv_at hl 3 rfl) ?_
  refine lv_istore (lv' := [(5, .int a1), (4, .int (-1)), (3, .int 0), (0, va_rf a0), (1, .int a1), (2, .int a2)]) hx hb dX9_readSix_6 hl (by decide) rfl (fun ls hl => ?_)
  refine lv_iload hx hb dX9_readSix_8 (lv_at hl 0 rfl) ?_
  refine lv_iload_n hx hb dX9_readSix_10 rfl (lv_at hl 5 rfl) ?_
  refine lv_icmp_ge (tgt := 57) hx hb dX9_readSix_11 (by decide) (fun hq => ?_) (fun hq => ?_)
  · have hf := gift hq hf
    exact w_X9_readSix_L57 C hr  _ a0 a2 0 (-1) a1 _ _ _ _ _ _ hf I (lv_sub hl [3, 5, 2, 1, 0] rfl)
  · have hf := giff hq hf
    refine gw_aload_n hx hb dX9_readSix_14 rfl (lv_at hl 3 rfl) ?_
    refine gw_getr (k := 11) C I gcls_8 (by decide) rfl kw_176 dX9_readSix_15 hf (fun v1 hf => ?_)
    refine lv_iload hx hb dX9_readSix_18 (lv_at hl 0 rfl) ?_
    refine gw_bald C I dX9_readSix_20 hf (fun v2 hf => ?_)
    refine lv_bipush (v := 58) hx hb dX9_readSix_21 kc_b_58 ?_
    refine lv_icmp_ne (tgt := 57) hx hb dX9_readSix_23 (by decide) (fun hq => ?_) (fun hq => ?_)
    · have hf := giff hq hf
      exact w_X9_readSix_L57 C hr  _ a0 a2 0 (-1) a1 _ _ _ _ _ _ hf I (lv_sub hl [3, 5, 2, 1, 0] rfl)
    · have hf := gift hq hf
      refine lv_iload hx hb dX9_readSix_26 (lv_at hl 0 rfl) ?_
      refine lv_iconst (v := 1) hx hb dX9_readSix_28 kc_i_1 ?_
      refine lv_iadd hx hb dX9_readSix_29 ?_
      refine lv_iload_n hx hb dX9_readSix_30 rfl (lv_at hl 5 rfl) ?_
      refine lv_icmp_ge (tgt := 48) hx hb dX9_readSix_31 (by decide) (fun hq => ?_) (fun hq => ?_)
      · have hf := gift hq hf
        refine lv_bipush (v := (-16)) hx hb dX9_readSix_48 kc_b_m16 ?_
        exact gw_iret C I hr dX9_readSix_50 hf
      · have hf := giff hq hf
        refine gw_aload_n hx hb dX9_readSix_34 rfl (lv_at hl 3 rfl) ?_
        refine gw_getr (k := 11) C I gcls_8 (by decide) rfl kw_176 dX9_readSix_35 hf (fun v3 hf => ?_)
        refine lv_iload hx hb dX9_readSix_38 (lv_at hl 0 rfl) ?_
        refine lv_iconst (v := 1) hx hb dX9_readSix_40 kc_i_1 ?_
        refine lv_iadd hx hb dX9_readSix_41 ?_
        refine gw_bald C I dX9_readSix_42 hf (fun v4 hf => ?_)
        refine lv_bipush (v := 58) hx hb dX9_readSix_43 kc_b_58 ?_
        refine lv_icmp_eq (tgt := 51) hx hb dX9_readSix_45 (by decide) (fun hq => ?_) (fun hq => ?_)
        · have hf := gift hq hf
          refine lv_iconst (v := 0) hx hb dX9_readSix_51 kc_i_0 ?_
          refine lv_istore (lv' := [(4, .int 0), (5, .int a1), (3, .int 0), (0, va_rf a0), (1, .int a1), (2, .int a2)]) hx hb dX9_readSix_52 hl (by decide) rfl (fun ls hl => ?_)
          refine lv_iinc (v := a1 + 2) (lv' := [(5, .int (a1 + 2)), (4, .int 0), (3, .int 0), (0, va_rf a0), (1, .int a1), (2, .int a2)]) hx hb dX9_readSix_54 hl (k := 1) rfl rfl (by decide) rfl (fun ls hl => ?_)
          exact w_X9_readSix_L57 C hr  _ a0 a2 0 0 (a1 + 2) _ _ _ _ _ _ hf I (lv_sub hl [3, 5, 2, 1, 0] rfl)
        · have hf := giff hq hf
          refine lv_bipush (v := (-16)) hx hb dX9_readSix_48 kc_b_m16 ?_
          exact gw_iret C I hr dX9_readSix_50 hf
end S_X9_readSix
theorem m_X9_readSix (G : gX) (l : Launch) (a0 : Option Nat) (a1 : Int32) (a2 : Int32) : gMet G l yX9_readSix cX9_readSix 9 (some .int) 3 71 [va_rf a0, .int a1, .int a2] gri (f_X9_readSix a0 a1 a2) := by
  refine gMet_of (by decide) ?_
  intro σ y p e s m below meth c mc ms hf C hr hnm I
  obtain ⟨ls, e1, hl⟩ := gentry m [va_rf a0, .int a1, .int a2] 9 [(0, va_rf a0), (1, .int a1), (2, .int a2)] (by simp [lg_sl, grc, gcat_i, gcat_l]) (by simp [lv_args, grc, gcat_i, gcat_l])
  rw [e1]
  exact w_X9_readSix_0 C hr a0 a1 a2 _ _ _ _ _ _ hf I hl
