theorem dX4_decode_0 : decode cX4_decode 0 = .ok (.aload_n 0, 1) := by decide +kernel
theorem dX4_decode_1 : decode cX4_decode 1 = .ok (.getfield 12, 3) := by decide +kernel
theorem dX4_decode_4 : decode cX4_decode 4 = .ok (.iconst 0, 1) := by decide +kernel
theorem dX4_decode_5 : decode cX4_decode 5 = .ok (.invokevirtual 65, 3) := by decide +kernel
theorem dX4_decode_8 : decode cX4_decode 8 = .ok (.iload_n 2, 1) := by decide +kernel
theorem dX4_decode_9 : decode cX4_decode 9 = .ok (.istore 4, 2) := by decide +kernel
theorem dX4_decode_11 : decode cX4_decode 11 = .ok (.iload 4, 2) := by decide +kernel
theorem dX4_decode_13 : decode cX4_decode 13 = .ok (.iload_n 3, 1) := by decide +kernel
theorem dX4_decode_14 : decode cX4_decode 14 = .ok (.if_icmp .ge 122, 3) := by decide +kernel
theorem dX4_decode_17 : decode cX4_decode 17 = .ok (.iload 4, 2) := by decide +kernel
theorem dX4_decode_19 : decode cX4_decode 19 = .ok (.iconst 2, 1) := by decide +kernel
theorem dX4_decode_20 : decode cX4_decode 20 = .ok (.iadd, 1) := by decide +kernel
theorem dX4_decode_21 : decode cX4_decode 21 = .ok (.iload_n 3, 1) := by decide +kernel
theorem dX4_decode_22 : decode cX4_decode 22 = .ok (.if_icmp .ge 17, 3) := by decide +kernel
theorem dX4_decode_25 : decode cX4_decode 25 = .ok (.aload_n 1, 1) := by decide +kernel
theorem dX4_decode_26 : decode cX4_decode 26 = .ok (.iload 4, 2) := by decide +kernel
theorem dX4_decode_28 : decode cX4_decode 28 = .ok (.iconst 1, 1) := by decide +kernel
theorem dX4_decode_29 : decode cX4_decode 29 = .ok (.iadd, 1) := by decide +kernel
theorem dX4_decode_30 : decode cX4_decode 30 = .ok (.invokevirtual 26, 3) := by decide +kernel
theorem dX4_decode_33 : decode cX4_decode 33 = .ok (.invokestatic 69, 3) := by decide +kernel
theorem dX4_decode_36 : decode cX4_decode 36 = .ok (.goto 4, 3) := by decide +kernel
theorem dX4_decode_39 : decode cX4_decode 39 = .ok (.iconst (-1), 1) := by decide +kernel
theorem dX4_decode_40 : decode cX4_decode 40 = .ok (.istore 5, 2) := by decide +kernel
theorem dX4_decode_42 : decode cX4_decode 42 = .ok (.iload 4, 2) := by decide +kernel
theorem dX4_decode_44 : decode cX4_decode 44 = .ok (.iconst 2, 1) := by decide +kernel
theorem dX4_decode_45 : decode cX4_decode 45 = .ok (.iadd, 1) := by decide +kernel
theorem dX4_decode_46 : decode cX4_decode 46 = .ok (.iload_n 3, 1) := by decide +kernel
theorem dX4_decode_47 : decode cX4_decode 47 = .ok (.if_icmp .ge 17, 3) := by decide +kernel
theorem dX4_decode_50 : decode cX4_decode 50 = .ok (.aload_n 1, 1) := by decide +kernel
theorem dX4_decode_51 : decode cX4_decode 51 = .ok (.iload 4, 2) := by decide +kernel
theorem dX4_decode_53 : decode cX4_decode 53 = .ok (.iconst 2, 1) := by decide +kernel
theorem dX4_decode_54 : decode cX4_decode 54 = .ok (.iadd, 1) := by decide +kernel
theorem dX4_decode_55 : decode cX4_decode 55 = .ok (.invokevirtual 26, 3) := by decide +kernel
theorem dX4_decode_58 : decode cX4_decode 58 = .ok (.invokestatic 69, 3) := by decide +kernel
theorem dX4_decode_61 : decode cX4_decode 61 = .ok (.goto 4, 3) := by decide +kernel
theorem dX4_decode_64 : decode cX4_decode 64 = .ok (.iconst (-1), 1) := by decide +kernel
theorem dX4_decode_65 : decode cX4_decode 65 = .ok (.istore 6, 2) := by decide +kernel
theorem dX4_decode_67 : decode cX4_decode 67 = .ok (.aload_n 1, 1) := by decide +kernel
theorem dX4_decode_68 : decode cX4_decode 68 = .ok (.iload 4, 2) := by decide +kernel
theorem dX4_decode_70 : decode cX4_decode 70 = .ok (.invokevirtual 26, 3) := by decide +kernel
theorem dX4_decode_73 : decode cX4_decode 73 = .ok (.bipush 37, 2) := by decide +kernel
theorem dX4_decode_75 : decode cX4_decode 75 = .ok (.if_icmp .ne 39, 3) := by decide +kernel
theorem dX4_decode_78 : decode cX4_decode 78 = .ok (.iload 5, 2) := by decide +kernel
theorem dX4_decode_80 : decode cX4_decode 80 = .ok (.iconst (-1), 1) := by decide +kernel
theorem dX4_decode_81 : decode cX4_decode 81 = .ok (.if_icmp .eq 33, 3) := by decide +kernel
theorem dX4_decode_84 : decode cX4_decode 84 = .ok (.iload 6, 2) := by decide +kernel
theorem dX4_decode_86 : decode cX4_decode 86 = .ok (.iconst (-1), 1) := by decide +kernel
theorem dX4_decode_87 : decode cX4_decode 87 = .ok (.if_icmp .eq 27, 3) := by decide +kernel
theorem dX4_decode_90 : decode cX4_decode 90 = .ok (.aload_n 0, 1) := by decide +kernel
theorem dX4_decode_91 : decode cX4_decode 91 = .ok (.getfield 12, 3) := by decide +kernel
theorem dX4_decode_94 : decode cX4_decode 94 = .ok (.bipush 16, 2) := by decide +kernel
theorem dX4_decode_96 : decode cX4_decode 96 = .ok (.iload 5, 2) := by decide +kernel
theorem dX4_decode_98 : decode cX4_decode 98 = .ok (.imul, 1) := by decide +kernel
theorem dX4_decode_99 : decode cX4_decode 99 = .ok (.iload 6, 2) := by decide +kernel
theorem dX4_decode_101 : decode cX4_decode 101 = .ok (.iadd, 1) := by decide +kernel
theorem dX4_decode_102 : decode cX4_decode 102 = .ok (.invokestatic 74, 3) := by decide +kernel
theorem dX4_decode_105 : decode cX4_decode 105 = .ok (.invokevirtual 77, 3) := by decide +kernel
theorem dX4_decode_108 : decode cX4_decode 108 = .ok (.iinc 4 3, 3) := by decide +kernel
theorem dX4_decode_111 : decode cX4_decode 111 = .ok (.goto 22, 3) := by decide +kernel
theorem dX4_decode_114 : decode cX4_decode 114 = .ok (.aload_n 0, 1) := by decide +kernel
theorem dX4_decode_115 : decode cX4_decode 115 = .ok (.getfield 12, 3) := by decide +kernel
theorem dX4_decode_118 : decode cX4_decode 118 = .ok (.aload_n 1, 1) := by decide +kernel
theorem dX4_decode_119 : decode cX4_decode 119 = .ok (.iload 4, 2) := by decide +kernel
theorem dX4_decode_121 : decode cX4_decode 121 = .ok (.invokevirtual 26, 3) := by decide +kernel
theorem dX4_decode_124 : decode cX4_decode 124 = .ok (.invokestatic 74, 3) := by decide +kernel
theorem dX4_decode_127 : decode cX4_decode 127 = .ok (.invokevirtual 77, 3) := by decide +kernel
theorem dX4_decode_130 : decode cX4_decode 130 = .ok (.iinc 4 1, 3) := by decide +kernel
theorem dX4_decode_133 : decode cX4_decode 133 = .ok (.goto (-122), 3) := by decide +kernel
theorem dX4_decode_136 : decode cX4_decode 136 = .ok (.return_, 1) := by decide +kernel
theorem dX1_isWrongInName_0 : decode cX1_isWrongInName 0 = .ok (.iload_n 0, 1) := by decide +kernel
theorem dX1_isWrongInName_1 : decode cX1_isWrongInName 1 = .ok (.bipush 32, 2) := by decide +kernel
theorem dX1_isWrongInName_3 : decode cX1_isWrongInName 3 = .ok (.if_icmp .le 19, 3) := by decide +kernel
theorem dX1_isWrongInName_6 : decode cX1_isWrongInName 6 = .ok (.iload_n 0, 1) := by decide +kernel
theorem dX1_isWrongInName_7 : decode cX1_isWrongInName 7 = .ok (.bipush 126, 2) := by decide +kernel
theorem dX1_isWrongInName_9 : decode cX1_isWrongInName 9 = .ok (.if_icmp .gt 13, 3) := by decide +kernel
theorem dX1_isWrongInName_12 : decode cX1_isWrongInName 12 = .ok (.ldc 15, 2) := by decide +kernel
theorem dX1_isWrongInName_14 : decode cX1_isWrongInName 14 = .ok (.iload_n 0, 1) := by decide +kernel
theorem dX1_isWrongInName_15 : decode cX1_isWrongInName 15 = .ok (.i2c, 1) := by decide +kernel
theorem dX1_isWrongInName_16 : decode cX1_isWrongInName 16 = .ok (.invokevirtual 9, 3) := by decide +kernel
theorem dX1_isWrongInName_19 : decode cX1_isWrongInName 19 = .ok (.ifCond .lt 7, 3) := by decide +kernel
theorem dX1_isWrongInName_22 : decode cX1_isWrongInName 22 = .ok (.iconst 1, 1) := by decide +kernel
theorem dX1_isWrongInName_23 : decode cX1_isWrongInName 23 = .ok (.goto 4, 3) := by decide +kernel
theorem dX1_isWrongInName_26 : decode cX1_isWrongInName 26 = .ok (.iconst 0, 1) := by decide +kernel
theorem dX1_isWrongInName_27 : decode cX1_isWrongInName 27 = .ok (.ireturn, 1) := by decide +kernel
theorem dX4_hasWrongByte_0 : decode cX4_hasWrongByte 0 = .ok (.iconst 0, 1) := by decide +kernel
theorem dX4_hasWrongByte_1 : decode cX4_hasWrongByte 1 = .ok (.istore_n 1, 1) := by decide +kernel
theorem dX4_hasWrongByte_2 : decode cX4_hasWrongByte 2 = .ok (.iload_n 1, 1) := by decide +kernel
theorem dX4_hasWrongByte_3 : decode cX4_hasWrongByte 3 = .ok (.aload_n 0, 1) := by decide +kernel
theorem dX4_hasWrongByte_4 : decode cX4_hasWrongByte 4 = .ok (.getfield 12, 3) := by decide +kernel
theorem dX4_hasWrongByte_7 : decode cX4_hasWrongByte 7 = .ok (.getfield 38, 3) := by decide +kernel
theorem dX4_hasWrongByte_10 : decode cX4_hasWrongByte 10 = .ok (.if_icmp .ge 25, 3) := by decide +kernel
theorem dX4_hasWrongByte_13 : decode cX4_hasWrongByte 13 = .ok (.aload_n 0, 1) := by decide +kernel
theorem dX4_hasWrongByte_14 : decode cX4_hasWrongByte 14 = .ok (.getfield 12, 3) := by decide +kernel
theorem dX4_hasWrongByte_17 : decode cX4_hasWrongByte 17 = .ok (.iload_n 1, 1) := by decide +kernel
theorem dX4_hasWrongByte_18 : decode cX4_hasWrongByte 18 = .ok (.invokevirtual 26, 3) := by decide +kernel
theorem dX4_hasWrongByte_21 : decode cX4_hasWrongByte 21 = .ok (.invokestatic 80, 3) := by decide +kernel
theorem dX4_hasWrongByte_24 : decode cX4_hasWrongByte 24 = .ok (.ifCond .eq 5, 3) := by decide +kernel
theorem dX4_hasWrongByte_27 : decode cX4_hasWrongByte 27 = .ok (.iconst 1, 1) := by decide +kernel
theorem dX4_hasWrongByte_28 : decode cX4_hasWrongByte 28 = .ok (.ireturn, 1) := by decide +kernel
theorem dX4_hasWrongByte_29 : decode cX4_hasWrongByte 29 = .ok (.iinc 1 1, 3) := by decide +kernel
theorem dX4_hasWrongByte_32 : decode cX4_hasWrongByte 32 = .ok (.goto (-30), 3) := by decide +kernel
theorem dX4_hasWrongByte_35 : decode cX4_hasWrongByte 35 = .ok (.iconst 0, 1) := by decide +kernel
theorem dX4_hasWrongByte_36 : decode cX4_hasWrongByte 36 = .ok (.ireturn, 1) := by decide +kernel
theorem dX4_hasForeignPart_0 : decode cX4_hasForeignPart 0 = .ok (.iconst 0, 1) := by decide +kernel
theorem dX4_hasForeignPart_1 : decode cX4_hasForeignPart 1 = .ok (.istore_n 1, 1) := by decide +kernel
theorem dX4_hasForeignPart_2 : decode cX4_hasForeignPart 2 = .ok (.iload_n 1, 1) := by decide +kernel
theorem dX4_hasForeignPart_3 : decode cX4_hasForeignPart 3 = .ok (.aload_n 0, 1) := by decide +kernel
theorem dX4_hasForeignPart_4 : decode cX4_hasForeignPart 4 = .ok (.getfield 12, 3) := by decide +kernel
theorem dX4_hasForeignPart_7 : decode cX4_hasForeignPart 7 = .ok (.getfield 38, 3) := by decide +kernel
theorem dX4_hasForeignPart_10 : decode cX4_hasForeignPart 10 = .ok (.if_icmp .ge 43, 3) := by decide +kernel
theorem dX4_hasForeignPart_13 : decode cX4_hasForeignPart 13 = .ok (.iload_n 1, 1) := by decide +kernel
theorem dX4_hasForeignPart_14 : decode cX4_hasForeignPart 14 = .ok (.ifCond .eq 18, 3) := by decide +kernel
theorem dX4_hasForeignPart_17 : decode cX4_hasForeignPart 17 = .ok (.aload_n 0, 1) := by decide +kernel
theorem dX4_hasForeignPart_18 : decode cX4_hasForeignPart 18 = .ok (.getfield 12, 3) := by decide +kernel
theorem dX4_hasForeignPart_21 : decode cX4_hasForeignPart 21 = .ok (.iload_n 1, 1) := by decide +kernel
theorem dX4_hasForeignPart_22 : decode cX4_hasForeignPart 22 = .ok (.iconst 1, 1) := by decide +kernel
theorem dX4_hasForeignPart_23 : decode cX4_hasForeignPart 23 = .ok (.isub, 1) := by decide +kernel
theorem dX4_hasForeignPart_24 : decode cX4_hasForeignPart 24 = .ok (.invokevirtual 26, 3) := by decide +kernel
theorem dX4_hasForeignPart_27 : decode cX4_hasForeignPart 27 = .ok (.bipush 46, 2) := by decide +kernel
theorem dX4_hasForeignPart_29 : decode cX4_hasForeignPart 29 = .ok (.if_icmp .ne 18, 3) := by decide +kernel
theorem dX4_hasForeignPart_32 : decode cX4_hasForeignPart 32 = .ok (.aload_n 0, 1) := by decide +kernel
theorem dX4_hasForeignPart_33 : decode cX4_hasForeignPart 33 = .ok (.getfield 12, 3) := by decide +kernel
theorem dX4_hasForeignPart_36 : decode cX4_hasForeignPart 36 = .ok (.iload_n 1, 1) := by decide +kernel
theorem dX4_hasForeignPart_37 : decode cX4_hasForeignPart 37 = .ok (.ldc 84, 2) := by decide +kernel
theorem dX4_hasForeignPart_39 : decode cX4_hasForeignPart 39 = .ok (.invokevirtual 86, 3) := by decide +kernel
theorem dX4_hasForeignPart_42 : decode cX4_hasForeignPart 42 = .ok (.ifCond .eq 5, 3) := by decide +kernel
theorem dX4_hasForeignPart_45 : decode cX4_hasForeignPart 45 = .ok (.iconst 1, 1) := by decide +kernel
theorem dX4_hasForeignPart_46 : decode cX4_hasForeignPart 46 = .ok (.ireturn, 1) := by decide +kernel
theorem dX4_hasForeignPart_47 : decode cX4_hasForeignPart 47 = .ok (.iinc 1 1, 3) := by decide +kernel
theorem dX4_hasForeignPart_50 : decode cX4_hasForeignPart 50 = .ok (.goto (-48), 3) := by decide +kernel
theorem dX4_hasForeignPart_53 : decode cX4_hasForeignPart 53 = .ok (.iconst 0, 1) := by decide +kernel
theorem dX4_hasForeignPart_54 : decode cX4_hasForeignPart 54 = .ok (.ireturn, 1) := by decide +kernel
theorem dX4_lastPartStart_0 : decode cX4_lastPartStart 0 = .ok (.iload_n 1, 1) := by decide +kernel
theorem dX4_lastPartStart_1 : decode cX4_lastPartStart 1 = .ok (.istore_n 2, 1) := by decide +kernel
theorem dX4_lastPartStart_2 : decode cX4_lastPartStart 2 = .ok (.iload_n 2, 1) := by decide +kernel
theorem dX4_lastPartStart_3 : decode cX4_lastPartStart 3 = .ok (.ifCond .le 24, 3) := by decide +kernel
theorem dX4_lastPartStart_6 : decode cX4_lastPartStart 6 = .ok (.aload_n 0, 1) := by decide +kernel
theorem dX4_lastPartStart_7 : decode cX4_lastPartStart 7 = .ok (.getfield 12, 3) := by decide +kernel
theorem dX4_lastPartStart_10 : decode cX4_lastPartStart 10 = .ok (.iload_n 2, 1) := by decide +kernel
theorem dX4_lastPartStart_11 : decode cX4_lastPartStart 11 = .ok (.iconst 1, 1) := by decide +kernel
theorem dX4_lastPartStart_12 : decode cX4_lastPartStart 12 = .ok (.isub, 1) := by decide +kernel
theorem dX4_lastPartStart_13 : decode cX4_lastPartStart 13 = .ok (.invokevirtual 26, 3) := by decide +kernel
theorem dX4_lastPartStart_16 : decode cX4_lastPartStart 16 = .ok (.bipush 46, 2) := by decide +kernel
theorem dX4_lastPartStart_18 : decode cX4_lastPartStart 18 = .ok (.if_icmp .eq 9, 3) := by decide +kernel
theorem dX4_lastPartStart_21 : decode cX4_lastPartStart 21 = .ok (.iinc 2 (-1), 3) := by decide +kernel
theorem dX4_lastPartStart_24 : decode cX4_lastPartStart 24 = .ok (.goto (-22), 3) := by decide +kernel
theorem dX4_lastPartStart_27 : decode cX4_lastPartStart 27 = .ok (.iload_n 2, 1) := by decide +kernel
theorem dX4_lastPartStart_28 : decode cX4_lastPartStart 28 = .ok (.ireturn, 1) := by decide +kernel
theorem dX4_isHex_0 : decode cX4_isHex 0 = .ok (.iload_n 1, 1) := by decide +kernel
theorem dX4_isHex_1 : decode cX4_isHex 1 = .ok (.iconst 2, 1) := by decide +kernel
theorem dX4_isHex_2 : decode cX4_isHex 2 = .ok (.iadd, 1) := by decide +kernel
theorem dX4_isHex_3 : decode cX4_isHex 3 = .ok (.iload_n 2, 1) := by decide +kernel
theorem dX4_isHex_4 : decode cX4_isHex 4 = .ok (.if_icmp .gt 20, 3) := by decide +kernel
theorem dX4_isHex_7 : decode cX4_isHex 7 = .ok (.aload_n 0, 1) := by decide +kernel
theorem dX4_isHex_8 : decode cX4_isHex 8 = .ok (.getfield 12, 3) := by decide +kernel
theorem dX4_isHex_11 : decode cX4_isHex 11 = .ok (.iload_n 1, 1) := by decide +kernel
theorem dX4_isHex_12 : decode cX4_isHex 12 = .ok (.ldc 96, 2) := by decide +kernel
theorem dX4_isHex_14 : decode cX4_isHex 14 = .ok (.invokevirtual 86, 3) := by decide +kernel
theorem dX4_isHex_17 : decode cX4_isHex 17 = .ok (.ifCond .eq 7, 3) := by decide +kernel
theorem dX4_isHex_20 : decode cX4_isHex 20 = .ok (.iconst 1, 1) := by decide +kernel
theorem dX4_isHex_21 : decode cX4_isHex 21 = .ok (.goto 4, 3) := by decide +kernel
theorem dX4_isHex_24 : decode cX4_isHex 24 = .ok (.iconst 0, 1) := by decide +kernel
theorem dX4_isHex_25 : decode cX4_isHex 25 = .ok (.ireturn, 1) := by decide +kernel
theorem dX4_isNumeral_0 : decode cX4_isNumeral 0 = .ok (.aload_n 0, 1) := by decide +kernel
theorem dX4_isNumeral_1 : decode cX4_isNumeral 1 = .ok (.iload_n 1, 1) := by decide +kernel
theorem dX4_isNumeral_2 : decode cX4_isNumeral 2 = .ok (.iload_n 2, 1) := by decide +kernel
theorem dX4_isNumeral_3 : decode cX4_isNumeral 3 = .ok (.invokevirtual 90, 3) := by decide +kernel
theorem dX4_isNumeral_6 : decode cX4_isNumeral 6 = .ok (.istore_n 3, 1) := by decide +kernel
theorem dX4_isNumeral_7 : decode cX4_isNumeral 7 = .ok (.iload_n 3, 1) := by decide +kernel
theorem dX4_isNumeral_8 : decode cX4_isNumeral 8 = .ok (.ifCond .eq 9, 3) := by decide +kernel
theorem dX4_isNumeral_11 : decode cX4_isNumeral 11 = .ok (.iload_n 1, 1) := by decide +kernel
theorem dX4_isNumeral_12 : decode cX4_isNumeral 12 = .ok (.iconst 2, 1) := by decide +kernel
theorem dX4_isNumeral_13 : decode cX4_isNumeral 13 = .ok (.iadd, 1) := by decide +kernel
theorem dX4_isNumeral_14 : decode cX4_isNumeral 14 = .ok (.goto 4, 3) := by decide +kernel
theorem dX4_isNumeral_17 : decode cX4_isNumeral 17 = .ok (.iload_n 1, 1) := by decide +kernel
theorem dX4_isNumeral_18 : decode cX4_isNumeral 18 = .ok (.istore 4, 2) := by decide +kernel
theorem dX4_isNumeral_20 : decode cX4_isNumeral 20 = .ok (.iload 4, 2) := by decide +kernel
theorem dX4_isNumeral_22 : decode cX4_isNumeral 22 = .ok (.iload_n 2, 1) := by decide +kernel
theorem dX4_isNumeral_23 : decode cX4_isNumeral 23 = .ok (.if_icmp .ge 46, 3) := by decide +kernel
theorem dX4_isNumeral_26 : decode cX4_isNumeral 26 = .ok (.aload_n 0, 1) := by decide +kernel
theorem dX4_isNumeral_27 : decode cX4_isNumeral 27 = .ok (.getfield 12, 3) := by decide +kernel
theorem dX4_isNumeral_30 : decode cX4_isNumeral 30 = .ok (.iload 4, 2) := by decide +kernel
theorem dX4_isNumeral_32 : decode cX4_isNumeral 32 = .ok (.invokevirtual 26, 3) := by decide +kernel
theorem dX4_isNumeral_35 : decode cX4_isNumeral 35 = .ok (.istore 5, 2) := by decide +kernel
theorem dX4_isNumeral_37 : decode cX4_isNumeral 37 = .ok (.iload_n 3, 1) := by decide +kernel
theorem dX4_isNumeral_38 : decode cX4_isNumeral 38 = .ok (.ifCond .eq 15, 3) := by decide +kernel
theorem dX4_isNumeral_41 : decode cX4_isNumeral 41 = .ok (.iload 5, 2) := by decide +kernel
theorem dX4_isNumeral_43 : decode cX4_isNumeral 43 = .ok (.invokestatic 69, 3) := by decide +kernel
theorem dX4_isNumeral_46 : decode cX4_isNumeral 46 = .ok (.iconst (-1), 1) := by decide +kernel
theorem dX4_isNumeral_47 : decode cX4_isNumeral 47 = .ok (.if_icmp .ne 16, 3) := by decide +kernel
theorem dX4_isNumeral_50 : decode cX4_isNumeral 50 = .ok (.goto 11, 3) := by decide +kernel
theorem dX4_isNumeral_53 : decode cX4_isNumeral 53 = .ok (.iload 5, 2) := by decide +kernel
theorem dX4_isNumeral_55 : decode cX4_isNumeral 55 = .ok (.invokestatic 93, 3) := by decide +kernel
theorem dX4_isNumeral_58 : decode cX4_isNumeral 58 = .ok (.ifCond .ne 5, 3) := by decide +kernel
theorem dX4_isNumeral_61 : decode cX4_isNumeral 61 = .ok (.iconst 0, 1) := by decide +kernel
theorem dX4_isNumeral_62 : decode cX4_isNumeral 62 = .ok (.ireturn, 1) := by decide +kernel
theorem dX4_isNumeral_63 : decode cX4_isNumeral 63 = .ok (.iinc 4 1, 3) := by decide +kernel
theorem dX4_isNumeral_66 : decode cX4_isNumeral 66 = .ok (.goto (-46), 3) := by decide +kernel
theorem dX4_isNumeral_69 : decode cX4_isNumeral 69 = .ok (.iload_n 1, 1) := by decide +kernel
theorem dX4_isNumeral_70 : decode cX4_isNumeral 70 = .ok (.iload_n 2, 1) := by decide +kernel
theorem dX4_isNumeral_71 : decode cX4_isNumeral 71 = .ok (.if_icmp .ge 7, 3) := by decide +kernel
theorem dX4_isNumeral_74 : decode cX4_isNumeral 74 = .ok (.iconst 1, 1) := by decide +kernel
theorem dX4_isNumeral_75 : decode cX4_isNumeral 75 = .ok (.goto 4, 3) := by decide +kernel
theorem dX4_isNumeral_78 : decode cX4_isNumeral 78 = .ok (.iconst 0, 1) := by decide +kernel
theorem dX4_isNumeral_79 : decode cX4_isNumeral 79 = .ok (.ireturn, 1) := by decide +kernel
theorem dX4_partEnd_0 : decode cX4_partEnd 0 = .ok (.iload_n 1, 1) := by decide +kernel
theorem dX4_partEnd_1 : decode cX4_partEnd 1 = .ok (.istore_n 3, 1) := by decide +kernel
theorem dX4_partEnd_2 : decode cX4_partEnd 2 = .ok (.iload_n 3, 1) := by decide +kernel
theorem dX4_partEnd_3 : decode cX4_partEnd 3 = .ok (.iload_n 2, 1) := by decide +kernel
theorem dX4_partEnd_4 : decode cX4_partEnd 4 = .ok (.if_icmp .ge 22, 3) := by decide +kernel
theorem dX4_partEnd_7 : decode cX4_partEnd 7 = .ok (.aload_n 0, 1) := by decide +kernel
theorem dX4_partEnd_8 : decode cX4_partEnd 8 = .ok (.getfield 12, 3) := by decide +kernel
theorem dX4_partEnd_11 : decode cX4_partEnd 11 = .ok (.iload_n 3, 1) := by decide +kernel
theorem dX4_partEnd_12 : decode cX4_partEnd 12 = .ok (.invokevirtual 26, 3) := by decide +kernel
theorem dX4_partEnd_15 : decode cX4_partEnd 15 = .ok (.bipush 46, 2) := by decide +kernel
theorem dX4_partEnd_17 : decode cX4_partEnd 17 = .ok (.if_icmp .eq 9, 3) := by decide +kernel
theorem dX4_partEnd_20 : decode cX4_partEnd 20 = .ok (.iinc 3 1, 3) := by decide +kernel
theorem dX4_partEnd_23 : decode cX4_partEnd 23 = .ok (.goto (-21), 3) := by decide +kernel
theorem dX4_partEnd_26 : decode cX4_partEnd 26 = .ok (.iload_n 3, 1) := by decide +kernel
theorem dX4_partEnd_27 : decode cX4_partEnd 27 = .ok (.ireturn, 1) := by decide +kernel
theorem dX4_numeralValue_0 : decode cX4_numeralValue 0 = .ok (.iload_n 1, 1) := by decide +kernel
theorem dX4_numeralValue_1 : decode cX4_numeralValue 1 = .ok (.iload_n 2, 1) := by decide +kernel
theorem dX4_numeralValue_2 : decode cX4_numeralValue 2 = .ok (.if_icmp .lt 7, 3) := by decide +kernel
theorem dX4_numeralValue_5 : decode cX4_numeralValue 5 = .ok (.ldc2_w 111, 3) := by decide +kernel
theorem dX4_numeralValue_8 : decode cX4_numeralValue 8 = .ok (.lreturn, 1) := by decide +kernel
theorem dX4_numeralValue_9 : decode cX4_numeralValue 9 = .ok (.bipush 10, 2) := by decide +kernel
theorem dX4_numeralValue_11 : decode cX4_numeralValue 11 = .ok (.istore_n 3, 1) := by decide +kernel
theorem dX4_numeralValue_12 : decode cX4_numeralValue 12 = .ok (.iload_n 1, 1) := by decide +kernel
theorem dX4_numeralValue_13 : decode cX4_numeralValue 13 = .ok (.istore 4, 2) := by decide +kernel
theorem dX4_numeralValue_15 : decode cX4_numeralValue 15 = .ok (.aload_n 0, 1) := by decide +kernel
theorem dX4_numeralValue_16 : decode cX4_numeralValue 16 = .ok (.iload_n 1, 1) := by decide +kernel
theorem dX4_numeralValue_17 : decode cX4_numeralValue 17 = .ok (.iload_n 2, 1) := by decide +kernel
theorem dX4_numeralValue_18 : decode cX4_numeralValue 18 = .ok (.invokevirtual 90, 3) := by decide +kernel
theorem dX4_numeralValue_21 : decode cX4_numeralValue 21 = .ok (.ifCond .eq 14, 3) := by decide +kernel
theorem dX4_numeralValue_24 : decode cX4_numeralValue 24 = .ok (.bipush 16, 2) := by decide +kernel
theorem dX4_numeralValue_26 : decode cX4_numeralValue 26 = .ok (.istore_n 3, 1) := by decide +kernel
theorem dX4_numeralValue_27 : decode cX4_numeralValue 27 = .ok (.iload_n 1, 1) := by decide +kernel
theorem dX4_numeralValue_28 : decode cX4_numeralValue 28 = .ok (.iconst 2, 1) := by decide +kernel
theorem dX4_numeralValue_29 : decode cX4_numeralValue 29 = .ok (.iadd, 1) := by decide +kernel
theorem dX4_numeralValue_30 : decode cX4_numeralValue 30 = .ok (.istore 4, 2) := by decide +kernel
theorem dX4_numeralValue_32 : decode cX4_numeralValue 32 = .ok (.goto 19, 3) := by decide +kernel
theorem dX4_numeralValue_35 : decode cX4_numeralValue 35 = .ok (.aload_n 0, 1) := by decide +kernel
theorem dX4_numeralValue_36 : decode cX4_numeralValue 36 = .ok (.getfield 12, 3) := by decide +kernel
theorem dX4_numeralValue_39 : decode cX4_numeralValue 39 = .ok (.iload_n 1, 1) := by decide +kernel
theorem dX4_numeralValue_40 : decode cX4_numeralValue 40 = .ok (.invokevirtual 26, 3) := by decide +kernel
theorem dX4_numeralValue_43 : decode cX4_numeralValue 43 = .ok (.bipush 48, 2) := by decide +kernel
theorem dX4_numeralValue_45 : decode cX4_numeralValue 45 = .ok (.if_icmp .ne 6, 3) := by decide +kernel
theorem dX4_numeralValue_48 : decode cX4_numeralValue 48 = .ok (.bipush 8, 2) := by decide +kernel
theorem dX4_numeralValue_50 : decode cX4_numeralValue 50 = .ok (.istore_n 3, 1) := by decide +kernel
theorem dX4_numeralValue_51 : decode cX4_numeralValue 51 = .ok (.lconst 0, 1) := by decide +kernel
theorem dX4_numeralValue_52 : decode cX4_numeralValue 52 = .ok (.lstore 5, 2) := by decide +kernel
theorem dX4_numeralValue_54 : decode cX4_numeralValue 54 = .ok (.iload 4, 2) := by decide +kernel
theorem dX4_numeralValue_56 : decode cX4_numeralValue 56 = .ok (.istore 7, 2) := by decide +kernel
theorem dX4_numeralValue_58 : decode cX4_numeralValue 58 = .ok (.iload 7, 2) := by decide +kernel
theorem dX4_numeralValue_60 : decode cX4_numeralValue 60 = .ok (.iload_n 2, 1) := by decide +kernel
theorem dX4_numeralValue_61 : decode cX4_numeralValue 61 = .ok (.if_icmp .ge 56, 3) := by decide +kernel
theorem dX4_numeralValue_64 : decode cX4_numeralValue 64 = .ok (.aload_n 0, 1) := by decide +kernel
theorem dX4_numeralValue_65 : decode cX4_numeralValue 65 = .ok (.getfield 12, 3) := by decide +kernel
theorem dX4_numeralValue_68 : decode cX4_numeralValue 68 = .ok (.iload 7, 2) := by decide +kernel
theorem dX4_numeralValue_70 : decode cX4_numeralValue 70 = .ok (.invokevirtual 26, 3) := by decide +kernel
theorem dX4_numeralValue_73 : decode cX4_numeralValue 73 = .ok (.invokestatic 69, 3) := by decide +kernel
theorem dX4_numeralValue_76 : decode cX4_numeralValue 76 = .ok (.istore 8, 2) := by decide +kernel
theorem dX4_numeralValue_78 : decode cX4_numeralValue 78 = .ok (.iload 8, 2) := by decide +kernel
theorem dX4_numeralValue_80 : decode cX4_numeralValue 80 = .ok (.iconst (-1), 1) := by decide +kernel
theorem dX4_numeralValue_81 : decode cX4_numeralValue 81 = .ok (.if_icmp .eq 9, 3) := by decide +kernel
theorem dX4_numeralValue_84 : decode cX4_numeralValue 84 = .ok (.iload 8, 2) := by decide +kernel
theorem dX4_numeralValue_86 : decode cX4_numeralValue 86 = .ok (.iload_n 3, 1) := by decide +kernel
theorem dX4_numeralValue_87 : decode cX4_numeralValue 87 = .ok (.if_icmp .lt 7, 3) := by decide +kernel
theorem dX4_numeralValue_90 : decode cX4_numeralValue 90 = .ok (.ldc2_w 111, 3) := by decide +kernel
theorem dX4_numeralValue_93 : decode cX4_numeralValue 93 = .ok (.lreturn, 1) := by decide +kernel
theorem dX4_numeralValue_94 : decode cX4_numeralValue 94 = .ok (.lload 5, 2) := by decide +kernel
theorem dX4_numeralValue_96 : decode cX4_numeralValue 96 = .ok (.iload_n 3, 1) := by decide +kernel
theorem dX4_numeralValue_97 : decode cX4_numeralValue 97 = .ok (.i2l, 1) := by decide +kernel
theorem dX4_numeralValue_98 : decode cX4_numeralValue 98 = .ok (.lmul, 1) := by decide +kernel
theorem dX4_numeralValue_99 : decode cX4_numeralValue 99 = .ok (.iload 8, 2) := by decide +kernel
theorem dX4_numeralValue_101 : decode cX4_numeralValue 101 = .ok (.i2l, 1) := by decide +kernel
theorem dX4_numeralValue_102 : decode cX4_numeralValue 102 = .ok (.ladd, 1) := by decide +kernel
theorem dX4_numeralValue_103 : decode cX4_numeralValue 103 = .ok (.ldc2_w 113, 3) := by decide +kernel
theorem dX4_numeralValue_106 : decode cX4_numeralValue 106 = .ok (.invokestatic 115, 3) := by decide +kernel
theorem dX4_numeralValue_109 : decode cX4_numeralValue 109 = .ok (.lstore 5, 2) := by decide +kernel
theorem dX4_numeralValue_111 : decode cX4_numeralValue 111 = .ok (.iinc 7 1, 3) := by decide +kernel
theorem dX4_numeralValue_114 : decode cX4_numeralValue 114 = .ok (.goto (-56), 3) := by decide +kernel
theorem dX4_numeralValue_117 : decode cX4_numeralValue 117 = .ok (.lload 5, 2) := by decide +kernel
theorem dX4_numeralValue_119 : decode cX4_numeralValue 119 = .ok (.lreturn, 1) := by decide +kernel
theorem dX5_addDecimal_0 : decode cX5_addDecimal 0 = .ok (.sipush 10000, 3) := by decide +kernel
theorem dX5_addDecimal_3 : decode cX5_addDecimal 3 = .ok (.istore_n 2, 1) := by decide +kernel
theorem dX5_addDecimal_4 : decode cX5_addDecimal 4 = .ok (.iload_n 2, 1) := by decide +kernel
theorem dX5_addDecimal_5 : decode cX5_addDecimal 5 = .ok (.ifCond .le 34, 3) := by decide +kernel
theorem dX5_addDecimal_8 : decode cX5_addDecimal 8 = .ok (.iload_n 1, 1) := by decide +kernel
theorem dX5_addDecimal_9 : decode cX5_addDecimal 9 = .ok (.iload_n 2, 1) := by decide +kernel
theorem dX5_addDecimal_10 : decode cX5_addDecimal 10 = .ok (.if_icmp .ge 8, 3) := by decide +kernel
theorem dX5_addDecimal_13 : decode cX5_addDecimal 13 = .ok (.iload_n 2, 1) := by decide +kernel
theorem dX5_addDecimal_14 : decode cX5_addDecimal 14 = .ok (.iconst 1, 1) := by decide +kernel
theorem dX5_addDecimal_15 : decode cX5_addDecimal 15 = .ok (.if_icmp .ne 16, 3) := by decide +kernel
theorem dX5_addDecimal_18 : decode cX5_addDecimal 18 = .ok (.aload_n 0, 1) := by decide +kernel
theorem dX5_addDecimal_19 : decode cX5_addDecimal 19 = .ok (.bipush 48, 2) := by decide +kernel
theorem dX5_addDecimal_21 : decode cX5_addDecimal 21 = .ok (.iload_n 1, 1) := by decide +kernel
theorem dX5_addDecimal_22 : decode cX5_addDecimal 22 = .ok (.iload_n 2, 1) := by decide +kernel
theorem dX5_addDecimal_23 : decode cX5_addDecimal 23 = .ok (.idiv, 1) := by decide +kernel
theorem dX5_addDecimal_24 : decode cX5_addDecimal 24 = .ok (.bipush 10, 2) := by decide +kernel
theorem dX5_addDecimal_26 : decode cX5_addDecimal 26 = .ok (.irem, 1) := by decide +kernel
theorem dX5_addDecimal_27 : decode cX5_addDecimal 27 = .ok (.iadd, 1) := by decide +kernel
theorem dX5_addDecimal_28 : decode cX5_addDecimal 28 = .ok (.invokevirtual 29, 3) := by decide +kernel
theorem dX5_addDecimal_31 : decode cX5_addDecimal 31 = .ok (.iload_n 2, 1) := by decide +kernel
theorem dX5_addDecimal_32 : decode cX5_addDecimal 32 = .ok (.bipush 10, 2) := by decide +kernel
theorem dX5_addDecimal_34 : decode cX5_addDecimal 34 = .ok (.idiv, 1) := by decide +kernel
theorem dX5_addDecimal_35 : decode cX5_addDecimal 35 = .ok (.istore_n 2, 1) := by decide +kernel
theorem dX5_addDecimal_36 : decode cX5_addDecimal 36 = .ok (.goto (-32), 3) := by decide +kernel
theorem dX5_addDecimal_39 : decode cX5_addDecimal 39 = .ok (.return_, 1) := by decide +kernel
theorem dX3_setFour_0 : decode cX3_setFour 0 = .ok (.aload_n 0, 1) := by decide +kernel
theorem dX3_setFour_1 : decode cX3_setFour 1 = .ok (.getfield 10, 3) := by decide +kernel
theorem dX3_setFour_4 : decode cX3_setFour 4 = .ok (.iconst 4, 1) := by decide +kernel
theorem dX3_setFour_5 : decode cX3_setFour 5 = .ok (.iload_n 1, 1) := by decide +kernel
theorem dX3_setFour_6 : decode cX3_setFour 6 = .ok (.iconst 0, 1) := by decide +kernel
theorem dX3_setFour_7 : decode cX3_setFour 7 = .ok (.iconst 0, 1) := by decide +kernel
theorem dX3_setFour_8 : decode cX3_setFour 8 = .ok (.iconst 0, 1) := by decide +kernel
theorem dX3_setFour_9 : decode cX3_setFour 9 = .ok (.invokevirtual 38, 3) := by decide +kernel
theorem dX3_setFour_12 : decode cX3_setFour 12 = .ok (.aload_n 0, 1) := by decide +kernel
theorem dX3_setFour_13 : decode cX3_setFour 13 = .ok (.getfield 19, 3) := by decide +kernel
theorem dX3_setFour_16 : decode cX3_setFour 16 = .ok (.iconst 0, 1) := by decide +kernel
theorem dX3_setFour_17 : decode cX3_setFour 17 = .ok (.invokevirtual 42, 3) := by decide +kernel
theorem dX3_setFour_20 : decode cX3_setFour 20 = .ok (.bipush 24, 2) := by decide +kernel
theorem dX3_setFour_22 : decode cX3_setFour 22 = .ok (.istore_n 2, 1) := by decide +kernel
theorem dX3_setFour_23 : decode cX3_setFour 23 = .ok (.iload_n 2, 1) := by decide +kernel
theorem dX3_setFour_24 : decode cX3_setFour 24 = .ok (.ifCond .lt 36, 3) := by decide +kernel
theorem dX3_setFour_27 : decode cX3_setFour 27 = .ok (.aload_n 0, 1) := by decide +kernel
theorem dX3_setFour_28 : decode cX3_setFour 28 = .ok (.getfield 19, 3) := by decide +kernel
theorem dX3_setFour_31 : decode cX3_setFour 31 = .ok (.iload_n 1, 1) := by decide +kernel
theorem dX3_setFour_32 : decode cX3_setFour 32 = .ok (.iload_n 2, 1) := by decide +kernel
theorem dX3_setFour_33 : decode cX3_setFour 33 = .ok (.iushr, 1) := by decide +kernel
theorem dX3_setFour_34 : decode cX3_setFour 34 = .ok (.sipush 255, 3) := by decide +kernel
theorem dX3_setFour_37 : decode cX3_setFour 37 = .ok (.iand, 1) := by decide +kernel
theorem dX3_setFour_38 : decode cX3_setFour 38 = .ok (.invokevirtual 46, 3) := by decide +kernel
theorem dX3_setFour_41 : decode cX3_setFour 41 = .ok (.iload_n 2, 1) := by decide +kernel
theorem dX3_setFour_42 : decode cX3_setFour 42 = .ok (.ifCond .le 12, 3) := by decide +kernel
theorem dX3_setFour_45 : decode cX3_setFour 45 = .ok (.aload_n 0, 1) := by decide +kernel
theorem dX3_setFour_46 : decode cX3_setFour 46 = .ok (.getfield 19, 3) := by decide +kernel
theorem dX3_setFour_49 : decode cX3_setFour 49 = .ok (.bipush 46, 2) := by decide +kernel
theorem dX3_setFour_51 : decode cX3_setFour 51 = .ok (.invokevirtual 49, 3) := by decide +kernel
theorem dX3_setFour_54 : decode cX3_setFour 54 = .ok (.iinc 2 (-8), 3) := by decide +kernel
theorem dX3_setFour_57 : decode cX3_setFour 57 = .ok (.goto (-34), 3) := by decide +kernel
theorem dX3_setFour_60 : decode cX3_setFour 60 = .ok (.return_, 1) := by decide +kernel
theorem dX4_readFour_0 : decode cX4_readFour 0 = .ok (.lconst 0, 1) := by decide +kernel
theorem dX4_readFour_1 : decode cX4_readFour 1 = .ok (.lstore_n 3, 1) := by decide +kernel
theorem dX4_readFour_2 : decode cX4_readFour 2 = .ok (.iconst 0, 1) := by decide +kernel
theorem dX4_readFour_3 : decode cX4_readFour 3 = .ok (.istore 5, 2) := by decide +kernel
theorem dX4_readFour_5 : decode cX4_readFour 5 = .ok (.iconst 0, 1) := by decide +kernel
theorem dX4_readFour_6 : decode cX4_readFour 6 = .ok (.istore 6, 2) := by decide +kernel
theorem dX4_readFour_8 : decode cX4_readFour 8 = .ok (.iload 6, 2) := by decide +kernel
theorem dX4_readFour_10 : decode cX4_readFour 10 = .ok (.iconst 4, 1) := by decide +kernel
theorem dX4_readFour_11 : decode cX4_readFour 11 = .ok (.if_icmp .ge 104, 3) := by decide +kernel
theorem dX4_readFour_14 : decode cX4_readFour 14 = .ok (.aload_n 0, 1) := by decide +kernel
theorem dX4_readFour_15 : decode cX4_readFour 15 = .ok (.iload 5, 2) := by decide +kernel
theorem dX4_readFour_17 : decode cX4_readFour 17 = .ok (.iload_n 1, 1) := by decide +kernel
theorem dX4_readFour_18 : decode cX4_readFour 18 = .ok (.invokevirtual 98, 3) := by decide +kernel
theorem dX4_readFour_21 : decode cX4_readFour 21 = .ok (.istore 7, 2) := by decide +kernel
theorem dX4_readFour_23 : decode cX4_readFour 23 = .ok (.aload_n 0, 1) := by decide +kernel
theorem dX4_readFour_24 : decode cX4_readFour 24 = .ok (.iload 5, 2) := by decide +kernel
theorem dX4_readFour_26 : decode cX4_readFour 26 = .ok (.iload 7, 2) := by decide +kernel
theorem dX4_readFour_28 : decode cX4_readFour 28 = .ok (.invokevirtual 102, 3) := by decide +kernel
theorem dX4_readFour_31 : decode cX4_readFour 31 = .ok (.lstore 8, 2) := by decide +kernel
theorem dX4_readFour_33 : decode cX4_readFour 33 = .ok (.lload 8, 2) := by decide +kernel
theorem dX4_readFour_35 : decode cX4_readFour 35 = .ok (.lconst 0, 1) := by decide +kernel
theorem dX4_readFour_36 : decode cX4_readFour 36 = .ok (.lcmp, 1) := by decide +kernel
theorem dX4_readFour_37 : decode cX4_readFour 37 = .ok (.ifCond .ge 6, 3) := by decide +kernel
theorem dX4_readFour_40 : decode cX4_readFour 40 = .ok (.bipush (-15), 2) := by decide +kernel
theorem dX4_readFour_42 : decode cX4_readFour 42 = .ok (.ireturn, 1) := by decide +kernel
theorem dX4_readFour_43 : decode cX4_readFour 43 = .ok (.iload 7, 2) := by decide +kernel
theorem dX4_readFour_45 : decode cX4_readFour 45 = .ok (.iload_n 1, 1) := by decide +kernel
theorem dX4_readFour_46 : decode cX4_readFour 46 = .ok (.if_icmp .ne 32, 3) := by decide +kernel
theorem dX4_readFour_49 : decode cX4_readFour 49 = .ok (.lload 8, 2) := by decide +kernel
theorem dX4_readFour_51 : decode cX4_readFour 51 = .ok (.lconst 1, 1) := by decide +kernel
theorem dX4_readFour_52 : decode cX4_readFour 52 = .ok (.bipush 8, 2) := by decide +kernel
theorem dX4_readFour_54 : decode cX4_readFour 54 = .ok (.iconst 4, 1) := by decide +kernel
theorem dX4_readFour_55 : decode cX4_readFour 55 = .ok (.iload 6, 2) := by decide +kernel
theorem dX4_readFour_57 : decode cX4_readFour 57 = .ok (.isub, 1) := by decide +kernel
theorem dX4_readFour_58 : decode cX4_readFour 58 = .ok (.imul, 1) := by decide +kernel
theorem dX4_readFour_59 : decode cX4_readFour 59 = .ok (.lshl, 1) := by decide +kernel
theorem dX4_readFour_60 : decode cX4_readFour 60 = .ok (.lcmp, 1) := by decide +kernel
theorem dX4_readFour_61 : decode cX4_readFour 61 = .ok (.ifCond .lt 6, 3) := by decide +kernel
theorem dX4_readFour_64 : decode cX4_readFour 64 = .ok (.bipush (-15), 2) := by decide +kernel
theorem dX4_readFour_66 : decode cX4_readFour 66 = .ok (.ireturn, 1) := by decide +kernel
theorem dX4_readFour_67 : decode cX4_readFour 67 = .ok (.aload_n 2, 1) := by decide +kernel
theorem dX4_readFour_68 : decode cX4_readFour 68 = .ok (.lload_n 3, 1) := by decide +kernel
theorem dX4_readFour_69 : decode cX4_readFour 69 = .ok (.lload 8, 2) := by decide +kernel
theorem dX4_readFour_71 : decode cX4_readFour 71 = .ok (.ladd, 1) := by decide +kernel
theorem dX4_readFour_72 : decode cX4_readFour 72 = .ok (.l2i, 1) := by decide +kernel
theorem dX4_readFour_73 : decode cX4_readFour 73 = .ok (.invokevirtual 106, 3) := by decide +kernel
theorem dX4_readFour_76 : decode cX4_readFour 76 = .ok (.iconst 0, 1) := by decide +kernel
theorem dX4_readFour_77 : decode cX4_readFour 77 = .ok (.ireturn, 1) := by decide +kernel
theorem dX4_readFour_78 : decode cX4_readFour 78 = .ok (.lload 8, 2) := by decide +kernel
theorem dX4_readFour_80 : decode cX4_readFour 80 = .ok (.ldc2_w 109, 3) := by decide +kernel
theorem dX4_readFour_83 : decode cX4_readFour 83 = .ok (.lcmp, 1) := by decide +kernel
theorem dX4_readFour_84 : decode cX4_readFour 84 = .ok (.ifCond .le 6, 3) := by decide +kernel
theorem dX4_readFour_87 : decode cX4_readFour 87 = .ok (.bipush (-15), 2) := by decide +kernel
theorem dX4_readFour_89 : decode cX4_readFour 89 = .ok (.ireturn, 1) := by decide +kernel
theorem dX4_readFour_90 : decode cX4_readFour 90 = .ok (.lload_n 3, 1) := by decide +kernel
theorem dX4_readFour_91 : decode cX4_readFour 91 = .ok (.lload 8, 2) := by decide +kernel
theorem dX4_readFour_93 : decode cX4_readFour 93 = .ok (.bipush 8, 2) := by decide +kernel
theorem dX4_readFour_95 : decode cX4_readFour 95 = .ok (.iconst 3, 1) := by decide +kernel
theorem dX4_readFour_96 : decode cX4_readFour 96 = .ok (.iload 6, 2) := by decide +kernel
theorem dX4_readFour_98 : decode cX4_readFour 98 = .ok (.isub, 1) := by decide +kernel
theorem dX4_readFour_99 : decode cX4_readFour 99 = .ok (.imul, 1) := by decide +kernel
theorem dX4_readFour_100 : decode cX4_readFour 100 = .ok (.lshl, 1) := by decide +kernel
theorem dX4_readFour_101 : decode cX4_readFour 101 = .ok (.ladd, 1) := by decide +kernel
theorem dX4_readFour_102 : decode cX4_readFour 102 = .ok (.lstore_n 3, 1) := by decide +kernel
theorem dX4_readFour_103 : decode cX4_readFour 103 = .ok (.iload 7, 2) := by decide +kernel
theorem dX4_readFour_105 : decode cX4_readFour 105 = .ok (.iconst 1, 1) := by decide +kernel
theorem dX4_readFour_106 : decode cX4_readFour 106 = .ok (.iadd, 1) := by decide +kernel
theorem dX4_readFour_107 : decode cX4_readFour 107 = .ok (.istore 5, 2) := by decide +kernel
theorem dX4_readFour_109 : decode cX4_readFour 109 = .ok (.iinc 6 1, 3) := by decide +kernel
theorem dX4_readFour_112 : decode cX4_readFour 112 = .ok (.goto (-104), 3) := by decide +kernel
theorem dX4_readFour_115 : decode cX4_readFour 115 = .ok (.bipush (-15), 2) := by decide +kernel
theorem dX4_readFour_117 : decode cX4_readFour 117 = .ok (.ireturn, 1) := by decide +kernel
theorem dX3_setName_0 : decode cX3_setName 0 = .ok (.aload_n 0, 1) := by decide +kernel
theorem dX3_setName_1 : decode cX3_setName 1 = .ok (.getfield 10, 3) := by decide +kernel
theorem dX3_setName_4 : decode cX3_setName 4 = .ok (.iconst 0, 1) := by decide +kernel
theorem dX3_setName_5 : decode cX3_setName 5 = .ok (.iconst 0, 1) := by decide +kernel
theorem dX3_setName_6 : decode cX3_setName 6 = .ok (.iconst 0, 1) := by decide +kernel
theorem dX3_setName_7 : decode cX3_setName 7 = .ok (.iconst 0, 1) := by decide +kernel
theorem dX3_setName_8 : decode cX3_setName 8 = .ok (.iconst 0, 1) := by decide +kernel
theorem dX3_setName_9 : decode cX3_setName 9 = .ok (.invokevirtual 38, 3) := by decide +kernel
theorem dX3_setName_12 : decode cX3_setName 12 = .ok (.aload_n 0, 1) := by decide +kernel
theorem dX3_setName_13 : decode cX3_setName 13 = .ok (.getfield 19, 3) := by decide +kernel
theorem dX3_setName_16 : decode cX3_setName 16 = .ok (.aload_n 1, 1) := by decide +kernel
theorem dX3_setName_17 : decode cX3_setName 17 = .ok (.invokevirtual 31, 3) := by decide +kernel
theorem dX3_setName_20 : decode cX3_setName 20 = .ok (.return_, 1) := by decide +kernel
theorem dX4_readHost_0 : decode cX4_readHost 0 = .ok (.iload_n 2, 1) := by decide +kernel
theorem dX4_readHost_1 : decode cX4_readHost 1 = .ok (.iload_n 3, 1) := by decide +kernel
theorem dX4_readHost_2 : decode cX4_readHost 2 = .ok (.if_icmp .ge 44, 3) := by decide +kernel
theorem dX4_readHost_5 : decode cX4_readHost 5 = .ok (.aload_n 1, 1) := by decide +kernel
theorem dX4_readHost_6 : decode cX4_readHost 6 = .ok (.iload_n 2, 1) := by decide +kernel
theorem dX4_readHost_7 : decode cX4_readHost 7 = .ok (.invokevirtual 26, 3) := by decide +kernel
theorem dX4_readHost_10 : decode cX4_readHost 10 = .ok (.bipush 91, 2) := by decide +kernel
theorem dX4_readHost_12 : decode cX4_readHost 12 = .ok (.if_icmp .ne 34, 3) := by decide +kernel
theorem dX4_readHost_15 : decode cX4_readHost 15 = .ok (.aload_n 1, 1) := by decide +kernel
theorem dX4_readHost_16 : decode cX4_readHost 16 = .ok (.iload_n 3, 1) := by decide +kernel
theorem dX4_readHost_17 : decode cX4_readHost 17 = .ok (.iconst 1, 1) := by decide +kernel
theorem dX4_readHost_18 : decode cX4_readHost 18 = .ok (.isub, 1) := by decide +kernel
theorem dX4_readHost_19 : decode cX4_readHost 19 = .ok (.invokevirtual 26, 3) := by decide +kernel
theorem dX4_readHost_22 : decode cX4_readHost 22 = .ok (.bipush 93, 2) := by decide +kernel
theorem dX4_readHost_24 : decode cX4_readHost 24 = .ok (.if_icmp .ne 19, 3) := by decide +kernel
theorem dX4_readHost_27 : decode cX4_readHost 27 = .ok (.aload_n 0, 1) := by decide +kernel
theorem dX4_readHost_28 : decode cX4_readHost 28 = .ok (.aload_n 1, 1) := by decide +kernel
theorem dX4_readHost_29 : decode cX4_readHost 29 = .ok (.iload_n 2, 1) := by decide +kernel
theorem dX4_readHost_30 : decode cX4_readHost 30 = .ok (.iconst 1, 1) := by decide +kernel
theorem dX4_readHost_31 : decode cX4_readHost 31 = .ok (.iadd, 1) := by decide +kernel
theorem dX4_readHost_32 : decode cX4_readHost 32 = .ok (.iload_n 3, 1) := by decide +kernel
theorem dX4_readHost_33 : decode cX4_readHost 33 = .ok (.iconst 1, 1) := by decide +kernel
theorem dX4_readHost_34 : decode cX4_readHost 34 = .ok (.isub, 1) := by decide +kernel
theorem dX4_readHost_35 : decode cX4_readHost 35 = .ok (.aload 4, 2) := by decide +kernel
theorem dX4_readHost_37 : decode cX4_readHost 37 = .ok (.invokevirtual 30, 3) := by decide +kernel
theorem dX4_readHost_40 : decode cX4_readHost 40 = .ok (.goto 5, 3) := by decide +kernel
theorem dX4_readHost_43 : decode cX4_readHost 43 = .ok (.bipush (-16), 2) := by decide +kernel
theorem dX4_readHost_45 : decode cX4_readHost 45 = .ok (.ireturn, 1) := by decide +kernel
theorem dX4_readHost_46 : decode cX4_readHost 46 = .ok (.aload_n 0, 1) := by decide +kernel
theorem dX4_readHost_47 : decode cX4_readHost 47 = .ok (.aload_n 1, 1) := by decide +kernel
theorem dX4_readHost_48 : decode cX4_readHost 48 = .ok (.iload_n 2, 1) := by decide +kernel
theorem dX4_readHost_49 : decode cX4_readHost 49 = .ok (.iload_n 3, 1) := by decide +kernel
theorem dX4_readHost_50 : decode cX4_readHost 50 = .ok (.invokevirtual 34, 3) := by decide +kernel
theorem dX4_readHost_53 : decode cX4_readHost 53 = .ok (.aload_n 0, 1) := by decide +kernel
theorem dX4_readHost_54 : decode cX4_readHost 54 = .ok (.getfield 12, 3) := by decide +kernel
theorem dX4_readHost_57 : decode cX4_readHost 57 = .ok (.getfield 38, 3) := by decide +kernel
theorem dX4_readHost_60 : decode cX4_readHost 60 = .ok (.ifCond .eq 17, 3) := by decide +kernel
theorem dX4_readHost_63 : decode cX4_readHost 63 = .ok (.aload_n 0, 1) := by decide +kernel
theorem dX4_readHost_64 : decode cX4_readHost 64 = .ok (.invokevirtual 41, 3) := by decide +kernel
theorem dX4_readHost_67 : decode cX4_readHost 67 = .ok (.ifCond .ne 10, 3) := by decide +kernel
theorem dX4_readHost_70 : decode cX4_readHost 70 = .ok (.aload_n 0, 1) := by decide +kernel
theorem dX4_readHost_71 : decode cX4_readHost 71 = .ok (.invokevirtual 45, 3) := by decide +kernel
theorem dX4_readHost_74 : decode cX4_readHost 74 = .ok (.ifCond .eq 6, 3) := by decide +kernel
theorem dX4_readHost_77 : decode cX4_readHost 77 = .ok (.bipush (-14), 2) := by decide +kernel
theorem dX4_readHost_79 : decode cX4_readHost 79 = .ok (.ireturn, 1) := by decide +kernel
theorem dX4_readHost_80 : decode cX4_readHost 80 = .ok (.aload_n 0, 1) := by decide +kernel
theorem dX4_readHost_81 : decode cX4_readHost 81 = .ok (.getfield 12, 3) := by decide +kernel
theorem dX4_readHost_84 : decode cX4_readHost 84 = .ok (.aload_n 0, 1) := by decide +kernel
theorem dX4_readHost_85 : decode cX4_readHost 85 = .ok (.getfield 12, 3) := by decide +kernel
theorem dX4_readHost_88 : decode cX4_readHost 88 = .ok (.getfield 38, 3) := by decide +kernel
theorem dX4_readHost_91 : decode cX4_readHost 91 = .ok (.iconst 1, 1) := by decide +kernel
theorem dX4_readHost_92 : decode cX4_readHost 92 = .ok (.isub, 1) := by decide +kernel
theorem dX4_readHost_93 : decode cX4_readHost 93 = .ok (.invokevirtual 26, 3) := by decide +kernel
theorem dX4_readHost_96 : decode cX4_readHost 96 = .ok (.bipush 46, 2) := by decide +kernel
theorem dX4_readHost_98 : decode cX4_readHost 98 = .ok (.if_icmp .ne 15, 3) := by decide +kernel
theorem dX4_readHost_101 : decode cX4_readHost 101 = .ok (.aload_n 0, 1) := by decide +kernel
theorem dX4_readHost_102 : decode cX4_readHost 102 = .ok (.getfield 12, 3) := by decide +kernel
theorem dX4_readHost_105 : decode cX4_readHost 105 = .ok (.getfield 38, 3) := by decide +kernel
theorem dX4_readHost_108 : decode cX4_readHost 108 = .ok (.iconst 1, 1) := by decide +kernel
theorem dX4_readHost_109 : decode cX4_readHost 109 = .ok (.isub, 1) := by decide +kernel
theorem dX4_readHost_110 : decode cX4_readHost 110 = .ok (.goto 10, 3) := by decide +kernel
theorem dX4_readHost_113 : decode cX4_readHost 113 = .ok (.aload_n 0, 1) := by decide +kernel
theorem dX4_readHost_114 : decode cX4_readHost 114 = .ok (.getfield 12, 3) := by decide +kernel
theorem dX4_readHost_117 : decode cX4_readHost 117 = .ok (.getfield 38, 3) := by decide +kernel
theorem dX4_readHost_120 : decode cX4_readHost 120 = .ok (.istore 5, 2) := by decide +kernel
theorem dX4_readHost_122 : decode cX4_readHost 122 = .ok (.aload_n 0, 1) := by decide +kernel
theorem dX4_readHost_123 : decode cX4_readHost 123 = .ok (.aload_n 0, 1) := by decide +kernel
theorem dX4_readHost_124 : decode cX4_readHost 124 = .ok (.iload 5, 2) := by decide +kernel
theorem dX4_readHost_126 : decode cX4_readHost 126 = .ok (.invokevirtual 48, 3) := by decide +kernel
theorem dX4_readHost_129 : decode cX4_readHost 129 = .ok (.iload 5, 2) := by decide +kernel
theorem dX4_readHost_131 : decode cX4_readHost 131 = .ok (.invokevirtual 51, 3) := by decide +kernel
theorem dX4_readHost_134 : decode cX4_readHost 134 = .ok (.ifCond .eq 12, 3) := by decide +kernel
theorem dX4_readHost_137 : decode cX4_readHost 137 = .ok (.aload_n 0, 1) := by decide +kernel
theorem dX4_readHost_138 : decode cX4_readHost 138 = .ok (.iload 5, 2) := by decide +kernel
theorem dX4_readHost_140 : decode cX4_readHost 140 = .ok (.aload 4, 2) := by decide +kernel
theorem dX4_readHost_142 : decode cX4_readHost 142 = .ok (.invokevirtual 55, 3) := by decide +kernel
theorem dX4_readHost_145 : decode cX4_readHost 145 = .ok (.ireturn, 1) := by decide +kernel
theorem dX4_readHost_146 : decode cX4_readHost 146 = .ok (.aload 4, 2) := by decide +kernel
theorem dX4_readHost_148 : decode cX4_readHost 148 = .ok (.aload_n 0, 1) := by decide +kernel
theorem dX4_readHost_149 : decode cX4_readHost 149 = .ok (.getfield 12, 3) := by decide +kernel
theorem dX4_readHost_152 : decode cX4_readHost 152 = .ok (.invokevirtual 59, 3) := by decide +kernel
theorem dX4_readHost_155 : decode cX4_readHost 155 = .ok (.iconst 0, 1) := by decide +kernel
theorem dX4_readHost_156 : decode cX4_readHost 156 = .ok (.ireturn, 1) := by decide +kernel
def f_X4_decode_114 (rec11 : Option Nat → Option Nat → Int32 → Int32 → gM Unit) (x0 : Option Nat) (x1 : Option Nat) (x3 : Int32) (x4 : Int32) : gM Unit := gb (rR 3 0 x0) fun v1 => gb (nn 4 x1) fun _ => gb (f_X5_byteAt x1 x4) fun v2 => gb (f_X1_low v2) fun v3 => gb (nn 4 v1) fun _ => gb (f_X5_add v1 v3) fun _ => rec11 x0 x1 x3 (x4 + 1)
def f_X4_decode_65 (rec11 : Option Nat → Option Nat → Int32 → Int32 → gM Unit) (x0 : Option Nat) (x1 : Option Nat) (x3 : Int32) (x4 : Int32) (x5 : Int32) (s0 : Int32) : gM Unit := gb (nn 4 x1) fun _ => gb (f_X5_byteAt x1 x4) fun v1 => if v1 = 37 then (if x5 = (-1) then (f_X4_decode_114 rec11 x0 x1 x3 x4) else (if s0 = (-1) then (f_X4_decode_114 rec11 x0 x1 x3 x4) else (gb (rR 3 0 x0) fun v2 => gb (f_X1_low ((16 * x5) + s0)) fun v3 => gb (nn 4 v2) fun _ => gb (f_X5_add v2 v3) fun _ => rec11 x0 x1 x3 (x4 + 3)))) else (f_X4_decode_114 rec11 x0 x1 x3 x4)
def f_X4_decode_40 (rec11 : Option Nat → Option Nat → Int32 → Int32 → gM Unit) (x0 : Option Nat) (x1 : Option Nat) (x3 : Int32) (x4 : Int32) (s0 : Int32) : gM Unit := if x3 ≤ (x4 + 2) then (f_X4_decode_65 rec11 x0 x1 x3 x4 s0 (-1)) else (gb (nn 4 x1) fun _ => gb (f_X5_byteAt x1 (x4 + 2)) fun v1 => gb (f_X1_hexValue v1) fun v2 => f_X4_decode_65 rec11 x0 x1 x3 x4 s0 v2)
def f_X4_decode_11 (rec11 : Option Nat → Option Nat → Int32 → Int32 → gM Unit) (x0 : Option Nat) (x1 : Option Nat) (x3 : Int32) (x4 : Int32) : gM Unit := if x3 ≤ x4 then (gp ()) else (if x3 ≤ (x4 + 2) then (f_X4_decode_40 rec11 x0 x1 x3 x4 (-1)) else (gb (nn 4 x1) fun _ => gb (f_X5_byteAt x1 (x4 + 1)) fun v1 => gb (f_X1_hexValue v1) fun v2 => f_X4_decode_40 rec11 x0 x1 x3 x4 v2))
def f_X4_decode_L11  : Nat → Option Nat → Option Nat → Int32 → Int32 → gM Unit
  | 0, _, _, _, _ => gno
  | n + 1, x0, x1, x3, x4 => f_X4_decode_11  (f_X4_decode_L11  n) x0 x1 x3 x4
def f_X4_decode  (a0 : Option Nat) (a1 : Option Nat) (a2 : Int32) (a3 : Int32) : gM Unit := gb (rR 3 0 a0) fun v1 => gb (nn 4 v1) fun _ => gb (f_X5_cutTo v1 0) fun _ => f_X4_decode_L11  gF a0 a1 a3 a2
section S_X4_decode
variable {G : gX} {p : Program} {l : Launch} {e : Env} {s : State} {m : MethodId} {args : Array Value} {below : List Frame} {meth : Method} {c : Code} {mc ms : Nat} {y : Unit × gS}
set_option maxHeartbeats 4000000 in
set_option maxRecDepth 100000 in
theorem w_X4_decode_114 (C : gC G p s m args meth c cX4_decode 7 RX4) (hr : meth.sig.returnType = none) {rec11 : Option Nat → Option Nat → Int32 → Int32 → gM Unit} (hrec11 : ∀ (x0 : Option Nat) (x1 : Option Nat) (x3 : Int32) (x4 : Int32), gJ G p l e 3 83 mc ms s m args below meth c grv y 7 11 [(0, va_rf x0), (1, va_rf x1), (3, .int x3), (4, .int x4)] [] (rec11 x0 x1 x3 x4)) (x0 : Option Nat) (x1 : Option Nat) (x3 : Int32) (x4 : Int32) : gJ G p l e 3 83 mc ms s m args below meth c grv y 7 114 [(0, va_rf x0), (1, va_rf x1), (3, .int x3), (4, .int x4)] [] (f_X4_decode_114 rec11 x0 x1 x3 x4) := by
  have hx := C.1
  have hb := C.2.1
  intro σ H locs cells slots ls hf I hl
  unfold f_X4_decode_114 at hf
  refine gw_aload_n hx hb dX4_decode_114 rfl (lv_at hl 0 rfl) ?_
  refine gw_getr (k := 0) C I gcls_3 (by decide) rfl kw_22 dX4_decode_115 hf (fun v1 hf => ?_)
  refine gw_aload_n hx hb dX4_decode_118 rfl (lv_at hl 1 rfl) ?_
  refine lv_iload hx hb dX4_decode_119 (lv_at hl 3 rfl) ?_
  refine gw_callV (rest := [va_rf v1]) C I hl.1 gcls_4 (m_X5_byteAt G l x1 x4) gl_RX4_26 gn_X5_byteAt ⟨Nat.le_of_ble_eq_true rfl, Nat.le_of_ble_eq_true rfl⟩ rfl (gc4 (Nat.le_of_ble_eq_true rfl)) rfl dX4_decode_121 hf (fun v2 σ H locs cells slots I hf => ?_)
  refine W.eq (g2 := F0 m 124 ls [.int v2, va_rf v1]) rfl ?_
  refine gw_callS (rest := [va_rf v1]) C I hl.1 (m_X1_low G l v2) gl_RX4_74 kw_112 ⟨Nat.le_of_ble_eq_true rfl, Nat.le_of_ble_eq_true rfl⟩ rfl (gc4 (Nat.le_of_ble_eq_true rfl)) rfl dX4_decode_124 hf (fun v3 σ H locs cells slots I hf => ?_)
  refine W.eq (g2 := F0 m 127 ls [.int v3, va_rf v1]) rfl ?_
  refine gw_callV (rest := []) C I hl.1 gcls_4 (m_X5_add G l v1 v3) gl_RX4_77 gn_X5_add ⟨Nat.le_of_ble_eq_true rfl, Nat.le_of_ble_eq_true rfl⟩ rfl (gc4 (Nat.le_of_ble_eq_true rfl)) rfl dX4_decode_127 hf (fun _ σ H locs cells slots I hf => ?_)
  refine W.eq (g2 := F0 m 130 ls []) rfl ?_
  refine lv_iinc (v := x4 + 1) (lv' := [(4, .int (x4 + 1)), (0, va_rf x0), (1, va_rf x1), (3, .int x3)]) hx hb dX4_decode_130 hl (k := 3) rfl rfl (by decide) rfl (fun ls hl => ?_)
  refine lv_goto (tgt := 11) hx hb dX4_decode_133 (by decide) ?_
  exact hrec11 x0 x1 x3 (x4 + 1) _ _ _ _ _ _ hf I (lv_sub hl [1, 2, 3, 0] rfl)
set_option maxHeartbeats 4000000 in
set_option maxRecDepth 100000 in
theorem w_X4_decode_65 (C : gC G p s m args meth c cX4_decode 7 RX4) (hr : meth.sig.returnType = none) {rec11 : Option Nat → Option Nat → Int32 → Int32 → gM Unit} (hrec11 : ∀ (x0 : Option Nat) (x1 : Option Nat) (x3 : Int32) (x4 : Int32), gJ G p l e 3 83 mc ms s m args below meth c grv y 7 11 [(0, va_rf x0), (1, va_rf x1), (3, .int x3), (4, .int x4)] [] (rec11 x0 x1 x3 x4)) (x0 : Option Nat) (x1 : Option Nat) (x3 : Int32) (x4 : Int32) (x5 : Int32) (s0 : Int32) : gJ G p l e 3 83 mc ms s m args below meth c grv y 7 65 [(0, va_rf x0), (1, va_rf x1), (3, .int x3), (4, .int x4), (5, .int x5)] [.int s0] (f_X4_decode_65 rec11 x0 x1 x3 x4 x5 s0) := by
  have hx := C.1
  have hb := C.2.1
  intro σ H locs cells slots ls hf I hl
  unfold f_X4_decode_65 at hf
  refine lv_istore (lv' := [(6, .int s0), (0, va_rf x0), (1, va_rf x1), (3, .int x3), (4, .int x4), (5, .int x5)]) hx hb dX4_decode_65 hl (by decide) rfl (fun ls hl => ?_)
  refine gw_aload_n hx hb dX4_decode_67 rfl (lv_at hl 2 rfl) ?_
  refine lv_iload hx hb dX4_decode_68 (lv_at hl 4 rfl) ?_
  refine gw_callV (rest := []) C I hl.1 gcls_4 (m_X5_byteAt G l x1 x4) gl_RX4_26 gn_X5_byteAt ⟨Nat.le_of_ble_eq_true rfl, Nat.le_of_ble_eq_true rfl⟩ rfl (gc4 (Nat.le_of_ble_eq_true rfl)) rfl dX4_decode_70 hf (fun v1 σ H locs cells slots I hf => ?_)
  refine W.eq (g2 := F0 m 73 ls [.int v1]) rfl ?_
  refine lv_bipush (v := 37) hx hb dX4_decode_73 kc_b_37 ?_
  refine lv_icmp_ne (tgt := 114) hx hb dX4_decode_75 (by decide) (fun hq => ?_) (fun hq => ?_)
  · have hf := giff hq hf
    exact w_X4_decode_114 C hr hrec11 x0 x1 x3 x4 _ _ _ _ _ _ hf I (lv_sub hl [1, 2, 3, 4] rfl)
  · have hf := gift hq hf
    refine lv_iload hx hb dX4_decode_78 (lv_at hl 5 rfl) ?_
    refine lv_iconst (v := (-1)) hx hb dX4_decode_80 kc_i_m1 ?_
    refine lv_icmp_eq (tgt := 114) hx hb dX4_decode_81 (by decide) (fun hq => ?_) (fun hq => ?_)
    · have hf := gift hq hf
      exact w_X4_decode_114 C hr hrec11 x0 x1 x3 x4 _ _ _ _ _ _ hf I (lv_sub hl [1, 2, 3, 4] rfl)
    · have hf := giff hq hf
      refine lv_iload hx hb dX4_decode_84 (lv_at hl 0 rfl) ?_
      refine lv_iconst (v := (-1)) hx hb dX4_decode_86 kc_i_m1 ?_
      refine lv_icmp_eq (tgt := 114) hx hb dX4_decode_87 (by decide) (fun hq => ?_) (fun hq => ?_)
      · have hf := gift hq hf
        exact w_X4_decode_114 C hr hrec11 x0 x1 x3 x4 _ _ _ _ _ _ hf I (lv_sub hl [1, 2, 3, 4] rfl)
      · have hf := giff hq hf
        refine gw_aload_n hx hb dX4_decode_90 rfl (lv_at hl 1 rfl) ?_
        refine gw_getr (k := 0) C I gcls_3 (by decide) rfl kw_22 dX4_decode_91 hf (fun v2 hf => ?_)
        refine lv_bipush (v := 16) hx hb dX4_decode_94 kc_b_16 ?_
        refine lv_iload hx hb dX4_decode_96 (lv_at hl 5 rfl) ?_
        refine lv_imul hx hb dX4_decode_98 ?_
        refine lv_iload hx hb dX4_decode_99 (lv_at hl 0 rfl) ?_
        refine lv_iadd hx hb dX4_decode_101 ?_
        refine gw_callS (rest := [va_rf v2]) C I hl.1 (m_X1_low G l ((16 * x5) + s0)) gl_RX4_74 kw_112 ⟨Nat.le_of_ble_eq_true rfl, Nat.le_of_ble_eq_true rfl⟩ rfl (gc4 (Nat.le_of_ble_eq_true rfl)) rfl dX4_decode_102 hf (fun v3 σ H locs cells slots I hf => ?_)
        refine W.eq (g2 := F0 m 105 ls [.int v3, va_rf v2]) rfl ?_
        refine gw_callV (rest := []) C I hl.1 gcls_4 (m_X5_add G l v2 v3) gl_RX4_77 gn_X5_add ⟨Nat.le_of_ble_eq_true rfl, Nat.le_of_ble_eq_true rfl⟩ rfl (gc4 (Nat.le_of_ble_eq_true rfl)) rfl dX4_decode_105 hf (fun _ σ H locs cells slots I hf => ?_)
        refine W.eq (g2 := F0 m 108 ls []) rfl ?_
        refine lv_iinc (v := x4 + 3) (lv' := [(4, .int (x4 + 3)), (6, .int s0), (0, va_rf x0), (1, va_rf x1), (3, .int x3), (5, .int x5)]) hx hb dX4_decode_108 hl (k := 4) rfl rfl (by decide) rfl (fun ls hl => ?_)
        refine lv_goto (tgt := 133) hx hb dX4_decode_111 (by decide) ?_
        refine lv_goto (tgt := 11) hx hb dX4_decode_133 (by decide) ?_
        exact hrec11 x0 x1 x3 (x4 + 3) _ _ _ _ _ _ hf I (lv_sub hl [2, 3, 4, 0] rfl)
set_option maxHeartbeats 4000000 in
set_option maxRecDepth 100000 in
theorem w_X4_decode_40 (C : gC G p s m args meth c cX4_decode 7 RX4) (hr : meth.sig.returnType = none) {rec11 : Option Nat → Option Nat → Int32 → Int32 → gM Unit} (hrec11 : ∀ (x0 : Option Nat) (x1 : Option Nat) (x3 : Int32) (x4 : Int32), gJ G p l e 3 83 mc ms s m args below meth c grv y 7 11 [(0, va_rf x0), (1, va_rf x1), (3, .int x3), (4, .int x4)] [] (rec11 x0 x1 x3 x4)) (x0 : Option Nat) (x1 : Option Nat) (x3 : Int32) (x4 : Int32) (s0 : Int32) : gJ G p l e 3 83 mc ms s m args below meth c grv y 7 40 [(0, va_rf x0), (1, va_rf x1), (3, .int x3), (4, .int x4)] [.int s0] (f_X4_decode_40 rec11 x0 x1 x3 x4 s0) := by
  have hx := C.1
  have hb := C.2.1
  intro σ H locs cells slots ls hf I hl
  unfold f_X4_decode_40 at hf
  refine lv_istore (lv' := [(5, .int s0), (0, va_rf x0), (1, va_rf x1), (3, .int x3), (4, .int x4)]) hx hb dX4_decode_40 hl (by decide) rfl (fun ls hl => ?_)
  refine lv_iload hx hb dX4_decode_42 (lv_at hl 4 rfl) ?_
  refine lv_iconst (v := 2) hx hb dX4_decode_44 kc_i_2 ?_
  refine lv_iadd hx hb dX4_decode_45 ?_
  refine lv_iload_n hx hb dX4_decode_46 rfl (lv_at hl 3 rfl) ?_
  refine lv_icmp_ge (tgt := 64) hx hb dX4_decode_47 (by decide) (fun hq => ?_) (fun hq => ?_)
  · have hf := gift hq hf
    refine lv_iconst (v := (-1)) hx hb dX4_decode_64 kc_i_m1 ?_
    exact w_X4_decode_65 C hr hrec11 x0 x1 x3 x4 s0 (-1) _ _ _ _ _ _ hf I (lv_sub hl [1, 2, 3, 4, 0] rfl)
  · have hf := giff hq hf
    refine gw_aload_n hx hb dX4_decode_50 rfl (lv_at hl 2 rfl) ?_
    refine lv_iload hx hb dX4_decode_51 (lv_at hl 4 rfl) ?_
    refine lv_iconst (v := 2) hx hb dX4_decode_53 kc_i_2 ?_
    refine lv_iadd hx hb dX4_decode_54 ?_
    refine gw_callV (rest := []) C I hl.1 gcls_4 (m_X5_byteAt G l x1 (x4 + 2)) gl_RX4_26 gn_X5_byteAt ⟨Nat.le_of_ble_eq_true rfl, Nat.le_of_ble_eq_true rfl⟩ rfl (gc4 (Nat.le_of_ble_eq_true rfl)) rfl dX4_decode_55 hf (fun v1 σ H locs cells slots I hf => ?_)
    refine W.eq (g2 := F0 m 58 ls [.int v1]) rfl ?_
    refine gw_callS (rest := []) C I hl.1 (m_X1_hexValue G l v1) gl_RX4_69 kw_128 ⟨Nat.le_of_ble_eq_true rfl, Nat.le_of_ble_eq_true rfl⟩ rfl (gc4 (Nat.le_of_ble_eq_true rfl)) rfl dX4_decode_58 hf (fun v2 σ H locs cells slots I hf => ?_)
    refine W.eq (g2 := F0 m 61 ls [.int v2]) rfl ?_
    refine lv_goto (tgt := 65) hx hb dX4_decode_61 (by decide) ?_
    exact w_X4_decode_65 C hr hrec11 x0 x1 x3 x4 s0 v2 _ _ _ _ _ _ hf I (lv_sub hl [1, 2, 3, 4, 0] rfl)
set_option maxHeartbeats 4000000 in
set_option maxRecDepth 100000 in
theorem w_X4_decode_11 (C : gC G p s m args meth c cX4_decode 7 RX4) (hr : meth.sig.returnType = none) {rec11 : Option Nat → Option Nat → Int32 → Int32 → gM Unit} (hrec11 : ∀ (x0 : Option Nat) (x1 : Option Nat) (x3 : Int32) (x4 : Int32), gJ G p l e 3 83 mc ms s m args below meth c grv y 7 11 [(0, va_rf x0), (1, va_rf x1), (3, .int x3), (4, .int x4)] [] (rec11 x0 x1 x3 x4)) (x0 : Option Nat) (x1 : Option Nat) (x3 : Int32) (x4 : Int32) : gJ G p l e 3 83 mc ms s m args below meth c grv y 7 11 [(0, va_rf x0), (1, va_rf x1), (3, .int x3), (4, .int x4)] [] (f_X4_decode_11 rec11 x0 x1 x3 x4) := by
  have hx := C.1
  have hb := C.2.1
  intro σ H locs cells slots ls hf I hl
  unfold f_X4_decode_11 at hf
  refine lv_iload hx hb dX4_decode_11 (lv_at hl 3 rfl) ?_
  refine lv_iload_n hx hb dX4_decode_13 rfl (lv_at hl 2 rfl) ?_
  refine lv_icmp_ge (tgt := 136) hx hb dX4_decode_14 (by decide) (fun hq => ?_) (fun hq => ?_)
  · have hf := gift hq hf
    exact gw_vret C I hr dX4_decode_136 hf
  · have hf := giff hq hf
    refine lv_iload hx hb dX4_decode_17 (lv_at hl 3 rfl) ?_
    refine lv_iconst (v := 2) hx hb dX4_decode_19 kc_i_2 ?_
    refine lv_iadd hx hb dX4_decode_20 ?_
    refine lv_iload_n hx hb dX4_decode_21 rfl (lv_at hl 2 rfl) ?_
    refine lv_icmp_ge (tgt := 39) hx hb dX4_decode_22 (by decide) (fun hq => ?_) (fun hq => ?_)
    · have hf := gift hq hf
      refine lv_iconst (v := (-1)) hx hb dX4_decode_39 kc_i_m1 ?_
      exact w_X4_decode_40 C hr hrec11 x0 x1 x3 x4 (-1) _ _ _ _ _ _ hf I (lv_sub hl [0, 1, 2, 3] rfl)
    · have hf := giff hq hf
      refine gw_aload_n hx hb dX4_decode_25 rfl (lv_at hl 1 rfl) ?_
      refine lv_iload hx hb dX4_decode_26 (lv_at hl 3 rfl) ?_
      refine lv_iconst (v := 1) hx hb dX4_decode_28 kc_i_1 ?_
      refine lv_iadd hx hb dX4_decode_29 ?_
      refine gw_callV (rest := []) C I hl.1 gcls_4 (m_X5_byteAt G l x1 (x4 + 1)) gl_RX4_26 gn_X5_byteAt ⟨Nat.le_of_ble_eq_true rfl, Nat.le_of_ble_eq_true rfl⟩ rfl (gc4 (Nat.le_of_ble_eq_true rfl)) rfl dX4_decode_30 hf (fun v1 σ H locs cells slots I hf => ?_)
      refine W.eq (g2 := F0 m 33 ls [.int v1]) rfl ?_
      refine gw_callS (rest := []) C I hl.1 (m_X1_hexValue G l v1) gl_RX4_69 kw_128 ⟨Nat.le_of_ble_eq_true rfl, Nat.le_of_ble_eq_true rfl⟩ rfl (gc4 (Nat.le_of_ble_eq_true rfl)) rfl dX4_decode_33 hf (fun v2 σ H locs cells slots I hf => ?_)
      refine W.eq (g2 := F0 m 36 ls [.int v2]) rfl ?_
      refine lv_goto (tgt := 40) hx hb dX4_decode_36 (by decide) ?_
      exact w_X4_decode_40 C hr hrec11 x0 x1 x3 x4 v2 _ _ _ _ _ _ hf I (lv_sub hl [0, 1, 2, 3] rfl)
theorem w_X4_decode_L11 (C : gC G p s m args meth c cX4_decode 7 RX4) (hr : meth.sig.returnType = none)  : ∀ (n : Nat) (x0 : Option Nat) (x1 : Option Nat) (x3 : Int32) (x4 : Int32), gJ G p l e 3 83 mc ms s m args below meth c grv y 7 11 [(0, va_rf x0), (1, va_rf x1), (3, .int x3), (4, .int x4)] [] (f_X4_decode_L11  n x0 x1 x3 x4) := by
  intro n
  induction n with
  | zero => intro x0 x1 x3 x4 σ H locs cells slots ls hf; exact (gno_some hf).elim
  | succ n ih => intro x0 x1 x3 x4; exact w_X4_decode_11 C hr  ih x0 x1 x3 x4
set_option maxHeartbeats 4000000 in
set_option maxRecDepth 100000 in
theorem w_X4_decode_0 (C : gC G p s m args meth c cX4_decode 7 RX4) (hr : meth.sig.returnType = none)  (a0 : Option Nat) (a1 : Option Nat) (a2 : Int32) (a3 : Int32) : gJ G p l e 3 83 mc ms s m args below meth c grv y 7 0 [(0, va_rf a0), (1, va_rf a1), (2, .int a2), (3, .int a3)] [] (f_X4_decode  a0 a1 a2 a3) := by
  have hx := C.1
  have hb := C.2.1
  intro σ H locs cells slots ls hf I hl
  unfold f_X4_decode at hf
  refine gw_aload_n hx hb dX4_decode_0 rfl (lv_at hl 0 rfl) ?_
  refine gw_getr (k := 0) C I gcls_3 (by decide) rfl kw_22 dX4_decode_1 hf (fun v1 hf => ?_)
  refine lv_iconst (v := 0) hx hb dX4_decode_4 kc_i_0 ?_
  refine gw_callV (rest := []) C I hl.1 gcls_4 (m_X5_cutTo G l v1 0) gl_RX4_65 gn_X5_cutTo ⟨Nat.le_of_ble_eq_true rfl, Nat.le_of_ble_eq_true rfl⟩ rfl (gc4 (Nat.le_of_ble_eq_true rfl)) rfl dX4_decode_5 hf (fun _ σ H locs cells slots I hf => ?_)
  refine W.eq (g2 := F0 m 8 ls []) rfl ?_
  refine lv_iload_n hx hb dX4_decode_8 rfl (lv_at hl 2 rfl) ?_
  refine lv_istore (lv' := [(4, .int a2), (0, va_rf a0), (1, va_rf a1), (2, .int a2), (3, .int a3)]) hx hb dX4_decode_9 hl (by decide) rfl (fun ls hl => ?_)
  exact w_X4_decode_L11 C hr  _ a0 a1 a3 a2 _ _ _ _ _ _ hf I (lv_sub hl [1, 2, 4, 0] rfl)
end S_X4_decode
theorem m_X4_decode (G : gX) (l : Launch) (a0 : Option Nat) (a1 : Option Nat) (a2 : Int32) (a3 : Int32) : gMet G l yX4_decode cX4_decode 7 none 3 83 [va_rf a0, va_rf a1, .int a2, .int a3] grv (f_X4_decode a0 a1 a2 a3) := by
  refine gMet_of (by decide) ?_
  intro σ y p e s m below meth c mc ms hf C hr hnm I
  obtain ⟨ls, e1, hl⟩ := gentry m [va_rf a0, va_rf a1, .int a2, .int a3] 7 [(0, va_rf a0), (1, va_rf a1), (2, .int a2), (3, .int a3)] (by simp [lg_sl, grc, gcat_i, gcat_l]) (by simp [lv_args, grc, gcat_i, gcat_l])
  rw [e1]
  exact w_X4_decode_0 C hr a0 a1 a2 a3 _ _ _ _ _ _ hf I hl
def f_X1_isWrongInName  (a0 : Int32) : gM Int32 := if a0 ≤ 32 then (gz 1) else (if 126 < a0 then (gz 1) else (gb (tk 10) fun _ => gb (f_J0_indexOf_0f7a4 10 ((a0.toUInt32 % 65536).toInt32)) fun v1 => if v1 < 0 then (gz 0) else (gz 1)))
section S_X1_isWrongInName
variable {G : gX} {p : Program} {l : Launch} {e : Env} {s : State} {m : MethodId} {args : Array Value} {below : List Frame} {meth : Method} {c : Code} {mc ms : Nat} {y : Int32 × gS}
set_option maxHeartbeats 4000000 in
set_option maxRecDepth 100000 in
theorem w_X1_isWrongInName_0 (C : gC G p s m args meth c cX1_isWrongInName 1 RX1) (hr : meth.sig.returnType = (some .boolean))  (a0 : Int32) : gJ G p l e 4 91 mc ms s m args below meth c gri y 1 0 [(0, .int a0)] [] (f_X1_isWrongInName  a0) := by
  have hx := C.1
  have hb := C.2.1
  intro σ H locs cells slots ls hf I hl
  unfold f_X1_isWrongInName at hf
  refine lv_iload_n hx hb dX1_isWrongInName_0 rfl (lv_at hl 0 rfl) ?_
  refine lv_bipush (v := 32) hx hb dX1_isWrongInName_1 kc_b_32 ?_
  refine lv_icmp_le (tgt := 22) hx hb dX1_isWrongInName_3 (by decide) (fun hq => ?_) (fun hq => ?_)
  · have hf := gift hq hf
    refine lv_iconst (v := 1) hx hb dX1_isWrongInName_22 kc_i_1 ?_
    refine lv_goto (tgt := 27) hx hb dX1_isWrongInName_23 (by decide) ?_
    exact gw_zret C I hr dX1_isWrongInName_27 hf
  · have hf := giff hq hf
    refine lv_iload_n hx hb dX1_isWrongInName_6 rfl (lv_at hl 0 rfl) ?_
    refine lv_bipush (v := 126) hx hb dX1_isWrongInName_7 kc_b_126 ?_
    refine lv_icmp_gt (tgt := 22) hx hb dX1_isWrongInName_9 (by decide) (fun hq => ?_) (fun hq => ?_)
    · have hf := gift hq hf
      refine lv_iconst (v := 1) hx hb dX1_isWrongInName_22 kc_i_1 ?_
      refine lv_goto (tgt := 27) hx hb dX1_isWrongInName_23 (by decide) ?_
      exact gw_zret C I hr dX1_isWrongInName_27 hf
    · have hf := giff hq hf
      refine gw_ldcs C 10 (tx := "#%/:<>?\x40[\\]^|") rfl dX1_isWrongInName_12 ?_
      refine lv_iload_n hx hb dX1_isWrongInName_14 rfl (lv_at hl 0 rfl) ?_
      refine lv_i2c hx hb dX1_isWrongInName_15 rfl ?_
      refine gw_callT (rest := []) C I hl.1 (m_J0_indexOf_0f7a4 G l 10 ((a0.toUInt32 % 65536).toInt32)) gl_RX1_9 gn_J0_indexOf_0f7a4 ⟨Nat.le_of_ble_eq_true rfl, Nat.le_of_ble_eq_true rfl⟩ rfl (gc4 (Nat.le_of_ble_eq_true rfl)) rfl dX1_isWrongInName_16 hf (fun v1 σ H locs cells slots I hf => ?_)
      refine W.eq (g2 := F0 m 19 ls [.int v1]) rfl ?_
      refine lv_if_lt (tgt := 26) hx hb dX1_isWrongInName_19 (by decide) (fun hq => ?_) (fun hq => ?_)
      · have hf := gift hq hf
        refine lv_iconst (v := 0) hx hb dX1_isWrongInName_26 kc_i_0 ?_
        exact gw_zret C I hr dX1_isWrongInName_27 hf
      · have hf := giff hq hf
        refine lv_iconst (v := 1) hx hb dX1_isWrongInName_22 kc_i_1 ?_
        refine lv_goto (tgt := 27) hx hb dX1_isWrongInName_23 (by decide) ?_
        exact gw_zret C I hr dX1_isWrongInName_27 hf
end S_X1_isWrongInName
theorem m_X1_isWrongInName (G : gX) (l : Launch) (a0 : Int32) : gMet G l yX1_isWrongInName cX1_isWrongInName 1 (some .boolean) 4 91 [.int a0] gri (f_X1_isWrongInName a0) := by
  refine gMet_of (by decide) ?_
  intro σ y p e s m below meth c mc ms hf C hr hnm I
  obtain ⟨ls, e1, hl⟩ := gentry m [.int a0] 1 [(0, .int a0)] (by simp [lg_sl, grc, gcat_i, gcat_l]) (by simp [lv_args, grc, gcat_i, gcat_l])
  rw [e1]
  exact w_X1_isWrongInName_0 C hr a0 _ _ _ _ _ _ hf I hl
def f_X4_hasWrongByte_2 (rec2 : Option Nat → Int32 → gM Int32) (x0 : Option Nat) (x1 : Int32) : gM Int32 := gb (rR 3 0 x0) fun v1 => gb (rI 4 1 v1) fun v2 => if v2 ≤ x1 then (gz 0) else (gb (rR 3 0 x0) fun v3 => gb (nn 4 v3) fun _ => gb (f_X5_byteAt v3 x1) fun v4 => gb (f_X1_isWrongInName v4) fun v5 => if v5 = 0 then (rec2 x0 (x1 + 1)) else (gz 1))
def f_X4_hasWrongByte_L2  : Nat → Option Nat → Int32 → gM Int32
  | 0, _, _ => gno
  | n + 1, x0, x1 => f_X4_hasWrongByte_2  (f_X4_hasWrongByte_L2  n) x0 x1
def f_X4_hasWrongByte  (a0 : Option Nat) : gM Int32 := f_X4_hasWrongByte_L2  gF a0 0
section S_X4_hasWrongByte
variable {G : gX} {p : Program} {l : Launch} {e : Env} {s : State} {m : MethodId} {args : Array Value} {below : List Frame} {meth : Method} {c : Code} {mc ms : Nat} {y : Int32 × gS}
set_option maxHeartbeats 4000000 in
set_option maxRecDepth 100000 in
theorem w_X4_hasWrongByte_2 (C : gC G p s m args meth c cX4_hasWrongByte 2 RX4) (hr : meth.sig.returnType = (some .boolean)) {rec2 : Option Nat → Int32 → gM Int32} (hrec2 : ∀ (x0 : Option Nat) (x1 : Int32), gJ G p l e 5 111 mc ms s m args below meth c gri y 2 2 [(0, va_rf x0), (1, .int x1)] [] (rec2 x0 x1)) (x0 : Option Nat) (x1 : Int32) : gJ G p l e 5 111 mc ms s m args below meth c gri y 2 2 [(0, va_rf x0), (1, .int x1)] [] (f_X4_hasWrongByte_2 rec2 x0 x1) := by
  have hx := C.1
  have hb := C.2.1
  intro σ H locs cells slots ls hf I hl
  unfold f_X4_hasWrongByte_2 at hf
  refine lv_iload_n hx hb dX4_hasWrongByte_2 rfl (lv_at hl 1 rfl) ?_
  refine gw_aload_n hx hb dX4_hasWrongByte_3 rfl (lv_at hl 0 rfl) ?_
  refine gw_getr (k := 0) C I gcls_3 (by decide) rfl kw_22 dX4_hasWrongByte_4 hf (fun v1 hf => ?_)
  refine gw_geti (k := 1) C I gcls_4 (by decide) rfl kw_130 dX4_hasWrongByte_7 hf (fun v2 hf => ?_)
  refine lv_icmp_ge (tgt := 35) hx hb dX4_hasWrongByte_10 (by decide) (fun hq => ?_) (fun hq => ?_)
  · have hf := gift hq hf
    refine lv_iconst (v := 0) hx hb dX4_hasWrongByte_35 kc_i_0 ?_
    exact gw_zret C I hr dX4_hasWrongByte_36 hf
  · have hf := giff hq hf
    refine gw_aload_n hx hb dX4_hasWrongByte_13 rfl (lv_at hl 0 rfl) ?_
    refine gw_getr (k := 0) C I gcls_3 (by decide) rfl kw_22 dX4_hasWrongByte_14 hf (fun v3 hf => ?_)
    refine lv_iload_n hx hb dX4_hasWrongByte_17 rfl (lv_at hl 1 rfl) ?_
    refine gw_callV (rest := []) C I hl.1 gcls_4 (m_X5_byteAt G l v3 x1) gl_RX4_26 gn_X5_byteAt ⟨Nat.le_of_ble_eq_true rfl, Nat.le_of_ble_eq_true rfl⟩ rfl (gc4 (Nat.le_of_ble_eq_true rfl)) rfl dX4_hasWrongByte_18 hf (fun v4 σ H locs cells slots I hf => ?_)
    refine W.eq (g2 := F0 m 21 ls [.int v4]) rfl ?_
    refine gw_callS (rest := []) C I hl.1 (m_X1_isWrongInName G l v4) gl_RX4_80 kw_131 ⟨Nat.le_of_ble_eq_true rfl, Nat.le_of_ble_eq_true rfl⟩ rfl (gc4 (Nat.le_of_ble_eq_true rfl)) rfl dX4_hasWrongByte_21 hf (fun v5 σ H locs cells slots I hf => ?_)
    refine W.eq (g2 := F0 m 24 ls [.int v5]) rfl ?_
    refine lv_if_eq (tgt := 29) hx hb dX4_hasWrongByte_24 (by decide) (fun hq => ?_) (fun hq => ?_)
    · have hf := gift hq hf
      refine lv_iinc (v := x1 + 1) (lv' := [(1, .int (x1 + 1)), (0, va_rf x0)]) hx hb dX4_hasWrongByte_29 hl (k := 1) rfl rfl (by decide) (by cases x0 <;> rfl) (fun ls hl => ?_)
      refine lv_goto (tgt := 2) hx hb dX4_hasWrongByte_32 (by decide) ?_
      exact hrec2 x0 (x1 + 1) _ _ _ _ _ _ hf I (lv_sub hl [1, 0] rfl)
    · have hf := giff hq hf
      refine lv_iconst (v := 1) hx hb dX4_hasWrongByte_27 kc_i_1 ?_
      exact gw_zret C I hr dX4_hasWrongByte_28 hf
theorem w_X4_hasWrongByte_L2 (C : gC G p s m args meth c cX4_hasWrongByte 2 RX4) (hr : meth.sig.returnType = (some .boolean))  : ∀ (n : Nat) (x0 : Option Nat) (x1 : Int32), gJ G p l e 5 111 mc ms s m args below meth c gri y 2 2 [(0, va_rf x0), (1, .int x1)] [] (f_X4_hasWrongByte_L2  n x0 x1) := by
  intro n
  induction n with
  | zero => intro x0 x1 σ H locs cells slots ls hf; exact (gno_some hf).elim
  | succ n ih => intro x0 x1; exact w_X4_hasWrongByte_2 C hr  ih x0 x1
set_option maxHeartbeats 4000000 in
set_option maxRecDepth 100000 in
theorem w_X4_hasWrongByte_0 (C : gC G p s m args meth c cX4_hasWrongByte 2 RX4) (hr : meth.sig.returnType = (some .boolean))  (a0 : Option Nat) : gJ G p l e 5 111 mc ms s m args below meth c gri y 2 0 [(0, va_rf a0)] [] (f_X4_hasWrongByte  a0) := by
  have hx := C.1
  have hb := C.2.1
  intro σ H locs cells slots ls hf I hl
  unfold f_X4_hasWrongByte at hf
  refine lv_iconst (v := 0) hx hb dX4_hasWrongByte_0 kc_i_0 ?_
  refine lv_istore_n (lv' := [(1, .int 0), (0, va_rf a0)]) hx hb dX4_hasWrongByte_1 rfl hl (by decide) (by cases a0 <;> rfl) (fun ls hl => ?_)
  exact w_X4_hasWrongByte_L2 C hr  _ a0 0 _ _ _ _ _ _ hf I (lv_sub hl [1, 0] rfl)
end S_X4_hasWrongByte
theorem m_X4_hasWrongByte (G : gX) (l : Launch) (a0 : Option Nat) : gMet G l yX4_hasWrongByte cX4_hasWrongByte 2 (some .boolean) 5 111 [va_rf a0] gri (f_X4_hasWrongByte a0) := by
  refine gMet_of (by decide) ?_
  intro σ y p e s m below meth c mc ms hf C hr hnm I
  obtain ⟨ls, e1, hl⟩ := gentry m [va_rf a0] 2 [(0, va_rf a0)] (by simp [lg_sl, grc, gcat_i, gcat_l]) (by simp [lv_args, grc, gcat_i, gcat_l])
  rw [e1]
  exact w_X4_hasWrongByte_0 C hr a0 _ _ _ _ _ _ hf I hl
def f_X4_hasForeignPart_32 (rec2 : Option Nat → Int32 → gM Int32) (x0 : Option Nat) (x1 : Int32) : gM Int32 := gb (rR 3 0 x0) fun v1 => gb (nn 4 v1) fun _ => gb (f_X5_hasAt v1 x1 11) fun v2 => if v2 = 0 then (rec2 x0 (x1 + 1)) else (gz 1)
def f_X4_hasForeignPart_2 (rec2 : Option Nat → Int32 → gM Int32) (x0 : Option Nat) (x1 : Int32) : gM Int32 := gb (rR 3 0 x0) fun v1 => gb (rI 4 1 v1) fun v2 => if v2 ≤ x1 then (gz 0) else (if x1 = 0 then (f_X4_hasForeignPart_32 rec2 x0 x1) else (gb (rR 3 0 x0) fun v3 => gb (nn 4 v3) fun _ => gb (f_X5_byteAt v3 (x1 - 1)) fun v4 => if v4 = 46 then (f_X4_hasForeignPart_32 rec2 x0 x1) else (rec2 x0 (x1 + 1))))
def f_X4_hasForeignPart_L2  : Nat → Option Nat → Int32 → gM Int32
  | 0, _, _ => gno
  | n + 1, x0, x1 => f_X4_hasForeignPart_2  (f_X4_hasForeignPart_L2  n) x0 x1
def f_X4_hasForeignPart  (a0 : Option Nat) : gM Int32 := f_X4_hasForeignPart_L2  gF a0 0
section S_X4_hasForeignPart
variable {G : gX} {p : Program} {l : Launch} {e : Env} {s : State} {m : MethodId} {args : Array Value} {below : List Frame} {meth : Method} {c : Code} {mc ms : Nat} {y : Int32 × gS}
set_option maxHeartbeats 4000000 in
set_option maxRecDepth 100000 in
theorem w_X4_hasForeignPart_32 (C : gC G p s m args meth c cX4_hasForeignPart 2 RX4) (hr : meth.sig.returnType = (some .boolean)) {rec2 : Option Nat → Int32 → gM Int32} (hrec2 : ∀ (x0 : Option Nat) (x1 : Int32), gJ G p l e 5 108 mc ms s m args below meth c gri y 2 2 [(0, va_rf x0), (1, .int x1)] [] (rec2 x0 x1)) (x0 : Option Nat) (x1 : Int32) : gJ G p l e 5 108 mc ms s m args below meth c gri y 2 32 [(0, va_rf x0), (1, .int x1)] [] (f_X4_hasForeignPart_32 rec2 x0 x1) := by
  have hx := C.1
  have hb := C.2.1
  intro σ H locs cells slots ls hf I hl
  unfold f_X4_hasForeignPart_32 at hf
  refine gw_aload_n hx hb dX4_hasForeignPart_32 rfl (lv_at hl 0 rfl) ?_
  refine gw_getr (k := 0) C I gcls_3 (by decide) rfl kw_22 dX4_hasForeignPart_33 hf (fun v1 hf => ?_)
  refine lv_iload_n hx hb dX4_hasForeignPart_36 rfl (lv_at hl 1 rfl) ?_
  refine gw_ldcs C 11 (tx := "xn--") rfl dX4_hasForeignPart_37 ?_
  refine gw_callV (rest := []) C I hl.1 gcls_4 (m_X5_hasAt G l v1 x1 11) gl_RX4_86 gn_X5_hasAt ⟨Nat.le_of_ble_eq_true rfl, Nat.le_of_ble_eq_true rfl⟩ rfl (gc4 (Nat.le_of_ble_eq_true rfl)) rfl dX4_hasForeignPart_39 hf (fun v2 σ H locs cells slots I hf => ?_)
  refine W.eq (g2 := F0 m 42 ls [.int v2]) rfl ?_
  refine lv_if_eq (tgt := 47) hx hb dX4_hasForeignPart_42 (by decide) (fun hq => ?_) (fun hq => ?_)
  · have hf := gift hq hf
    refine lv_iinc (v := x1 + 1) (lv' := [(1, .int (x1 + 1)), (0, va_rf x0)]) hx hb dX4_hasForeignPart_47 hl (k := 1) rfl rfl (by decide) (by cases x0 <;> rfl) (fun ls hl => ?_)
    refine lv_goto (tgt := 2) hx hb dX4_hasForeignPart_50 (by decide) ?_
    exact hrec2 x0 (x1 + 1) _ _ _ _ _ _ hf I (lv_sub hl [1, 0] rfl)
  · have hf := giff hq hf
    refine lv_iconst (v := 1) hx hb dX4_hasForeignPart_45 kc_i_1 ?_
    exact gw_zret C I hr dX4_hasForeignPart_46 hf
set_option maxHeartbeats 4000000 in
set_option maxRecDepth 100000 in
theorem w_X4_hasForeignPart_2 (C : gC G p s m args meth c cX4_hasForeignPart 2 RX4) (hr : meth.sig.returnType = (some .boolean)) {rec2 : Option Nat → Int32 → gM Int32} (hrec2 : ∀ (x0 : Option Nat) (x1 : Int32), gJ G p l e 5 108 mc ms s m args below meth c gri y 2 2 [(0, va_rf x0), (1, .int x1)] [] (rec2 x0 x1)) (x0 : Option Nat) (x1 : Int32) : gJ G p l e 5 108 mc ms s m args below meth c gri y 2 2 [(0, va_rf x0), (1, .int x1)] [] (f_X4_hasForeignPart_2 rec2 x0 x1) := by
  have hx := C.1
  have hb := C.2.1
  intro σ H locs cells slots ls hf I hl
  unfold f_X4_hasForeignPart_2 at hf
  refine lv_iload_n hx hb dX4_hasForeignPart_2 rfl (lv_at hl 1 rfl) ?_
  refine gw_aload_n hx hb dX4_hasForeignPart_3 rfl (lv_at hl 0 rfl) ?_
  refine gw_getr (k := 0) C I gcls_3 (by decide) rfl kw_22 dX4_hasForeignPart_4 hf (fun v1 hf => ?_)
  refine gw_geti (k := 1) C I gcls_4 (by decide) rfl kw_130 dX4_hasForeignPart_7 hf (fun v2 hf => ?_)
  refine lv_icmp_ge (tgt := 53) hx hb dX4_hasForeignPart_10 (by decide) (fun hq => ?_) (fun hq => ?_)
  · have hf := gift hq hf
    refine lv_iconst (v := 0) hx hb dX4_hasForeignPart_53 kc_i_0 ?_
    exact gw_zret C I hr dX4_hasForeignPart_54 hf
  · have hf := giff hq hf
    refine lv_iload_n hx hb dX4_hasForeignPart_13 rfl (lv_at hl 1 rfl) ?_
    refine lv_if_eq (tgt := 32) hx hb dX4_hasForeignPart_14 (by decide) (fun hq => ?_) (fun hq => ?_)
    · have hf := gift hq hf
      exact w_X4_hasForeignPart_32 C hr hrec2 x0 x1 _ _ _ _ _ _ hf I (lv_sub hl [0, 1] rfl)
    · have hf := giff hq hf
      refine gw_aload_n hx hb dX4_hasForeignPart_17 rfl (lv_at hl 0 rfl) ?_
      refine gw_getr (k := 0) C I gcls_3 (by decide) rfl kw_22 dX4_hasForeignPart_18 hf (fun v3 hf => ?_)
      refine lv_iload_n hx hb dX4_hasForeignPart_21 rfl (lv_at hl 1 rfl) ?_
      refine lv_iconst (v := 1) hx hb dX4_hasForeignPart_22 kc_i_1 ?_
      refine lv_isub hx hb dX4_hasForeignPart_23 ?_
      refine gw_callV (rest := []) C I hl.1 gcls_4 (m_X5_byteAt G l v3 (x1 - 1)) gl_RX4_26 gn_X5_byteAt ⟨Nat.le_of_ble_eq_true rfl, Nat.le_of_ble_eq_true rfl⟩ rfl (gc4 (Nat.le_of_ble_eq_true rfl)) rfl dX4_hasForeignPart_24 hf (fun v4 σ H locs cells slots I hf => ?_)
      refine W.eq (g2 := F0 m 27 ls [.int v4]) rfl ?_
      refine lv_bipush (v := 46) hx hb dX4_hasForeignPart_27 kc_b_46 ?_
      refine lv_icmp_ne (tgt := 47) hx hb dX4_hasForeignPart_29 (by decide) (fun hq => ?_) (fun hq => ?_)
      · have hf := giff hq hf
        refine lv_iinc (v := x1 + 1) (lv' := [(1, .int (x1 + 1)), (0, va_rf x0)]) hx hb dX4_hasForeignPart_47 hl (k := 1) rfl rfl (by decide) (by cases x0 <;> rfl) (fun ls hl => ?_)
        refine lv_goto (tgt := 2) hx hb dX4_hasForeignPart_50 (by decide) ?_
        exact hrec2 x0 (x1 + 1) _ _ _ _ _ _ hf I (lv_sub hl [1, 0] rfl)
      · have hf := gift hq hf
        exact w_X4_hasForeignPart_32 C hr hrec2 x0 x1 _ _ _ _ _ _ hf I (lv_sub hl [0, 1] rfl)
theorem w_X4_hasForeignPart_L2 (C : gC G p s m args meth c cX4_hasForeignPart 2 RX4) (hr : meth.sig.returnType = (some .boolean))  : ∀ (n : Nat) (x0 : Option Nat) (x1 : Int32), gJ G p l e 5 108 mc ms s m args below meth c gri y 2 2 [(0, va_rf x0), (1, .int x1)] [] (f_X4_hasForeignPart_L2  n x0 x1) := by
  intro n
  induction n with
  | zero => intro x0 x1 σ H locs cells slots ls hf; exact (gno_some hf).elim
  | succ n ih => intro x0 x1; exact w_X4_hasForeignPart_2 C hr  ih x0 x1
set_option maxHeartbeats 4000000 in
set_option maxRecDepth 100000 in
theorem w_X4_hasForeignPart_0 (C : gC G p s m args meth c cX4_hasForeignPart 2 RX4) (hr : meth.sig.returnType = (some .boolean))  (a0 : Option Nat) : gJ G p l e 5 108 mc ms s m args below meth c gri y 2 0 [(0, va_rf a0)] [] (f_X4_hasForeignPart  a0) := by
  have hx := C.1
  have hb := C.2.1
  intro σ H locs cells slots ls hf I hl
  unfold f_X4_hasForeignPart at hf
  refine lv_iconst (v := 0) hx hb dX4_hasForeignPart_0 kc_i_0 ?_
  refine lv_istore_n (lv' := [(1, .int 0), (0, va_rf a0)]) hx hb dX4_hasForeignPart_1 rfl hl (by decide) (by cases a0 <;> rfl) (fun ls hl => ?_)
  exact w_X4_hasForeignPart_L2 C hr  _ a0 0 _ _ _ _ _ _ hf I (lv_sub hl [1, 0] rfl)
end S_X4_hasForeignPart
theorem m_X4_hasForeignPart (G : gX) (l : Launch) (a0 : Option Nat) : gMet G l yX4_hasForeignPart cX4_hasForeignPart 2 (some .boolean) 5 108 [va_rf a0] gri (f_X4_hasForeignPart a0) := by
  refine gMet_of (by decide) ?_
  intro σ y p e s m below meth c mc ms hf C hr hnm I
  obtain ⟨ls, e1, hl⟩ := gentry m [va_rf a0] 2 [(0, va_rf a0)] (by simp [lg_sl, grc, gcat_i, gcat_l]) (by simp [lv_args, grc, gcat_i, gcat_l])
  rw [e1]
  exact w_X4_hasForeignPart_0 C hr a0 _ _ _ _ _ _ hf I hl
def f_X4_lastPartStart_2 (rec2 : Option Nat → Int32 → gM Int32) (x0 : Option Nat) (x2 : Int32) : gM Int32 := if x2 ≤ 0 then (gp x2) else (gb (rR 3 0 x0) fun v1 => gb (nn 4 v1) fun _ => gb (f_X5_byteAt v1 (x2 - 1)) fun v2 => if v2 = 46 then (gp x2) else (rec2 x0 (x2 + (-1))))
def f_X4_lastPartStart_L2  : Nat → Option Nat → Int32 → gM Int32
  | 0, _, _ => gno
  | n + 1, x0, x2 => f_X4_lastPartStart_2  (f_X4_lastPartStart_L2  n) x0 x2
def f_X4_lastPartStart  (a0 : Option Nat) (a1 : Int32) : gM Int32 := f_X4_lastPartStart_L2  gF a0 a1
section S_X4_lastPartStart
variable {G : gX} {p : Program} {l : Launch} {e : Env} {s : State} {m : MethodId} {args : Array Value} {below : List Frame} {meth : Method} {c : Code} {mc ms : Nat} {y : Int32 × gS}
set_option maxHeartbeats 4000000 in
set_option maxRecDepth 100000 in
theorem w_X4_lastPartStart_2 (C : gC G p s m args meth c cX4_lastPartStart 3 RX4) (hr : meth.sig.returnType = (some .int)) {rec2 : Option Nat → Int32 → gM Int32} (hrec2 : ∀ (x0 : Option Nat) (x2 : Int32), gJ G p l e 1 21 mc ms s m args below meth c gri y 3 2 [(0, va_rf x0), (2, .int x2)] [] (rec2 x0 x2)) (x0 : Option Nat) (x2 : Int32) : gJ G p l e 1 21 mc ms s m args below meth c gri y 3 2 [(0, va_rf x0), (2, .int x2)] [] (f_X4_lastPartStart_2 rec2 x0 x2) := by
  have hx := C.1
  have hb := C.2.1
  intro σ H locs cells slots ls hf I hl
  unfold f_X4_lastPartStart_2 at hf
  refine lv_iload_n hx hb dX4_lastPartStart_2 rfl (lv_at hl 1 rfl) ?_
  refine lv_if_le (tgt := 27) hx hb dX4_lastPartStart_3 (by decide) (fun hq => ?_) (fun hq => ?_)
  · have hf := gift hq hf
    refine lv_iload_n hx hb dX4_lastPartStart_27 rfl (lv_at hl 1 rfl) ?_
    exact gw_iret C I hr dX4_lastPartStart_28 hf
  · have hf := giff hq hf
    refine gw_aload_n hx hb dX4_lastPartStart_6 rfl (lv_at hl 0 rfl) ?_
    refine gw_getr (k := 0) C I gcls_3 (by decide) rfl kw_22 dX4_lastPartStart_7 hf (fun v1 hf => ?_)
    refine lv_iload_n hx hb dX4_lastPartStart_10 rfl (lv_at hl 1 rfl) ?_
    refine lv_iconst (v := 1) hx hb dX4_lastPartStart_11 kc_i_1 ?_
    refine lv_isub hx hb dX4_lastPartStart_12 ?_
    refine gw_callV (rest := []) C I hl.1 gcls_4 (m_X5_byteAt G l v1 (x2 - 1)) gl_RX4_26 gn_X5_byteAt ⟨Nat.le_of_ble_eq_true rfl, Nat.le_of_ble_eq_true rfl⟩ rfl (gc4 (Nat.le_of_ble_eq_true rfl)) rfl dX4_lastPartStart_13 hf (fun v2 σ H locs cells slots I hf => ?_)
    refine W.eq (g2 := F0 m 16 ls [.int v2]) rfl ?_
    refine lv_bipush (v := 46) hx hb dX4_lastPartStart_16 kc_b_46 ?_
    refine lv_icmp_eq (tgt := 27) hx hb dX4_lastPartStart_18 (by decide) (fun hq => ?_) (fun hq => ?_)
    · have hf := gift hq hf
      refine lv_iload_n hx hb dX4_lastPartStart_27 rfl (lv_at hl 1 rfl) ?_
      exact gw_iret C I hr dX4_lastPartStart_28 hf
    · have hf := giff hq hf
      refine lv_iinc (v := x2 + (-1)) (lv' := [(2, .int (x2 + (-1))), (0, va_rf x0)]) hx hb dX4_lastPartStart_21 hl (k := 1) rfl rfl (by decide) rfl (fun ls hl => ?_)
      refine lv_goto (tgt := 2) hx hb dX4_lastPartStart_24 (by decide) ?_
      exact hrec2 x0 (x2 + (-1)) _ _ _ _ _ _ hf I (lv_sub hl [1, 0] rfl)
theorem w_X4_lastPartStart_L2 (C : gC G p s m args meth c cX4_lastPartStart 3 RX4) (hr : meth.sig.returnType = (some .int))  : ∀ (n : Nat) (x0 : Option Nat) (x2 : Int32), gJ G p l e 1 21 mc ms s m args below meth c gri y 3 2 [(0, va_rf x0), (2, .int x2)] [] (f_X4_lastPartStart_L2  n x0 x2) := by
  intro n
  induction n with
  | zero => intro x0 x2 σ H locs cells slots ls hf; exact (gno_some hf).elim
  | succ n ih => intro x0 x2; exact w_X4_lastPartStart_2 C hr  ih x0 x2
set_option maxHeartbeats 4000000 in
set_option maxRecDepth 100000 in
theorem w_X4_lastPartStart_0 (C : gC G p s m args meth c cX4_lastPartStart 3 RX4) (hr : meth.sig.returnType = (some .int))  (a0 : Option Nat) (a1 : Int32) : gJ G p l e 1 21 mc ms s m args below meth c gri y 3 0 [(0, va_rf a0), (1, .int a1)] [] (f_X4_lastPartStart  a0 a1) := by
  have hx := C.1
  have hb := C.2.1
  intro σ H locs cells slots ls hf I hl
  unfold f_X4_lastPartStart at hf
  refine lv_iload_n hx hb dX4_lastPartStart_0 rfl (lv_at hl 1 rfl) ?_
  refine lv_istore_n (lv' := [(2, .int a1), (0, va_rf a0), (1, .int a1)]) hx hb dX4_lastPartStart_1 rfl hl (by decide) rfl (fun ls hl => ?_)
  exact w_X4_lastPartStart_L2 C hr  _ a0 a1 _ _ _ _ _ _ hf I (lv_sub hl [1, 0] rfl)
end S_X4_lastPartStart
theorem m_X4_lastPartStart (G : gX) (l : Launch) (a0 : Option Nat) (a1 : Int32) : gMet G l yX4_lastPartStart cX4_lastPartStart 3 (some .int) 1 21 [va_rf a0, .int a1] gri (f_X4_lastPartStart a0 a1) := by
  refine gMet_of (by decide) ?_
  intro σ y p e s m below meth c mc ms hf C hr hnm I
  obtain ⟨ls, e1, hl⟩ := gentry m [va_rf a0, .int a1] 3 [(0, va_rf a0), (1, .int a1)] (by simp [lg_sl, grc, gcat_i, gcat_l]) (by simp [lv_args, grc, gcat_i, gcat_l])
  rw [e1]
  exact w_X4_lastPartStart_0 C hr a0 a1 _ _ _ _ _ _ hf I hl
def f_X4_isHex  (a0 : Option Nat) (a1 : Int32) (a2 : Int32) : gM Int32 := if a2 < (a1 + 2) then (gz 0) else (gb (rR 3 0 a0) fun v1 => gb (nn 4 v1) fun _ => gb (f_X5_hasAt v1 a1 12) fun v2 => if v2 = 0 then (gz 0) else (gz 1))
section S_X4_isHex
variable {G : gX} {p : Program} {l : Launch} {e : Env} {s : State} {m : MethodId} {args : Array Value} {below : List Frame} {meth : Method} {c : Code} {mc ms : Nat} {y : Int32 × gS}
set_option maxHeartbeats 4000000 in
set_option maxRecDepth 100000 in
theorem w_X4_isHex_0 (C : gC G p s m args meth c cX4_isHex 3 RX4) (hr : meth.sig.returnType = (some .boolean))  (a0 : Option Nat) (a1 : Int32) (a2 : Int32) : gJ G p l e 5 108 mc ms s m args below meth c gri y 3 0 [(0, va_rf a0), (1, .int a1), (2, .int a2)] [] (f_X4_isHex  a0 a1 a2) := by
  have hx := C.1
  have hb := C.2.1
  intro σ H locs cells slots ls hf I hl
  unfold f_X4_isHex at hf
  refine lv_iload_n hx hb dX4_isHex_0 rfl (lv_at hl 1 rfl) ?_
  refine lv_iconst (v := 2) hx hb dX4_isHex_1 kc_i_2 ?_
  refine lv_iadd hx hb dX4_isHex_2 ?_
  refine lv_iload_n hx hb dX4_isHex_3 rfl (lv_at hl 2 rfl) ?_
  refine lv_icmp_gt (tgt := 24) hx hb dX4_isHex_4 (by decide) (fun hq => ?_) (fun hq => ?_)
  · have hf := gift hq hf
    refine lv_iconst (v := 0) hx hb dX4_isHex_24 kc_i_0 ?_
    exact gw_zret C I hr dX4_isHex_25 hf
  · have hf := giff hq hf
    refine gw_aload_n hx hb dX4_isHex_7 rfl (lv_at hl 0 rfl) ?_
    refine gw_getr (k := 0) C I gcls_3 (by decide) rfl kw_22 dX4_isHex_8 hf (fun v1 hf => ?_)
    refine lv_iload_n hx hb dX4_isHex_11 rfl (lv_at hl 1 rfl) ?_
    refine gw_ldcs C 12 (tx := "0x") rfl dX4_isHex_12 ?_
    refine gw_callV (rest := []) C I hl.1 gcls_4 (m_X5_hasAt G l v1 a1 12) gl_RX4_86 gn_X5_hasAt ⟨Nat.le_of_ble_eq_true rfl, Nat.le_of_ble_eq_true rfl⟩ rfl (gc4 (Nat.le_of_ble_eq_true rfl)) rfl dX4_isHex_14 hf (fun v2 σ H locs cells slots I hf => ?_)
    refine W.eq (g2 := F0 m 17 ls [.int v2]) rfl ?_
    refine lv_if_eq (tgt := 24) hx hb dX4_isHex_17 (by decide) (fun hq => ?_) (fun hq => ?_)
    · have hf := gift hq hf
      refine lv_iconst (v := 0) hx hb dX4_isHex_24 kc_i_0 ?_
      exact gw_zret C I hr dX4_isHex_25 hf
    · have hf := giff hq hf
      refine lv_iconst (v := 1) hx hb dX4_isHex_20 kc_i_1 ?_
      refine lv_goto (tgt := 25) hx hb dX4_isHex_21 (by decide) ?_
      exact gw_zret C I hr dX4_isHex_25 hf
end S_X4_isHex
theorem m_X4_isHex (G : gX) (l : Launch) (a0 : Option Nat) (a1 : Int32) (a2 : Int32) : gMet G l yX4_isHex cX4_isHex 3 (some .boolean) 5 108 [va_rf a0, .int a1, .int a2] gri (f_X4_isHex a0 a1 a2) := by
  refine gMet_of (by decide) ?_
  intro σ y p e s m below meth c mc ms hf C hr hnm I
  obtain ⟨ls, e1, hl⟩ := gentry m [va_rf a0, .int a1, .int a2] 3 [(0, va_rf a0), (1, .int a1), (2, .int a2)] (by simp [lg_sl, grc, gcat_i, gcat_l]) (by simp [lv_args, grc, gcat_i, gcat_l])
  rw [e1]
  exact w_X4_isHex_0 C hr a0 a1 a2 _ _ _ _ _ _ hf I hl
def f_X4_isNumeral_20 (rec20 : Option Nat → Int32 → Int32 → Int32 → Int32 → gM Int32) (x0 : Option Nat) (x1 : Int32) (x2 : Int32) (x3 : Int32) (x4 : Int32) : gM Int32 := if x2 ≤ x4 then (if x2 ≤ x1 then (gz 0) else (gz 1)) else (gb (rR 3 0 x0) fun v1 => gb (nn 4 v1) fun _ => gb (f_X5_byteAt v1 x4) fun v2 => if x3 = 0 then (gb (f_X1_isDigit v2) fun v3 => if v3 = 0 then (gz 0) else (rec20 x0 x1 x2 x3 (x4 + 1))) else (gb (f_X1_hexValue v2) fun v4 => if v4 = (-1) then (gz 0) else (rec20 x0 x1 x2 x3 (x4 + 1))))
def f_X4_isNumeral_L20  : Nat → Option Nat → Int32 → Int32 → Int32 → Int32 → gM Int32
  | 0, _, _, _, _, _ => gno
  | n + 1, x0, x1, x2, x3, x4 => f_X4_isNumeral_20  (f_X4_isNumeral_L20  n) x0 x1 x2 x3 x4
def f_X4_isNumeral  (a0 : Option Nat) (a1 : Int32) (a2 : Int32) : gM Int32 := gb (nn 3 a0) fun _ => gb (f_X4_isHex a0 a1 a2) fun v1 => if v1 = 0 then (f_X4_isNumeral_L20  gF a0 a1 a2 v1 a1) else (f_X4_isNumeral_L20  gF a0 a1 a2 v1 (a1 + 2))
section S_X4_isNumeral
variable {G : gX} {p : Program} {l : Launch} {e : Env} {s : State} {m : MethodId} {args : Array Value} {below : List Frame} {meth : Method} {c : Code} {mc ms : Nat} {y : Int32 × gS}
set_option maxHeartbeats 4000000 in
set_option maxRecDepth 100000 in
theorem w_X4_isNumeral_20 (C : gC G p s m args meth c cX4_isNumeral 6 RX4) (hr : meth.sig.returnType = (some .boolean)) {rec20 : Option Nat → Int32 → Int32 → Int32 → Int32 → gM Int32} (hrec20 : ∀ (x0 : Option Nat) (x1 : Int32) (x2 : Int32) (x3 : Int32) (x4 : Int32), gJ G p l e 6 130 mc ms s m args below meth c gri y 6 20 [(0, va_rf x0), (1, .int x1), (2, .int x2), (3, .int x3), (4, .int x4)] [] (rec20 x0 x1 x2 x3 x4)) (x0 : Option Nat) (x1 : Int32) (x2 : Int32) (x3 : Int32) (x4 : Int32) : gJ G p l e 6 130 mc ms s m args below meth c gri y 6 20 [(0, va_rf x0), (1, .int x1), (2, .int x2), (3, .int x3), (4, .int x4)] [] (f_X4_isNumeral_20 rec20 x0 x1 x2 x3 x4) := by
  have hx := C.1
  have hb := C.2.1
  intro σ H locs cells slots ls hf I hl
  unfold f_X4_isNumeral_20 at hf
  refine lv_iload hx hb dX4_isNumeral_20 (lv_at hl 4 rfl) ?_
  refine lv_iload_n hx hb dX4_isNumeral_22 rfl (lv_at hl 2 rfl) ?_
  refine lv_icmp_ge (tgt := 69) hx hb dX4_isNumeral_23 (by decide) (fun hq => ?_) (fun hq => ?_)
  · have hf := gift hq hf
    refine lv_iload_n hx hb dX4_isNumeral_69 rfl (lv_at hl 1 rfl) ?_
    refine lv_iload_n hx hb dX4_isNumeral_70 rfl (lv_at hl 2 rfl) ?_
    refine lv_icmp_ge (tgt := 78) hx hb dX4_isNumeral_71 (by decide) (fun hq => ?_) (fun hq => ?_)
    · have hf := gift hq hf
      refine lv_iconst (v := 0) hx hb dX4_isNumeral_78 kc_i_0 ?_
      exact gw_zret C I hr dX4_isNumeral_79 hf
    · have hf := giff hq hf
      refine lv_iconst (v := 1) hx hb dX4_isNumeral_74 kc_i_1 ?_
      refine lv_goto (tgt := 79) hx hb dX4_isNumeral_75 (by decide) ?_
      exact gw_zret C I hr dX4_isNumeral_79 hf
  · have hf := giff hq hf
    refine gw_aload_n hx hb dX4_isNumeral_26 rfl (lv_at hl 0 rfl) ?_
    refine gw_getr (k := 0) C I gcls_3 (by decide) rfl kw_22 dX4_isNumeral_27 hf (fun v1 hf => ?_)
    refine lv_iload hx hb dX4_isNumeral_30 (lv_at hl 4 rfl) ?_
    refine gw_callV (rest := []) C I hl.1 gcls_4 (m_X5_byteAt G l v1 x4) gl_RX4_26 gn_X5_byteAt ⟨Nat.le_of_ble_eq_true rfl, Nat.le_of_ble_eq_true rfl⟩ rfl (gc4 (Nat.le_of_ble_eq_true rfl)) rfl dX4_isNumeral_32 hf (fun v2 σ H locs cells slots I hf => ?_)
    refine W.eq (g2 := F0 m 35 ls [.int v2]) rfl ?_
    refine lv_istore (lv' := [(5, .int v2), (0, va_rf x0), (1, .int x1), (2, .int x2), (3, .int x3), (4, .int x4)]) hx hb dX4_isNumeral_35 hl (by decide) rfl (fun ls hl => ?_)
    refine lv_iload_n hx hb dX4_isNumeral_37 rfl (lv_at hl 4 rfl) ?_
    refine lv_if_eq (tgt := 53) hx hb dX4_isNumeral_38 (by decide) (fun hq => ?_) (fun hq => ?_)
    · have hf := gift hq hf
      refine lv_iload hx hb dX4_isNumeral_53 (lv_at hl 0 rfl) ?_
      refine gw_callS (rest := []) C I hl.1 (m_X1_isDigit G l v2) gl_RX4_93 kw_102 ⟨Nat.le_of_ble_eq_true rfl, Nat.le_of_ble_eq_true rfl⟩ rfl (gc4 (Nat.le_of_ble_eq_true rfl)) rfl dX4_isNumeral_55 hf (fun v3 σ H locs cells slots I hf => ?_)
      refine W.eq (g2 := F0 m 58 ls [.int v3]) rfl ?_
      refine lv_if_ne (tgt := 63) hx hb dX4_isNumeral_58 (by decide) (fun hq => ?_) (fun hq => ?_)
      · have hf := giff hq hf
        refine lv_iinc (v := x4 + 1) (lv' := [(4, .int (x4 + 1)), (5, .int v2), (0, va_rf x0), (1, .int x1), (2, .int x2), (3, .int x3)]) hx hb dX4_isNumeral_63 hl (k := 5) rfl rfl (by decide) rfl (fun ls hl => ?_)
        refine lv_goto (tgt := 20) hx hb dX4_isNumeral_66 (by decide) ?_
        exact hrec20 x0 x1 x2 x3 (x4 + 1) _ _ _ _ _ _ hf I (lv_sub hl [2, 3, 4, 5, 0] rfl)
      · have hf := gift hq hf
        refine lv_iconst (v := 0) hx hb dX4_isNumeral_61 kc_i_0 ?_
        exact gw_zret C I hr dX4_isNumeral_62 hf
    · have hf := giff hq hf
      refine lv_iload hx hb dX4_isNumeral_41 (lv_at hl 0 rfl) ?_
      refine gw_callS (rest := []) C I hl.1 (m_X1_hexValue G l v2) gl_RX4_69 kw_128 ⟨Nat.le_of_ble_eq_true rfl, Nat.le_of_ble_eq_true rfl⟩ rfl (gc4 (Nat.le_of_ble_eq_true rfl)) rfl dX4_isNumeral_43 hf (fun v4 σ H locs cells slots I hf => ?_)
      refine W.eq (g2 := F0 m 46 ls [.int v4]) rfl ?_
      refine lv_iconst (v := (-1)) hx hb dX4_isNumeral_46 kc_i_m1 ?_
      refine lv_icmp_ne (tgt := 63) hx hb dX4_isNumeral_47 (by decide) (fun hq => ?_) (fun hq => ?_)
      · have hf := giff hq hf
        refine lv_iinc (v := x4 + 1) (lv' := [(4, .int (x4 + 1)), (5, .int v2), (0, va_rf x0), (1, .int x1), (2, .int x2), (3, .int x3)]) hx hb dX4_isNumeral_63 hl (k := 5) rfl rfl (by decide) rfl (fun ls hl => ?_)
        refine lv_goto (tgt := 20) hx hb dX4_isNumeral_66 (by decide) ?_
        exact hrec20 x0 x1 x2 x3 (x4 + 1) _ _ _ _ _ _ hf I (lv_sub hl [2, 3, 4, 5, 0] rfl)
      · have hf := gift hq hf
        refine lv_goto (tgt := 61) hx hb dX4_isNumeral_50 (by decide) ?_
        refine lv_iconst (v := 0) hx hb dX4_isNumeral_61 kc_i_0 ?_
        exact gw_zret C I hr dX4_isNumeral_62 hf
theorem w_X4_isNumeral_L20 (C : gC G p s m args meth c cX4_isNumeral 6 RX4) (hr : meth.sig.returnType = (some .boolean))  : ∀ (n : Nat) (x0 : Option Nat) (x1 : Int32) (x2 : Int32) (x3 : Int32) (x4 : Int32), gJ G p l e 6 130 mc ms s m args below meth c gri y 6 20 [(0, va_rf x0), (1, .int x1), (2, .int x2), (3, .int x3), (4, .int x4)] [] (f_X4_isNumeral_L20  n x0 x1 x2 x3 x4) := by
  intro n
  induction n with
  | zero => intro x0 x1 x2 x3 x4 σ H locs cells slots ls hf; exact (gno_some hf).elim
  | succ n ih => intro x0 x1 x2 x3 x4; exact w_X4_isNumeral_20 C hr  ih x0 x1 x2 x3 x4
set_option maxHeartbeats 4000000 in
set_option maxRecDepth 100000 in
theorem w_X4_isNumeral_0 (C : gC G p s m args meth c cX4_isNumeral 6 RX4) (hr : meth.sig.returnType = (some .boolean))  (a0 : Option Nat) (a1 : Int32) (a2 : Int32) : gJ G p l e 6 130 mc ms s m args below meth c gri y 6 0 [(0, va_rf a0), (1, .int a1), (2, .int a2)] [] (f_X4_isNumeral  a0 a1 a2) := by
  have hx := C.1
  have hb := C.2.1
  intro σ H locs cells slots ls hf I hl
  unfold f_X4_isNumeral at hf
  refine gw_aload_n hx hb dX4_isNumeral_0 rfl (lv_at hl 0 rfl) ?_
  refine lv_iload_n hx hb dX4_isNumeral_1 rfl (lv_at hl 1 rfl) ?_
  refine lv_iload_n hx hb dX4_isNumeral_2 rfl (lv_at hl 2 rfl) ?_
  refine gw_callV (rest := []) C I hl.1 gcls_3 (m_X4_isHex G l a0 a1 a2) gl_RX4_90 gn_X4_isHex ⟨Nat.le_of_ble_eq_true rfl, Nat.le_of_ble_eq_true rfl⟩ rfl (gc4 (Nat.le_of_ble_eq_true rfl)) rfl dX4_isNumeral_3 hf (fun v1 σ H locs cells slots I hf => ?_)
  refine W.eq (g2 := F0 m 6 ls [.int v1]) rfl ?_
  refine lv_istore_n (lv' := [(3, .int v1), (0, va_rf a0), (1, .int a1), (2, .int a2)]) hx hb dX4_isNumeral_6 rfl hl (by decide) rfl (fun ls hl => ?_)
  refine lv_iload_n hx hb dX4_isNumeral_7 rfl (lv_at hl 0 rfl) ?_
  refine lv_if_eq (tgt := 17) hx hb dX4_isNumeral_8 (by decide) (fun hq => ?_) (fun hq => ?_)
  · have hf := gift hq hf
    refine lv_iload_n hx hb dX4_isNumeral_17 rfl (lv_at hl 2 rfl) ?_
    refine lv_istore (lv' := [(4, .int a1), (3, .int v1), (0, va_rf a0), (1, .int a1), (2, .int a2)]) hx hb dX4_isNumeral_18 hl (by decide) rfl (fun ls hl => ?_)
    exact w_X4_isNumeral_L20 C hr  _ a0 a1 a2 v1 a1 _ _ _ _ _ _ hf I (lv_sub hl [2, 3, 4, 1, 0] rfl)
  · have hf := giff hq hf
    refine lv_iload_n hx hb dX4_isNumeral_11 rfl (lv_at hl 2 rfl) ?_
    refine lv_iconst (v := 2) hx hb dX4_isNumeral_12 kc_i_2 ?_
    refine lv_iadd hx hb dX4_isNumeral_13 ?_
    refine lv_goto (tgt := 18) hx hb dX4_isNumeral_14 (by decide) ?_
    refine lv_istore (lv' := [(4, .int (a1 + 2)), (3, .int v1), (0, va_rf a0), (1, .int a1), (2, .int a2)]) hx hb dX4_isNumeral_18 hl (by decide) rfl (fun ls hl => ?_)
    exact w_X4_isNumeral_L20 C hr  _ a0 a1 a2 v1 (a1 + 2) _ _ _ _ _ _ hf I (lv_sub hl [2, 3, 4, 1, 0] rfl)
end S_X4_isNumeral
theorem m_X4_isNumeral (G : gX) (l : Launch) (a0 : Option Nat) (a1 : Int32) (a2 : Int32) : gMet G l yX4_isNumeral cX4_isNumeral 6 (some .boolean) 6 130 [va_rf a0, .int a1, .int a2] gri (f_X4_isNumeral a0 a1 a2) := by
  refine gMet_of (by decide) ?_
  intro σ y p e s m below meth c mc ms hf C hr hnm I
  obtain ⟨ls, e1, hl⟩ := gentry m [va_rf a0, .int a1, .int a2] 6 [(0, va_rf a0), (1, .int a1), (2, .int a2)] (by simp [lg_sl, grc, gcat_i, gcat_l]) (by simp [lv_args, grc, gcat_i, gcat_l])
  rw [e1]
  exact w_X4_isNumeral_0 C hr a0 a1 a2 _ _ _ _ _ _ hf I hl
def f_X4_partEnd_2 (rec2 : Option Nat → Int32 → Int32 → gM Int32) (x0 : Option Nat) (x2 : Int32) (x3 : Int32) : gM Int32 := if x2 ≤ x3 then (gp x3) else (gb (rR 3 0 x0) fun v1 => gb (nn 4 v1) fun _ => gb (f_X5_byteAt v1 x3) fun v2 => if v2 = 46 then (gp x3) else (rec2 x0 x2 (x3 + 1)))
def f_X4_partEnd_L2  : Nat → Option Nat → Int32 → Int32 → gM Int32
  | 0, _, _, _ => gno
  | n + 1, x0, x2, x3 => f_X4_partEnd_2  (f_X4_partEnd_L2  n) x0 x2 x3
def f_X4_partEnd  (a0 : Option Nat) (a1 : Int32) (a2 : Int32) : gM Int32 := f_X4_partEnd_L2  gF a0 a2 a1
section S_X4_partEnd
variable {G : gX} {p : Program} {l : Launch} {e : Env} {s : State} {m : MethodId} {args : Array Value} {below : List Frame} {meth : Method} {c : Code} {mc ms : Nat} {y : Int32 × gS}
set_option maxHeartbeats 4000000 in
set_option maxRecDepth 100000 in
theorem w_X4_partEnd_2 (C : gC G p s m args meth c cX4_partEnd 4 RX4) (hr : meth.sig.returnType = (some .int)) {rec2 : Option Nat → Int32 → Int32 → gM Int32} (hrec2 : ∀ (x0 : Option Nat) (x2 : Int32) (x3 : Int32), gJ G p l e 1 21 mc ms s m args below meth c gri y 4 2 [(0, va_rf x0), (2, .int x2), (3, .int x3)] [] (rec2 x0 x2 x3)) (x0 : Option Nat) (x2 : Int32) (x3 : Int32) : gJ G p l e 1 21 mc ms s m args below meth c gri y 4 2 [(0, va_rf x0), (2, .int x2), (3, .int x3)] [] (f_X4_partEnd_2 rec2 x0 x2 x3) := by
  have hx := C.1
  have hb := C.2.1
  intro σ H locs cells slots ls hf I hl
  unfold f_X4_partEnd_2 at hf
  refine lv_iload_n hx hb dX4_partEnd_2 rfl (lv_at hl 2 rfl) ?_
  refine lv_iload_n hx hb dX4_partEnd_3 rfl (lv_at hl 1 rfl) ?_
  refine lv_icmp_ge (tgt := 26) hx hb dX4_partEnd_4 (by decide) (fun hq => ?_) (fun hq => ?_)
  · have hf := gift hq hf
    refine lv_iload_n hx hb dX4_partEnd_26 rfl (lv_at hl 2 rfl) ?_
    exact gw_iret C I hr dX4_partEnd_27 hf
  · have hf := giff hq hf
    refine gw_aload_n hx hb dX4_partEnd_7 rfl (lv_at hl 0 rfl) ?_
    refine gw_getr (k := 0) C I gcls_3 (by decide) rfl kw_22 dX4_partEnd_8 hf (fun v1 hf => ?_)
    refine lv_iload_n hx hb dX4_partEnd_11 rfl (lv_at hl 2 rfl) ?_
    refine gw_callV (rest := []) C I hl.1 gcls_4 (m_X5_byteAt G l v1 x3) gl_RX4_26 gn_X5_byteAt ⟨Nat.le_of_ble_eq_true rfl, Nat.le_of_ble_eq_true rfl⟩ rfl (gc4 (Nat.le_of_ble_eq_true rfl)) rfl dX4_partEnd_12 hf (fun v2 σ H locs cells slots I hf => ?_)
    refine W.eq (g2 := F0 m 15 ls [.int v2]) rfl ?_
    refine lv_bipush (v := 46) hx hb dX4_partEnd_15 kc_b_46 ?_
    refine lv_icmp_eq (tgt := 26) hx hb dX4_partEnd_17 (by decide) (fun hq => ?_) (fun hq => ?_)
    · have hf := gift hq hf
      refine lv_iload_n hx hb dX4_partEnd_26 rfl (lv_at hl 2 rfl) ?_
      exact gw_iret C I hr dX4_partEnd_27 hf
    · have hf := giff hq hf
      refine lv_iinc (v := x3 + 1) (lv' := [(3, .int (x3 + 1)), (0, va_rf x0), (2, .int x2)]) hx hb dX4_partEnd_20 hl (k := 2) rfl rfl (by decide) rfl (fun ls hl => ?_)
      refine lv_goto (tgt := 2) hx hb dX4_partEnd_23 (by decide) ?_
      exact hrec2 x0 x2 (x3 + 1) _ _ _ _ _ _ hf I (lv_sub hl [1, 2, 0] rfl)
theorem w_X4_partEnd_L2 (C : gC G p s m args meth c cX4_partEnd 4 RX4) (hr : meth.sig.returnType = (some .int))  : ∀ (n : Nat) (x0 : Option Nat) (x2 : Int32) (x3 : Int32), gJ G p l e 1 21 mc ms s m args below meth c gri y 4 2 [(0, va_rf x0), (2, .int x2), (3, .int x3)] [] (f_X4_partEnd_L2  n x0 x2 x3) := by
  intro n
  induction n with
  | zero => intro x0 x2 x3 σ H locs cells slots ls hf; exact (gno_some hf).elim
  | succ n ih => intro x0 x2 x3; exact w_X4_partEnd_2 C hr  ih x0 x2 x3
set_option maxHeartbeats 4000000 in
set_option maxRecDepth 100000 in
theorem w_X4_partEnd_0 (C : gC G p s m args meth c cX4_partEnd 4 RX4) (hr : meth.sig.returnType = (some .int))  (a0 : Option Nat) (a1 : Int32) (a2 : Int32) : gJ G p l e 1 21 mc ms s m args below meth c gri y 4 0 [(0, va_rf a0), (1, .int a1), (2, .int a2)] [] (f_X4_partEnd  a0 a1 a2) := by
  have hx := C.1
  have hb := C.2.1
  intro σ H locs cells slots ls hf I hl
  unfold f_X4_partEnd at hf
  refine lv_iload_n hx hb dX4_partEnd_0 rfl (lv_at hl 1 rfl) ?_
  refine lv_istore_n (lv' := [(3, .int a1), (0, va_rf a0), (1, .int a1), (2, .int a2)]) hx hb dX4_partEnd_1 rfl hl (by decide) rfl (fun ls hl => ?_)
  exact w_X4_partEnd_L2 C hr  _ a0 a2 a1 _ _ _ _ _ _ hf I (lv_sub hl [1, 3, 0] rfl)
end S_X4_partEnd
theorem m_X4_partEnd (G : gX) (l : Launch) (a0 : Option Nat) (a1 : Int32) (a2 : Int32) : gMet G l yX4_partEnd cX4_partEnd 4 (some .int) 1 21 [va_rf a0, .int a1, .int a2] gri (f_X4_partEnd a0 a1 a2) := by
  refine gMet_of (by decide) ?_
  intro σ y p e s m below meth c mc ms hf C hr hnm I
  obtain ⟨ls, e1, hl⟩ := gentry m [va_rf a0, .int a1, .int a2] 4 [(0, va_rf a0), (1, .int a1), (2, .int a2)] (by simp [lg_sl, grc, gcat_i, gcat_l]) (by simp [lv_args, grc, gcat_i, gcat_l])
  rw [e1]
  exact w_X4_partEnd_0 C hr a0 a1 a2 _ _ _ _ _ _ hf I hl
def f_X4_numeralValue_90   : gM Int64 := gp (-1)
def f_X4_numeralValue_58 (rec58 : Option Nat → Int32 → Int32 → Int64 → Int32 → gM Int64) (x0 : Option Nat) (x2 : Int32) (x3 : Int32) (x5 : Int64) (x7 : Int32) : gM Int64 := if x2 ≤ x7 then (gp x5) else (gb (rR 3 0 x0) fun v1 => gb (nn 4 v1) fun _ => gb (f_X5_byteAt v1 x7) fun v2 => gb (f_X1_hexValue v2) fun v3 => if v3 = (-1) then (f_X4_numeralValue_90  ) else (if v3 < x3 then (rec58 x0 x2 x3 (if 4294967296 < (x5 * x3.toInt64) + v3.toInt64 then 4294967296 else (x5 * x3.toInt64) + v3.toInt64) (x7 + 1)) else (f_X4_numeralValue_90  )))
def f_X4_numeralValue_L58  : Nat → Option Nat → Int32 → Int32 → Int64 → Int32 → gM Int64
  | 0, _, _, _, _, _ => gno
  | n + 1, x0, x2, x3, x5, x7 => f_X4_numeralValue_58  (f_X4_numeralValue_L58  n) x0 x2 x3 x5 x7
def f_X4_numeralValue_51  (x0 : Option Nat) (x2 : Int32) (x3 : Int32) (x4 : Int32) : gM Int64 := f_X4_numeralValue_L58  gF x0 x2 x3 0 x4
def f_X4_numeralValue  (a0 : Option Nat) (a1 : Int32) (a2 : Int32) : gM Int64 := if a1 < a2 then (gb (nn 3 a0) fun _ => gb (f_X4_isHex a0 a1 a2) fun v1 => if v1 = 0 then (gb (rR 3 0 a0) fun v2 => gb (nn 4 v2) fun _ => gb (f_X5_byteAt v2 a1) fun v3 => if v3 = 48 then (f_X4_numeralValue_51  a0 a2 8 a1) else (f_X4_numeralValue_51  a0 a2 10 a1)) else (f_X4_numeralValue_51  a0 a2 16 (a1 + 2))) else (gp (-1))
section S_X4_numeralValue
variable {G : gX} {p : Program} {l : Launch} {e : Env} {s : State} {m : MethodId} {args : Array Value} {below : List Frame} {meth : Method} {c : Code} {mc ms : Nat} {y : Int64 × gS}
set_option maxHeartbeats 4000000 in
set_option maxRecDepth 100000 in
theorem w_X4_numeralValue_90 (C : gC G p s m args meth c cX4_numeralValue 9 RX4) (hr : meth.sig.returnType = (some .long))   : gJ G p l e 6 130 mc ms s m args below meth c grl y 9 90 [] [] (f_X4_numeralValue_90  ) := by
  have hx := C.1
  have hb := C.2.1
  intro σ H locs cells slots ls hf I hl
  unfold f_X4_numeralValue_90 at hf
  refine gw_ldc2 C (v := (-1)) kw_132 dX4_numeralValue_90 ?_
  exact gw_lret C I hr dX4_numeralValue_93 hf
set_option maxHeartbeats 4000000 in
set_option maxRecDepth 100000 in
theorem w_X4_numeralValue_58 (C : gC G p s m args meth c cX4_numeralValue 9 RX4) (hr : meth.sig.returnType = (some .long)) {rec58 : Option Nat → Int32 → Int32 → Int64 → Int32 → gM Int64} (hrec58 : ∀ (x0 : Option Nat) (x2 : Int32) (x3 : Int32) (x5 : Int64) (x7 : Int32), gJ G p l e 6 130 mc ms s m args below meth c grl y 9 58 [(0, va_rf x0), (2, .int x2), (3, .int x3), (5, .long x5), (7, .int x7)] [] (rec58 x0 x2 x3 x5 x7)) (x0 : Option Nat) (x2 : Int32) (x3 : Int32) (x5 : Int64) (x7 : Int32) : gJ G p l e 6 130 mc ms s m args below meth c grl y 9 58 [(0, va_rf x0), (2, .int x2), (3, .int x3), (5, .long x5), (7, .int x7)] [] (f_X4_numeralValue_58 rec58 x0 x2 x3 x5 x7) := by
  have hx := C.1
  have hb := C.2.1
  intro σ H locs cells slots ls hf I hl
  unfold f_X4_numeralValue_58 at hf
  refine lv_iload hx hb dX4_numeralValue_58 (lv_at hl 4 rfl) ?_
  refine lv_iload_n hx hb dX4_numeralValue_60 rfl (lv_at hl 1 rfl) ?_
  refine lv_icmp_ge (tgt := 117) hx hb dX4_numeralValue_61 (by decide) (fun hq => ?_) (fun hq => ?_)
  · have hf := gift hq hf
    refine lv_lload hx hb dX4_numeralValue_117 (lv_at hl 3 rfl) ?_
    exact gw_lret C I hr dX4_numeralValue_119 hf
  · have hf := giff hq hf
    refine gw_aload_n hx hb dX4_numeralValue_64 rfl (lv_at hl 0 rfl) ?_
    refine gw_getr (k := 0) C I gcls_3 (by decide) rfl kw_22 dX4_numeralValue_65 hf (fun v1 hf => ?_)
    refine lv_iload hx hb dX4_numeralValue_68 (lv_at hl 4 rfl) ?_
    refine gw_callV (rest := []) C I hl.1 gcls_4 (m_X5_byteAt G l v1 x7) gl_RX4_26 gn_X5_byteAt ⟨Nat.le_of_ble_eq_true rfl, Nat.le_of_ble_eq_true rfl⟩ rfl (gc4 (Nat.le_of_ble_eq_true rfl)) rfl dX4_numeralValue_70 hf (fun v2 σ H locs cells slots I hf => ?_)
    refine W.eq (g2 := F0 m 73 ls [.int v2]) rfl ?_
    refine gw_callS (rest := []) C I hl.1 (m_X1_hexValue G l v2) gl_RX4_69 kw_128 ⟨Nat.le_of_ble_eq_true rfl, Nat.le_of_ble_eq_true rfl⟩ rfl (gc4 (Nat.le_of_ble_eq_true rfl)) rfl dX4_numeralValue_73 hf (fun v3 σ H locs cells slots I hf => ?_)
    refine W.eq (g2 := F0 m 76 ls [.int v3]) rfl ?_
    refine lv_istore (lv' := [(8, .int v3), (0, va_rf x0), (2, .int x2), (3, .int x3), (5, .long x5), (7, .int x7)]) hx hb dX4_numeralValue_76 hl (by decide) rfl (fun ls hl => ?_)
    refine lv_iload hx hb dX4_numeralValue_78 (lv_at hl 0 rfl) ?_
    refine lv_iconst (v := (-1)) hx hb dX4_numeralValue_80 kc_i_m1 ?_
    refine lv_icmp_eq (tgt := 90) hx hb dX4_numeralValue_81 (by decide) (fun hq => ?_) (fun hq => ?_)
    · have hf := gift hq hf
      exact w_X4_numeralValue_90 C hr   _ _ _ _ _ _ hf I (lv_sub hl [] rfl)
    · have hf := giff hq hf
      refine lv_iload hx hb dX4_numeralValue_84 (lv_at hl 0 rfl) ?_
      refine lv_iload_n hx hb dX4_numeralValue_86 rfl (lv_at hl 3 rfl) ?_
      refine lv_icmp_lt (tgt := 94) hx hb dX4_numeralValue_87 (by decide) (fun hq => ?_) (fun hq => ?_)
      · have hf := gift hq hf
        refine lv_lload hx hb dX4_numeralValue_94 (lv_at hl 4 rfl) ?_
        refine lv_iload_n hx hb dX4_numeralValue_96 rfl (lv_at hl 3 rfl) ?_
        refine lv_i2l hx hb dX4_numeralValue_97 rfl ?_
        refine lv_lmul hx hb dX4_numeralValue_98 ?_
        refine lv_iload hx hb dX4_numeralValue_99 (lv_at hl 0 rfl) ?_
        refine lv_i2l hx hb dX4_numeralValue_101 rfl ?_
        refine lv_ladd hx hb dX4_numeralValue_102 ?_
        refine gw_ldc2 C (v := 4294967296) kw_133 dX4_numeralValue_103 ?_
        refine gw_mminl (rest := []) C I hl.1 ⟨kw_134, kw_135, kw_92, kw_136⟩ ⟨Nat.le_of_ble_eq_true rfl, Nat.le_of_ble_eq_true rfl⟩ (gc4 (Nat.le_of_ble_eq_true rfl)) dX4_numeralValue_106 hf ?_
        refine lv_lstore (lv' := [(5, .long (if 4294967296 < (x5 * x3.toInt64) + v3.toInt64 then 4294967296 else (x5 * x3.toInt64) + v3.toInt64)), (8, .int v3), (0, va_rf x0), (2, .int x2), (3, .int x3), (7, .int x7)]) hx hb dX4_numeralValue_109 hl (by decide) rfl (fun ls hl => ?_)
        refine lv_iinc (v := x7 + 1) (lv' := [(7, .int (x7 + 1)), (5, .long (if 4294967296 < (x5 * x3.toInt64) + v3.toInt64 then 4294967296 else (x5 * x3.toInt64) + v3.toInt64)), (8, .int v3), (0, va_rf x0), (2, .int x2), (3, .int x3)]) hx hb dX4_numeralValue_111 hl (k := 5) rfl rfl (by decide) rfl (fun ls hl => ?_)
        refine lv_goto (tgt := 58) hx hb dX4_numeralValue_114 (by decide) ?_
        exact hrec58 x0 x2 x3 (if 4294967296 < (x5 * x3.toInt64) + v3.toInt64 then 4294967296 else (x5 * x3.toInt64) + v3.toInt64) (x7 + 1) _ _ _ _ _ _ hf I (lv_sub hl [3, 4, 5, 1, 0] rfl)
      · have hf := giff hq hf
        exact w_X4_numeralValue_90 C hr   _ _ _ _ _ _ hf I (lv_sub hl [] rfl)
theorem w_X4_numeralValue_L58 (C : gC G p s m args meth c cX4_numeralValue 9 RX4) (hr : meth.sig.returnType = (some .long))  : ∀ (n : Nat) (x0 : Option Nat) (x2 : Int32) (x3 : Int32) (x5 : Int64) (x7 : Int32), gJ G p l e 6 130 mc ms s m args below meth c grl y 9 58 [(0, va_rf x0), (2, .int x2), (3, .int x3), (5, .long x5), (7, .int x7)] [] (f_X4_numeralValue_L58  n x0 x2 x3 x5 x7) := by
  intro n
  induction n with
  | zero => intro x0 x2 x3 x5 x7 σ H locs cells slots ls hf; exact (gno_some hf).elim
  | succ n ih => intro x0 x2 x3 x5 x7; exact w_X4_numeralValue_58 C hr  ih x0 x2 x3 x5 x7
set_option maxHeartbeats 4000000 in
set_option maxRecDepth 100000 in
theorem w_X4_numeralValue_51 (C : gC G p s m args meth c cX4_numeralValue 9 RX4) (hr : meth.sig.returnType = (some .long))  (x0 : Option Nat) (x2 : Int32) (x3 : Int32) (x4 : Int32) : gJ G p l e 6 130 mc ms s m args below meth c grl y 9 51 [(0, va_rf x0), (2, .int x2), (3, .int x3), (4, .int x4)] [] (f_X4_numeralValue_51  x0 x2 x3 x4) := by
  have hx := C.1
  have hb := C.2.1
  intro σ H locs cells slots ls hf I hl
  unfold f_X4_numeralValue_51 at hf
  refine lv_lconst (v := 0) hx hb dX4_numeralValue_51 rfl ?_
  refine lv_lstore (lv' := [(5, .long 0), (0, va_rf x0), (2, .int x2), (3, .int x3), (4, .int x4)]) hx hb dX4_numeralValue_52 hl (by decide) rfl (fun ls hl => ?_)
  refine lv_iload hx hb dX4_numeralValue_54 (lv_at hl 4 rfl) ?_
  refine lv_istore (lv' := [(7, .int x4), (5, .long 0), (0, va_rf x0), (2, .int x2), (3, .int x3), (4, .int x4)]) hx hb dX4_numeralValue_56 hl (by decide) rfl (fun ls hl => ?_)
  exact w_X4_numeralValue_L58 C hr  _ x0 x2 x3 0 x4 _ _ _ _ _ _ hf I (lv_sub hl [2, 3, 4, 1, 0] rfl)
set_option maxHeartbeats 4000000 in
set_option maxRecDepth 100000 in
theorem w_X4_numeralValue_0 (C : gC G p s m args meth c cX4_numeralValue 9 RX4) (hr : meth.sig.returnType = (some .long))  (a0 : Option Nat) (a1 : Int32) (a2 : Int32) : gJ G p l e 6 130 mc ms s m args below meth c grl y 9 0 [(0, va_rf a0), (1, .int a1), (2, .int a2)] [] (f_X4_numeralValue  a0 a1 a2) := by
  have hx := C.1
  have hb := C.2.1
  intro σ H locs cells slots ls hf I hl
  unfold f_X4_numeralValue at hf
  refine lv_iload_n hx hb dX4_numeralValue_0 rfl (lv_at hl 1 rfl) ?_
  refine lv_iload_n hx hb dX4_numeralValue_1 rfl (lv_at hl 2 rfl) ?_
  refine lv_icmp_lt (tgt := 9) hx hb dX4_numeralValue_2 (by decide) (fun hq => ?_) (fun hq => ?_)
  · have hf := gift hq hf
    refine lv_bipush (v := 10) hx hb dX4_numeralValue_9 kc_b_10 ?_
    refine lv_istore_n (lv' := [(3, .int 10), (0, va_rf a0), (1, .int a1), (2, .int a2)]) hx hb dX4_numeralValue_11 rfl hl (by decide) rfl (fun ls hl => ?_)
    refine lv_iload_n hx hb dX4_numeralValue_12 rfl (lv_at hl 2 rfl) ?_
    refine lv_istore (lv' := [(4, .int a1), (3, .int 10), (0, va_rf a0), (1, .int a1), (2, .int a2)]) hx hb dX4_numeralValue_13 hl (by decide) rfl (fun ls hl => ?_)
    refine gw_aload_n hx hb dX4_numeralValue_15 rfl (lv_at hl 2 rfl) ?_
    refine lv_iload_n hx hb dX4_numeralValue_16 rfl (lv_at hl 3 rfl) ?_
    refine lv_iload_n hx hb dX4_numeralValue_17 rfl (lv_at hl 4 rfl) ?_
    refine gw_callV (rest := []) C I hl.1 gcls_3 (m_X4_isHex G l a0 a1 a2) gl_RX4_90 gn_X4_isHex ⟨Nat.le_of_ble_eq_true rfl, Nat.le_of_ble_eq_true rfl⟩ rfl (gc4 (Nat.le_of_ble_eq_true rfl)) rfl dX4_numeralValue_18 hf (fun v1 σ H locs cells slots I hf => ?_)
    refine W.eq (g2 := F0 m 21 ls [.int v1]) rfl ?_
    refine lv_if_eq (tgt := 35) hx hb dX4_numeralValue_21 (by decide) (fun hq => ?_) (fun hq => ?_)
    · have hf := gift hq hf
      refine gw_aload_n hx hb dX4_numeralValue_35 rfl (lv_at hl 2 rfl) ?_
      refine gw_getr (k := 0) C I gcls_3 (by decide) rfl kw_22 dX4_numeralValue_36 hf (fun v2 hf => ?_)
      refine lv_iload_n hx hb dX4_numeralValue_39 rfl (lv_at hl 3 rfl) ?_
      refine gw_callV (rest := []) C I hl.1 gcls_4 (m_X5_byteAt G l v2 a1) gl_RX4_26 gn_X5_byteAt ⟨Nat.le_of_ble_eq_true rfl, Nat.le_of_ble_eq_true rfl⟩ rfl (gc4 (Nat.le_of_ble_eq_true rfl)) rfl dX4_numeralValue_40 hf (fun v3 σ H locs cells slots I hf => ?_)
      refine W.eq (g2 := F0 m 43 ls [.int v3]) rfl ?_
      refine lv_bipush (v := 48) hx hb dX4_numeralValue_43 kc_b_48 ?_
      refine lv_icmp_ne (tgt := 51) hx hb dX4_numeralValue_45 (by decide) (fun hq => ?_) (fun hq => ?_)
      · have hf := giff hq hf
        exact w_X4_numeralValue_51 C hr  a0 a2 10 a1 _ _ _ _ _ _ hf I (lv_sub hl [2, 4, 1, 0] rfl)
      · have hf := gift hq hf
        refine lv_bipush (v := 8) hx hb dX4_numeralValue_48 kc_b_8 ?_
        refine lv_istore_n (lv' := [(3, .int 8), (4, .int a1), (0, va_rf a0), (1, .int a1), (2, .int a2)]) hx hb dX4_numeralValue_50 rfl hl (by decide) rfl (fun ls hl => ?_)
        exact w_X4_numeralValue_51 C hr  a0 a2 8 a1 _ _ _ _ _ _ hf I (lv_sub hl [2, 4, 0, 1] rfl)
    · have hf := giff hq hf
      refine lv_bipush (v := 16) hx hb dX4_numeralValue_24 kc_b_16 ?_
      refine lv_istore_n (lv' := [(3, .int 16), (4, .int a1), (0, va_rf a0), (1, .int a1), (2, .int a2)]) hx hb dX4_numeralValue_26 rfl hl (by decide) rfl (fun ls hl => ?_)
      refine lv_iload_n hx hb dX4_numeralValue_27 rfl (lv_at hl 3 rfl) ?_
      refine lv_iconst (v := 2) hx hb dX4_numeralValue_28 kc_i_2 ?_
      refine lv_iadd hx hb dX4_numeralValue_29 ?_
      refine lv_istore (lv' := [(4, .int (a1 + 2)), (3, .int 16), (0, va_rf a0), (1, .int a1), (2, .int a2)]) hx hb dX4_numeralValue_30 hl (by decide) rfl (fun ls hl => ?_)
      refine lv_goto (tgt := 51) hx hb dX4_numeralValue_32 (by decide) ?_
      exact w_X4_numeralValue_51 C hr  a0 a2 16 (a1 + 2) _ _ _ _ _ _ hf I (lv_sub hl [2, 4, 1, 0] rfl)
  · have hf := giff hq hf
    refine gw_ldc2 C (v := (-1)) kw_132 dX4_numeralValue_5 ?_
    exact gw_lret C I hr dX4_numeralValue_8 hf
end S_X4_numeralValue
theorem m_X4_numeralValue (G : gX) (l : Launch) (a0 : Option Nat) (a1 : Int32) (a2 : Int32) : gMet G l yX4_numeralValue cX4_numeralValue 9 (some .long) 6 130 [va_rf a0, .int a1, .int a2] grl (f_X4_numeralValue a0 a1 a2) := by
  refine gMet_of (by decide) ?_
  intro σ y p e s m below meth c mc ms hf C hr hnm I
  obtain ⟨ls, e1, hl⟩ := gentry m [va_rf a0, .int a1, .int a2] 9 [(0, va_rf a0), (1, .int a1), (2, .int a2)] (by simp [lg_sl, grc, gcat_i, gcat_l]) (by simp [lv_args, grc, gcat_i, gcat_l])
  rw [e1]
  exact w_X4_numeralValue_0 C hr a0 a1 a2 _ _ _ _ _ _ hf I hl
def f_X5_addDecimal_31 (rec4 : Option Nat → Int32 → Int32 → gM Unit) (x0 : Option Nat) (x1 : Int32) (x2 : Int32) : gM Unit := gb (nz 10) fun _ => rec4 x0 x1 (x2 / 10)
def f_X5_addDecimal_18 (rec4 : Option Nat → Int32 → Int32 → gM Unit) (x0 : Option Nat) (x1 : Int32) (x2 : Int32) : gM Unit := gb (nz x2) fun _ => gb (nz 10) fun _ => gb (nn 4 x0) fun _ => gb (f_X5_add x0 (48 + ((x1 / x2) - (x1 / x2) / 10 * 10))) fun _ => f_X5_addDecimal_31 rec4 x0 x1 x2
def f_X5_addDecimal_4 (rec4 : Option Nat → Int32 → Int32 → gM Unit) (x0 : Option Nat) (x1 : Int32) (x2 : Int32) : gM Unit := if x2 ≤ 0 then (gp ()) else (if x2 ≤ x1 then (f_X5_addDecimal_18 rec4 x0 x1 x2) else (if x2 = 1 then (f_X5_addDecimal_18 rec4 x0 x1 x2) else (f_X5_addDecimal_31 rec4 x0 x1 x2)))
def f_X5_addDecimal_L4  : Nat → Option Nat → Int32 → Int32 → gM Unit
  | 0, _, _, _ => gno
  | n + 1, x0, x1, x2 => f_X5_addDecimal_4  (f_X5_addDecimal_L4  n) x0 x1 x2
def f_X5_addDecimal  (a0 : Option Nat) (a1 : Int32) : gM Unit := f_X5_addDecimal_L4  gF a0 a1 10000
section S_X5_addDecimal
variable {G : gX} {p : Program} {l : Launch} {e : Env} {s : State} {m : MethodId} {args : Array Value} {below : List Frame} {meth : Method} {c : Code} {mc ms : Nat} {y : Unit × gS}
set_option maxHeartbeats 4000000 in
set_option maxRecDepth 100000 in
theorem w_X5_addDecimal_31 (C : gC G p s m args meth c cX5_addDecimal 3 RX5) (hr : meth.sig.returnType = none) {rec4 : Option Nat → Int32 → Int32 → gM Unit} (hrec4 : ∀ (x0 : Option Nat) (x1 : Int32) (x2 : Int32), gJ G p l e 3 83 mc ms s m args below meth c grv y 3 4 [(0, va_rf x0), (1, .int x1), (2, .int x2)] [] (rec4 x0 x1 x2)) (x0 : Option Nat) (x1 : Int32) (x2 : Int32) : gJ G p l e 3 83 mc ms s m args below meth c grv y 3 31 [(0, va_rf x0), (1, .int x1), (2, .int x2)] [] (f_X5_addDecimal_31 rec4 x0 x1 x2) := by
  have hx := C.1
  have hb := C.2.1
  intro σ H locs cells slots ls hf I hl
  unfold f_X5_addDecimal_31 at hf
  refine lv_iload_n hx hb dX5_addDecimal_31 rfl (lv_at hl 2 rfl) ?_
  refine lv_bipush (v := 10) hx hb dX5_addDecimal_32 kc_b_10 ?_
  refine gw_idiv hx hb dX5_addDecimal_34 hf (fun hf => ?_)
  refine lv_istore_n (lv' := [(2, .int (x2 / 10)), (0, va_rf x0), (1, .int x1)]) hx hb dX5_addDecimal_35 rfl hl (by decide) rfl (fun ls hl => ?_)
  refine lv_goto (tgt := 4) hx hb dX5_addDecimal_36 (by decide) ?_
  exact hrec4 x0 x1 (x2 / 10) _ _ _ _ _ _ hf I (lv_sub hl [1, 2, 0] rfl)
set_option maxHeartbeats 4000000 in
set_option maxRecDepth 100000 in
theorem w_X5_addDecimal_18 (C : gC G p s m args meth c cX5_addDecimal 3 RX5) (hr : meth.sig.returnType = none) {rec4 : Option Nat → Int32 → Int32 → gM Unit} (hrec4 : ∀ (x0 : Option Nat) (x1 : Int32) (x2 : Int32), gJ G p l e 3 83 mc ms s m args below meth c grv y 3 4 [(0, va_rf x0), (1, .int x1), (2, .int x2)] [] (rec4 x0 x1 x2)) (x0 : Option Nat) (x1 : Int32) (x2 : Int32) : gJ G p l e 3 83 mc ms s m args below meth c grv y 3 18 [(0, va_rf x0), (1, .int x1), (2, .int x2)] [] (f_X5_addDecimal_18 rec4 x0 x1 x2) := by
  have hx := C.1
  have hb := C.2.1
  intro σ H locs cells slots ls hf I hl
  unfold f_X5_addDecimal_18 at hf
  refine gw_aload_n hx hb dX5_addDecimal_18 rfl (lv_at hl 0 rfl) ?_
  refine lv_bipush (v := 48) hx hb dX5_addDecimal_19 kc_b_48 ?_
  refine lv_iload_n hx hb dX5_addDecimal_21 rfl (lv_at hl 1 rfl) ?_
  refine lv_iload_n hx hb dX5_addDecimal_22 rfl (lv_at hl 2 rfl) ?_
  refine gw_idiv hx hb dX5_addDecimal_23 hf (fun hf => ?_)
  refine lv_bipush (v := 10) hx hb dX5_addDecimal_24 kc_b_10 ?_
  refine gw_irem hx hb dX5_addDecimal_26 hf (fun hf => ?_)
  refine lv_iadd hx hb dX5_addDecimal_27 ?_
  refine gw_callV (rest := []) C I hl.1 gcls_4 (m_X5_add G l x0 (48 + ((x1 / x2) - (x1 / x2) / 10 * 10))) gl_RX5_29 gn_X5_add ⟨Nat.le_of_ble_eq_true rfl, Nat.le_of_ble_eq_true rfl⟩ rfl (gc4 (Nat.le_of_ble_eq_true rfl)) rfl dX5_addDecimal_28 hf (fun _ σ H locs cells slots I hf => ?_)
  refine W.eq (g2 := F0 m 31 ls []) rfl ?_
  exact w_X5_addDecimal_31 C hr hrec4 x0 x1 x2 _ _ _ _ _ _ hf I (lv_sub hl [0, 1, 2] rfl)
set_option maxHeartbeats 4000000 in
set_option maxRecDepth 100000 in
theorem w_X5_addDecimal_4 (C : gC G p s m args meth c cX5_addDecimal 3 RX5) (hr : meth.sig.returnType = none) {rec4 : Option Nat → Int32 → Int32 → gM Unit} (hrec4 : ∀ (x0 : Option Nat) (x1 : Int32) (x2 : Int32), gJ G p l e 3 83 mc ms s m args below meth c grv y 3 4 [(0, va_rf x0), (1, .int x1), (2, .int x2)] [] (rec4 x0 x1 x2)) (x0 : Option Nat) (x1 : Int32) (x2 : Int32) : gJ G p l e 3 83 mc ms s m args below meth c grv y 3 4 [(0, va_rf x0), (1, .int x1), (2, .int x2)] [] (f_X5_addDecimal_4 rec4 x0 x1 x2) := by
  have hx := C.1
  have hb := C.2.1
  intro σ H locs cells slots ls hf I hl
  unfold f_X5_addDecimal_4 at hf
  refine lv_iload_n hx hb dX5_addDecimal_4 rfl (lv_at hl 2 rfl) ?_
  refine lv_if_le (tgt := 39) hx hb dX5_addDecimal_5 (by decide) (fun hq => ?_) (fun hq => ?_)
  · have hf := gift hq hf
    exact gw_vret C I hr dX5_addDecimal_39 hf
  · have hf := giff hq hf
    refine lv_iload_n hx hb dX5_addDecimal_8 rfl (lv_at hl 1 rfl) ?_
    refine lv_iload_n hx hb dX5_addDecimal_9 rfl (lv_at hl 2 rfl) ?_
    refine lv_icmp_ge (tgt := 18) hx hb dX5_addDecimal_10 (by decide) (fun hq => ?_) (fun hq => ?_)
    · have hf := gift hq hf
      exact w_X5_addDecimal_18 C hr hrec4 x0 x1 x2 _ _ _ _ _ _ hf I (lv_sub hl [0, 1, 2] rfl)
    · have hf := giff hq hf
      refine lv_iload_n hx hb dX5_addDecimal_13 rfl (lv_at hl 2 rfl) ?_
      refine lv_iconst (v := 1) hx hb dX5_addDecimal_14 kc_i_1 ?_
      refine lv_icmp_ne (tgt := 31) hx hb dX5_addDecimal_15 (by decide) (fun hq => ?_) (fun hq => ?_)
      · have hf := giff hq hf
        exact w_X5_addDecimal_31 C hr hrec4 x0 x1 x2 _ _ _ _ _ _ hf I (lv_sub hl [0, 1, 2] rfl)
      · have hf := gift hq hf
        exact w_X5_addDecimal_18 C hr hrec4 x0 x1 x2 _ _ _ _ _ _ hf I (lv_sub hl [0, 1, 2] rfl)
theorem w_X5_addDecimal_L4 (C : gC G p s m args meth c cX5_addDecimal 3 RX5) (hr : meth.sig.returnType = none)  : ∀ (n : Nat) (x0 : Option Nat) (x1 : Int32) (x2 : Int32), gJ G p l e 3 83 mc ms s m args below meth c grv y 3 4 [(0, va_rf x0), (1, .int x1), (2, .int x2)] [] (f_X5_addDecimal_L4  n x0 x1 x2) := by
  intro n
  induction n with
  | zero => intro x0 x1 x2 σ H locs cells slots ls hf; exact (gno_some hf).elim
  | succ n ih => intro x0 x1 x2; exact w_X5_addDecimal_4 C hr  ih x0 x1 x2
set_option maxHeartbeats 4000000 in
set_option maxRecDepth 100000 in
theorem w_X5_addDecimal_0 (C : gC G p s m args meth c cX5_addDecimal 3 RX5) (hr : meth.sig.returnType = none)  (a0 : Option Nat) (a1 : Int32) : gJ G p l e 3 83 mc ms s m args below meth c grv y 3 0 [(0, va_rf a0), (1, .int a1)] [] (f_X5_addDecimal  a0 a1) := by
  have hx := C.1
  have hb := C.2.1
  intro σ H locs cells slots ls hf I hl
  unfold f_X5_addDecimal at hf
  refine lv_sipush (v := 10000) hx hb dX5_addDecimal_0 kc_s_10000 ?_
  refine lv_istore_n (lv' := [(2, .int 10000), (0, va_rf a0), (1, .int a1)]) hx hb dX5_addDecimal_3 rfl hl (by decide) rfl (fun ls hl => ?_)
  exact w_X5_addDecimal_L4 C hr  _ a0 a1 10000 _ _ _ _ _ _ hf I (lv_sub hl [1, 2, 0] rfl)
end S_X5_addDecimal
theorem m_X5_addDecimal (G : gX) (l : Launch) (a0 : Option Nat) (a1 : Int32) : gMet G l yX5_addDecimal cX5_addDecimal 3 none 3 83 [va_rf a0, .int a1] grv (f_X5_addDecimal a0 a1) := by
  refine gMet_of (by decide) ?_
  intro σ y p e s m below meth c mc ms hf C hr hnm I
  obtain ⟨ls, e1, hl⟩ := gentry m [va_rf a0, .int a1] 3 [(0, va_rf a0), (1, .int a1)] (by simp [lg_sl, grc, gcat_i, gcat_l]) (by simp [lv_args, grc, gcat_i, gcat_l])
  rw [e1]
  exact w_X5_addDecimal_0 C hr a0 a1 _ _ _ _ _ _ hf I hl
def f_X3_setFour_23 (rec23 : Option Nat → Int32 → Int32 → gM Unit) (x0 : Option Nat) (x1 : Int32) (x2 : Int32) : gM Unit := if x2 < 0 then (gp ()) else (gb (rR 2 1 x0) fun v1 => gb (nn 4 v1) fun _ => gb (f_X5_addDecimal v1 (((x1.toUInt32 >>> (x2.toUInt32 &&& Int32.toUInt32 31)).toInt32) &&& 255)) fun _ => if x2 ≤ 0 then (rec23 x0 x1 (x2 + (-8))) else (gb (rR 2 1 x0) fun v2 => gb (nn 4 v2) fun _ => gb (f_X5_add v2 46) fun _ => rec23 x0 x1 (x2 + (-8))))
def f_X3_setFour_L23  : Nat → Option Nat → Int32 → Int32 → gM Unit
  | 0, _, _, _ => gno
  | n + 1, x0, x1, x2 => f_X3_setFour_23  (f_X3_setFour_L23  n) x0 x1 x2
def f_X3_setFour  (a0 : Option Nat) (a1 : Int32) : gM Unit := gb (rR 2 0 a0) fun v1 => gb (nn 0 v1) fun _ => gb (f_X0_setTo v1 4 a1 0 0 0) fun _ => gb (rR 2 1 a0) fun v2 => gb (nn 4 v2) fun _ => gb (f_X5_cutTo v2 0) fun _ => f_X3_setFour_L23  gF a0 a1 24
section S_X3_setFour
variable {G : gX} {p : Program} {l : Launch} {e : Env} {s : State} {m : MethodId} {args : Array Value} {below : List Frame} {meth : Method} {c : Code} {mc ms : Nat} {y : Unit × gS}
set_option maxHeartbeats 4000000 in
set_option maxRecDepth 100000 in
theorem w_X3_setFour_23 (C : gC G p s m args meth c cX3_setFour 3 RX3) (hr : meth.sig.returnType = none) {rec23 : Option Nat → Int32 → Int32 → gM Unit} (hrec23 : ∀ (x0 : Option Nat) (x1 : Int32) (x2 : Int32), gJ G p l e 4 105 mc ms s m args below meth c grv y 3 23 [(0, va_rf x0), (1, .int x1), (2, .int x2)] [] (rec23 x0 x1 x2)) (x0 : Option Nat) (x1 : Int32) (x2 : Int32) : gJ G p l e 4 105 mc ms s m args below meth c grv y 3 23 [(0, va_rf x0), (1, .int x1), (2, .int x2)] [] (f_X3_setFour_23 rec23 x0 x1 x2) := by
  have hx := C.1
  have hb := C.2.1
  intro σ H locs cells slots ls hf I hl
  unfold f_X3_setFour_23 at hf
  refine lv_iload_n hx hb dX3_setFour_23 rfl (lv_at hl 2 rfl) ?_
  refine lv_if_lt (tgt := 60) hx hb dX3_setFour_24 (by decide) (fun hq => ?_) (fun hq => ?_)
  · have hf := gift hq hf
    exact gw_vret C I hr dX3_setFour_60 hf
  · have hf := giff hq hf
    refine gw_aload_n hx hb dX3_setFour_27 rfl (lv_at hl 0 rfl) ?_
    refine gw_getr (k := 1) C I gcls_2 (by decide) rfl kw_19 dX3_setFour_28 hf (fun v1 hf => ?_)
    refine lv_iload_n hx hb dX3_setFour_31 rfl (lv_at hl 1 rfl) ?_
    refine lv_iload_n hx hb dX3_setFour_32 rfl (lv_at hl 2 rfl) ?_
    refine lv_iushr hx hb dX3_setFour_33 rfl ?_
    refine lv_sipush (v := 255) hx hb dX3_setFour_34 kc_s_255 ?_
    refine lv_iand hx hb dX3_setFour_37 ?_
    refine gw_callV (rest := []) C I hl.1 gcls_4 (m_X5_addDecimal G l v1 (((x1.toUInt32 >>> (x2.toUInt32 &&& Int32.toUInt32 31)).toInt32) &&& 255)) gl_RX3_46 gn_X5_addDecimal ⟨Nat.le_of_ble_eq_true rfl, Nat.le_of_ble_eq_true rfl⟩ rfl (gc4 (Nat.le_of_ble_eq_true rfl)) rfl dX3_setFour_38 hf (fun _ σ H locs cells slots I hf => ?_)
    refine W.eq (g2 := F0 m 41 ls []) rfl ?_
    refine lv_iload_n hx hb dX3_setFour_41 rfl (lv_at hl 2 rfl) ?_
    refine lv_if_le (tgt := 54) hx hb dX3_setFour_42 (by decide) (fun hq => ?_) (fun hq => ?_)
    · have hf := gift hq hf
      refine lv_iinc (v := x2 + (-8)) (lv' := [(2, .int (x2 + (-8))), (0, va_rf x0), (1, .int x1)]) hx hb dX3_setFour_54 hl (k := 2) rfl rfl (by decide) rfl (fun ls hl => ?_)
      refine lv_goto (tgt := 23) hx hb dX3_setFour_57 (by decide) ?_
      exact hrec23 x0 x1 (x2 + (-8)) _ _ _ _ _ _ hf I (lv_sub hl [1, 2, 0] rfl)
    · have hf := giff hq hf
      refine gw_aload_n hx hb dX3_setFour_45 rfl (lv_at hl 0 rfl) ?_
      refine gw_getr (k := 1) C I gcls_2 (by decide) rfl kw_19 dX3_setFour_46 hf (fun v2 hf => ?_)
      refine lv_bipush (v := 46) hx hb dX3_setFour_49 kc_b_46 ?_
      refine gw_callV (rest := []) C I hl.1 gcls_4 (m_X5_add G l v2 46) gl_RX3_49 gn_X5_add ⟨Nat.le_of_ble_eq_true rfl, Nat.le_of_ble_eq_true rfl⟩ rfl (gc4 (Nat.le_of_ble_eq_true rfl)) rfl dX3_setFour_51 hf (fun _ σ H locs cells slots I hf => ?_)
      refine W.eq (g2 := F0 m 54 ls []) rfl ?_
      refine lv_iinc (v := x2 + (-8)) (lv' := [(2, .int (x2 + (-8))), (0, va_rf x0), (1, .int x1)]) hx hb dX3_setFour_54 hl (k := 2) rfl rfl (by decide) rfl (fun ls hl => ?_)
      refine lv_goto (tgt := 23) hx hb dX3_setFour_57 (by decide) ?_
      exact hrec23 x0 x1 (x2 + (-8)) _ _ _ _ _ _ hf I (lv_sub hl [1, 2, 0] rfl)
theorem w_X3_setFour_L23 (C : gC G p s m args meth c cX3_setFour 3 RX3) (hr : meth.sig.returnType = none)  : ∀ (n : Nat) (x0 : Option Nat) (x1 : Int32) (x2 : Int32), gJ G p l e 4 105 mc ms s m args below meth c grv y 3 23 [(0, va_rf x0), (1, .int x1), (2, .int x2)] [] (f_X3_setFour_L23  n x0 x1 x2) := by
  intro n
  induction n with
  | zero => intro x0 x1 x2 σ H locs cells slots ls hf; exact (gno_some hf).elim
  | succ n ih => intro x0 x1 x2; exact w_X3_setFour_23 C hr  ih x0 x1 x2
set_option maxHeartbeats 4000000 in
set_option maxRecDepth 100000 in
theorem w_X3_setFour_0 (C : gC G p s m args meth c cX3_setFour 3 RX3) (hr : meth.sig.returnType = none)  (a0 : Option Nat) (a1 : Int32) : gJ G p l e 4 105 mc ms s m args below meth c grv y 3 0 [(0, va_rf a0), (1, .int a1)] [] (f_X3_setFour  a0 a1) := by
  have hx := C.1
  have hb := C.2.1
  intro σ H locs cells slots ls hf I hl
  unfold f_X3_setFour at hf
  refine gw_aload_n hx hb dX3_setFour_0 rfl (lv_at hl 0 rfl) ?_
  refine gw_getr (k := 0) C I gcls_2 (by decide) rfl kw_14 dX3_setFour_1 hf (fun v1 hf => ?_)
  refine lv_iconst (v := 4) hx hb dX3_setFour_4 kc_i_4 ?_
  refine lv_iload_n hx hb dX3_setFour_5 rfl (lv_at hl 1 rfl) ?_
  refine lv_iconst (v := 0) hx hb dX3_setFour_6 kc_i_0 ?_
  refine lv_iconst (v := 0) hx hb dX3_setFour_7 kc_i_0 ?_
  refine lv_iconst (v := 0) hx hb dX3_setFour_8 kc_i_0 ?_
  refine gw_callV (rest := []) C I hl.1 gcls_0 (m_X0_setTo G l v1 4 a1 0 0 0) gl_RX3_38 gn_X0_setTo ⟨Nat.le_of_ble_eq_true rfl, Nat.le_of_ble_eq_true rfl⟩ rfl (gc4 (Nat.le_of_ble_eq_true rfl)) rfl dX3_setFour_9 hf (fun _ σ H locs cells slots I hf => ?_)
  refine W.eq (g2 := F0 m 12 ls []) rfl ?_
  refine gw_aload_n hx hb dX3_setFour_12 rfl (lv_at hl 0 rfl) ?_
  refine gw_getr (k := 1) C I gcls_2 (by decide) rfl kw_19 dX3_setFour_13 hf (fun v2 hf => ?_)
  refine lv_iconst (v := 0) hx hb dX3_setFour_16 kc_i_0 ?_
  refine gw_callV (rest := []) C I hl.1 gcls_4 (m_X5_cutTo G l v2 0) gl_RX3_42 gn_X5_cutTo ⟨Nat.le_of_ble_eq_true rfl, Nat.le_of_ble_eq_true rfl⟩ rfl (gc4 (Nat.le_of_ble_eq_true rfl)) rfl dX3_setFour_17 hf (fun _ σ H locs cells slots I hf => ?_)
  refine W.eq (g2 := F0 m 20 ls []) rfl ?_
  refine lv_bipush (v := 24) hx hb dX3_setFour_20 kc_b_24 ?_
  refine lv_istore_n (lv' := [(2, .int 24), (0, va_rf a0), (1, .int a1)]) hx hb dX3_setFour_22 rfl hl (by decide) rfl (fun ls hl => ?_)
  exact w_X3_setFour_L23 C hr  _ a0 a1 24 _ _ _ _ _ _ hf I (lv_sub hl [1, 2, 0] rfl)
end S_X3_setFour
theorem m_X3_setFour (G : gX) (l : Launch) (a0 : Option Nat) (a1 : Int32) : gMet G l yX3_setFour cX3_setFour 3 none 4 105 [va_rf a0, .int a1] grv (f_X3_setFour a0 a1) := by
  refine gMet_of (by decide) ?_
  intro σ y p e s m below meth c mc ms hf C hr hnm I
  obtain ⟨ls, e1, hl⟩ := gentry m [va_rf a0, .int a1] 3 [(0, va_rf a0), (1, .int a1)] (by simp [lg_sl, grc, gcat_i, gcat_l]) (by simp [lv_args, grc, gcat_i, gcat_l])
  rw [e1]
  exact w_X3_setFour_0 C hr a0 a1 _ _ _ _ _ _ hf I hl
def f_X4_readFour_8 (rec8 : Option Nat → Int32 → Option Nat → Int64 → Int32 → Int32 → gM Int32) (x0 : Option Nat) (x1 : Int32) (x2 : Option Nat) (x3 : Int64) (x5 : Int32) (x6 : Int32) : gM Int32 := if 4 ≤ x6 then (gp (-15)) else (gb (nn 3 x0) fun _ => gb (f_X4_partEnd x0 x5 x1) fun v1 => gb (nn 3 x0) fun _ => gb (f_X4_numeralValue x0 x5 v1) fun v2 => if 0 ≤ (lg_cmp v2 0) then (if v1 = x1 then (if (lg_cmp v2 ((1 : Int64) <<< ((8 * (4 - x6)).toInt64 &&& 63))) < 0 then (gb (nn 2 x2) fun _ => gb (f_X3_setFour x2 ((x3 + v2).toInt32)) fun _ => gp 0) else (gp (-15))) else (if (lg_cmp v2 255) ≤ 0 then (rec8 x0 x1 x2 (x3 + (v2 <<< ((8 * (3 - x6)).toInt64 &&& 63))) (v1 + 1) (x6 + 1)) else (gp (-15)))) else (gp (-15)))
def f_X4_readFour_L8  : Nat → Option Nat → Int32 → Option Nat → Int64 → Int32 → Int32 → gM Int32
  | 0, _, _, _, _, _, _ => gno
  | n + 1, x0, x1, x2, x3, x5, x6 => f_X4_readFour_8  (f_X4_readFour_L8  n) x0 x1 x2 x3 x5 x6
def f_X4_readFour  (a0 : Option Nat) (a1 : Int32) (a2 : Option Nat) : gM Int32 := f_X4_readFour_L8  gF a0 a1 a2 0 0 0
section S_X4_readFour
variable {G : gX} {p : Program} {l : Launch} {e : Env} {s : State} {m : MethodId} {args : Array Value} {below : List Frame} {meth : Method} {c : Code} {mc ms : Nat} {y : Int32 × gS}
set_option maxHeartbeats 4000000 in
set_option maxRecDepth 100000 in
theorem w_X4_readFour_8 (C : gC G p s m args meth c cX4_readFour 10 RX4) (hr : meth.sig.returnType = (some .int)) {rec8 : Option Nat → Int32 → Option Nat → Int64 → Int32 → Int32 → gM Int32} (hrec8 : ∀ (x0 : Option Nat) (x1 : Int32) (x2 : Option Nat) (x3 : Int64) (x5 : Int32) (x6 : Int32), gJ G p l e 7 158 mc ms s m args below meth c gri y 10 8 [(0, va_rf x0), (1, .int x1), (2, va_rf x2), (3, .long x3), (5, .int x5), (6, .int x6)] [] (rec8 x0 x1 x2 x3 x5 x6)) (x0 : Option Nat) (x1 : Int32) (x2 : Option Nat) (x3 : Int64) (x5 : Int32) (x6 : Int32) : gJ G p l e 7 158 mc ms s m args below meth c gri y 10 8 [(0, va_rf x0), (1, .int x1), (2, va_rf x2), (3, .long x3), (5, .int x5), (6, .int x6)] [] (f_X4_readFour_8 rec8 x0 x1 x2 x3 x5 x6) := by
  have hx := C.1
  have hb := C.2.1
  intro σ H locs cells slots ls hf I hl
  unfold f_X4_readFour_8 at hf
  refine lv_iload hx hb dX4_readFour_8 (lv_at hl 5 rfl) ?_
  refine lv_iconst (v := 4) hx hb dX4_readFour_10 kc_i_4 ?_
  refine lv_icmp_ge (tgt := 115) hx hb dX4_readFour_11 (by decide) (fun hq => ?_) (fun hq => ?_)
  · have hf := gift hq hf
    refine lv_bipush (v := (-15)) hx hb dX4_readFour_115 kc_b_m15 ?_
    exact gw_iret C I hr dX4_readFour_117 hf
  · have hf := giff hq hf
    refine gw_aload_n hx hb dX4_readFour_14 rfl (lv_at hl 0 rfl) ?_
    refine lv_iload hx hb dX4_readFour_15 (lv_at hl 4 rfl) ?_
    refine lv_iload_n hx hb dX4_readFour_17 rfl (lv_at hl 1 rfl) ?_
    refine gw_callV (rest := []) C I hl.1 gcls_3 (m_X4_partEnd G l x0 x5 x1) gl_RX4_98 gn_X4_partEnd ⟨Nat.le_of_ble_eq_true rfl, Nat.le_of_ble_eq_true rfl⟩ rfl (gc4 (Nat.le_of_ble_eq_true rfl)) rfl dX4_readFour_18 hf (fun v1 σ H locs cells slots I hf => ?_)
    refine W.eq (g2 := F0 m 21 ls [.int v1]) rfl ?_
    refine lv_istore (lv' := [(7, .int v1), (0, va_rf x0), (1, .int x1), (2, va_rf x2), (3, .long x3), (5, .int x5), (6, .int x6)]) hx hb dX4_readFour_21 hl (by decide) rfl (fun ls hl => ?_)
    refine gw_aload_n hx hb dX4_readFour_23 rfl (lv_at hl 1 rfl) ?_
    refine lv_iload hx hb dX4_readFour_24 (lv_at hl 5 rfl) ?_
    refine lv_iload hx hb dX4_readFour_26 (lv_at hl 0 rfl) ?_
    refine gw_callV (rest := []) C I hl.1 gcls_3 (m_X4_numeralValue G l x0 x5 v1) gl_RX4_102 gn_X4_numeralValue ⟨Nat.le_of_ble_eq_true rfl, Nat.le_of_ble_eq_true rfl⟩ rfl (gc4 (Nat.le_of_ble_eq_true rfl)) rfl dX4_readFour_28 hf (fun v2 σ H locs cells slots I hf => ?_)
    refine W.eq (g2 := F0 m 31 ls [.long v2]) rfl ?_
    refine lv_lstore (lv' := [(8, .long v2), (7, .int v1), (0, va_rf x0), (1, .int x1), (2, va_rf x2), (3, .long x3), (5, .int x5), (6, .int x6)]) hx hb dX4_readFour_31 hl (by decide) rfl (fun ls hl => ?_)
    refine lv_lload hx hb dX4_readFour_33 (lv_at hl 0 rfl) ?_
    refine lv_lconst (v := 0) hx hb dX4_readFour_35 rfl ?_
    refine W.lcmp hx hb dX4_readFour_36 ?_
    refine lv_if_ge (tgt := 43) hx hb dX4_readFour_37 (by decide) (fun hq => ?_) (fun hq => ?_)
    · have hf := gift hq hf
      refine lv_iload hx hb dX4_readFour_43 (lv_at hl 1 rfl) ?_
      refine lv_iload_n hx hb dX4_readFour_45 rfl (lv_at hl 3 rfl) ?_
      refine lv_icmp_ne (tgt := 78) hx hb dX4_readFour_46 (by decide) (fun hq => ?_) (fun hq => ?_)
      · have hf := giff hq hf
        refine lv_lload hx hb dX4_readFour_78 (lv_at hl 0 rfl) ?_
        refine gw_ldc2 C (v := 255) kw_137 dX4_readFour_80 ?_
        refine W.lcmp hx hb dX4_readFour_83 ?_
        refine lv_if_le (tgt := 90) hx hb dX4_readFour_84 (by decide) (fun hq => ?_) (fun hq => ?_)
        · have hf := gift hq hf
          refine lv_lload_n hx hb dX4_readFour_90 rfl (lv_at hl 5 rfl) ?_
          refine lv_lload hx hb dX4_readFour_91 (lv_at hl 0 rfl) ?_
          refine lv_bipush (v := 8) hx hb dX4_readFour_93 kc_b_8 ?_
          refine lv_iconst (v := 3) hx hb dX4_readFour_95 kc_i_3 ?_
          refine lv_iload hx hb dX4_readFour_96 (lv_at hl 7 rfl) ?_
          refine lv_isub hx hb dX4_readFour_98 ?_
          refine lv_imul hx hb dX4_readFour_99 ?_
          refine lv_lshl hx hb dX4_readFour_100 rfl ?_
          refine lv_ladd hx hb dX4_readFour_101 ?_
          refine lv_lstore_n (lv' := [(3, .long (x3 + (v2 <<< ((8 * (3 - x6)).toInt64 &&& 63)))), (8, .long v2), (7, .int v1), (0, va_rf x0), (1, .int x1), (2, va_rf x2), (5, .int x5), (6, .int x6)]) hx hb dX4_readFour_102 rfl hl (by decide) (by cases x2 <;> rfl) (fun ls hl => ?_)
          refine lv_iload hx hb dX4_readFour_103 (lv_at hl 2 rfl) ?_
          refine lv_iconst (v := 1) hx hb dX4_readFour_105 kc_i_1 ?_
          refine lv_iadd hx hb dX4_readFour_106 ?_
          refine lv_istore (lv' := [(5, .int (v1 + 1)), (3, .long (x3 + (v2 <<< ((8 * (3 - x6)).toInt64 &&& 63)))), (8, .long v2), (7, .int v1), (0, va_rf x0), (1, .int x1), (2, va_rf x2), (6, .int x6)]) hx hb dX4_readFour_107 hl (by decide) rfl (fun ls hl => ?_)
          refine lv_iinc (v := x6 + 1) (lv' := [(6, .int (x6 + 1)), (5, .int (v1 + 1)), (3, .long (x3 + (v2 <<< ((8 * (3 - x6)).toInt64 &&& 63)))), (8, .long v2), (7, .int v1), (0, va_rf x0), (1, .int x1), (2, va_rf x2)]) hx hb dX4_readFour_109 hl (k := 7) rfl rfl (by decide) rfl (fun ls hl => ?_)
          refine lv_goto (tgt := 8) hx hb dX4_readFour_112 (by decide) ?_
          exact hrec8 x0 x1 x2 (x3 + (v2 <<< ((8 * (3 - x6)).toInt64 &&& 63))) (v1 + 1) (x6 + 1) _ _ _ _ _ _ hf I (lv_sub hl [5, 6, 7, 2, 1, 0] rfl)
        · have hf := giff hq hf
          refine lv_bipush (v := (-15)) hx hb dX4_readFour_87 kc_b_m15 ?_
          exact gw_iret C I hr dX4_readFour_89 hf
      · have hf := gift hq hf
        refine lv_lload hx hb dX4_readFour_49 (lv_at hl 0 rfl) ?_
        refine lv_lconst (v := 1) hx hb dX4_readFour_51 rfl ?_
        refine lv_bipush (v := 8) hx hb dX4_readFour_52 kc_b_8 ?_
        refine lv_iconst (v := 4) hx hb dX4_readFour_54 kc_i_4 ?_
        refine lv_iload hx hb dX4_readFour_55 (lv_at hl 7 rfl) ?_
        refine lv_isub hx hb dX4_readFour_57 ?_
        refine lv_imul hx hb dX4_readFour_58 ?_
        refine lv_lshl hx hb dX4_readFour_59 rfl ?_
        refine W.lcmp hx hb dX4_readFour_60 ?_
        refine lv_if_lt (tgt := 67) hx hb dX4_readFour_61 (by decide) (fun hq => ?_) (fun hq => ?_)
        · have hf := gift hq hf
          refine gw_aload_n hx hb dX4_readFour_67 rfl (lv_at hl 4 rfl) ?_
          refine lv_lload_n hx hb dX4_readFour_68 rfl (lv_at hl 5 rfl) ?_
          refine lv_lload hx hb dX4_readFour_69 (lv_at hl 0 rfl) ?_
          refine lv_ladd hx hb dX4_readFour_71 ?_
          refine lv_l2i hx hb dX4_readFour_72 rfl ?_
          refine gw_callV (rest := []) C I hl.1 gcls_2 (m_X3_setFour G l x2 ((x3 + v2).toInt32)) gl_RX4_106 gn_X3_setFour ⟨Nat.le_of_ble_eq_true rfl, Nat.le_of_ble_eq_true rfl⟩ rfl (gc4 (Nat.le_of_ble_eq_true rfl)) rfl dX4_readFour_73 hf (fun _ σ H locs cells slots I hf => ?_)
          refine W.eq (g2 := F0 m 76 ls []) rfl ?_
          refine lv_iconst (v := 0) hx hb dX4_readFour_76 kc_i_0 ?_
          exact gw_iret C I hr dX4_readFour_77 hf
        · have hf := giff hq hf
          refine lv_bipush (v := (-15)) hx hb dX4_readFour_64 kc_b_m15 ?_
          exact gw_iret C I hr dX4_readFour_66 hf
    · have hf := giff hq hf
      refine lv_bipush (v := (-15)) hx hb dX4_readFour_40 kc_b_m15 ?_
      exact gw_iret C I hr dX4_readFour_42 hf
theorem w_X4_readFour_L8 (C : gC G p s m args meth c cX4_readFour 10 RX4) (hr : meth.sig.returnType = (some .int))  : ∀ (n : Nat) (x0 : Option Nat) (x1 : Int32) (x2 : Option Nat) (x3 : Int64) (x5 : Int32) (x6 : Int32), gJ G p l e 7 158 mc ms s m args below meth c gri y 10 8 [(0, va_rf x0), (1, .int x1), (2, va_rf x2), (3, .long x3), (5, .int x5), (6, .int x6)] [] (f_X4_readFour_L8  n x0 x1 x2 x3 x5 x6) := by
  intro n
  induction n with
  | zero => intro x0 x1 x2 x3 x5 x6 σ H locs cells slots ls hf; exact (gno_some hf).elim
  | succ n ih => intro x0 x1 x2 x3 x5 x6; exact w_X4_readFour_8 C hr  ih x0 x1 x2 x3 x5 x6
set_option maxHeartbeats 4000000 in
set_option maxRecDepth 100000 in
theorem w_X4_readFour_0 (C : gC G p s m args meth c cX4_readFour 10 RX4) (hr : meth.sig.returnType = (some .int))  (a0 : Option Nat) (a1 : Int32) (a2 : Option Nat) : gJ G p l e 7 158 mc ms s m args below meth c gri y 10 0 [(0, va_rf a0), (1, .int a1), (2, va_rf a2)] [] (f_X4_readFour  a0 a1 a2) := by
  have hx := C.1
  have hb := C.2.1
  intro σ H locs cells slots ls hf I hl
  unfold f_X4_readFour at hf
  refine lv_lconst (v := 0) hx hb dX4_readFour_0 rfl ?_
  refine lv_lstore_n (lv' := [(3, .long 0), (0, va_rf a0), (1, .int a1), (2, va_rf a2)]) hx hb dX4_readFour_1 rfl hl (by decide) (by cases a2 <;> rfl) (fun ls hl => ?_)
  refine lv_iconst (v := 0) hx hb dX4_readFour_2 kc_i_0 ?_
  refine lv_istore (lv' := [(5, .int 0), (3, .long 0), (0, va_rf a0), (1, .int a1), (2, va_rf a2)]) hx hb dX4_readFour_3 hl (by decide) rfl (fun ls hl => ?_)
  refine lv_iconst (v := 0) hx hb dX4_readFour_5 kc_i_0 ?_
  refine lv_istore (lv' := [(6, .int 0), (5, .int 0), (3, .long 0), (0, va_rf a0), (1, .int a1), (2, va_rf a2)]) hx hb dX4_readFour_6 hl (by decide) rfl (fun ls hl => ?_)
  exact w_X4_readFour_L8 C hr  _ a0 a1 a2 0 0 0 _ _ _ _ _ _ hf I (lv_sub hl [3, 4, 5, 2, 1, 0] rfl)
end S_X4_readFour
theorem m_X4_readFour (G : gX) (l : Launch) (a0 : Option Nat) (a1 : Int32) (a2 : Option Nat) : gMet G l yX4_readFour cX4_readFour 10 (some .int) 7 158 [va_rf a0, .int a1, va_rf a2] gri (f_X4_readFour a0 a1 a2) := by
  refine gMet_of (by decide) ?_
  intro σ y p e s m below meth c mc ms hf C hr hnm I
  obtain ⟨ls, e1, hl⟩ := gentry m [va_rf a0, .int a1, va_rf a2] 10 [(0, va_rf a0), (1, .int a1), (2, va_rf a2)] (by simp [lg_sl, grc, gcat_i, gcat_l]) (by simp [lv_args, grc, gcat_i, gcat_l])
  rw [e1]
  exact w_X4_readFour_0 C hr a0 a1 a2 _ _ _ _ _ _ hf I hl
def f_X3_setName  (a0 : Option Nat) (a1 : Option Nat) : gM Unit := gb (rR 2 0 a0) fun v1 => gb (nn 0 v1) fun _ => gb (f_X0_setTo v1 0 0 0 0 0) fun _ => gb (rR 2 1 a0) fun v2 => gb (nn 4 v2) fun _ => gb (f_X5_take v2 a1) fun _ => gp ()
section S_X3_setName
variable {G : gX} {p : Program} {l : Launch} {e : Env} {s : State} {m : MethodId} {args : Array Value} {below : List Frame} {meth : Method} {c : Code} {mc ms : Nat} {y : Unit × gS}
set_option maxHeartbeats 4000000 in
set_option maxRecDepth 100000 in
theorem w_X3_setName_0 (C : gC G p s m args meth c cX3_setName 2 RX3) (hr : meth.sig.returnType = none)  (a0 : Option Nat) (a1 : Option Nat) : gJ G p l e 4 106 mc ms s m args below meth c grv y 2 0 [(0, va_rf a0), (1, va_rf a1)] [] (f_X3_setName  a0 a1) := by
  have hx := C.1
  have hb := C.2.1
  intro σ H locs cells slots ls hf I hl
  unfold f_X3_setName at hf
  refine gw_aload_n hx hb dX3_setName_0 rfl (lv_at hl 0 rfl) ?_
  refine gw_getr (k := 0) C I gcls_2 (by decide) rfl kw_14 dX3_setName_1 hf (fun v1 hf => ?_)
  refine lv_iconst (v := 0) hx hb dX3_setName_4 kc_i_0 ?_
  refine lv_iconst (v := 0) hx hb dX3_setName_5 kc_i_0 ?_
  refine lv_iconst (v := 0) hx hb dX3_setName_6 kc_i_0 ?_
  refine lv_iconst (v := 0) hx hb dX3_setName_7 kc_i_0 ?_
  refine lv_iconst (v := 0) hx hb dX3_setName_8 kc_i_0 ?_
  refine gw_callV (rest := []) C I hl.1 gcls_0 (m_X0_setTo G l v1 0 0 0 0 0) gl_RX3_38 gn_X0_setTo ⟨Nat.le_of_ble_eq_true rfl, Nat.le_of_ble_eq_true rfl⟩ rfl (gc4 (Nat.le_of_ble_eq_true rfl)) rfl dX3_setName_9 hf (fun _ σ H locs cells slots I hf => ?_)
  refine W.eq (g2 := F0 m 12 ls []) rfl ?_
  refine gw_aload_n hx hb dX3_setName_12 rfl (lv_at hl 0 rfl) ?_
  refine gw_getr (k := 1) C I gcls_2 (by decide) rfl kw_19 dX3_setName_13 hf (fun v2 hf => ?_)
  refine gw_aload_n hx hb dX3_setName_16 rfl (lv_at hl 1 rfl) ?_
  refine gw_callV (rest := []) C I hl.1 gcls_4 (m_X5_take G l v2 a1) gl_RX3_31 gn_X5_take ⟨Nat.le_of_ble_eq_true rfl, Nat.le_of_ble_eq_true rfl⟩ rfl (gc4 (Nat.le_of_ble_eq_true rfl)) rfl dX3_setName_17 hf (fun _ σ H locs cells slots I hf => ?_)
  refine W.eq (g2 := F0 m 20 ls []) rfl ?_
  exact gw_vret C I hr dX3_setName_20 hf
end S_X3_setName
theorem m_X3_setName (G : gX) (l : Launch) (a0 : Option Nat) (a1 : Option Nat) : gMet G l yX3_setName cX3_setName 2 none 4 106 [va_rf a0, va_rf a1] grv (f_X3_setName a0 a1) := by
  refine gMet_of (by decide) ?_
  intro σ y p e s m below meth c mc ms hf C hr hnm I
  obtain ⟨ls, e1, hl⟩ := gentry m [va_rf a0, va_rf a1] 2 [(0, va_rf a0), (1, va_rf a1)] (by simp [lg_sl, grc, gcat_i, gcat_l]) (by simp [lv_args, grc, gcat_i, gcat_l])
  rw [e1]
  exact w_X3_setName_0 C hr a0 a1 _ _ _ _ _ _ hf I hl
def f_X4_readHost_120  (x0 : Option Nat) (x4 : Option Nat) (s0 : Int32) : gM Int32 := gb (nn 3 x0) fun _ => gb (f_X4_lastPartStart x0 s0) fun v1 => gb (nn 3 x0) fun _ => gb (f_X4_isNumeral x0 v1 s0) fun v2 => if v2 = 0 then (gb (rR 3 0 x0) fun v3 => gb (nn 2 x4) fun _ => gb (f_X3_setName x4 v3) fun _ => gp 0) else (gb (nn 3 x0) fun _ => gb (f_X4_readFour x0 s0 x4) fun v4 => gp v4)
def f_X4_readHost_46  (x0 : Option Nat) (x1 : Option Nat) (x2 : Int32) (x3 : Int32) (x4 : Option Nat) : gM Int32 := gb (nn 3 x0) fun _ => gb (f_X4_decode x0 x1 x2 x3) fun _ => gb (rR 3 0 x0) fun v1 => gb (rI 4 1 v1) fun v2 => if v2 = 0 then (gp (-14)) else (gb (nn 3 x0) fun _ => gb (f_X4_hasWrongByte x0) fun v3 => if v3 = 0 then (gb (nn 3 x0) fun _ => gb (f_X4_hasForeignPart x0) fun v4 => if v4 = 0 then (gb (rR 3 0 x0) fun v5 => gb (rR 3 0 x0) fun v6 => gb (rI 4 1 v6) fun v7 => gb (nn 4 v5) fun _ => gb (f_X5_byteAt v5 (v7 - 1)) fun v8 => if v8 = 46 then (gb (rR 3 0 x0) fun v11 => gb (rI 4 1 v11) fun v12 => f_X4_readHost_120  x0 x4 (v12 - 1)) else (gb (rR 3 0 x0) fun v9 => gb (rI 4 1 v9) fun v10 => f_X4_readHost_120  x0 x4 v10)) else (gp (-14))) else (gp (-14)))
def f_X4_readHost  (a0 : Option Nat) (a1 : Option Nat) (a2 : Int32) (a3 : Int32) (a4 : Option Nat) : gM Int32 := if a3 ≤ a2 then (f_X4_readHost_46  a0 a1 a2 a3 a4) else (gb (nn 4 a1) fun _ => gb (f_X5_byteAt a1 a2) fun v1 => if v1 = 91 then (gb (nn 4 a1) fun _ => gb (f_X5_byteAt a1 (a3 - 1)) fun v2 => if v2 = 93 then (gb (nn 3 a0) fun _ => gb (f_X4_readSix a0 a1 (a2 + 1) (a3 - 1) a4) fun v3 => gp v3) else (gp (-16))) else (f_X4_readHost_46  a0 a1 a2 a3 a4))
section S_X4_readHost
variable {G : gX} {p : Program} {l : Launch} {e : Env} {s : State} {m : MethodId} {args : Array Value} {below : List Frame} {meth : Method} {c : Code} {mc ms : Nat} {y : Int32 × gS}
set_option maxHeartbeats 4000000 in
set_option maxRecDepth 100000 in
theorem w_X4_readHost_120 (C : gC G p s m args meth c cX4_readHost 6 RX4) (hr : meth.sig.returnType = (some .int))  (x0 : Option Nat) (x4 : Option Nat) (s0 : Int32) : gJ G p l e 8 187 mc ms s m args below meth c gri y 6 120 [(0, va_rf x0), (4, va_rf x4)] [.int s0] (f_X4_readHost_120  x0 x4 s0) := by
  have hx := C.1
  have hb := C.2.1
  intro σ H locs cells slots ls hf I hl
  unfold f_X4_readHost_120 at hf
  refine lv_istore (lv' := [(5, .int s0), (0, va_rf x0), (4, va_rf x4)]) hx hb dX4_readHost_120 hl (by decide) (by cases x4 <;> rfl) (fun ls hl => ?_)
  refine gw_aload_n hx hb dX4_readHost_122 rfl (lv_at hl 1 rfl) ?_
  refine gw_aload_n hx hb dX4_readHost_123 rfl (lv_at hl 1 rfl) ?_
  refine lv_iload hx hb dX4_readHost_124 (lv_at hl 0 rfl) ?_
  refine gw_callV (rest := [va_rf x0]) C I hl.1 gcls_3 (m_X4_lastPartStart G l x0 s0) gl_RX4_48 gn_X4_lastPartStart ⟨Nat.le_of_ble_eq_true rfl, Nat.le_of_ble_eq_true rfl⟩ rfl (gc4 (Nat.le_of_ble_eq_true rfl)) rfl dX4_readHost_126 hf (fun v1 σ H locs cells slots I hf => ?_)
  refine W.eq (g2 := F0 m 129 ls [.int v1, va_rf x0]) rfl ?_
  refine lv_iload hx hb dX4_readHost_129 (lv_at hl 0 rfl) ?_
  refine gw_callV (rest := []) C I hl.1 gcls_3 (m_X4_isNumeral G l x0 v1 s0) gl_RX4_51 gn_X4_isNumeral ⟨Nat.le_of_ble_eq_true rfl, Nat.le_of_ble_eq_true rfl⟩ rfl (gc4 (Nat.le_of_ble_eq_true rfl)) rfl dX4_readHost_131 hf (fun v2 σ H locs cells slots I hf => ?_)
  refine W.eq (g2 := F0 m 134 ls [.int v2]) rfl ?_
  refine lv_if_eq (tgt := 146) hx hb dX4_readHost_134 (by decide) (fun hq => ?_) (fun hq => ?_)
  · have hf := gift hq hf
    refine gw_aload hx hb dX4_readHost_146 (lv_at hl 2 rfl) ?_
    refine gw_aload_n hx hb dX4_readHost_148 rfl (lv_at hl 1 rfl) ?_
    refine gw_getr (k := 0) C I gcls_3 (by decide) rfl kw_22 dX4_readHost_149 hf (fun v3 hf => ?_)
    refine gw_callV (rest := []) C I hl.1 gcls_2 (m_X3_setName G l x4 v3) gl_RX4_59 gn_X3_setName ⟨Nat.le_of_ble_eq_true rfl, Nat.le_of_ble_eq_true rfl⟩ rfl (gc4 (Nat.le_of_ble_eq_true rfl)) rfl dX4_readHost_152 hf (fun _ σ H locs cells slots I hf => ?_)
    refine W.eq (g2 := F0 m 155 ls []) rfl ?_
    refine lv_iconst (v := 0) hx hb dX4_readHost_155 kc_i_0 ?_
    exact gw_iret C I hr dX4_readHost_156 hf
  · have hf := giff hq hf
    refine gw_aload_n hx hb dX4_readHost_137 rfl (lv_at hl 1 rfl) ?_
    refine lv_iload hx hb dX4_readHost_138 (lv_at hl 0 rfl) ?_
    refine gw_aload hx hb dX4_readHost_140 (lv_at hl 2 rfl) ?_
    refine gw_callV (rest := []) C I hl.1 gcls_3 (m_X4_readFour G l x0 s0 x4) gl_RX4_55 gn_X4_readFour ⟨Nat.le_of_ble_eq_true rfl, Nat.le_of_ble_eq_true rfl⟩ rfl (gc4 (Nat.le_of_ble_eq_true rfl)) rfl dX4_readHost_142 hf (fun v4 σ H locs cells slots I hf => ?_)
    refine W.eq (g2 := F0 m 145 ls [.int v4]) rfl ?_
    exact gw_iret C I hr dX4_readHost_145 hf
set_option maxHeartbeats 4000000 in
set_option maxRecDepth 100000 in
theorem w_X4_readHost_46 (C : gC G p s m args meth c cX4_readHost 6 RX4) (hr : meth.sig.returnType = (some .int))  (x0 : Option Nat) (x1 : Option Nat) (x2 : Int32) (x3 : Int32) (x4 : Option Nat) : gJ G p l e 8 187 mc ms s m args below meth c gri y 6 46 [(0, va_rf x0), (1, va_rf x1), (2, .int x2), (3, .int x3), (4, va_rf x4)] [] (f_X4_readHost_46  x0 x1 x2 x3 x4) := by
  have hx := C.1
  have hb := C.2.1
  intro σ H locs cells slots ls hf I hl
  unfold f_X4_readHost_46 at hf
  refine gw_aload_n hx hb dX4_readHost_46 rfl (lv_at hl 0 rfl) ?_
  refine gw_aload_n hx hb dX4_readHost_47 rfl (lv_at hl 1 rfl) ?_
  refine lv_iload_n hx hb dX4_readHost_48 rfl (lv_at hl 2 rfl) ?_
  refine lv_iload_n hx hb dX4_readHost_49 rfl (lv_at hl 3 rfl) ?_
  refine gw_callV (rest := []) C I hl.1 gcls_3 (m_X4_decode G l x0 x1 x2 x3) gl_RX4_34 gn_X4_decode ⟨Nat.le_of_ble_eq_true rfl, Nat.le_of_ble_eq_true rfl⟩ rfl (gc4 (Nat.le_of_ble_eq_true rfl)) rfl dX4_readHost_50 hf (fun _ σ H locs cells slots I hf => ?_)
  refine W.eq (g2 := F0 m 53 ls []) rfl ?_
  refine gw_aload_n hx hb dX4_readHost_53 rfl (lv_at hl 0 rfl) ?_
  refine gw_getr (k := 0) C I gcls_3 (by decide) rfl kw_22 dX4_readHost_54 hf (fun v1 hf => ?_)
  refine gw_geti (k := 1) C I gcls_4 (by decide) rfl kw_130 dX4_readHost_57 hf (fun v2 hf => ?_)
  refine lv_if_eq (tgt := 77) hx hb dX4_readHost_60 (by decide) (fun hq => ?_) (fun hq => ?_)
  · have hf := gift hq hf
    refine lv_bipush (v := (-14)) hx hb dX4_readHost_77 kc_b_m14 ?_
    exact gw_iret C I hr dX4_readHost_79 hf
  · have hf := giff hq hf
    refine gw_aload_n hx hb dX4_readHost_63 rfl (lv_at hl 0 rfl) ?_
    refine gw_callV (rest := []) C I hl.1 gcls_3 (m_X4_hasWrongByte G l x0) gl_RX4_41 gn_X4_hasWrongByte ⟨Nat.le_of_ble_eq_true rfl, Nat.le_of_ble_eq_true rfl⟩ rfl (gc4 (Nat.le_of_ble_eq_true rfl)) rfl dX4_readHost_64 hf (fun v3 σ H locs cells slots I hf => ?_)
    refine W.eq (g2 := F0 m 67 ls [.int v3]) rfl ?_
    refine lv_if_ne (tgt := 77) hx hb dX4_readHost_67 (by decide) (fun hq => ?_) (fun hq => ?_)
    · have hf := giff hq hf
      refine lv_bipush (v := (-14)) hx hb dX4_readHost_77 kc_b_m14 ?_
      exact gw_iret C I hr dX4_readHost_79 hf
    · have hf := gift hq hf
      refine gw_aload_n hx hb dX4_readHost_70 rfl (lv_at hl 0 rfl) ?_
      refine gw_callV (rest := []) C I hl.1 gcls_3 (m_X4_hasForeignPart G l x0) gl_RX4_45 gn_X4_hasForeignPart ⟨Nat.le_of_ble_eq_true rfl, Nat.le_of_ble_eq_true rfl⟩ rfl (gc4 (Nat.le_of_ble_eq_true rfl)) rfl dX4_readHost_71 hf (fun v4 σ H locs cells slots I hf => ?_)
      refine W.eq (g2 := F0 m 74 ls [.int v4]) rfl ?_
      refine lv_if_eq (tgt := 80) hx hb dX4_readHost_74 (by decide) (fun hq => ?_) (fun hq => ?_)
      · have hf := gift hq hf
        refine gw_aload_n hx hb dX4_readHost_80 rfl (lv_at hl 0 rfl) ?_
        refine gw_getr (k := 0) C I gcls_3 (by decide) rfl kw_22 dX4_readHost_81 hf (fun v5 hf => ?_)
        refine gw_aload_n hx hb dX4_readHost_84 rfl (lv_at hl 0 rfl) ?_
        refine gw_getr (k := 0) C I gcls_3 (by decide) rfl kw_22 dX4_readHost_85 hf (fun v6 hf => ?_)
        refine gw_geti (k := 1) C I gcls_4 (by decide) rfl kw_130 dX4_readHost_88 hf (fun v7 hf => ?_)
        refine lv_iconst (v := 1) hx hb dX4_readHost_91 kc_i_1 ?_
        refine lv_isub hx hb dX4_readHost_92 ?_
        refine gw_callV (rest := []) C I hl.1 gcls_4 (m_X5_byteAt G l v5 (v7 - 1)) gl_RX4_26 gn_X5_byteAt ⟨Nat.le_of_ble_eq_true rfl, Nat.le_of_ble_eq_true rfl⟩ rfl (gc4 (Nat.le_of_ble_eq_true rfl)) rfl dX4_readHost_93 hf (fun v8 σ H locs cells slots I hf => ?_)
        refine W.eq (g2 := F0 m 96 ls [.int v8]) rfl ?_
        refine lv_bipush (v := 46) hx hb dX4_readHost_96 kc_b_46 ?_
        refine lv_icmp_ne (tgt := 113) hx hb dX4_readHost_98 (by decide) (fun hq => ?_) (fun hq => ?_)
        · have hf := giff hq hf
          refine gw_aload_n hx hb dX4_readHost_113 rfl (lv_at hl 0 rfl) ?_
          refine gw_getr (k := 0) C I gcls_3 (by decide) rfl kw_22 dX4_readHost_114 hf (fun v9 hf => ?_)
          refine gw_geti (k := 1) C I gcls_4 (by decide) rfl kw_130 dX4_readHost_117 hf (fun v10 hf => ?_)
          exact w_X4_readHost_120 C hr  x0 x4 v10 _ _ _ _ _ _ hf I (lv_sub hl [0, 4] rfl)
        · have hf := gift hq hf
          refine gw_aload_n hx hb dX4_readHost_101 rfl (lv_at hl 0 rfl) ?_
          refine gw_getr (k := 0) C I gcls_3 (by decide) rfl kw_22 dX4_readHost_102 hf (fun v11 hf => ?_)
          refine gw_geti (k := 1) C I gcls_4 (by decide) rfl kw_130 dX4_readHost_105 hf (fun v12 hf => ?_)
          refine lv_iconst (v := 1) hx hb dX4_readHost_108 kc_i_1 ?_
          refine lv_isub hx hb dX4_readHost_109 ?_
          refine lv_goto (tgt := 120) hx hb dX4_readHost_110 (by decide) ?_
          exact w_X4_readHost_120 C hr  x0 x4 (v12 - 1) _ _ _ _ _ _ hf I (lv_sub hl [0, 4] rfl)
      · have hf := giff hq hf
        refine lv_bipush (v := (-14)) hx hb dX4_readHost_77 kc_b_m14 ?_
        exact gw_iret C I hr dX4_readHost_79 hf
set_option maxHeartbeats 4000000 in
set_option maxRecDepth 100000 in
theorem w_X4_readHost_0 (C : gC G p s m args meth c cX4_readHost 6 RX4) (hr : meth.sig.returnType = (some .int))  (a0 : Option Nat) (a1 : Option Nat) (a2 : Int32) (a3 : Int32) (a4 : Option Nat) : gJ G p l e 8 187 mc ms s m args below meth c gri y 6 0 [(0, va_rf a0), (1, va_rf a1), (2, .int a2), (3, .int a3), (4, va_rf a4)] [] (f_X4_readHost  a0 a1 a2 a3 a4) := by
  have hx := C.1
  have hb := C.2.1
  intro σ H locs cells slots ls hf I hl
  unfold f_X4_readHost at hf
  refine lv_iload_n hx hb dX4_readHost_0 rfl (lv_at hl 2 rfl) ?_
  refine lv_iload_n hx hb dX4_readHost_1 rfl (lv_at hl 3 rfl) ?_
  refine lv_icmp_ge (tgt := 46) hx hb dX4_readHost_2 (by decide) (fun hq => ?_) (fun hq => ?_)
  · have hf := gift hq hf
    exact w_X4_readHost_46 C hr  a0 a1 a2 a3 a4 _ _ _ _ _ _ hf I (lv_sub hl [0, 1, 2, 3, 4] rfl)
  · have hf := giff hq hf
    refine gw_aload_n hx hb dX4_readHost_5 rfl (lv_at hl 1 rfl) ?_
    refine lv_iload_n hx hb dX4_readHost_6 rfl (lv_at hl 2 rfl) ?_
    refine gw_callV (rest := []) C I hl.1 gcls_4 (m_X5_byteAt G l a1 a2) gl_RX4_26 gn_X5_byteAt ⟨Nat.le_of_ble_eq_true rfl, Nat.le_of_ble_eq_true rfl⟩ rfl (gc4 (Nat.le_of_ble_eq_true rfl)) rfl dX4_readHost_7 hf (fun v1 σ H locs cells slots I hf => ?_)
    refine W.eq (g2 := F0 m 10 ls [.int v1]) rfl ?_
    refine lv_bipush (v := 91) hx hb dX4_readHost_10 kc_b_91 ?_
    refine lv_icmp_ne (tgt := 46) hx hb dX4_readHost_12 (by decide) (fun hq => ?_) (fun hq => ?_)
    · have hf := giff hq hf
      exact w_X4_readHost_46 C hr  a0 a1 a2 a3 a4 _ _ _ _ _ _ hf I (lv_sub hl [0, 1, 2, 3, 4] rfl)
    · have hf := gift hq hf
      refine gw_aload_n hx hb dX4_readHost_15 rfl (lv_at hl 1 rfl) ?_
      refine lv_iload_n hx hb dX4_readHost_16 rfl (lv_at hl 3 rfl) ?_
      refine lv_iconst (v := 1) hx hb dX4_readHost_17 kc_i_1 ?_
      refine lv_isub hx hb dX4_readHost_18 ?_
      refine gw_callV (rest := []) C I hl.1 gcls_4 (m_X5_byteAt G l a1 (a3 - 1)) gl_RX4_26 gn_X5_byteAt ⟨Nat.le_of_ble_eq_true rfl, Nat.le_of_ble_eq_true rfl⟩ rfl (gc4 (Nat.le_of_ble_eq_true rfl)) rfl dX4_readHost_19 hf (fun v2 σ H locs cells slots I hf => ?_)
      refine W.eq (g2 := F0 m 22 ls [.int v2]) rfl ?_
      refine lv_bipush (v := 93) hx hb dX4_readHost_22 kc_b_93 ?_
      refine lv_icmp_ne (tgt := 43) hx hb dX4_readHost_24 (by decide) (fun hq => ?_) (fun hq => ?_)
      · have hf := giff hq hf
        refine lv_bipush (v := (-16)) hx hb dX4_readHost_43 kc_b_m16 ?_
        exact gw_iret C I hr dX4_readHost_45 hf
      · have hf := gift hq hf
        refine gw_aload_n hx hb dX4_readHost_27 rfl (lv_at hl 0 rfl) ?_
        refine gw_aload_n hx hb dX4_readHost_28 rfl (lv_at hl 1 rfl) ?_
        refine lv_iload_n hx hb dX4_readHost_29 rfl (lv_at hl 2 rfl) ?_
        refine lv_iconst (v := 1) hx hb dX4_readHost_30 kc_i_1 ?_
        refine lv_iadd hx hb dX4_readHost_31 ?_
        refine lv_iload_n hx hb dX4_readHost_32 rfl (lv_at hl 3 rfl) ?_
        refine lv_iconst (v := 1) hx hb dX4_readHost_33 kc_i_1 ?_
        refine lv_isub hx hb dX4_readHost_34 ?_
        refine gw_aload hx hb dX4_readHost_35 (lv_at hl 4 rfl) ?_
        refine gw_callV (rest := []) C I hl.1 gcls_3 (m_X4_readSix G l a0 a1 (a2 + 1) (a3 - 1) a4) gl_RX4_30 gn_X4_readSix ⟨Nat.le_of_ble_eq_true rfl, Nat.le_of_ble_eq_true rfl⟩ rfl (gc4 (Nat.le_of_ble_eq_true rfl)) rfl dX4_readHost_37 hf (fun v3 σ H locs cells slots I hf => ?_)
        refine W.eq (g2 := F0 m 40 ls [.int v3]) rfl ?_
        refine lv_goto (tgt := 45) hx hb dX4_readHost_40 (by decide) ?_
        exact gw_iret C I hr dX4_readHost_45 hf
end S_X4_readHost
theorem m_X4_readHost (G : gX) (l : Launch) (a0 : Option Nat) (a1 : Option Nat) (a2 : Int32) (a3 : Int32) (a4 : Option Nat) : gMet G l yX4_readHost cX4_readHost 6 (some .int) 8 187 [va_rf a0, va_rf a1, .int a2, .int a3, va_rf a4] gri (f_X4_readHost a0 a1 a2 a3 a4) := by
  refine gMet_of (by decide) ?_
  intro σ y p e s m below meth c mc ms hf C hr hnm I
  obtain ⟨ls, e1, hl⟩ := gentry m [va_rf a0, va_rf a1, .int a2, .int a3, va_rf a4] 6 [(0, va_rf a0), (1, va_rf a1), (2, .int a2), (3, .int a3), (4, va_rf a4)] (by simp [lg_sl, grc, gcat_i, gcat_l]) (by simp [lv_args, grc, gcat_i, gcat_l])
  rw [e1]
  exact w_X4_readHost_0 C hr a0 a1 a2 a3 a4 _ _ _ _ _ _ hf I hl
