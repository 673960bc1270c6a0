theorem dX9_isIn_0 : decode cX9_isIn 0 = .ok (.iload_n 0, 1) := by decide +kernel
theorem dX9_isIn_1 : decode cX9_isIn 1 = .ok (.iload_n 1, 1) := by decide +kernel
theorem dX9_isIn_2 : decode cX9_isIn 2 = .ok (.if_icmp .lt 12, 3) := by decide +kernel
theorem dX9_isIn_5 : decode cX9_isIn 5 = .ok (.iload_n 0, 1) := by decide +kernel
theorem dX9_isIn_6 : decode cX9_isIn 6 = .ok (.iload_n 2, 1) := by decide +kernel
theorem dX9_isIn_7 : decode cX9_isIn 7 = .ok (.if_icmp .gt 7, 3) := by decide +kernel
theorem dX9_isIn_10 : decode cX9_isIn 10 = .ok (.iconst 1, 1) := by decide +kernel
theorem dX9_isIn_11 : decode cX9_isIn 11 = .ok (.goto 4, 3) := by decide +kernel
theorem dX9_isIn_14 : decode cX9_isIn 14 = .ok (.iconst 0, 1) := by decide +kernel
theorem dX9_isIn_15 : decode cX9_isIn 15 = .ok (.ireturn, 1) := by decide +kernel
theorem dX9_low_0 : decode cX9_low 0 = .ok (.iload_n 0, 1) := by decide +kernel
theorem dX9_low_1 : decode cX9_low 1 = .ok (.bipush 65, 2) := by decide +kernel
theorem dX9_low_3 : decode cX9_low 3 = .ok (.bipush 90, 2) := by decide +kernel
theorem dX9_low_5 : decode cX9_low 5 = .ok (.invokestatic 91, 3) := by decide +kernel
theorem dX9_low_8 : decode cX9_low 8 = .ok (.ifCond .eq 10, 3) := by decide +kernel
theorem dX9_low_11 : decode cX9_low 11 = .ok (.iload_n 0, 1) := by decide +kernel
theorem dX9_low_12 : decode cX9_low 12 = .ok (.bipush 32, 2) := by decide +kernel
theorem dX9_low_14 : decode cX9_low 14 = .ok (.iadd, 1) := by decide +kernel
theorem dX9_low_15 : decode cX9_low 15 = .ok (.goto 4, 3) := by decide +kernel
theorem dX9_low_18 : decode cX9_low 18 = .ok (.iload_n 0, 1) := by decide +kernel
theorem dX9_low_19 : decode cX9_low 19 = .ok (.ireturn, 1) := by decide +kernel
theorem dX9_isDigit_0 : decode cX9_isDigit 0 = .ok (.iload_n 0, 1) := by decide +kernel
theorem dX9_isDigit_1 : decode cX9_isDigit 1 = .ok (.bipush 48, 2) := by decide +kernel
theorem dX9_isDigit_3 : decode cX9_isDigit 3 = .ok (.bipush 57, 2) := by decide +kernel
theorem dX9_isDigit_5 : decode cX9_isDigit 5 = .ok (.invokestatic 91, 3) := by decide +kernel
theorem dX9_isDigit_8 : decode cX9_isDigit 8 = .ok (.ireturn, 1) := by decide +kernel
theorem dX9_hex_0 : decode cX9_hex 0 = .ok (.iload_n 0, 1) := by decide +kernel
theorem dX9_hex_1 : decode cX9_hex 1 = .ok (.invokestatic 95, 3) := by decide +kernel
theorem dX9_hex_4 : decode cX9_hex 4 = .ok (.ifCond .eq 10, 3) := by decide +kernel
theorem dX9_hex_7 : decode cX9_hex 7 = .ok (.iload_n 0, 1) := by decide +kernel
theorem dX9_hex_8 : decode cX9_hex 8 = .ok (.bipush 48, 2) := by decide +kernel
theorem dX9_hex_10 : decode cX9_hex 10 = .ok (.isub, 1) := by decide +kernel
theorem dX9_hex_11 : decode cX9_hex 11 = .ok (.goto 31, 3) := by decide +kernel
theorem dX9_hex_14 : decode cX9_hex 14 = .ok (.iload_n 0, 1) := by decide +kernel
theorem dX9_hex_15 : decode cX9_hex 15 = .ok (.invokestatic 99, 3) := by decide +kernel
theorem dX9_hex_18 : decode cX9_hex 18 = .ok (.bipush 97, 2) := by decide +kernel
theorem dX9_hex_20 : decode cX9_hex 20 = .ok (.bipush 102, 2) := by decide +kernel
theorem dX9_hex_22 : decode cX9_hex 22 = .ok (.invokestatic 91, 3) := by decide +kernel
theorem dX9_hex_25 : decode cX9_hex 25 = .ok (.ifCond .eq 16, 3) := by decide +kernel
theorem dX9_hex_28 : decode cX9_hex 28 = .ok (.iload_n 0, 1) := by decide +kernel
theorem dX9_hex_29 : decode cX9_hex 29 = .ok (.invokestatic 99, 3) := by decide +kernel
theorem dX9_hex_32 : decode cX9_hex 32 = .ok (.bipush 97, 2) := by decide +kernel
theorem dX9_hex_34 : decode cX9_hex 34 = .ok (.isub, 1) := by decide +kernel
theorem dX9_hex_35 : decode cX9_hex 35 = .ok (.bipush 10, 2) := by decide +kernel
theorem dX9_hex_37 : decode cX9_hex 37 = .ok (.iadd, 1) := by decide +kernel
theorem dX9_hex_38 : decode cX9_hex 38 = .ok (.goto 4, 3) := by decide +kernel
theorem dX9_hex_41 : decode cX9_hex 41 = .ok (.iconst (-1), 1) := by decide +kernel
theorem dX9_hex_42 : decode cX9_hex 42 = .ok (.ireturn, 1) := by decide +kernel
theorem dX9_type_0 : decode cX9_type 0 = .ok (.iload_n 3, 1) := by decide +kernel
theorem dX9_type_1 : decode cX9_type 1 = .ok (.iconst 1, 1) := by decide +kernel
theorem dX9_type_2 : decode cX9_type 2 = .ok (.bipush 8, 2) := by decide +kernel
theorem dX9_type_4 : decode cX9_type 4 = .ok (.invokestatic 91, 3) := by decide +kernel
theorem dX9_type_7 : decode cX9_type 7 = .ok (.ifCond .ne 6, 3) := by decide +kernel
theorem dX9_type_10 : decode cX9_type 10 = .ok (.bipush (-2), 2) := by decide +kernel
theorem dX9_type_12 : decode cX9_type 12 = .ok (.ireturn, 1) := by decide +kernel
theorem dX9_type_13 : decode cX9_type 13 = .ok (.aload_n 0, 1) := by decide +kernel
theorem dX9_type_14 : decode cX9_type 14 = .ok (.getfield 103, 3) := by decide +kernel
theorem dX9_type_17 : decode cX9_type 17 = .ok (.iload_n 3, 1) := by decide +kernel
theorem dX9_type_18 : decode cX9_type 18 = .ok (.iadd, 1) := by decide +kernel
theorem dX9_type_19 : decode cX9_type 19 = .ok (.sipush 300, 3) := by decide +kernel
theorem dX9_type_22 : decode cX9_type 22 = .ok (.if_icmp .le 6, 3) := by decide +kernel
theorem dX9_type_25 : decode cX9_type 25 = .ok (.bipush (-3), 2) := by decide +kernel
theorem dX9_type_27 : decode cX9_type 27 = .ok (.ireturn, 1) := by decide +kernel
theorem dX9_type_28 : decode cX9_type 28 = .ok (.iconst 0, 1) := by decide +kernel
theorem dX9_type_29 : decode cX9_type 29 = .ok (.istore 4, 2) := by decide +kernel
theorem dX9_type_31 : decode cX9_type 31 = .ok (.iload 4, 2) := by decide +kernel
theorem dX9_type_33 : decode cX9_type 33 = .ok (.iload_n 3, 1) := by decide +kernel
theorem dX9_type_34 : decode cX9_type 34 = .ok (.if_icmp .ge 37, 3) := by decide +kernel
theorem dX9_type_37 : decode cX9_type 37 = .ok (.aload_n 0, 1) := by decide +kernel
theorem dX9_type_38 : decode cX9_type 38 = .ok (.getfield 7, 3) := by decide +kernel
theorem dX9_type_41 : decode cX9_type 41 = .ok (.aload_n 0, 1) := by decide +kernel
theorem dX9_type_42 : decode cX9_type 42 = .ok (.getfield 103, 3) := by decide +kernel
theorem dX9_type_45 : decode cX9_type 45 = .ok (.lload_n 1, 1) := by decide +kernel
theorem dX9_type_46 : decode cX9_type 46 = .ok (.bipush 8, 2) := by decide +kernel
theorem dX9_type_48 : decode cX9_type 48 = .ok (.iload 4, 2) := by decide +kernel
theorem dX9_type_50 : decode cX9_type 50 = .ok (.imul, 1) := by decide +kernel
theorem dX9_type_51 : decode cX9_type 51 = .ok (.lshr, 1) := by decide +kernel
theorem dX9_type_52 : decode cX9_type 52 = .ok (.l2i, 1) := by decide +kernel
theorem dX9_type_53 : decode cX9_type 53 = .ok (.i2b, 1) := by decide +kernel
theorem dX9_type_54 : decode cX9_type 54 = .ok (.bastore, 1) := by decide +kernel
theorem dX9_type_55 : decode cX9_type 55 = .ok (.aload_n 0, 1) := by decide +kernel
theorem dX9_type_56 : decode cX9_type 56 = .ok (.dup, 1) := by decide +kernel
theorem dX9_type_57 : decode cX9_type 57 = .ok (.getfield 103, 3) := by decide +kernel
theorem dX9_type_60 : decode cX9_type 60 = .ok (.iconst 1, 1) := by decide +kernel
theorem dX9_type_61 : decode cX9_type 61 = .ok (.iadd, 1) := by decide +kernel
theorem dX9_type_62 : decode cX9_type 62 = .ok (.putfield 103, 3) := by decide +kernel
theorem dX9_type_65 : decode cX9_type 65 = .ok (.iinc 4 1, 3) := by decide +kernel
theorem dX9_type_68 : decode cX9_type 68 = .ok (.goto (-37), 3) := by decide +kernel
theorem dX9_type_71 : decode cX9_type 71 = .ok (.aload_n 0, 1) := by decide +kernel
theorem dX9_type_72 : decode cX9_type 72 = .ok (.getfield 103, 3) := by decide +kernel
theorem dX9_type_75 : decode cX9_type 75 = .ok (.ireturn, 1) := by decide +kernel
theorem dX9_erase_0 : decode cX9_erase 0 = .ok (.aload_n 0, 1) := by decide +kernel
theorem dX9_erase_1 : decode cX9_erase 1 = .ok (.getfield 103, 3) := by decide +kernel
theorem dX9_erase_4 : decode cX9_erase 4 = .ok (.istore_n 1, 1) := by decide +kernel
theorem dX9_erase_5 : decode cX9_erase 5 = .ok (.aload_n 0, 1) := by decide +kernel
theorem dX9_erase_6 : decode cX9_erase 6 = .ok (.iconst 0, 1) := by decide +kernel
theorem dX9_erase_7 : decode cX9_erase 7 = .ok (.putfield 103, 3) := by decide +kernel
theorem dX9_erase_10 : decode cX9_erase 10 = .ok (.iload_n 1, 1) := by decide +kernel
theorem dX9_erase_11 : decode cX9_erase 11 = .ok (.ireturn, 1) := by decide +kernel
theorem dX9_at_0 : decode cX9_at 0 = .ok (.iload_n 1, 1) := by decide +kernel
theorem dX9_at_1 : decode cX9_at 1 = .ok (.iconst 0, 1) := by decide +kernel
theorem dX9_at_2 : decode cX9_at 2 = .ok (.aload_n 0, 1) := by decide +kernel
theorem dX9_at_3 : decode cX9_at 3 = .ok (.getfield 103, 3) := by decide +kernel
theorem dX9_at_6 : decode cX9_at 6 = .ok (.iconst 1, 1) := by decide +kernel
theorem dX9_at_7 : decode cX9_at 7 = .ok (.isub, 1) := by decide +kernel
theorem dX9_at_8 : decode cX9_at 8 = .ok (.invokestatic 91, 3) := by decide +kernel
theorem dX9_at_11 : decode cX9_at 11 = .ok (.ifCond .eq 16, 3) := by decide +kernel
theorem dX9_at_14 : decode cX9_at 14 = .ok (.aload_n 0, 1) := by decide +kernel
theorem dX9_at_15 : decode cX9_at 15 = .ok (.getfield 7, 3) := by decide +kernel
theorem dX9_at_18 : decode cX9_at 18 = .ok (.iload_n 1, 1) := by decide +kernel
theorem dX9_at_19 : decode cX9_at 19 = .ok (.baload, 1) := by decide +kernel
theorem dX9_at_20 : decode cX9_at 20 = .ok (.sipush 255, 3) := by decide +kernel
theorem dX9_at_23 : decode cX9_at 23 = .ok (.iand, 1) := by decide +kernel
theorem dX9_at_24 : decode cX9_at 24 = .ok (.goto 4, 3) := by decide +kernel
theorem dX9_at_27 : decode cX9_at 27 = .ok (.iconst (-1), 1) := by decide +kernel
theorem dX9_at_28 : decode cX9_at 28 = .ok (.ireturn, 1) := by decide +kernel
theorem dX9_has_0 : decode cX9_has 0 = .ok (.iload_n 1, 1) := by decide +kernel
theorem dX9_has_1 : decode cX9_has 1 = .ok (.iconst 0, 1) := by decide +kernel
theorem dX9_has_2 : decode cX9_has 2 = .ok (.iconst 3, 1) := by decide +kernel
theorem dX9_has_3 : decode cX9_has 3 = .ok (.invokestatic 91, 3) := by decide +kernel
theorem dX9_has_6 : decode cX9_has 6 = .ok (.ifCond .eq 16, 3) := by decide +kernel
theorem dX9_has_9 : decode cX9_has 9 = .ok (.aload_n 0, 1) := by decide +kernel
theorem dX9_has_10 : decode cX9_has 10 = .ok (.getfield 13, 3) := by decide +kernel
theorem dX9_has_13 : decode cX9_has 13 = .ok (.iload_n 1, 1) := by decide +kernel
theorem dX9_has_14 : decode cX9_has 14 = .ok (.baload, 1) := by decide +kernel
theorem dX9_has_15 : decode cX9_has 15 = .ok (.ifCond .eq 7, 3) := by decide +kernel
theorem dX9_has_18 : decode cX9_has 18 = .ok (.iconst 1, 1) := by decide +kernel
theorem dX9_has_19 : decode cX9_has 19 = .ok (.goto 4, 3) := by decide +kernel
theorem dX9_has_22 : decode cX9_has 22 = .ok (.iconst 0, 1) := by decide +kernel
theorem dX9_has_23 : decode cX9_has 23 = .ok (.ireturn, 1) := by decide +kernel
theorem dX9_add_0 : decode cX9_add 0 = .ok (.bipush 24, 2) := by decide +kernel
theorem dX9_add_2 : decode cX9_add 2 = .ok (.iload_n 1, 1) := by decide +kernel
theorem dX9_add_3 : decode cX9_add 3 = .ok (.iadd, 1) := by decide +kernel
theorem dX9_add_4 : decode cX9_add 4 = .ok (.istore_n 3, 1) := by decide +kernel
theorem dX9_add_5 : decode cX9_add 5 = .ok (.aload_n 0, 1) := by decide +kernel
theorem dX9_add_6 : decode cX9_add 6 = .ok (.getfield 37, 3) := by decide +kernel
theorem dX9_add_9 : decode cX9_add 9 = .ok (.sipush 2400, 3) := by decide +kernel
theorem dX9_add_12 : decode cX9_add 12 = .ok (.iload_n 3, 1) := by decide +kernel
theorem dX9_add_13 : decode cX9_add 13 = .ok (.imul, 1) := by decide +kernel
theorem dX9_add_14 : decode cX9_add 14 = .ok (.aload_n 0, 1) := by decide +kernel
theorem dX9_add_15 : decode cX9_add 15 = .ok (.getfield 40, 3) := by decide +kernel
theorem dX9_add_18 : decode cX9_add 18 = .ok (.iload_n 3, 1) := by decide +kernel
theorem dX9_add_19 : decode cX9_add 19 = .ok (.iaload, 1) := by decide +kernel
theorem dX9_add_20 : decode cX9_add 20 = .ok (.iadd, 1) := by decide +kernel
theorem dX9_add_21 : decode cX9_add 21 = .ok (.iload_n 2, 1) := by decide +kernel
theorem dX9_add_22 : decode cX9_add 22 = .ok (.i2b, 1) := by decide +kernel
theorem dX9_add_23 : decode cX9_add 23 = .ok (.bastore, 1) := by decide +kernel
theorem dX9_add_24 : decode cX9_add 24 = .ok (.aload_n 0, 1) := by decide +kernel
theorem dX9_add_25 : decode cX9_add 25 = .ok (.getfield 40, 3) := by decide +kernel
theorem dX9_add_28 : decode cX9_add 28 = .ok (.iload_n 3, 1) := by decide +kernel
theorem dX9_add_29 : decode cX9_add 29 = .ok (.dup2, 1) := by decide +kernel
theorem dX9_add_30 : decode cX9_add 30 = .ok (.iaload, 1) := by decide +kernel
theorem dX9_add_31 : decode cX9_add 31 = .ok (.iconst 1, 1) := by decide +kernel
theorem dX9_add_32 : decode cX9_add 32 = .ok (.iadd, 1) := by decide +kernel
theorem dX9_add_33 : decode cX9_add 33 = .ok (.iastore, 1) := by decide +kernel
theorem dX9_add_34 : decode cX9_add 34 = .ok (.return_, 1) := by decide +kernel
theorem dX9_row_0 : decode cX9_row 0 = .ok (.sipush 2400, 3) := by decide +kernel
theorem dX9_row_3 : decode cX9_row 3 = .ok (.bipush 6, 2) := by decide +kernel
theorem dX9_row_5 : decode cX9_row 5 = .ok (.iload_n 1, 1) := by decide +kernel
theorem dX9_row_6 : decode cX9_row 6 = .ok (.imul, 1) := by decide +kernel
theorem dX9_row_7 : decode cX9_row 7 = .ok (.iload_n 2, 1) := by decide +kernel
theorem dX9_row_8 : decode cX9_row 8 = .ok (.iadd, 1) := by decide +kernel
theorem dX9_row_9 : decode cX9_row 9 = .ok (.imul, 1) := by decide +kernel
theorem dX9_row_10 : decode cX9_row 10 = .ok (.ireturn, 1) := by decide +kernel
theorem dX9_sizeOf_0 : decode cX9_sizeOf 0 = .ok (.aload_n 0, 1) := by decide +kernel
theorem dX9_sizeOf_1 : decode cX9_sizeOf 1 = .ok (.getfield 40, 3) := by decide +kernel
theorem dX9_sizeOf_4 : decode cX9_sizeOf 4 = .ok (.bipush 6, 2) := by decide +kernel
theorem dX9_sizeOf_6 : decode cX9_sizeOf 6 = .ok (.iload_n 1, 1) := by decide +kernel
theorem dX9_sizeOf_7 : decode cX9_sizeOf 7 = .ok (.imul, 1) := by decide +kernel
theorem dX9_sizeOf_8 : decode cX9_sizeOf 8 = .ok (.iload_n 2, 1) := by decide +kernel
theorem dX9_sizeOf_9 : decode cX9_sizeOf 9 = .ok (.iadd, 1) := by decide +kernel
theorem dX9_sizeOf_10 : decode cX9_sizeOf 10 = .ok (.iaload, 1) := by decide +kernel
theorem dX9_sizeOf_11 : decode cX9_sizeOf 11 = .ok (.ireturn, 1) := by decide +kernel
theorem dX9_copyPart_0 : decode cX9_copyPart 0 = .ok (.aload_n 0, 1) := by decide +kernel
theorem dX9_copyPart_1 : decode cX9_copyPart 1 = .ok (.iload_n 1, 1) := by decide +kernel
theorem dX9_copyPart_2 : decode cX9_copyPart 2 = .ok (.iload_n 3, 1) := by decide +kernel
theorem dX9_copyPart_3 : decode cX9_copyPart 3 = .ok (.invokevirtual 107, 3) := by decide +kernel
theorem dX9_copyPart_6 : decode cX9_copyPart 6 = .ok (.istore 4, 2) := by decide +kernel
theorem dX9_copyPart_8 : decode cX9_copyPart 8 = .ok (.iconst 0, 1) := by decide +kernel
theorem dX9_copyPart_9 : decode cX9_copyPart 9 = .ok (.istore 5, 2) := by decide +kernel
theorem dX9_copyPart_11 : decode cX9_copyPart 11 = .ok (.iload 5, 2) := by decide +kernel
theorem dX9_copyPart_13 : decode cX9_copyPart 13 = .ok (.iload 4, 2) := by decide +kernel
theorem dX9_copyPart_15 : decode cX9_copyPart 15 = .ok (.if_icmp .ge 37, 3) := by decide +kernel
theorem dX9_copyPart_18 : decode cX9_copyPart 18 = .ok (.aload_n 0, 1) := by decide +kernel
theorem dX9_copyPart_19 : decode cX9_copyPart 19 = .ok (.getfield 37, 3) := by decide +kernel
theorem dX9_copyPart_22 : decode cX9_copyPart 22 = .ok (.aload_n 0, 1) := by decide +kernel
theorem dX9_copyPart_23 : decode cX9_copyPart 23 = .ok (.iload_n 2, 1) := by decide +kernel
theorem dX9_copyPart_24 : decode cX9_copyPart 24 = .ok (.iload_n 3, 1) := by decide +kernel
theorem dX9_copyPart_25 : decode cX9_copyPart 25 = .ok (.invokevirtual 111, 3) := by decide +kernel
theorem dX9_copyPart_28 : decode cX9_copyPart 28 = .ok (.iload 5, 2) := by decide +kernel
theorem dX9_copyPart_30 : decode cX9_copyPart 30 = .ok (.iadd, 1) := by decide +kernel
theorem dX9_copyPart_31 : decode cX9_copyPart 31 = .ok (.aload_n 0, 1) := by decide +kernel
theorem dX9_copyPart_32 : decode cX9_copyPart 32 = .ok (.getfield 37, 3) := by decide +kernel
theorem dX9_copyPart_35 : decode cX9_copyPart 35 = .ok (.aload_n 0, 1) := by decide +kernel
theorem dX9_copyPart_36 : decode cX9_copyPart 36 = .ok (.iload_n 1, 1) := by decide +kernel
theorem dX9_copyPart_37 : decode cX9_copyPart 37 = .ok (.iload_n 3, 1) := by decide +kernel
theorem dX9_copyPart_38 : decode cX9_copyPart 38 = .ok (.invokevirtual 111, 3) := by decide +kernel
theorem dX9_copyPart_41 : decode cX9_copyPart 41 = .ok (.iload 5, 2) := by decide +kernel
theorem dX9_copyPart_43 : decode cX9_copyPart 43 = .ok (.iadd, 1) := by decide +kernel
theorem dX9_copyPart_44 : decode cX9_copyPart 44 = .ok (.baload, 1) := by decide +kernel
theorem dX9_copyPart_45 : decode cX9_copyPart 45 = .ok (.bastore, 1) := by decide +kernel
theorem dX9_copyPart_46 : decode cX9_copyPart 46 = .ok (.iinc 5 1, 3) := by decide +kernel
theorem dX9_copyPart_49 : decode cX9_copyPart 49 = .ok (.goto (-38), 3) := by decide +kernel
theorem dX9_copyPart_52 : decode cX9_copyPart 52 = .ok (.aload_n 0, 1) := by decide +kernel
theorem dX9_copyPart_53 : decode cX9_copyPart 53 = .ok (.getfield 40, 3) := by decide +kernel
theorem dX9_copyPart_56 : decode cX9_copyPart 56 = .ok (.bipush 6, 2) := by decide +kernel
theorem dX9_copyPart_58 : decode cX9_copyPart 58 = .ok (.iload_n 2, 1) := by decide +kernel
theorem dX9_copyPart_59 : decode cX9_copyPart 59 = .ok (.imul, 1) := by decide +kernel
theorem dX9_copyPart_60 : decode cX9_copyPart 60 = .ok (.iload_n 3, 1) := by decide +kernel
theorem dX9_copyPart_61 : decode cX9_copyPart 61 = .ok (.iadd, 1) := by decide +kernel
theorem dX9_copyPart_62 : decode cX9_copyPart 62 = .ok (.iload 4, 2) := by decide +kernel
theorem dX9_copyPart_64 : decode cX9_copyPart 64 = .ok (.iastore, 1) := by decide +kernel
theorem dX9_copyPart_65 : decode cX9_copyPart 65 = .ok (.return_, 1) := by decide +kernel
theorem dX9_copyHost_0 : decode cX9_copyHost 0 = .ok (.aload_n 0, 1) := by decide +kernel
theorem dX9_copyHost_1 : decode cX9_copyHost 1 = .ok (.getfield 17, 3) := by decide +kernel
theorem dX9_copyHost_4 : decode cX9_copyHost 4 = .ok (.iload_n 2, 1) := by decide +kernel
theorem dX9_copyHost_5 : decode cX9_copyHost 5 = .ok (.aload_n 0, 1) := by decide +kernel
theorem dX9_copyHost_6 : decode cX9_copyHost 6 = .ok (.getfield 17, 3) := by decide +kernel
theorem dX9_copyHost_9 : decode cX9_copyHost 9 = .ok (.iload_n 1, 1) := by decide +kernel
theorem dX9_copyHost_10 : decode cX9_copyHost 10 = .ok (.iaload, 1) := by decide +kernel
theorem dX9_copyHost_11 : decode cX9_copyHost 11 = .ok (.iastore, 1) := by decide +kernel
theorem dX9_copyHost_12 : decode cX9_copyHost 12 = .ok (.aload_n 0, 1) := by decide +kernel
theorem dX9_copyHost_13 : decode cX9_copyHost 13 = .ok (.getfield 21, 3) := by decide +kernel
theorem dX9_copyHost_16 : decode cX9_copyHost 16 = .ok (.iload_n 2, 1) := by decide +kernel
theorem dX9_copyHost_17 : decode cX9_copyHost 17 = .ok (.aload_n 0, 1) := by decide +kernel
theorem dX9_copyHost_18 : decode cX9_copyHost 18 = .ok (.getfield 21, 3) := by decide +kernel
theorem dX9_copyHost_21 : decode cX9_copyHost 21 = .ok (.iload_n 1, 1) := by decide +kernel
theorem dX9_copyHost_22 : decode cX9_copyHost 22 = .ok (.iaload, 1) := by decide +kernel
theorem dX9_copyHost_23 : decode cX9_copyHost 23 = .ok (.iastore, 1) := by decide +kernel
theorem dX9_copyHost_24 : decode cX9_copyHost 24 = .ok (.aload_n 0, 1) := by decide +kernel
theorem dX9_copyHost_25 : decode cX9_copyHost 25 = .ok (.getfield 24, 3) := by decide +kernel
theorem dX9_copyHost_28 : decode cX9_copyHost 28 = .ok (.iload_n 2, 1) := by decide +kernel
theorem dX9_copyHost_29 : decode cX9_copyHost 29 = .ok (.aload_n 0, 1) := by decide +kernel
theorem dX9_copyHost_30 : decode cX9_copyHost 30 = .ok (.getfield 24, 3) := by decide +kernel
theorem dX9_copyHost_33 : decode cX9_copyHost 33 = .ok (.iload_n 1, 1) := by decide +kernel
theorem dX9_copyHost_34 : decode cX9_copyHost 34 = .ok (.iaload, 1) := by decide +kernel
theorem dX9_copyHost_35 : decode cX9_copyHost 35 = .ok (.iastore, 1) := by decide +kernel
theorem dX9_copyHost_36 : decode cX9_copyHost 36 = .ok (.iconst 0, 1) := by decide +kernel
theorem dX9_copyHost_37 : decode cX9_copyHost 37 = .ok (.istore_n 3, 1) := by decide +kernel
theorem dX9_copyHost_38 : decode cX9_copyHost 38 = .ok (.iload_n 3, 1) := by decide +kernel
theorem dX9_copyHost_39 : decode cX9_copyHost 39 = .ok (.bipush 8, 2) := by decide +kernel
theorem dX9_copyHost_41 : decode cX9_copyHost 41 = .ok (.if_icmp .ge 31, 3) := by decide +kernel
theorem dX9_copyHost_44 : decode cX9_copyHost 44 = .ok (.aload_n 0, 1) := by decide +kernel
theorem dX9_copyHost_45 : decode cX9_copyHost 45 = .ok (.getfield 27, 3) := by decide +kernel
theorem dX9_copyHost_48 : decode cX9_copyHost 48 = .ok (.bipush 8, 2) := by decide +kernel
theorem dX9_copyHost_50 : decode cX9_copyHost 50 = .ok (.iload_n 2, 1) := by decide +kernel
theorem dX9_copyHost_51 : decode cX9_copyHost 51 = .ok (.imul, 1) := by decide +kernel
theorem dX9_copyHost_52 : decode cX9_copyHost 52 = .ok (.iload_n 3, 1) := by decide +kernel
theorem dX9_copyHost_53 : decode cX9_copyHost 53 = .ok (.iadd, 1) := by decide +kernel
theorem dX9_copyHost_54 : decode cX9_copyHost 54 = .ok (.aload_n 0, 1) := by decide +kernel
theorem dX9_copyHost_55 : decode cX9_copyHost 55 = .ok (.getfield 27, 3) := by decide +kernel
theorem dX9_copyHost_58 : decode cX9_copyHost 58 = .ok (.bipush 8, 2) := by decide +kernel
theorem dX9_copyHost_60 : decode cX9_copyHost 60 = .ok (.iload_n 1, 1) := by decide +kernel
theorem dX9_copyHost_61 : decode cX9_copyHost 61 = .ok (.imul, 1) := by decide +kernel
theorem dX9_copyHost_62 : decode cX9_copyHost 62 = .ok (.iload_n 3, 1) := by decide +kernel
theorem dX9_copyHost_63 : decode cX9_copyHost 63 = .ok (.iadd, 1) := by decide +kernel
theorem dX9_copyHost_64 : decode cX9_copyHost 64 = .ok (.iaload, 1) := by decide +kernel
theorem dX9_copyHost_65 : decode cX9_copyHost 65 = .ok (.iastore, 1) := by decide +kernel
theorem dX9_copyHost_66 : decode cX9_copyHost 66 = .ok (.iinc 3 1, 3) := by decide +kernel
theorem dX9_copyHost_69 : decode cX9_copyHost 69 = .ok (.goto (-31), 3) := by decide +kernel
theorem dX9_copyHost_72 : decode cX9_copyHost 72 = .ok (.aload_n 0, 1) := by decide +kernel
theorem dX9_copyHost_73 : decode cX9_copyHost 73 = .ok (.iload_n 1, 1) := by decide +kernel
theorem dX9_copyHost_74 : decode cX9_copyHost 74 = .ok (.iload_n 2, 1) := by decide +kernel
theorem dX9_copyHost_75 : decode cX9_copyHost 75 = .ok (.iconst 0, 1) := by decide +kernel
theorem dX9_copyHost_76 : decode cX9_copyHost 76 = .ok (.invokevirtual 114, 3) := by decide +kernel
theorem dX9_copyHost_79 : decode cX9_copyHost 79 = .ok (.aload_n 0, 1) := by decide +kernel
theorem dX9_copyHost_80 : decode cX9_copyHost 80 = .ok (.iload_n 1, 1) := by decide +kernel
theorem dX9_copyHost_81 : decode cX9_copyHost 81 = .ok (.iload_n 2, 1) := by decide +kernel
theorem dX9_copyHost_82 : decode cX9_copyHost 82 = .ok (.iconst 1, 1) := by decide +kernel
theorem dX9_copyHost_83 : decode cX9_copyHost 83 = .ok (.invokevirtual 114, 3) := by decide +kernel
theorem dX9_copyHost_86 : decode cX9_copyHost 86 = .ok (.aload_n 0, 1) := by decide +kernel
theorem dX9_copyHost_87 : decode cX9_copyHost 87 = .ok (.iload_n 1, 1) := by decide +kernel
theorem dX9_copyHost_88 : decode cX9_copyHost 88 = .ok (.iload_n 2, 1) := by decide +kernel
theorem dX9_copyHost_89 : decode cX9_copyHost 89 = .ok (.iconst 2, 1) := by decide +kernel
theorem dX9_copyHost_90 : decode cX9_copyHost 90 = .ok (.invokevirtual 114, 3) := by decide +kernel
theorem dX9_copyHost_93 : decode cX9_copyHost 93 = .ok (.return_, 1) := by decide +kernel
theorem dX9_portOf_0 : decode cX9_portOf 0 = .ok (.iload_n 0, 1) := by decide +kernel
theorem dX9_portOf_1 : decode cX9_portOf 1 = .ok (.iconst 2, 1) := by decide +kernel
theorem dX9_portOf_2 : decode cX9_portOf 2 = .ok (.if_icmp .ge 8, 3) := by decide +kernel
theorem dX9_portOf_5 : decode cX9_portOf 5 = .ok (.bipush 80, 2) := by decide +kernel
theorem dX9_portOf_7 : decode cX9_portOf 7 = .ok (.goto 16, 3) := by decide +kernel
theorem dX9_portOf_10 : decode cX9_portOf 10 = .ok (.iload_n 0, 1) := by decide +kernel
theorem dX9_portOf_11 : decode cX9_portOf 11 = .ok (.iconst 4, 1) := by decide +kernel
theorem dX9_portOf_12 : decode cX9_portOf 12 = .ok (.if_icmp .ge 9, 3) := by decide +kernel
theorem dX9_portOf_15 : decode cX9_portOf 15 = .ok (.sipush 443, 3) := by decide +kernel
theorem dX9_portOf_18 : decode cX9_portOf 18 = .ok (.goto 5, 3) := by decide +kernel
theorem dX9_portOf_21 : decode cX9_portOf 21 = .ok (.bipush 21, 2) := by decide +kernel
theorem dX9_portOf_23 : decode cX9_portOf 23 = .ok (.ireturn, 1) := by decide +kernel
theorem dX9_isEscaped_0 : decode cX9_isEscaped 0 = .ok (.iload_n 0, 1) := by decide +kernel
theorem dX9_isEscaped_1 : decode cX9_isEscaped 1 = .ok (.bipush 32, 2) := by decide +kernel
theorem dX9_isEscaped_3 : decode cX9_isEscaped 3 = .ok (.if_icmp .lt 9, 3) := by decide +kernel
theorem dX9_isEscaped_6 : decode cX9_isEscaped 6 = .ok (.iload_n 0, 1) := by decide +kernel
theorem dX9_isEscaped_7 : decode cX9_isEscaped 7 = .ok (.bipush 126, 2) := by decide +kernel
theorem dX9_isEscaped_9 : decode cX9_isEscaped 9 = .ok (.if_icmp .le 5, 3) := by decide +kernel
theorem dX9_isEscaped_12 : decode cX9_isEscaped 12 = .ok (.iconst 1, 1) := by decide +kernel
theorem dX9_isEscaped_13 : decode cX9_isEscaped 13 = .ok (.ireturn, 1) := by decide +kernel
theorem dX9_isEscaped_14 : decode cX9_isEscaped 14 = .ok (.iload_n 0, 1) := by decide +kernel
theorem dX9_isEscaped_15 : decode cX9_isEscaped 15 = .ok (.bipush 32, 2) := by decide +kernel
theorem dX9_isEscaped_17 : decode cX9_isEscaped 17 = .ok (.if_icmp .eq 21, 3) := by decide +kernel
theorem dX9_isEscaped_20 : decode cX9_isEscaped 20 = .ok (.iload_n 0, 1) := by decide +kernel
theorem dX9_isEscaped_21 : decode cX9_isEscaped 21 = .ok (.bipush 34, 2) := by decide +kernel
theorem dX9_isEscaped_23 : decode cX9_isEscaped 23 = .ok (.if_icmp .eq 15, 3) := by decide +kernel
theorem dX9_isEscaped_26 : decode cX9_isEscaped 26 = .ok (.iload_n 0, 1) := by decide +kernel
theorem dX9_isEscaped_27 : decode cX9_isEscaped 27 = .ok (.bipush 60, 2) := by decide +kernel
theorem dX9_isEscaped_29 : decode cX9_isEscaped 29 = .ok (.if_icmp .eq 9, 3) := by decide +kernel
theorem dX9_isEscaped_32 : decode cX9_isEscaped 32 = .ok (.iload_n 0, 1) := by decide +kernel
theorem dX9_isEscaped_33 : decode cX9_isEscaped 33 = .ok (.bipush 62, 2) := by decide +kernel
theorem dX9_isEscaped_35 : decode cX9_isEscaped 35 = .ok (.if_icmp .ne 5, 3) := by decide +kernel
theorem dX9_isEscaped_38 : decode cX9_isEscaped 38 = .ok (.iconst 1, 1) := by decide +kernel
theorem dX9_isEscaped_39 : decode cX9_isEscaped 39 = .ok (.ireturn, 1) := by decide +kernel
theorem dX9_isEscaped_40 : decode cX9_isEscaped 40 = .ok (.iload_n 1, 1) := by decide +kernel
theorem dX9_isEscaped_41 : decode cX9_isEscaped 41 = .ok (.ifCond .ne 15, 3) := by decide +kernel
theorem dX9_isEscaped_44 : decode cX9_isEscaped 44 = .ok (.iload_n 0, 1) := by decide +kernel
theorem dX9_isEscaped_45 : decode cX9_isEscaped 45 = .ok (.bipush 96, 2) := by decide +kernel
theorem dX9_isEscaped_47 : decode cX9_isEscaped 47 = .ok (.if_icmp .ne 7, 3) := by decide +kernel
theorem dX9_isEscaped_50 : decode cX9_isEscaped 50 = .ok (.iconst 1, 1) := by decide +kernel
theorem dX9_isEscaped_51 : decode cX9_isEscaped 51 = .ok (.goto 4, 3) := by decide +kernel
theorem dX9_isEscaped_54 : decode cX9_isEscaped 54 = .ok (.iconst 0, 1) := by decide +kernel
theorem dX9_isEscaped_55 : decode cX9_isEscaped 55 = .ok (.ireturn, 1) := by decide +kernel
theorem dX9_isEscaped_56 : decode cX9_isEscaped 56 = .ok (.iload_n 1, 1) := by decide +kernel
theorem dX9_isEscaped_57 : decode cX9_isEscaped 57 = .ok (.iconst 1, 1) := by decide +kernel
theorem dX9_isEscaped_58 : decode cX9_isEscaped 58 = .ok (.if_icmp .ne 21, 3) := by decide +kernel
theorem dX9_isEscaped_61 : decode cX9_isEscaped 61 = .ok (.iload_n 0, 1) := by decide +kernel
theorem dX9_isEscaped_62 : decode cX9_isEscaped 62 = .ok (.bipush 35, 2) := by decide +kernel
theorem dX9_isEscaped_64 : decode cX9_isEscaped 64 = .ok (.if_icmp .eq 9, 3) := by decide +kernel
theorem dX9_isEscaped_67 : decode cX9_isEscaped 67 = .ok (.iload_n 0, 1) := by decide +kernel
theorem dX9_isEscaped_68 : decode cX9_isEscaped 68 = .ok (.bipush 39, 2) := by decide +kernel
theorem dX9_isEscaped_70 : decode cX9_isEscaped 70 = .ok (.if_icmp .ne 7, 3) := by decide +kernel
theorem dX9_isEscaped_73 : decode cX9_isEscaped 73 = .ok (.iconst 1, 1) := by decide +kernel
theorem dX9_isEscaped_74 : decode cX9_isEscaped 74 = .ok (.goto 4, 3) := by decide +kernel
theorem dX9_isEscaped_77 : decode cX9_isEscaped 77 = .ok (.iconst 0, 1) := by decide +kernel
theorem dX9_isEscaped_78 : decode cX9_isEscaped 78 = .ok (.ireturn, 1) := by decide +kernel
theorem dX9_isEscaped_79 : decode cX9_isEscaped 79 = .ok (.iload_n 0, 1) := by decide +kernel
theorem dX9_isEscaped_80 : decode cX9_isEscaped 80 = .ok (.bipush 35, 2) := by decide +kernel
theorem dX9_isEscaped_82 : decode cX9_isEscaped 82 = .ok (.if_icmp .eq 33, 3) := by decide +kernel
theorem dX9_isEscaped_85 : decode cX9_isEscaped 85 = .ok (.iload_n 0, 1) := by decide +kernel
theorem dX9_isEscaped_86 : decode cX9_isEscaped 86 = .ok (.bipush 63, 2) := by decide +kernel
theorem dX9_isEscaped_88 : decode cX9_isEscaped 88 = .ok (.if_icmp .eq 27, 3) := by decide +kernel
theorem dX9_isEscaped_91 : decode cX9_isEscaped 91 = .ok (.iload_n 0, 1) := by decide +kernel
theorem dX9_isEscaped_92 : decode cX9_isEscaped 92 = .ok (.bipush 94, 2) := by decide +kernel
theorem dX9_isEscaped_94 : decode cX9_isEscaped 94 = .ok (.if_icmp .eq 21, 3) := by decide +kernel
theorem dX9_isEscaped_97 : decode cX9_isEscaped 97 = .ok (.iload_n 0, 1) := by decide +kernel
theorem dX9_isEscaped_98 : decode cX9_isEscaped 98 = .ok (.bipush 96, 2) := by decide +kernel
theorem dX9_isEscaped_100 : decode cX9_isEscaped 100 = .ok (.if_icmp .eq 15, 3) := by decide +kernel
theorem dX9_isEscaped_103 : decode cX9_isEscaped 103 = .ok (.iload_n 0, 1) := by decide +kernel
theorem dX9_isEscaped_104 : decode cX9_isEscaped 104 = .ok (.bipush 123, 2) := by decide +kernel
theorem dX9_isEscaped_106 : decode cX9_isEscaped 106 = .ok (.if_icmp .eq 9, 3) := by decide +kernel
theorem dX9_isEscaped_109 : decode cX9_isEscaped 109 = .ok (.iload_n 0, 1) := by decide +kernel
theorem dX9_isEscaped_110 : decode cX9_isEscaped 110 = .ok (.bipush 125, 2) := by decide +kernel
theorem dX9_isEscaped_112 : decode cX9_isEscaped 112 = .ok (.if_icmp .ne 7, 3) := by decide +kernel
theorem dX9_isEscaped_115 : decode cX9_isEscaped 115 = .ok (.iconst 1, 1) := by decide +kernel
theorem dX9_isEscaped_116 : decode cX9_isEscaped 116 = .ok (.goto 4, 3) := by decide +kernel
theorem dX9_isEscaped_119 : decode cX9_isEscaped 119 = .ok (.iconst 0, 1) := by decide +kernel
theorem dX9_isEscaped_120 : decode cX9_isEscaped 120 = .ok (.istore_n 2, 1) := by decide +kernel
theorem dX9_isEscaped_121 : decode cX9_isEscaped 121 = .ok (.iload_n 0, 1) := by decide +kernel
theorem dX9_isEscaped_122 : decode cX9_isEscaped 122 = .ok (.bipush 47, 2) := by decide +kernel
theorem dX9_isEscaped_124 : decode cX9_isEscaped 124 = .ok (.if_icmp .eq 51, 3) := by decide +kernel
theorem dX9_isEscaped_127 : decode cX9_isEscaped 127 = .ok (.iload_n 0, 1) := by decide +kernel
theorem dX9_isEscaped_128 : decode cX9_isEscaped 128 = .ok (.bipush 58, 2) := by decide +kernel
theorem dX9_isEscaped_130 : decode cX9_isEscaped 130 = .ok (.if_icmp .eq 45, 3) := by decide +kernel
theorem dX9_isEscaped_133 : decode cX9_isEscaped 133 = .ok (.iload_n 0, 1) := by decide +kernel
theorem dX9_isEscaped_134 : decode cX9_isEscaped 134 = .ok (.bipush 59, 2) := by decide +kernel
theorem dX9_isEscaped_136 : decode cX9_isEscaped 136 = .ok (.if_icmp .eq 39, 3) := by decide +kernel
theorem dX9_isEscaped_139 : decode cX9_isEscaped 139 = .ok (.iload_n 0, 1) := by decide +kernel
theorem dX9_isEscaped_140 : decode cX9_isEscaped 140 = .ok (.bipush 61, 2) := by decide +kernel
theorem dX9_isEscaped_142 : decode cX9_isEscaped 142 = .ok (.if_icmp .eq 33, 3) := by decide +kernel
theorem dX9_isEscaped_145 : decode cX9_isEscaped 145 = .ok (.iload_n 0, 1) := by decide +kernel
theorem dX9_isEscaped_146 : decode cX9_isEscaped 146 = .ok (.bipush 64, 2) := by decide +kernel
theorem dX9_isEscaped_148 : decode cX9_isEscaped 148 = .ok (.if_icmp .eq 27, 3) := by decide +kernel
theorem dX9_isEscaped_151 : decode cX9_isEscaped 151 = .ok (.iload_n 0, 1) := by decide +kernel
theorem dX9_isEscaped_152 : decode cX9_isEscaped 152 = .ok (.bipush 91, 2) := by decide +kernel
theorem dX9_isEscaped_154 : decode cX9_isEscaped 154 = .ok (.if_icmp .eq 21, 3) := by decide +kernel
theorem dX9_isEscaped_157 : decode cX9_isEscaped 157 = .ok (.iload_n 0, 1) := by decide +kernel
theorem dX9_isEscaped_158 : decode cX9_isEscaped 158 = .ok (.bipush 92, 2) := by decide +kernel
theorem dX9_isEscaped_160 : decode cX9_isEscaped 160 = .ok (.if_icmp .eq 15, 3) := by decide +kernel
theorem dX9_isEscaped_163 : decode cX9_isEscaped 163 = .ok (.iload_n 0, 1) := by decide +kernel
theorem dX9_isEscaped_164 : decode cX9_isEscaped 164 = .ok (.bipush 93, 2) := by decide +kernel
theorem dX9_isEscaped_166 : decode cX9_isEscaped 166 = .ok (.if_icmp .eq 9, 3) := by decide +kernel
theorem dX9_isEscaped_169 : decode cX9_isEscaped 169 = .ok (.iload_n 0, 1) := by decide +kernel
theorem dX9_isEscaped_170 : decode cX9_isEscaped 170 = .ok (.bipush 124, 2) := by decide +kernel
theorem dX9_isEscaped_172 : decode cX9_isEscaped 172 = .ok (.if_icmp .ne 7, 3) := by decide +kernel
theorem dX9_isEscaped_175 : decode cX9_isEscaped 175 = .ok (.iconst 1, 1) := by decide +kernel
theorem dX9_isEscaped_176 : decode cX9_isEscaped 176 = .ok (.goto 4, 3) := by decide +kernel
theorem dX9_isEscaped_179 : decode cX9_isEscaped 179 = .ok (.iconst 0, 1) := by decide +kernel
theorem dX9_isEscaped_180 : decode cX9_isEscaped 180 = .ok (.istore_n 3, 1) := by decide +kernel
theorem dX9_isEscaped_181 : decode cX9_isEscaped 181 = .ok (.iload_n 2, 1) := by decide +kernel
theorem dX9_isEscaped_182 : decode cX9_isEscaped 182 = .ok (.ifCond .ne 12, 3) := by decide +kernel
theorem dX9_isEscaped_185 : decode cX9_isEscaped 185 = .ok (.iload_n 1, 1) := by decide +kernel
theorem dX9_isEscaped_186 : decode cX9_isEscaped 186 = .ok (.iconst 3, 1) := by decide +kernel
theorem dX9_isEscaped_187 : decode cX9_isEscaped 187 = .ok (.if_icmp .ne 11, 3) := by decide +kernel
theorem dX9_isEscaped_190 : decode cX9_isEscaped 190 = .ok (.iload_n 3, 1) := by decide +kernel
theorem dX9_isEscaped_191 : decode cX9_isEscaped 191 = .ok (.ifCond .eq 7, 3) := by decide +kernel
theorem dX9_isEscaped_194 : decode cX9_isEscaped 194 = .ok (.iconst 1, 1) := by decide +kernel
theorem dX9_isEscaped_195 : decode cX9_isEscaped 195 = .ok (.goto 4, 3) := by decide +kernel
theorem dX9_isEscaped_198 : decode cX9_isEscaped 198 = .ok (.iconst 0, 1) := by decide +kernel
theorem dX9_isEscaped_199 : decode cX9_isEscaped 199 = .ok (.ireturn, 1) := by decide +kernel
theorem dX9_digitOf_0 : decode cX9_digitOf 0 = .ok (.iload_n 0, 1) := by decide +kernel
theorem dX9_digitOf_1 : decode cX9_digitOf 1 = .ok (.bipush 10, 2) := by decide +kernel
theorem dX9_digitOf_3 : decode cX9_digitOf 3 = .ok (.if_icmp .ge 10, 3) := by decide +kernel
theorem dX9_digitOf_6 : decode cX9_digitOf 6 = .ok (.bipush 48, 2) := by decide +kernel
theorem dX9_digitOf_8 : decode cX9_digitOf 8 = .ok (.iload_n 0, 1) := by decide +kernel
theorem dX9_digitOf_9 : decode cX9_digitOf 9 = .ok (.iadd, 1) := by decide +kernel
theorem dX9_digitOf_10 : decode cX9_digitOf 10 = .ok (.goto 10, 3) := by decide +kernel
theorem dX9_digitOf_13 : decode cX9_digitOf 13 = .ok (.bipush 65, 2) := by decide +kernel
theorem dX9_digitOf_15 : decode cX9_digitOf 15 = .ok (.iload_n 0, 1) := by decide +kernel
theorem dX9_digitOf_16 : decode cX9_digitOf 16 = .ok (.iadd, 1) := by decide +kernel
theorem dX9_digitOf_17 : decode cX9_digitOf 17 = .ok (.bipush 10, 2) := by decide +kernel
theorem dX9_digitOf_19 : decode cX9_digitOf 19 = .ok (.isub, 1) := by decide +kernel
theorem dX9_digitOf_20 : decode cX9_digitOf 20 = .ok (.ireturn, 1) := by decide +kernel
theorem dX9_addEscaped_0 : decode cX9_addEscaped 0 = .ok (.iload_n 2, 1) := by decide +kernel
theorem dX9_addEscaped_1 : decode cX9_addEscaped 1 = .ok (.iload_n 3, 1) := by decide +kernel
theorem dX9_addEscaped_2 : decode cX9_addEscaped 2 = .ok (.invokestatic 118, 3) := by decide +kernel
theorem dX9_addEscaped_5 : decode cX9_addEscaped 5 = .ok (.ifCond .eq 36, 3) := by decide +kernel
theorem dX9_addEscaped_8 : decode cX9_addEscaped 8 = .ok (.aload_n 0, 1) := by decide +kernel
theorem dX9_addEscaped_9 : decode cX9_addEscaped 9 = .ok (.iload_n 1, 1) := by decide +kernel
theorem dX9_addEscaped_10 : decode cX9_addEscaped 10 = .ok (.bipush 37, 2) := by decide +kernel
theorem dX9_addEscaped_12 : decode cX9_addEscaped 12 = .ok (.invokevirtual 122, 3) := by decide +kernel
theorem dX9_addEscaped_15 : decode cX9_addEscaped 15 = .ok (.aload_n 0, 1) := by decide +kernel
theorem dX9_addEscaped_16 : decode cX9_addEscaped 16 = .ok (.iload_n 1, 1) := by decide +kernel
theorem dX9_addEscaped_17 : decode cX9_addEscaped 17 = .ok (.iload_n 2, 1) := by decide +kernel
theorem dX9_addEscaped_18 : decode cX9_addEscaped 18 = .ok (.iconst 4, 1) := by decide +kernel
theorem dX9_addEscaped_19 : decode cX9_addEscaped 19 = .ok (.ishr, 1) := by decide +kernel
theorem dX9_addEscaped_20 : decode cX9_addEscaped 20 = .ok (.invokestatic 126, 3) := by decide +kernel
theorem dX9_addEscaped_23 : decode cX9_addEscaped 23 = .ok (.invokevirtual 122, 3) := by decide +kernel
theorem dX9_addEscaped_26 : decode cX9_addEscaped 26 = .ok (.aload_n 0, 1) := by decide +kernel
theorem dX9_addEscaped_27 : decode cX9_addEscaped 27 = .ok (.iload_n 1, 1) := by decide +kernel
theorem dX9_addEscaped_28 : decode cX9_addEscaped 28 = .ok (.iload_n 2, 1) := by decide +kernel
theorem dX9_addEscaped_29 : decode cX9_addEscaped 29 = .ok (.bipush 15, 2) := by decide +kernel
theorem dX9_addEscaped_31 : decode cX9_addEscaped 31 = .ok (.iand, 1) := by decide +kernel
theorem dX9_addEscaped_32 : decode cX9_addEscaped 32 = .ok (.invokestatic 126, 3) := by decide +kernel
theorem dX9_addEscaped_35 : decode cX9_addEscaped 35 = .ok (.invokevirtual 122, 3) := by decide +kernel
theorem dX9_addEscaped_38 : decode cX9_addEscaped 38 = .ok (.goto 9, 3) := by decide +kernel
theorem dX9_addEscaped_41 : decode cX9_addEscaped 41 = .ok (.aload_n 0, 1) := by decide +kernel
theorem dX9_addEscaped_42 : decode cX9_addEscaped 42 = .ok (.iload_n 1, 1) := by decide +kernel
theorem dX9_addEscaped_43 : decode cX9_addEscaped 43 = .ok (.iload_n 2, 1) := by decide +kernel
theorem dX9_addEscaped_44 : decode cX9_addEscaped 44 = .ok (.invokevirtual 122, 3) := by decide +kernel
theorem dX9_addEscaped_47 : decode cX9_addEscaped 47 = .ok (.return_, 1) := by decide +kernel
theorem dX9_byteAt_0 : decode cX9_byteAt 0 = .ok (.iload_n 1, 1) := by decide +kernel
theorem dX9_byteAt_1 : decode cX9_byteAt 1 = .ok (.aload_n 0, 1) := by decide +kernel
theorem dX9_byteAt_2 : decode cX9_byteAt 2 = .ok (.getfield 129, 3) := by decide +kernel
theorem dX9_byteAt_5 : decode cX9_byteAt 5 = .ok (.if_icmp .ge 16, 3) := by decide +kernel
theorem dX9_byteAt_8 : decode cX9_byteAt 8 = .ok (.aload_n 0, 1) := by decide +kernel
theorem dX9_byteAt_9 : decode cX9_byteAt 9 = .ok (.getfield 43, 3) := by decide +kernel
theorem dX9_byteAt_12 : decode cX9_byteAt 12 = .ok (.iload_n 1, 1) := by decide +kernel
theorem dX9_byteAt_13 : decode cX9_byteAt 13 = .ok (.baload, 1) := by decide +kernel
theorem dX9_byteAt_14 : decode cX9_byteAt 14 = .ok (.sipush 255, 3) := by decide +kernel
theorem dX9_byteAt_17 : decode cX9_byteAt 17 = .ok (.iand, 1) := by decide +kernel
theorem dX9_byteAt_18 : decode cX9_byteAt 18 = .ok (.goto 4, 3) := by decide +kernel
theorem dX9_byteAt_21 : decode cX9_byteAt 21 = .ok (.iconst (-1), 1) := by decide +kernel
theorem dX9_byteAt_22 : decode cX9_byteAt 22 = .ok (.ireturn, 1) := by decide +kernel
def f_X9_isIn  (a0 : Int32) (a1 : Int32) (a2 : Int32) : gM Int32 := if a0 < a1 then (gz 0) else (if a2 < a0 then (gz 0) else (gz 1))
section S_X9_isIn
variable {G : gX} {p : Program} {l : Launch} {e : Env} {s : State} {m : MethodId} {args : Array Value} {below : List Frame} {meth : Method} {c : Code} {mc ms : Nat} {y : Int32 × gS}
set_option maxHeartbeats 4000000 in
set_option maxRecDepth 100000 in
theorem w_X9_isIn_0 (C : gC G p s m args meth c cX9_isIn 3 RX9) (hr : meth.sig.returnType = (some .boolean))  (a0 : Int32) (a1 : Int32) (a2 : Int32) : gJ G p l e 0 0 mc ms s m args below meth c gri y 3 0 [(0, .int a0), (1, .int a1), (2, .int a2)] [] (f_X9_isIn  a0 a1 a2) := by
  have hx := C.1
  have hb := C.2.1
  intro σ H locs cells slots ls hf I hl
  unfold f_X9_isIn at hf
  refine lv_iload_n hx hb dX9_isIn_0 rfl (lv_at hl 0 rfl) ?_
  refine lv_iload_n hx hb dX9_isIn_1 rfl (lv_at hl 1 rfl) ?_
  refine lv_icmp_lt (tgt := 14) hx hb dX9_isIn_2 (by decide) (fun hq => ?_) (fun hq => ?_)
  · have hf := gift hq hf
    refine lv_iconst (v := 0) hx hb dX9_isIn_14 kc_i_0 ?_
    exact gw_zret C I hr dX9_isIn_15 hf
  · have hf := giff hq hf
    refine lv_iload_n hx hb dX9_isIn_5 rfl (lv_at hl 0 rfl) ?_
    refine lv_iload_n hx hb dX9_isIn_6 rfl (lv_at hl 2 rfl) ?_
    refine lv_icmp_gt (tgt := 14) hx hb dX9_isIn_7 (by decide) (fun hq => ?_) (fun hq => ?_)
    · have hf := gift hq hf
      refine lv_iconst (v := 0) hx hb dX9_isIn_14 kc_i_0 ?_
      exact gw_zret C I hr dX9_isIn_15 hf
    · have hf := giff hq hf
      refine lv_iconst (v := 1) hx hb dX9_isIn_10 kc_i_1 ?_
      refine lv_goto (tgt := 15) hx hb dX9_isIn_11 (by decide) ?_
      exact gw_zret C I hr dX9_isIn_15 hf
end S_X9_isIn
theorem m_X9_isIn (G : gX) (l : Launch) (a0 : Int32) (a1 : Int32) (a2 : Int32) : gMet G l yX9_isIn cX9_isIn 3 (some .boolean) 0 0 [.int a0, .int a1, .int a2] gri (f_X9_isIn a0 a1 a2) := by
  refine gMet_of (by decide) ?_
  intro σ y p e s m below meth c mc ms hf C hr hnm I
  obtain ⟨ls, e1, hl⟩ := gentry m [.int a0, .int a1, .int a2] 3 [(0, .int a0), (1, .int a1), (2, .int a2)] (by simp [lg_sl, grc, gcat_i, gcat_l]) (by simp [lv_args, grc, gcat_i, gcat_l])
  rw [e1]
  exact w_X9_isIn_0 C hr a0 a1 a2 _ _ _ _ _ _ hf I hl
def f_X9_low  (a0 : Int32) : gM Int32 := gb (f_X9_isIn a0 65 90) fun v1 => if v1 = 0 then (gp a0) else (gp (a0 + 32))
section S_X9_low
variable {G : gX} {p : Program} {l : Launch} {e : Env} {s : State} {m : MethodId} {args : Array Value} {below : List Frame} {meth : Method} {c : Code} {mc ms : Nat} {y : Int32 × gS}
set_option maxHeartbeats 4000000 in
set_option maxRecDepth 100000 in
theorem w_X9_low_0 (C : gC G p s m args meth c cX9_low 1 RX9) (hr : meth.sig.returnType = (some .int))  (a0 : Int32) : gJ G p l e 1 22 mc ms s m args below meth c gri y 1 0 [(0, .int a0)] [] (f_X9_low  a0) := by
  have hx := C.1
  have hb := C.2.1
  intro σ H locs cells slots ls hf I hl
  unfold f_X9_low at hf
  refine lv_iload_n hx hb dX9_low_0 rfl (lv_at hl 0 rfl) ?_
  refine lv_bipush (v := 65) hx hb dX9_low_1 kc_b_65 ?_
  refine lv_bipush (v := 90) hx hb dX9_low_3 kc_b_90 ?_
  refine gw_callS (rest := []) C I hl.1 (m_X9_isIn G l a0 65 90) gl_RX9_91 kw_192 ⟨Nat.le_of_ble_eq_true rfl, Nat.le_of_ble_eq_true rfl⟩ rfl (gc4 (Nat.le_of_ble_eq_true rfl)) rfl dX9_low_5 hf (fun v1 σ H locs cells slots I hf => ?_)
  refine W.eq (g2 := F0 m 8 ls [.int v1]) rfl ?_
  refine lv_if_eq (tgt := 18) hx hb dX9_low_8 (by decide) (fun hq => ?_) (fun hq => ?_)
  · have hf := gift hq hf
    refine lv_iload_n hx hb dX9_low_18 rfl (lv_at hl 0 rfl) ?_
    exact gw_iret C I hr dX9_low_19 hf
  · have hf := giff hq hf
    refine lv_iload_n hx hb dX9_low_11 rfl (lv_at hl 0 rfl) ?_
    refine lv_bipush (v := 32) hx hb dX9_low_12 kc_b_32 ?_
    refine lv_iadd hx hb dX9_low_14 ?_
    refine lv_goto (tgt := 19) hx hb dX9_low_15 (by decide) ?_
    exact gw_iret C I hr dX9_low_19 hf
end S_X9_low
theorem m_X9_low (G : gX) (l : Launch) (a0 : Int32) : gMet G l yX9_low cX9_low 1 (some .int) 1 22 [.int a0] gri (f_X9_low a0) := by
  refine gMet_of (by decide) ?_
  intro σ y p e s m below meth c mc ms hf C hr hnm I
  obtain ⟨ls, e1, hl⟩ := gentry m [.int a0] 1 [(0, .int a0)] (by simp [lg_sl, grc, gcat_i, gcat_l]) (by simp [lv_args, grc, gcat_i, gcat_l])
  rw [e1]
  exact w_X9_low_0 C hr a0 _ _ _ _ _ _ hf I hl
def f_X9_isDigit  (a0 : Int32) : gM Int32 := gb (f_X9_isIn a0 48 57) fun v1 => gz v1
section S_X9_isDigit
variable {G : gX} {p : Program} {l : Launch} {e : Env} {s : State} {m : MethodId} {args : Array Value} {below : List Frame} {meth : Method} {c : Code} {mc ms : Nat} {y : Int32 × gS}
set_option maxHeartbeats 4000000 in
set_option maxRecDepth 100000 in
theorem w_X9_isDigit_0 (C : gC G p s m args meth c cX9_isDigit 1 RX9) (hr : meth.sig.returnType = (some .boolean))  (a0 : Int32) : gJ G p l e 1 22 mc ms s m args below meth c gri y 1 0 [(0, .int a0)] [] (f_X9_isDigit  a0) := by
  have hx := C.1
  have hb := C.2.1
  intro σ H locs cells slots ls hf I hl
  unfold f_X9_isDigit at hf
  refine lv_iload_n hx hb dX9_isDigit_0 rfl (lv_at hl 0 rfl) ?_
  refine lv_bipush (v := 48) hx hb dX9_isDigit_1 kc_b_48 ?_
  refine lv_bipush (v := 57) hx hb dX9_isDigit_3 kc_b_57 ?_
  refine gw_callS (rest := []) C I hl.1 (m_X9_isIn G l a0 48 57) gl_RX9_91 kw_192 ⟨Nat.le_of_ble_eq_true rfl, Nat.le_of_ble_eq_true rfl⟩ rfl (gc4 (Nat.le_of_ble_eq_true rfl)) rfl dX9_isDigit_5 hf (fun v1 σ H locs cells slots I hf => ?_)
  refine W.eq (g2 := F0 m 8 ls [.int v1]) rfl ?_
  exact gw_zret C I hr dX9_isDigit_8 hf
end S_X9_isDigit
theorem m_X9_isDigit (G : gX) (l : Launch) (a0 : Int32) : gMet G l yX9_isDigit cX9_isDigit 1 (some .boolean) 1 22 [.int a0] gri (f_X9_isDigit a0) := by
  refine gMet_of (by decide) ?_
  intro σ y p e s m below meth c mc ms hf C hr hnm I
  obtain ⟨ls, e1, hl⟩ := gentry m [.int a0] 1 [(0, .int a0)] (by simp [lg_sl, grc, gcat_i, gcat_l]) (by simp [lv_args, grc, gcat_i, gcat_l])
  rw [e1]
  exact w_X9_isDigit_0 C hr a0 _ _ _ _ _ _ hf I hl
def f_X9_hex  (a0 : Int32) : gM Int32 := gb (f_X9_isDigit a0) fun v1 => if v1 = 0 then (gb (f_X9_low a0) fun v2 => gb (f_X9_isIn v2 97 102) fun v3 => if v3 = 0 then (gp (-1)) else (gb (f_X9_low a0) fun v4 => gp ((v4 - 97) + 10))) else (gp (a0 - 48))
section S_X9_hex
variable {G : gX} {p : Program} {l : Launch} {e : Env} {s : State} {m : MethodId} {args : Array Value} {below : List Frame} {meth : Method} {c : Code} {mc ms : Nat} {y : Int32 × gS}
set_option maxHeartbeats 4000000 in
set_option maxRecDepth 100000 in
theorem w_X9_hex_0 (C : gC G p s m args meth c cX9_hex 1 RX9) (hr : meth.sig.returnType = (some .int))  (a0 : Int32) : gJ G p l e 2 42 mc ms s m args below meth c gri y 1 0 [(0, .int a0)] [] (f_X9_hex  a0) := by
  have hx := C.1
  have hb := C.2.1
  intro σ H locs cells slots ls hf I hl
  unfold f_X9_hex at hf
  refine lv_iload_n hx hb dX9_hex_0 rfl (lv_at hl 0 rfl) ?_
  refine gw_callS (rest := []) C I hl.1 (m_X9_isDigit G l a0) gl_RX9_95 kw_193 ⟨Nat.le_of_ble_eq_true rfl, Nat.le_of_ble_eq_true rfl⟩ rfl (gc4 (Nat.le_of_ble_eq_true rfl)) rfl dX9_hex_1 hf (fun v1 σ H locs cells slots I hf => ?_)
  refine W.eq (g2 := F0 m 4 ls [.int v1]) rfl ?_
  refine lv_if_eq (tgt := 14) hx hb dX9_hex_4 (by decide) (fun hq => ?_) (fun hq => ?_)
  · have hf := gift hq hf
    refine lv_iload_n hx hb dX9_hex_14 rfl (lv_at hl 0 rfl) ?_
    refine gw_callS (rest := []) C I hl.1 (m_X9_low G l a0) gl_RX9_99 kw_194 ⟨Nat.le_of_ble_eq_true rfl, Nat.le_of_ble_eq_true rfl⟩ rfl (gc4 (Nat.le_of_ble_eq_true rfl)) rfl dX9_hex_15 hf (fun v2 σ H locs cells slots I hf => ?_)
    refine W.eq (g2 := F0 m 18 ls [.int v2]) rfl ?_
    refine lv_bipush (v := 97) hx hb dX9_hex_18 kc_b_97 ?_
    refine lv_bipush (v := 102) hx hb dX9_hex_20 kc_b_102 ?_
    refine gw_callS (rest := []) C I hl.1 (m_X9_isIn G l v2 97 102) gl_RX9_91 kw_192 ⟨Nat.le_of_ble_eq_true rfl, Nat.le_of_ble_eq_true rfl⟩ rfl (gc4 (Nat.le_of_ble_eq_true rfl)) rfl dX9_hex_22 hf (fun v3 σ H locs cells slots I hf => ?_)
    refine W.eq (g2 := F0 m 25 ls [.int v3]) rfl ?_
    refine lv_if_eq (tgt := 41) hx hb dX9_hex_25 (by decide) (fun hq => ?_) (fun hq => ?_)
    · have hf := gift hq hf
      refine lv_iconst (v := (-1)) hx hb dX9_hex_41 kc_i_m1 ?_
      exact gw_iret C I hr dX9_hex_42 hf
    · have hf := giff hq hf
      refine lv_iload_n hx hb dX9_hex_28 rfl (lv_at hl 0 rfl) ?_
      refine gw_callS (rest := []) C I hl.1 (m_X9_low G l a0) gl_RX9_99 kw_194 ⟨Nat.le_of_ble_eq_true rfl, Nat.le_of_ble_eq_true rfl⟩ rfl (gc4 (Nat.le_of_ble_eq_true rfl)) rfl dX9_hex_29 hf (fun v4 σ H locs cells slots I hf => ?_)
      refine W.eq (g2 := F0 m 32 ls [.int v4]) rfl ?_
      refine lv_bipush (v := 97) hx hb dX9_hex_32 kc_b_97 ?_
      refine lv_isub hx hb dX9_hex_34 ?_
      refine lv_bipush (v := 10) hx hb dX9_hex_35 kc_b_10 ?_
      refine lv_iadd hx hb dX9_hex_37 ?_
      refine lv_goto (tgt := 42) hx hb dX9_hex_38 (by decide) ?_
      exact gw_iret C I hr dX9_hex_42 hf
  · have hf := giff hq hf
    refine lv_iload_n hx hb dX9_hex_7 rfl (lv_at hl 0 rfl) ?_
    refine lv_bipush (v := 48) hx hb dX9_hex_8 kc_b_48 ?_
    refine lv_isub hx hb dX9_hex_10 ?_
    refine lv_goto (tgt := 42) hx hb dX9_hex_11 (by decide) ?_
    exact gw_iret C I hr dX9_hex_42 hf
end S_X9_hex
theorem m_X9_hex (G : gX) (l : Launch) (a0 : Int32) : gMet G l yX9_hex cX9_hex 1 (some .int) 2 42 [.int a0] gri (f_X9_hex a0) := by
  refine gMet_of (by decide) ?_
  intro σ y p e s m below meth c mc ms hf C hr hnm I
  obtain ⟨ls, e1, hl⟩ := gentry m [.int a0] 1 [(0, .int a0)] (by simp [lg_sl, grc, gcat_i, gcat_l]) (by simp [lv_args, grc, gcat_i, gcat_l])
  rw [e1]
  exact w_X9_hex_0 C hr a0 _ _ _ _ _ _ hf I hl
def f_X9_type_31 (rec31 : Option Nat → Int64 → Int32 → Int32 → gM Int32) (x0 : Option Nat) (x1 : Int64) (x3 : Int32) (x4 : Int32) : gM Int32 := if x3 ≤ x4 then (gb (rI 8 1 x0) fun v1 => gp v1) else (gb (rR 8 0 x0) fun v2 => gb (rI 8 1 x0) fun v3 => gb (sI 0 v2 v3 (((x1 >>> ((8 * x4).toInt64 &&& 63)).toInt32).toInt8.toInt32)) fun _ => gb (rI 8 1 x0) fun v4 => gb (wI 8 1 x0 (v4 + 1)) fun _ => rec31 x0 x1 x3 (x4 + 1))
def f_X9_type_L31  : Nat → Option Nat → Int64 → Int32 → Int32 → gM Int32
  | 0, _, _, _, _ => gno
  | n + 1, x0, x1, x3, x4 => f_X9_type_31  (f_X9_type_L31  n) x0 x1 x3 x4
def f_X9_type  (a0 : Option Nat) (a1 : Int64) (a3 : Int32) : gM Int32 := gb (f_X9_isIn a3 1 8) fun v1 => if v1 = 0 then (gp (-2)) else (gb (rI 8 1 a0) fun v2 => if (v2 + a3) ≤ 300 then (f_X9_type_L31  gF a0 a1 a3 0) else (gp (-3)))
section S_X9_type
variable {G : gX} {p : Program} {l : Launch} {e : Env} {s : State} {m : MethodId} {args : Array Value} {below : List Frame} {meth : Method} {c : Code} {mc ms : Nat} {y : Int32 × gS}
set_option maxHeartbeats 4000000 in
set_option maxRecDepth 100000 in
theorem w_X9_type_31 (C : gC G p s m args meth c cX9_type 5 RX9) (hr : meth.sig.returnType = (some .int)) {rec31 : Option Nat → Int64 → Int32 → Int32 → gM Int32} (hrec31 : ∀ (x0 : Option Nat) (x1 : Int64) (x3 : Int32) (x4 : Int32), gJ G p l e 1 22 mc ms s m args below meth c gri y 5 31 [(0, va_rf x0), (1, .long x1), (3, .int x3), (4, .int x4)] [] (rec31 x0 x1 x3 x4)) (x0 : Option Nat) (x1 : Int64) (x3 : Int32) (x4 : Int32) : gJ G p l e 1 22 mc ms s m args below meth c gri y 5 31 [(0, va_rf x0), (1, .long x1), (3, .int x3), (4, .int x4)] [] (f_X9_type_31 rec31 x0 x1 x3 x4) := by
  have hx := C.1
  have hb := C.2.1
  intro σ H locs cells slots ls hf I hl
  unfold f_X9_type_31 at hf
  refine lv_iload hx hb dX9_type_31 (lv_at hl 3 rfl) ?_
  refine lv_iload_n hx hb dX9_type_33 rfl (lv_at hl 2 rfl) ?_
  refine lv_icmp_ge (tgt := 71) hx hb dX9_type_34 (by decide) (fun hq => ?_) (fun hq => ?_)
  · have hf := gift hq hf
    refine gw_aload_n hx hb dX9_type_71 rfl (lv_at hl 0 rfl) ?_
    refine gw_geti (k := 1) C I gcls_8 (by decide) rfl kw_195 dX9_type_72 hf (fun v1 hf => ?_)
    exact gw_iret C I hr dX9_type_75 hf
  · have hf := giff hq hf
    refine gw_aload_n hx hb dX9_type_37 rfl (lv_at hl 0 rfl) ?_
    refine gw_getr (k := 0) C I gcls_8 (by decide) rfl kw_165 dX9_type_38 hf (fun v2 hf => ?_)
    refine gw_aload_n hx hb dX9_type_41 rfl (lv_at hl 0 rfl) ?_
    refine gw_geti (k := 1) C I gcls_8 (by decide) rfl kw_195 dX9_type_42 hf (fun v3 hf => ?_)
    refine lv_lload_n hx hb dX9_type_45 rfl (lv_at hl 1 rfl) ?_
    refine lv_bipush (v := 8) hx hb dX9_type_46 kc_b_8 ?_
    refine lv_iload hx hb dX9_type_48 (lv_at hl 3 rfl) ?_
    refine lv_imul hx hb dX9_type_50 ?_
    refine lv_lshr hx hb dX9_type_51 rfl ?_
    refine lv_l2i hx hb dX9_type_52 rfl ?_
    refine lv_i2b hx hb dX9_type_53 rfl ?_
    refine gw_bast C I dX9_type_54 hf (fun σ H locs I hf => ?_)
    refine gw_aload_n hx hb dX9_type_55 rfl (lv_at hl 0 rfl) ?_
    refine lv_dup hx hb dX9_type_56 (grc _) ?_
    refine gw_geti (k := 1) C I gcls_8 (by decide) rfl kw_195 dX9_type_57 hf (fun v4 hf => ?_)
    refine lv_iconst (v := 1) hx hb dX9_type_60 kc_i_1 ?_
    refine lv_iadd hx hb dX9_type_61 ?_
    refine gw_puti (k := 1) C I gcls_8 (by decide) rfl kw_195 (Or.inl rfl) (by decide +kernel) dX9_type_62 hf (fun σ H locs I hf => ?_)
    refine lv_iinc (v := x4 + 1) (lv' := [(4, .int (x4 + 1)), (0, va_rf x0), (1, .long x1), (3, .int x3)]) hx hb dX9_type_65 hl (k := 3) rfl rfl (by decide) rfl (fun ls hl => ?_)
    refine lv_goto (tgt := 31) hx hb dX9_type_68 (by decide) ?_
    exact hrec31 x0 x1 x3 (x4 + 1) _ _ _ _ _ _ hf I (lv_sub hl [1, 2, 3, 0] rfl)
theorem w_X9_type_L31 (C : gC G p s m args meth c cX9_type 5 RX9) (hr : meth.sig.returnType = (some .int))  : ∀ (n : Nat) (x0 : Option Nat) (x1 : Int64) (x3 : Int32) (x4 : Int32), gJ G p l e 1 22 mc ms s m args below meth c gri y 5 31 [(0, va_rf x0), (1, .long x1), (3, .int x3), (4, .int x4)] [] (f_X9_type_L31  n x0 x1 x3 x4) := by
  intro n
  induction n with
  | zero => intro x0 x1 x3 x4 σ H locs cells slots ls hf; exact (gno_some hf).elim
  | succ n ih => intro x0 x1 x3 x4; exact w_X9_type_31 C hr  ih x0 x1 x3 x4
set_option maxHeartbeats 4000000 in
set_option maxRecDepth 100000 in
theorem w_X9_type_0 (C : gC G p s m args meth c cX9_type 5 RX9) (hr : meth.sig.returnType = (some .int))  (a0 : Option Nat) (a1 : Int64) (a3 : Int32) : gJ G p l e 1 22 mc ms s m args below meth c gri y 5 0 [(0, va_rf a0), (1, .long a1), (3, .int a3)] [] (f_X9_type  a0 a1 a3) := by
  have hx := C.1
  have hb := C.2.1
  intro σ H locs cells slots ls hf I hl
  unfold f_X9_type at hf
  refine lv_iload_n hx hb dX9_type_0 rfl (lv_at hl 2 rfl) ?_
  refine lv_iconst (v := 1) hx hb dX9_type_1 kc_i_1 ?_
  refine lv_bipush (v := 8) hx hb dX9_type_2 kc_b_8 ?_
  refine gw_callS (rest := []) C I hl.1 (m_X9_isIn G l a3 1 8) gl_RX9_91 kw_192 ⟨Nat.le_of_ble_eq_true rfl, Nat.le_of_ble_eq_true rfl⟩ rfl (gc4 (Nat.le_of_ble_eq_true rfl)) rfl dX9_type_4 hf (fun v1 σ H locs cells slots I hf => ?_)
  refine W.eq (g2 := F0 m 7 ls [.int v1]) rfl ?_
  refine lv_if_ne (tgt := 13) hx hb dX9_type_7 (by decide) (fun hq => ?_) (fun hq => ?_)
  · have hf := giff hq hf
    refine gw_aload_n hx hb dX9_type_13 rfl (lv_at hl 0 rfl) ?_
    refine gw_geti (k := 1) C I gcls_8 (by decide) rfl kw_195 dX9_type_14 hf (fun v2 hf => ?_)
    refine lv_iload_n hx hb dX9_type_17 rfl (lv_at hl 2 rfl) ?_
    refine lv_iadd hx hb dX9_type_18 ?_
    refine lv_sipush (v := 300) hx hb dX9_type_19 kc_s_300 ?_
    refine lv_icmp_le (tgt := 28) hx hb dX9_type_22 (by decide) (fun hq => ?_) (fun hq => ?_)
    · have hf := gift hq hf
      refine lv_iconst (v := 0) hx hb dX9_type_28 kc_i_0 ?_
      refine lv_istore (lv' := [(4, .int 0), (0, va_rf a0), (1, .long a1), (3, .int a3)]) hx hb dX9_type_29 hl (by decide) rfl (fun ls hl => ?_)
      exact w_X9_type_L31 C hr  _ a0 a1 a3 0 _ _ _ _ _ _ hf I (lv_sub hl [1, 2, 3, 0] rfl)
    · have hf := giff hq hf
      refine lv_bipush (v := (-3)) hx hb dX9_type_25 kc_b_m3 ?_
      exact gw_iret C I hr dX9_type_27 hf
  · have hf := gift hq hf
    refine lv_bipush (v := (-2)) hx hb dX9_type_10 kc_b_m2 ?_
    exact gw_iret C I hr dX9_type_12 hf
end S_X9_type
theorem m_X9_type (G : gX) (l : Launch) (a0 : Option Nat) (a1 : Int64) (a3 : Int32) : gMet G l yX9_type cX9_type 5 (some .int) 1 22 [va_rf a0, .long a1, .int a3] gri (f_X9_type a0 a1 a3) := by
  refine gMet_of (by decide) ?_
  intro σ y p e s m below meth c mc ms hf C hr hnm I
  obtain ⟨ls, e1, hl⟩ := gentry m [va_rf a0, .long a1, .int a3] 5 [(0, va_rf a0), (1, .long a1), (3, .int a3)] (by simp [lg_sl, grc, gcat_i, gcat_l]) (by simp [lv_args, grc, gcat_i, gcat_l])
  rw [e1]
  exact w_X9_type_0 C hr a0 a1 a3 _ _ _ _ _ _ hf I hl
def f_X9_erase  (a0 : Option Nat) : gM Int32 := gb (rI 8 1 a0) fun v1 => gb (wI 8 1 a0 0) fun _ => gp v1
section S_X9_erase
variable {G : gX} {p : Program} {l : Launch} {e : Env} {s : State} {m : MethodId} {args : Array Value} {below : List Frame} {meth : Method} {c : Code} {mc ms : Nat} {y : Int32 × gS}
set_option maxHeartbeats 4000000 in
set_option maxRecDepth 100000 in
theorem w_X9_erase_0 (C : gC G p s m args meth c cX9_erase 2 RX9) (hr : meth.sig.returnType = (some .int))  (a0 : Option Nat) : gJ G p l e 0 0 mc ms s m args below meth c gri y 2 0 [(0, va_rf a0)] [] (f_X9_erase  a0) := by
  have hx := C.1
  have hb := C.2.1
  intro σ H locs cells slots ls hf I hl
  unfold f_X9_erase at hf
  refine gw_aload_n hx hb dX9_erase_0 rfl (lv_at hl 0 rfl) ?_
  refine gw_geti (k := 1) C I gcls_8 (by decide) rfl kw_195 dX9_erase_1 hf (fun v1 hf => ?_)
  refine lv_istore_n (lv' := [(1, .int v1), (0, va_rf a0)]) hx hb dX9_erase_4 rfl hl (by decide) (by cases a0 <;> rfl) (fun ls hl => ?_)
  refine gw_aload_n hx hb dX9_erase_5 rfl (lv_at hl 1 rfl) ?_
  refine lv_iconst (v := 0) hx hb dX9_erase_6 kc_i_0 ?_
  refine gw_puti (k := 1) C I gcls_8 (by decide) rfl kw_195 (Or.inl rfl) (by decide +kernel) dX9_erase_7 hf (fun σ H locs I hf => ?_)
  refine lv_iload_n hx hb dX9_erase_10 rfl (lv_at hl 0 rfl) ?_
  exact gw_iret C I hr dX9_erase_11 hf
end S_X9_erase
theorem m_X9_erase (G : gX) (l : Launch) (a0 : Option Nat) : gMet G l yX9_erase cX9_erase 2 (some .int) 0 0 [va_rf a0] gri (f_X9_erase a0) := by
  refine gMet_of (by decide) ?_
  intro σ y p e s m below meth c mc ms hf C hr hnm I
  obtain ⟨ls, e1, hl⟩ := gentry m [va_rf a0] 2 [(0, va_rf a0)] (by simp [lg_sl, grc, gcat_i, gcat_l]) (by simp [lv_args, grc, gcat_i, gcat_l])
  rw [e1]
  exact w_X9_erase_0 C hr a0 _ _ _ _ _ _ hf I hl
def f_X9_at  (a0 : Option Nat) (a1 : Int32) : gM Int32 := gb (rI 8 1 a0) fun v1 => gb (f_X9_isIn a1 0 (v1 - 1)) fun v2 => if v2 = 0 then (gp (-1)) else (gb (rR 8 0 a0) fun v3 => gb (aI 0 v3 a1) fun v4 => gp (v4 &&& 255))
section S_X9_at
variable {G : gX} {p : Program} {l : Launch} {e : Env} {s : State} {m : MethodId} {args : Array Value} {below : List Frame} {meth : Method} {c : Code} {mc ms : Nat} {y : Int32 × gS}
set_option maxHeartbeats 4000000 in
set_option maxRecDepth 100000 in
theorem w_X9_at_0 (C : gC G p s m args meth c cX9_at 2 RX9) (hr : meth.sig.returnType = (some .int))  (a0 : Option Nat) (a1 : Int32) : gJ G p l e 1 22 mc ms s m args below meth c gri y 2 0 [(0, va_rf a0), (1, .int a1)] [] (f_X9_at  a0 a1) := by
  have hx := C.1
  have hb := C.2.1
  intro σ H locs cells slots ls hf I hl
  unfold f_X9_at at hf
  refine lv_iload_n hx hb dX9_at_0 rfl (lv_at hl 1 rfl) ?_
  refine lv_iconst (v := 0) hx hb dX9_at_1 kc_i_0 ?_
  refine gw_aload_n hx hb dX9_at_2 rfl (lv_at hl 0 rfl) ?_
  refine gw_geti (k := 1) C I gcls_8 (by decide) rfl kw_195 dX9_at_3 hf (fun v1 hf => ?_)
  refine lv_iconst (v := 1) hx hb dX9_at_6 kc_i_1 ?_
  refine lv_isub hx hb dX9_at_7 ?_
  refine gw_callS (rest := []) C I hl.1 (m_X9_isIn G l a1 0 (v1 - 1)) gl_RX9_91 kw_192 ⟨Nat.le_of_ble_eq_true rfl, Nat.le_of_ble_eq_true rfl⟩ rfl (gc4 (Nat.le_of_ble_eq_true rfl)) rfl dX9_at_8 hf (fun v2 σ H locs cells slots I hf => ?_)
  refine W.eq (g2 := F0 m 11 ls [.int v2]) rfl ?_
  refine lv_if_eq (tgt := 27) hx hb dX9_at_11 (by decide) (fun hq => ?_) (fun hq => ?_)
  · have hf := gift hq hf
    refine lv_iconst (v := (-1)) hx hb dX9_at_27 kc_i_m1 ?_
    exact gw_iret C I hr dX9_at_28 hf
  · have hf := giff hq hf
    refine gw_aload_n hx hb dX9_at_14 rfl (lv_at hl 0 rfl) ?_
    refine gw_getr (k := 0) C I gcls_8 (by decide) rfl kw_165 dX9_at_15 hf (fun v3 hf => ?_)
    refine lv_iload_n hx hb dX9_at_18 rfl (lv_at hl 1 rfl) ?_
    refine gw_bald C I dX9_at_19 hf (fun v4 hf => ?_)
    refine lv_sipush (v := 255) hx hb dX9_at_20 kc_s_255 ?_
    refine lv_iand hx hb dX9_at_23 ?_
    refine lv_goto (tgt := 28) hx hb dX9_at_24 (by decide) ?_
    exact gw_iret C I hr dX9_at_28 hf
end S_X9_at
theorem m_X9_at (G : gX) (l : Launch) (a0 : Option Nat) (a1 : Int32) : gMet G l yX9_at cX9_at 2 (some .int) 1 22 [va_rf a0, .int a1] gri (f_X9_at a0 a1) := by
  refine gMet_of (by decide) ?_
  intro σ y p e s m below meth c mc ms hf C hr hnm I
  obtain ⟨ls, e1, hl⟩ := gentry m [va_rf a0, .int a1] 2 [(0, va_rf a0), (1, .int a1)] (by simp [lg_sl, grc, gcat_i, gcat_l]) (by simp [lv_args, grc, gcat_i, gcat_l])
  rw [e1]
  exact w_X9_at_0 C hr a0 a1 _ _ _ _ _ _ hf I hl
def f_X9_has  (a0 : Option Nat) (a1 : Int32) : gM Int32 := gb (f_X9_isIn a1 0 3) fun v1 => if v1 = 0 then (gz 0) else (gb (rR 8 2 a0) fun v2 => gb (aI 2 v2 a1) fun v3 => if v3 = 0 then (gz 0) else (gz 1))
section S_X9_has
variable {G : gX} {p : Program} {l : Launch} {e : Env} {s : State} {m : MethodId} {args : Array Value} {below : List Frame} {meth : Method} {c : Code} {mc ms : Nat} {y : Int32 × gS}
set_option maxHeartbeats 4000000 in
set_option maxRecDepth 100000 in
theorem w_X9_has_0 (C : gC G p s m args meth c cX9_has 2 RX9) (hr : meth.sig.returnType = (some .boolean))  (a0 : Option Nat) (a1 : Int32) : gJ G p l e 1 22 mc ms s m args below meth c gri y 2 0 [(0, va_rf a0), (1, .int a1)] [] (f_X9_has  a0 a1) := by
  have hx := C.1
  have hb := C.2.1
  intro σ H locs cells slots ls hf I hl
  unfold f_X9_has at hf
  refine lv_iload_n hx hb dX9_has_0 rfl (lv_at hl 1 rfl) ?_
  refine lv_iconst (v := 0) hx hb dX9_has_1 kc_i_0 ?_
  refine lv_iconst (v := 3) hx hb dX9_has_2 kc_i_3 ?_
  refine gw_callS (rest := []) C I hl.1 (m_X9_isIn G l a1 0 3) gl_RX9_91 kw_192 ⟨Nat.le_of_ble_eq_true rfl, Nat.le_of_ble_eq_true rfl⟩ rfl (gc4 (Nat.le_of_ble_eq_true rfl)) rfl dX9_has_3 hf (fun v1 σ H locs cells slots I hf => ?_)
  refine W.eq (g2 := F0 m 6 ls [.int v1]) rfl ?_
  refine lv_if_eq (tgt := 22) hx hb dX9_has_6 (by decide) (fun hq => ?_) (fun hq => ?_)
  · have hf := gift hq hf
    refine lv_iconst (v := 0) hx hb dX9_has_22 kc_i_0 ?_
    exact gw_zret C I hr dX9_has_23 hf
  · have hf := giff hq hf
    refine gw_aload_n hx hb dX9_has_9 rfl (lv_at hl 0 rfl) ?_
    refine gw_getr (k := 2) C I gcls_8 (by decide) rfl kw_166 dX9_has_10 hf (fun v2 hf => ?_)
    refine lv_iload_n hx hb dX9_has_13 rfl (lv_at hl 1 rfl) ?_
    refine gw_zald C I dX9_has_14 hf (fun v3 hf => ?_)
    refine lv_if_eq (tgt := 22) hx hb dX9_has_15 (by decide) (fun hq => ?_) (fun hq => ?_)
    · have hf := gift hq hf
      refine lv_iconst (v := 0) hx hb dX9_has_22 kc_i_0 ?_
      exact gw_zret C I hr dX9_has_23 hf
    · have hf := giff hq hf
      refine lv_iconst (v := 1) hx hb dX9_has_18 kc_i_1 ?_
      refine lv_goto (tgt := 23) hx hb dX9_has_19 (by decide) ?_
      exact gw_zret C I hr dX9_has_23 hf
end S_X9_has
theorem m_X9_has (G : gX) (l : Launch) (a0 : Option Nat) (a1 : Int32) : gMet G l yX9_has cX9_has 2 (some .boolean) 1 22 [va_rf a0, .int a1] gri (f_X9_has a0 a1) := by
  refine gMet_of (by decide) ?_
  intro σ y p e s m below meth c mc ms hf C hr hnm I
  obtain ⟨ls, e1, hl⟩ := gentry m [va_rf a0, .int a1] 2 [(0, va_rf a0), (1, .int a1)] (by simp [lg_sl, grc, gcat_i, gcat_l]) (by simp [lv_args, grc, gcat_i, gcat_l])
  rw [e1]
  exact w_X9_has_0 C hr a0 a1 _ _ _ _ _ _ hf I hl
def f_X9_add  (a0 : Option Nat) (a1 : Int32) (a2 : Int32) : gM Unit := gb (rR 8 9 a0) fun v1 => gb (rR 8 10 a0) fun v2 => gb (aI 1 v2 (24 + a1)) fun v3 => gb (sI 0 v1 ((2400 * (24 + a1)) + v3) a2.toInt8.toInt32) fun _ => gb (rR 8 10 a0) fun v4 => gb (aI 1 v4 (24 + a1)) fun v5 => gb (sI 1 v4 (24 + a1) (v5 + 1)) fun _ => gp ()
section S_X9_add
variable {G : gX} {p : Program} {l : Launch} {e : Env} {s : State} {m : MethodId} {args : Array Value} {below : List Frame} {meth : Method} {c : Code} {mc ms : Nat} {y : Unit × gS}
set_option maxHeartbeats 4000000 in
set_option maxRecDepth 100000 in
theorem w_X9_add_0 (C : gC G p s m args meth c cX9_add 4 RX9) (hr : meth.sig.returnType = none)  (a0 : Option Nat) (a1 : Int32) (a2 : Int32) : gJ G p l e 0 0 mc ms s m args below meth c grv y 4 0 [(0, va_rf a0), (1, .int a1), (2, .int a2)] [] (f_X9_add  a0 a1 a2) := by
  have hx := C.1
  have hb := C.2.1
  intro σ H locs cells slots ls hf I hl
  unfold f_X9_add at hf
  refine lv_bipush (v := 24) hx hb dX9_add_0 kc_b_24 ?_
  refine lv_iload_n hx hb dX9_add_2 rfl (lv_at hl 1 rfl) ?_
  refine lv_iadd hx hb dX9_add_3 ?_
  refine lv_istore_n (lv' := [(3, .int (24 + a1)), (0, va_rf a0), (1, .int a1), (2, .int a2)]) hx hb dX9_add_4 rfl hl (by decide) rfl (fun ls hl => ?_)
  refine gw_aload_n hx hb dX9_add_5 rfl (lv_at hl 1 rfl) ?_
  refine gw_getr (k := 9) C I gcls_8 (by decide) rfl kw_174 dX9_add_6 hf (fun v1 hf => ?_)
  refine lv_sipush (v := 2400) hx hb dX9_add_9 kc_s_2400 ?_
  refine lv_iload_n hx hb dX9_add_12 rfl (lv_at hl 0 rfl) ?_
  refine lv_imul hx hb dX9_add_13 ?_
  refine gw_aload_n hx hb dX9_add_14 rfl (lv_at hl 1 rfl) ?_
  refine gw_getr (k := 10) C I gcls_8 (by decide) rfl kw_175 dX9_add_15 hf (fun v2 hf => ?_)
  refine lv_iload_n hx hb dX9_add_18 rfl (lv_at hl 0 rfl) ?_
  refine gw_iald C I dX9_add_19 hf (fun v3 hf => ?_)
  refine lv_iadd hx hb dX9_add_20 ?_
  refine lv_iload_n hx hb dX9_add_21 rfl (lv_at hl 3 rfl) ?_
  refine lv_i2b hx hb dX9_add_22 rfl ?_
  refine gw_bast C I dX9_add_23 hf (fun σ H locs I hf => ?_)
  refine gw_aload_n hx hb dX9_add_24 rfl (lv_at hl 1 rfl) ?_
  refine gw_getr (k := 10) C I gcls_8 (by decide) rfl kw_175 dX9_add_25 hf (fun v4 hf => ?_)
  refine lv_iload_n hx hb dX9_add_28 rfl (lv_at hl 0 rfl) ?_
  refine lv_dup2_11 hx hb dX9_add_29 rfl (grc _) ?_
  refine gw_iald C I dX9_add_30 hf (fun v5 hf => ?_)
  refine lv_iconst (v := 1) hx hb dX9_add_31 kc_i_1 ?_
  refine lv_iadd hx hb dX9_add_32 ?_
  refine gw_iast C I dX9_add_33 hf (fun σ H locs I hf => ?_)
  exact gw_vret C I hr dX9_add_34 hf
end S_X9_add
theorem m_X9_add (G : gX) (l : Launch) (a0 : Option Nat) (a1 : Int32) (a2 : Int32) : gMet G l yX9_add cX9_add 4 none 0 0 [va_rf a0, .int a1, .int a2] grv (f_X9_add a0 a1 a2) := by
  refine gMet_of (by decide) ?_
  intro σ y p e s m below meth c mc ms hf C hr hnm I
  obtain ⟨ls, e1, hl⟩ := gentry m [va_rf a0, .int a1, .int a2] 4 [(0, va_rf a0), (1, .int a1), (2, .int a2)] (by simp [lg_sl, grc, gcat_i, gcat_l]) (by simp [lv_args, grc, gcat_i, gcat_l])
  rw [e1]
  exact w_X9_add_0 C hr a0 a1 a2 _ _ _ _ _ _ hf I hl
def f_X9_row  (a0 : Option Nat) (a1 : Int32) (a2 : Int32) : gM Int32 := gp (2400 * ((6 * a1) + a2))
section S_X9_row
variable {G : gX} {p : Program} {l : Launch} {e : Env} {s : State} {m : MethodId} {args : Array Value} {below : List Frame} {meth : Method} {c : Code} {mc ms : Nat} {y : Int32 × gS}
set_option maxHeartbeats 4000000 in
set_option maxRecDepth 100000 in
theorem w_X9_row_0 (C : gC G p s m args meth c cX9_row 3 RX9) (hr : meth.sig.returnType = (some .int))  (a0 : Option Nat) (a1 : Int32) (a2 : Int32) : gJ G p l e 0 0 mc ms s m args below meth c gri y 3 0 [(0, va_rf a0), (1, .int a1), (2, .int a2)] [] (f_X9_row  a0 a1 a2) := by
  have hx := C.1
  have hb := C.2.1
  intro σ H locs cells slots ls hf I hl
  unfold f_X9_row at hf
  refine lv_sipush (v := 2400) hx hb dX9_row_0 kc_s_2400 ?_
  refine lv_bipush (v := 6) hx hb dX9_row_3 kc_b_6 ?_
  refine lv_iload_n hx hb dX9_row_5 rfl (lv_at hl 1 rfl) ?_
  refine lv_imul hx hb dX9_row_6 ?_
  refine lv_iload_n hx hb dX9_row_7 rfl (lv_at hl 2 rfl) ?_
  refine lv_iadd hx hb dX9_row_8 ?_
  refine lv_imul hx hb dX9_row_9 ?_
  exact gw_iret C I hr dX9_row_10 hf
end S_X9_row
theorem m_X9_row (G : gX) (l : Launch) (a0 : Option Nat) (a1 : Int32) (a2 : Int32) : gMet G l yX9_row cX9_row 3 (some .int) 0 0 [va_rf a0, .int a1, .int a2] gri (f_X9_row a0 a1 a2) := by
  refine gMet_of (by decide) ?_
  intro σ y p e s m below meth c mc ms hf C hr hnm I
  obtain ⟨ls, e1, hl⟩ := gentry m [va_rf a0, .int a1, .int a2] 3 [(0, va_rf a0), (1, .int a1), (2, .int a2)] (by simp [lg_sl, grc, gcat_i, gcat_l]) (by simp [lv_args, grc, gcat_i, gcat_l])
  rw [e1]
  exact w_X9_row_0 C hr a0 a1 a2 _ _ _ _ _ _ hf I hl
def f_X9_sizeOf  (a0 : Option Nat) (a1 : Int32) (a2 : Int32) : gM Int32 := gb (rR 8 10 a0) fun v1 => gb (aI 1 v1 ((6 * a1) + a2)) fun v2 => gp v2
section S_X9_sizeOf
variable {G : gX} {p : Program} {l : Launch} {e : Env} {s : State} {m : MethodId} {args : Array Value} {below : List Frame} {meth : Method} {c : Code} {mc ms : Nat} {y : Int32 × gS}
set_option maxHeartbeats 4000000 in
set_option maxRecDepth 100000 in
theorem w_X9_sizeOf_0 (C : gC G p s m args meth c cX9_sizeOf 3 RX9) (hr : meth.sig.returnType = (some .int))  (a0 : Option Nat) (a1 : Int32) (a2 : Int32) : gJ G p l e 0 0 mc ms s m args below meth c gri y 3 0 [(0, va_rf a0), (1, .int a1), (2, .int a2)] [] (f_X9_sizeOf  a0 a1 a2) := by
  have hx := C.1
  have hb := C.2.1
  intro σ H locs cells slots ls hf I hl
  unfold f_X9_sizeOf at hf
  refine gw_aload_n hx hb dX9_sizeOf_0 rfl (lv_at hl 0 rfl) ?_
  refine gw_getr (k := 10) C I gcls_8 (by decide) rfl kw_175 dX9_sizeOf_1 hf (fun v1 hf => ?_)
  refine lv_bipush (v := 6) hx hb dX9_sizeOf_4 kc_b_6 ?_
  refine lv_iload_n hx hb dX9_sizeOf_6 rfl (lv_at hl 1 rfl) ?_
  refine lv_imul hx hb dX9_sizeOf_7 ?_
  refine lv_iload_n hx hb dX9_sizeOf_8 rfl (lv_at hl 2 rfl) ?_
  refine lv_iadd hx hb dX9_sizeOf_9 ?_
  refine gw_iald C I dX9_sizeOf_10 hf (fun v2 hf => ?_)
  exact gw_iret C I hr dX9_sizeOf_11 hf
end S_X9_sizeOf
theorem m_X9_sizeOf (G : gX) (l : Launch) (a0 : Option Nat) (a1 : Int32) (a2 : Int32) : gMet G l yX9_sizeOf cX9_sizeOf 3 (some .int) 0 0 [va_rf a0, .int a1, .int a2] gri (f_X9_sizeOf a0 a1 a2) := by
  refine gMet_of (by decide) ?_
  intro σ y p e s m below meth c mc ms hf C hr hnm I
  obtain ⟨ls, e1, hl⟩ := gentry m [va_rf a0, .int a1, .int a2] 3 [(0, va_rf a0), (1, .int a1), (2, .int a2)] (by simp [lg_sl, grc, gcat_i, gcat_l]) (by simp [lv_args, grc, gcat_i, gcat_l])
  rw [e1]
  exact w_X9_sizeOf_0 C hr a0 a1 a2 _ _ _ _ _ _ hf I hl
def f_X9_copyPart_11 (rec11 : Option Nat → Int32 → Int32 → Int32 → Int32 → Int32 → gM Unit) (x0 : Option Nat) (x1 : Int32) (x2 : Int32) (x3 : Int32) (x4 : Int32) (x5 : Int32) : gM Unit := if x4 ≤ x5 then (gb (rR 8 10 x0) fun v1 => gb (sI 1 v1 ((6 * x2) + x3) x4) fun _ => gp ()) else (gb (rR 8 9 x0) fun v2 => gb (nn 8 x0) fun _ => gb (f_X9_row x0 x2 x3) fun v3 => gb (rR 8 9 x0) fun v4 => gb (nn 8 x0) fun _ => gb (f_X9_row x0 x1 x3) fun v5 => gb (aI 0 v4 (v5 + x5)) fun v6 => gb (sI 0 v2 (v3 + x5) v6) fun _ => rec11 x0 x1 x2 x3 x4 (x5 + 1))
def f_X9_copyPart_L11  : Nat → Option Nat → Int32 → Int32 → Int32 → Int32 → Int32 → gM Unit
  | 0, _, _, _, _, _, _ => gno
  | n + 1, x0, x1, x2, x3, x4, x5 => f_X9_copyPart_11  (f_X9_copyPart_L11  n) x0 x1 x2 x3 x4 x5
def f_X9_copyPart  (a0 : Option Nat) (a1 : Int32) (a2 : Int32) (a3 : Int32) : gM Unit := gb (nn 8 a0) fun _ => gb (f_X9_sizeOf a0 a1 a3) fun v1 => f_X9_copyPart_L11  gF a0 a1 a2 a3 v1 0
section S_X9_copyPart
variable {G : gX} {p : Program} {l : Launch} {e : Env} {s : State} {m : MethodId} {args : Array Value} {below : List Frame} {meth : Method} {c : Code} {mc ms : Nat} {y : Unit × gS}
set_option maxHeartbeats 4000000 in
set_option maxRecDepth 100000 in
theorem w_X9_copyPart_11 (C : gC G p s m args meth c cX9_copyPart 6 RX9) (hr : meth.sig.returnType = none) {rec11 : Option Nat → Int32 → Int32 → Int32 → Int32 → Int32 → gM Unit} (hrec11 : ∀ (x0 : Option Nat) (x1 : Int32) (x2 : Int32) (x3 : Int32) (x4 : Int32) (x5 : Int32), gJ G p l e 1 22 mc ms s m args below meth c grv y 6 11 [(0, va_rf x0), (1, .int x1), (2, .int x2), (3, .int x3), (4, .int x4), (5, .int x5)] [] (rec11 x0 x1 x2 x3 x4 x5)) (x0 : Option Nat) (x1 : Int32) (x2 : Int32) (x3 : Int32) (x4 : Int32) (x5 : Int32) : gJ G p l e 1 22 mc ms s m args below meth c grv y 6 11 [(0, va_rf x0), (1, .int x1), (2, .int x2), (3, .int x3), (4, .int x4), (5, .int x5)] [] (f_X9_copyPart_11 rec11 x0 x1 x2 x3 x4 x5) := by
  have hx := C.1
  have hb := C.2.1
  intro σ H locs cells slots ls hf I hl
  unfold f_X9_copyPart_11 at hf
  refine lv_iload hx hb dX9_copyPart_11 (lv_at hl 5 rfl) ?_
  refine lv_iload hx hb dX9_copyPart_13 (lv_at hl 4 rfl) ?_
  refine lv_icmp_ge (tgt := 52) hx hb dX9_copyPart_15 (by decide) (fun hq => ?_) (fun hq => ?_)
  · have hf := gift hq hf
    refine gw_aload_n hx hb dX9_copyPart_52 rfl (lv_at hl 0 rfl) ?_
    refine gw_getr (k := 10) C I gcls_8 (by decide) rfl kw_175 dX9_copyPart_53 hf (fun v1 hf => ?_)
    refine lv_bipush (v := 6) hx hb dX9_copyPart_56 kc_b_6 ?_
    refine lv_iload_n hx hb dX9_copyPart_58 rfl (lv_at hl 2 rfl) ?_
    refine lv_imul hx hb dX9_copyPart_59 ?_
    refine lv_iload_n hx hb dX9_copyPart_60 rfl (lv_at hl 3 rfl) ?_
    refine lv_iadd hx hb dX9_copyPart_61 ?_
    refine lv_iload hx hb dX9_copyPart_62 (lv_at hl 4 rfl) ?_
    refine gw_iast C I dX9_copyPart_64 hf (fun σ H locs I hf => ?_)
    exact gw_vret C I hr dX9_copyPart_65 hf
  · have hf := giff hq hf
    refine gw_aload_n hx hb dX9_copyPart_18 rfl (lv_at hl 0 rfl) ?_
    refine gw_getr (k := 9) C I gcls_8 (by decide) rfl kw_174 dX9_copyPart_19 hf (fun v2 hf => ?_)
    refine gw_aload_n hx hb dX9_copyPart_22 rfl (lv_at hl 0 rfl) ?_
    refine lv_iload_n hx hb dX9_copyPart_23 rfl (lv_at hl 2 rfl) ?_
    refine lv_iload_n hx hb dX9_copyPart_24 rfl (lv_at hl 3 rfl) ?_
    refine gw_callV (rest := [va_rf v2]) C I hl.1 gcls_8 (m_X9_row G l x0 x2 x3) gl_RX9_111 gn_X9_row ⟨Nat.le_of_ble_eq_true rfl, Nat.le_of_ble_eq_true rfl⟩ rfl (gc4 (Nat.le_of_ble_eq_true rfl)) rfl dX9_copyPart_25 hf (fun v3 σ H locs cells slots I hf => ?_)
    refine W.eq (g2 := F0 m 28 ls [.int v3, va_rf v2]) rfl ?_
    refine lv_iload hx hb dX9_copyPart_28 (lv_at hl 5 rfl) ?_
    refine lv_iadd hx hb dX9_copyPart_30 ?_
    refine gw_aload_n hx hb dX9_copyPart_31 rfl (lv_at hl 0 rfl) ?_
    refine gw_getr (k := 9) C I gcls_8 (by decide) rfl kw_174 dX9_copyPart_32 hf (fun v4 hf => ?_)
    refine gw_aload_n hx hb dX9_copyPart_35 rfl (lv_at hl 0 rfl) ?_
    refine lv_iload_n hx hb dX9_copyPart_36 rfl (lv_at hl 1 rfl) ?_
    refine lv_iload_n hx hb dX9_copyPart_37 rfl (lv_at hl 3 rfl) ?_
    refine gw_callV (rest := [va_rf v4, .int (v3 + x5), va_rf v2]) C I hl.1 gcls_8 (m_X9_row G l x0 x1 x3) gl_RX9_111 gn_X9_row ⟨Nat.le_of_ble_eq_true rfl, Nat.le_of_ble_eq_true rfl⟩ rfl (gc4 (Nat.le_of_ble_eq_true rfl)) rfl dX9_copyPart_38 hf (fun v5 σ H locs cells slots I hf => ?_)
    refine W.eq (g2 := F0 m 41 ls [.int v5, va_rf v4, .int (v3 + x5), va_rf v2]) rfl ?_
    refine lv_iload hx hb dX9_copyPart_41 (lv_at hl 5 rfl) ?_
    refine lv_iadd hx hb dX9_copyPart_43 ?_
    refine gw_bald C I dX9_copyPart_44 hf (fun v6 hf => ?_)
    refine gw_bast C I dX9_copyPart_45 hf (fun σ H locs I hf => ?_)
    refine lv_iinc (v := x5 + 1) (lv' := [(5, .int (x5 + 1)), (0, va_rf x0), (1, .int x1), (2, .int x2), (3, .int x3), (4, .int x4)]) hx hb dX9_copyPart_46 hl (k := 5) rfl rfl (by decide) rfl (fun ls hl => ?_)
    refine lv_goto (tgt := 11) hx hb dX9_copyPart_49 (by decide) ?_
    exact hrec11 x0 x1 x2 x3 x4 (x5 + 1) _ _ _ _ _ _ hf I (lv_sub hl [1, 2, 3, 4, 5, 0] rfl)
theorem w_X9_copyPart_L11 (C : gC G p s m args meth c cX9_copyPart 6 RX9) (hr : meth.sig.returnType = none)  : ∀ (n : Nat) (x0 : Option Nat) (x1 : Int32) (x2 : Int32) (x3 : Int32) (x4 : Int32) (x5 : Int32), gJ G p l e 1 22 mc ms s m args below meth c grv y 6 11 [(0, va_rf x0), (1, .int x1), (2, .int x2), (3, .int x3), (4, .int x4), (5, .int x5)] [] (f_X9_copyPart_L11  n x0 x1 x2 x3 x4 x5) := by
  intro n
  induction n with
  | zero => intro x0 x1 x2 x3 x4 x5 σ H locs cells slots ls hf; exact (gno_some hf).elim
  | succ n ih => intro x0 x1 x2 x3 x4 x5; exact w_X9_copyPart_11 C hr  ih x0 x1 x2 x3 x4 x5
set_option maxHeartbeats 4000000 in
set_option maxRecDepth 100000 in
theorem w_X9_copyPart_0 (C : gC G p s m args meth c cX9_copyPart 6 RX9) (hr : meth.sig.returnType = none)  (a0 : Option Nat) (a1 : Int32) (a2 : Int32) (a3 : Int32) : gJ G p l e 1 22 mc ms s m args below meth c grv y 6 0 [(0, va_rf a0), (1, .int a1), (2, .int a2), (3, .int a3)] [] (f_X9_copyPart  a0 a1 a2 a3) := by
  have hx := C.1
  have hb := C.2.1
  intro σ H locs cells slots ls hf I hl
  unfold f_X9_copyPart at hf
  refine gw_aload_n hx hb dX9_copyPart_0 rfl (lv_at hl 0 rfl) ?_
  refine lv_iload_n hx hb dX9_copyPart_1 rfl (lv_at hl 1 rfl) ?_
  refine lv_iload_n hx hb dX9_copyPart_2 rfl (lv_at hl 3 rfl) ?_
  refine gw_callV (rest := []) C I hl.1 gcls_8 (m_X9_sizeOf G l a0 a1 a3) gl_RX9_107 gn_X9_sizeOf ⟨Nat.le_of_ble_eq_true rfl, Nat.le_of_ble_eq_true rfl⟩ rfl (gc4 (Nat.le_of_ble_eq_true rfl)) rfl dX9_copyPart_3 hf (fun v1 σ H locs cells slots I hf => ?_)
  refine W.eq (g2 := F0 m 6 ls [.int v1]) rfl ?_
  refine lv_istore (lv' := [(4, .int v1), (0, va_rf a0), (1, .int a1), (2, .int a2), (3, .int a3)]) hx hb dX9_copyPart_6 hl (by decide) rfl (fun ls hl => ?_)
  refine lv_iconst (v := 0) hx hb dX9_copyPart_8 kc_i_0 ?_
  refine lv_istore (lv' := [(5, .int 0), (4, .int v1), (0, va_rf a0), (1, .int a1), (2, .int a2), (3, .int a3)]) hx hb dX9_copyPart_9 hl (by decide) rfl (fun ls hl => ?_)
  exact w_X9_copyPart_L11 C hr  _ a0 a1 a2 a3 v1 0 _ _ _ _ _ _ hf I (lv_sub hl [2, 3, 4, 5, 1, 0] rfl)
end S_X9_copyPart
theorem m_X9_copyPart (G : gX) (l : Launch) (a0 : Option Nat) (a1 : Int32) (a2 : Int32) (a3 : Int32) : gMet G l yX9_copyPart cX9_copyPart 6 none 1 22 [va_rf a0, .int a1, .int a2, .int a3] grv (f_X9_copyPart a0 a1 a2 a3) := by
  refine gMet_of (by decide) ?_
  intro σ y p e s m below meth c mc ms hf C hr hnm I
  obtain ⟨ls, e1, hl⟩ := gentry m [va_rf a0, .int a1, .int a2, .int a3] 6 [(0, va_rf a0), (1, .int a1), (2, .int a2), (3, .int a3)] (by simp [lg_sl, grc, gcat_i, gcat_l]) (by simp [lv_args, grc, gcat_i, gcat_l])
  rw [e1]
  exact w_X9_copyPart_0 C hr a0 a1 a2 a3 _ _ _ _ _ _ hf I hl
def f_X9_copyHost_38 (rec38 : Option Nat → Int32 → Int32 → Int32 → gM Unit) (x0 : Option Nat) (x1 : Int32) (x2 : Int32) (x3 : Int32) : gM Unit := if 8 ≤ x3 then (gb (nn 8 x0) fun _ => gb (f_X9_copyPart x0 x1 x2 0) fun _ => gb (nn 8 x0) fun _ => gb (f_X9_copyPart x0 x1 x2 1) fun _ => gb (nn 8 x0) fun _ => gb (f_X9_copyPart x0 x1 x2 2) fun _ => gp ()) else (gb (rR 8 6 x0) fun v1 => gb (rR 8 6 x0) fun v2 => gb (aI 1 v2 ((8 * x1) + x3)) fun v3 => gb (sI 1 v1 ((8 * x2) + x3) v3) fun _ => rec38 x0 x1 x2 (x3 + 1))
def f_X9_copyHost_L38  : Nat → Option Nat → Int32 → Int32 → Int32 → gM Unit
  | 0, _, _, _, _ => gno
  | n + 1, x0, x1, x2, x3 => f_X9_copyHost_38  (f_X9_copyHost_L38  n) x0 x1 x2 x3
def f_X9_copyHost  (a0 : Option Nat) (a1 : Int32) (a2 : Int32) : gM Unit := gb (rR 8 3 a0) fun v1 => gb (rR 8 3 a0) fun v2 => gb (aI 1 v2 a1) fun v3 => gb (sI 1 v1 a2 v3) fun _ => gb (rR 8 4 a0) fun v4 => gb (rR 8 4 a0) fun v5 => gb (aI 1 v5 a1) fun v6 => gb (sI 1 v4 a2 v6) fun _ => gb (rR 8 5 a0) fun v7 => gb (rR 8 5 a0) fun v8 => gb (aI 1 v8 a1) fun v9 => gb (sI 1 v7 a2 v9) fun _ => f_X9_copyHost_L38  gF a0 a1 a2 0
section S_X9_copyHost
variable {G : gX} {p : Program} {l : Launch} {e : Env} {s : State} {m : MethodId} {args : Array Value} {below : List Frame} {meth : Method} {c : Code} {mc ms : Nat} {y : Unit × gS}
set_option maxHeartbeats 4000000 in
set_option maxRecDepth 100000 in
theorem w_X9_copyHost_38 (C : gC G p s m args meth c cX9_copyHost 4 RX9) (hr : meth.sig.returnType = none) {rec38 : Option Nat → Int32 → Int32 → Int32 → gM Unit} (hrec38 : ∀ (x0 : Option Nat) (x1 : Int32) (x2 : Int32) (x3 : Int32), gJ G p l e 2 47 mc ms s m args below meth c grv y 4 38 [(0, va_rf x0), (1, .int x1), (2, .int x2), (3, .int x3)] [] (rec38 x0 x1 x2 x3)) (x0 : Option Nat) (x1 : Int32) (x2 : Int32) (x3 : Int32) : gJ G p l e 2 47 mc ms s m args below meth c grv y 4 38 [(0, va_rf x0), (1, .int x1), (2, .int x2), (3, .int x3)] [] (f_X9_copyHost_38 rec38 x0 x1 x2 x3) := by
  have hx := C.1
  have hb := C.2.1
  intro σ H locs cells slots ls hf I hl
  unfold f_X9_copyHost_38 at hf
  refine lv_iload_n hx hb dX9_copyHost_38 rfl (lv_at hl 3 rfl) ?_
  refine lv_bipush (v := 8) hx hb dX9_copyHost_39 kc_b_8 ?_
  refine lv_icmp_ge (tgt := 72) hx hb dX9_copyHost_41 (by decide) (fun hq => ?_) (fun hq => ?_)
  · have hf := gift hq hf
    refine gw_aload_n hx hb dX9_copyHost_72 rfl (lv_at hl 0 rfl) ?_
    refine lv_iload_n hx hb dX9_copyHost_73 rfl (lv_at hl 1 rfl) ?_
    refine lv_iload_n hx hb dX9_copyHost_74 rfl (lv_at hl 2 rfl) ?_
    refine lv_iconst (v := 0) hx hb dX9_copyHost_75 kc_i_0 ?_
    refine gw_callV (rest := []) C I hl.1 gcls_8 (m_X9_copyPart G l x0 x1 x2 0) gl_RX9_114 gn_X9_copyPart ⟨Nat.le_of_ble_eq_true rfl, Nat.le_of_ble_eq_true rfl⟩ rfl (gc4 (Nat.le_of_ble_eq_true rfl)) rfl dX9_copyHost_76 hf (fun _ σ H locs cells slots I hf => ?_)
    refine W.eq (g2 := F0 m 79 ls []) rfl ?_
    refine gw_aload_n hx hb dX9_copyHost_79 rfl (lv_at hl 0 rfl) ?_
    refine lv_iload_n hx hb dX9_copyHost_80 rfl (lv_at hl 1 rfl) ?_
    refine lv_iload_n hx hb dX9_copyHost_81 rfl (lv_at hl 2 rfl) ?_
    refine lv_iconst (v := 1) hx hb dX9_copyHost_82 kc_i_1 ?_
    refine gw_callV (rest := []) C I hl.1 gcls_8 (m_X9_copyPart G l x0 x1 x2 1) gl_RX9_114 gn_X9_copyPart ⟨Nat.le_of_ble_eq_true rfl, Nat.le_of_ble_eq_true rfl⟩ rfl (gc4 (Nat.le_of_ble_eq_true rfl)) rfl dX9_copyHost_83 hf (fun _ σ H locs cells slots I hf => ?_)
    refine W.eq (g2 := F0 m 86 ls []) rfl ?_
    refine gw_aload_n hx hb dX9_copyHost_86 rfl (lv_at hl 0 rfl) ?_
    refine lv_iload_n hx hb dX9_copyHost_87 rfl (lv_at hl 1 rfl) ?_
    refine lv_iload_n hx hb dX9_copyHost_88 rfl (lv_at hl 2 rfl) ?_
    refine lv_iconst (v := 2) hx hb dX9_copyHost_89 kc_i_2 ?_
    refine gw_callV (rest := []) C I hl.1 gcls_8 (m_X9_copyPart G l x0 x1 x2 2) gl_RX9_114 gn_X9_copyPart ⟨Nat.le_of_ble_eq_true rfl, Nat.le_of_ble_eq_true rfl⟩ rfl (gc4 (Nat.le_of_ble_eq_true rfl)) rfl dX9_copyHost_90 hf (fun _ σ H locs cells slots I hf => ?_)
    refine W.eq (g2 := F0 m 93 ls []) rfl ?_
    exact gw_vret C I hr dX9_copyHost_93 hf
  · have hf := giff hq hf
    refine gw_aload_n hx hb dX9_copyHost_44 rfl (lv_at hl 0 rfl) ?_
    refine gw_getr (k := 6) C I gcls_8 (by decide) rfl kw_170 dX9_copyHost_45 hf (fun v1 hf => ?_)
    refine lv_bipush (v := 8) hx hb dX9_copyHost_48 kc_b_8 ?_
    refine lv_iload_n hx hb dX9_copyHost_50 rfl (lv_at hl 2 rfl) ?_
    refine lv_imul hx hb dX9_copyHost_51 ?_
    refine lv_iload_n hx hb dX9_copyHost_52 rfl (lv_at hl 3 rfl) ?_
    refine lv_iadd hx hb dX9_copyHost_53 ?_
    refine gw_aload_n hx hb dX9_copyHost_54 rfl (lv_at hl 0 rfl) ?_
    refine gw_getr (k := 6) C I gcls_8 (by decide) rfl kw_170 dX9_copyHost_55 hf (fun v2 hf => ?_)
    refine lv_bipush (v := 8) hx hb dX9_copyHost_58 kc_b_8 ?_
    refine lv_iload_n hx hb dX9_copyHost_60 rfl (lv_at hl 1 rfl) ?_
    refine lv_imul hx hb dX9_copyHost_61 ?_
    refine lv_iload_n hx hb dX9_copyHost_62 rfl (lv_at hl 3 rfl) ?_
    refine lv_iadd hx hb dX9_copyHost_63 ?_
    refine gw_iald C I dX9_copyHost_64 hf (fun v3 hf => ?_)
    refine gw_iast C I dX9_copyHost_65 hf (fun σ H locs I hf => ?_)
    refine lv_iinc (v := x3 + 1) (lv' := [(3, .int (x3 + 1)), (0, va_rf x0), (1, .int x1), (2, .int x2)]) hx hb dX9_copyHost_66 hl (k := 3) rfl rfl (by decide) rfl (fun ls hl => ?_)
    refine lv_goto (tgt := 38) hx hb dX9_copyHost_69 (by decide) ?_
    exact hrec38 x0 x1 x2 (x3 + 1) _ _ _ _ _ _ hf I (lv_sub hl [1, 2, 3, 0] rfl)
theorem w_X9_copyHost_L38 (C : gC G p s m args meth c cX9_copyHost 4 RX9) (hr : meth.sig.returnType = none)  : ∀ (n : Nat) (x0 : Option Nat) (x1 : Int32) (x2 : Int32) (x3 : Int32), gJ G p l e 2 47 mc ms s m args below meth c grv y 4 38 [(0, va_rf x0), (1, .int x1), (2, .int x2), (3, .int x3)] [] (f_X9_copyHost_L38  n x0 x1 x2 x3) := by
  intro n
  induction n with
  | zero => intro x0 x1 x2 x3 σ H locs cells slots ls hf; exact (gno_some hf).elim
  | succ n ih => intro x0 x1 x2 x3; exact w_X9_copyHost_38 C hr  ih x0 x1 x2 x3
set_option maxHeartbeats 4000000 in
set_option maxRecDepth 100000 in
theorem w_X9_copyHost_0 (C : gC G p s m args meth c cX9_copyHost 4 RX9) (hr : meth.sig.returnType = none)  (a0 : Option Nat) (a1 : Int32) (a2 : Int32) : gJ G p l e 2 47 mc ms s m args below meth c grv y 4 0 [(0, va_rf a0), (1, .int a1), (2, .int a2)] [] (f_X9_copyHost  a0 a1 a2) := by
  have hx := C.1
  have hb := C.2.1
  intro σ H locs cells slots ls hf I hl
  unfold f_X9_copyHost at hf
  refine gw_aload_n hx hb dX9_copyHost_0 rfl (lv_at hl 0 rfl) ?_
  refine gw_getr (k := 3) C I gcls_8 (by decide) rfl kw_167 dX9_copyHost_1 hf (fun v1 hf => ?_)
  refine lv_iload_n hx hb dX9_copyHost_4 rfl (lv_at hl 2 rfl) ?_
  refine gw_aload_n hx hb dX9_copyHost_5 rfl (lv_at hl 0 rfl) ?_
  refine gw_getr (k := 3) C I gcls_8 (by decide) rfl kw_167 dX9_copyHost_6 hf (fun v2 hf => ?_)
  refine lv_iload_n hx hb dX9_copyHost_9 rfl (lv_at hl 1 rfl) ?_
  refine gw_iald C I dX9_copyHost_10 hf (fun v3 hf => ?_)
  refine gw_iast C I dX9_copyHost_11 hf (fun σ H locs I hf => ?_)
  refine gw_aload_n hx hb dX9_copyHost_12 rfl (lv_at hl 0 rfl) ?_
  refine gw_getr (k := 4) C I gcls_8 (by decide) rfl kw_168 dX9_copyHost_13 hf (fun v4 hf => ?_)
  refine lv_iload_n hx hb dX9_copyHost_16 rfl (lv_at hl 2 rfl) ?_
  refine gw_aload_n hx hb dX9_copyHost_17 rfl (lv_at hl 0 rfl) ?_
  refine gw_getr (k := 4) C I gcls_8 (by decide) rfl kw_168 dX9_copyHost_18 hf (fun v5 hf => ?_)
  refine lv_iload_n hx hb dX9_copyHost_21 rfl (lv_at hl 1 rfl) ?_
  refine gw_iald C I dX9_copyHost_22 hf (fun v6 hf => ?_)
  refine gw_iast C I dX9_copyHost_23 hf (fun σ H locs I hf => ?_)
  refine gw_aload_n hx hb dX9_copyHost_24 rfl (lv_at hl 0 rfl) ?_
  refine gw_getr (k := 5) C I gcls_8 (by decide) rfl kw_169 dX9_copyHost_25 hf (fun v7 hf => ?_)
  refine lv_iload_n hx hb dX9_copyHost_28 rfl (lv_at hl 2 rfl) ?_
  refine gw_aload_n hx hb dX9_copyHost_29 rfl (lv_at hl 0 rfl) ?_
  refine gw_getr (k := 5) C I gcls_8 (by decide) rfl kw_169 dX9_copyHost_30 hf (fun v8 hf => ?_)
  refine lv_iload_n hx hb dX9_copyHost_33 rfl (lv_at hl 1 rfl) ?_
  refine gw_iald C I dX9_copyHost_34 hf (fun v9 hf => ?_)
  refine gw_iast C I dX9_copyHost_35 hf (fun σ H locs I hf => ?_)
  refine lv_iconst (v := 0) hx hb dX9_copyHost_36 kc_i_0 ?_
  refine lv_istore_n (lv' := [(3, .int 0), (0, va_rf a0), (1, .int a1), (2, .int a2)]) hx hb dX9_copyHost_37 rfl hl (by decide) rfl (fun ls hl => ?_)
  exact w_X9_copyHost_L38 C hr  _ a0 a1 a2 0 _ _ _ _ _ _ hf I (lv_sub hl [1, 2, 3, 0] rfl)
end S_X9_copyHost
theorem m_X9_copyHost (G : gX) (l : Launch) (a0 : Option Nat) (a1 : Int32) (a2 : Int32) : gMet G l yX9_copyHost cX9_copyHost 4 none 2 47 [va_rf a0, .int a1, .int a2] grv (f_X9_copyHost a0 a1 a2) := by
  refine gMet_of (by decide) ?_
  intro σ y p e s m below meth c mc ms hf C hr hnm I
  obtain ⟨ls, e1, hl⟩ := gentry m [va_rf a0, .int a1, .int a2] 4 [(0, va_rf a0), (1, .int a1), (2, .int a2)] (by simp [lg_sl, grc, gcat_i, gcat_l]) (by simp [lv_args, grc, gcat_i, gcat_l])
  rw [e1]
  exact w_X9_copyHost_0 C hr a0 a1 a2 _ _ _ _ _ _ hf I hl
def f_X9_portOf  (a0 : Int32) : gM Int32 := if 2 ≤ a0 then (if 4 ≤ a0 then (gp 21) else (gp 443)) else (gp 80)
section S_X9_portOf
variable {G : gX} {p : Program} {l : Launch} {e : Env} {s : State} {m : MethodId} {args : Array Value} {below : List Frame} {meth : Method} {c : Code} {mc ms : Nat} {y : Int32 × gS}
set_option maxHeartbeats 4000000 in
set_option maxRecDepth 100000 in
theorem w_X9_portOf_0 (C : gC G p s m args meth c cX9_portOf 1 RX9) (hr : meth.sig.returnType = (some .int))  (a0 : Int32) : gJ G p l e 0 0 mc ms s m args below meth c gri y 1 0 [(0, .int a0)] [] (f_X9_portOf  a0) := by
  have hx := C.1
  have hb := C.2.1
  intro σ H locs cells slots ls hf I hl
  unfold f_X9_portOf at hf
  refine lv_iload_n hx hb dX9_portOf_0 rfl (lv_at hl 0 rfl) ?_
  refine lv_iconst (v := 2) hx hb dX9_portOf_1 kc_i_2 ?_
  refine lv_icmp_ge (tgt := 10) hx hb dX9_portOf_2 (by decide) (fun hq => ?_) (fun hq => ?_)
  · have hf := gift hq hf
    refine lv_iload_n hx hb dX9_portOf_10 rfl (lv_at hl 0 rfl) ?_
    refine lv_iconst (v := 4) hx hb dX9_portOf_11 kc_i_4 ?_
    refine lv_icmp_ge (tgt := 21) hx hb dX9_portOf_12 (by decide) (fun hq => ?_) (fun hq => ?_)
    · have hf := gift hq hf
      refine lv_bipush (v := 21) hx hb dX9_portOf_21 kc_b_21 ?_
      exact gw_iret C I hr dX9_portOf_23 hf
    · have hf := giff hq hf
      refine lv_sipush (v := 443) hx hb dX9_portOf_15 kc_s_443 ?_
      refine lv_goto (tgt := 23) hx hb dX9_portOf_18 (by decide) ?_
      exact gw_iret C I hr dX9_portOf_23 hf
  · have hf := giff hq hf
    refine lv_bipush (v := 80) hx hb dX9_portOf_5 kc_b_80 ?_
    refine lv_goto (tgt := 23) hx hb dX9_portOf_7 (by decide) ?_
    exact gw_iret C I hr dX9_portOf_23 hf
end S_X9_portOf
theorem m_X9_portOf (G : gX) (l : Launch) (a0 : Int32) : gMet G l yX9_portOf cX9_portOf 1 (some .int) 0 0 [.int a0] gri (f_X9_portOf a0) := by
  refine gMet_of (by decide) ?_
  intro σ y p e s m below meth c mc ms hf C hr hnm I
  obtain ⟨ls, e1, hl⟩ := gentry m [.int a0] 1 [(0, .int a0)] (by simp [lg_sl, grc, gcat_i, gcat_l]) (by simp [lv_args, grc, gcat_i, gcat_l])
  rw [e1]
  exact w_X9_portOf_0 C hr a0 _ _ _ _ _ _ hf I hl
def f_X9_isEscaped_180  (x1 : Int32) (x2 : Int32) (s0 : Int32) : gM Int32 := if x2 = 0 then (if x1 = 3 then (if s0 = 0 then (gz 0) else (gz 1)) else (gz 0)) else (gz 1)
def f_X9_isEscaped_175  (x1 : Int32) (x2 : Int32) : gM Int32 := f_X9_isEscaped_180  x1 x2 1
def f_X9_isEscaped_120  (x0 : Int32) (x1 : Int32) (s0 : Int32) : gM Int32 := if x0 = 47 then (f_X9_isEscaped_175  x1 s0) else (if x0 = 58 then (f_X9_isEscaped_175  x1 s0) else (if x0 = 59 then (f_X9_isEscaped_175  x1 s0) else (if x0 = 61 then (f_X9_isEscaped_175  x1 s0) else (if x0 = 64 then (f_X9_isEscaped_175  x1 s0) else (if x0 = 91 then (f_X9_isEscaped_175  x1 s0) else (if x0 = 92 then (f_X9_isEscaped_175  x1 s0) else (if x0 = 93 then (f_X9_isEscaped_175  x1 s0) else (if x0 = 124 then (f_X9_isEscaped_175  x1 s0) else (f_X9_isEscaped_180  x1 s0 0)))))))))
def f_X9_isEscaped_115  (x0 : Int32) (x1 : Int32) : gM Int32 := f_X9_isEscaped_120  x0 x1 1
def f_X9_isEscaped  (a0 : Int32) (a1 : Int32) : gM Int32 := if a0 < 32 then (gz 1) else (if a0 ≤ 126 then (if a0 = 32 then (gz 1) else (if a0 = 34 then (gz 1) else (if a0 = 60 then (gz 1) else (if a0 = 62 then (gz 1) else (if a1 = 0 then (if a0 = 96 then (gz 1) else (gz 0)) else (if a1 = 1 then (if a0 = 35 then (gz 1) else (if a0 = 39 then (gz 1) else (gz 0))) else (if a0 = 35 then (f_X9_isEscaped_115  a0 a1) else (if a0 = 63 then (f_X9_isEscaped_115  a0 a1) else (if a0 = 94 then (f_X9_isEscaped_115  a0 a1) else (if a0 = 96 then (f_X9_isEscaped_115  a0 a1) else (if a0 = 123 then (f_X9_isEscaped_115  a0 a1) else (if a0 = 125 then (f_X9_isEscaped_115  a0 a1) else (f_X9_isEscaped_120  a0 a1 0))))))))))))) else (gz 1))
section S_X9_isEscaped
variable {G : gX} {p : Program} {l : Launch} {e : Env} {s : State} {m : MethodId} {args : Array Value} {below : List Frame} {meth : Method} {c : Code} {mc ms : Nat} {y : Int32 × gS}
set_option maxHeartbeats 4000000 in
set_option maxRecDepth 100000 in
theorem w_X9_isEscaped_180 (C : gC G p s m args meth c cX9_isEscaped 4 RX9) (hr : meth.sig.returnType = (some .boolean))  (x1 : Int32) (x2 : Int32) (s0 : Int32) : gJ G p l e 0 0 mc ms s m args below meth c gri y 4 180 [(1, .int x1), (2, .int x2)] [.int s0] (f_X9_isEscaped_180  x1 x2 s0) := by
  have hx := C.1
  have hb := C.2.1
  intro σ H locs cells slots ls hf I hl
  unfold f_X9_isEscaped_180 at hf
  refine lv_istore_n (lv' := [(3, .int s0), (1, .int x1), (2, .int x2)]) hx hb dX9_isEscaped_180 rfl hl (by decide) rfl (fun ls hl => ?_)
  refine lv_iload_n hx hb dX9_isEscaped_181 rfl (lv_at hl 2 rfl) ?_
  refine lv_if_ne (tgt := 194) hx hb dX9_isEscaped_182 (by decide) (fun hq => ?_) (fun hq => ?_)
  · have hf := giff hq hf
    refine lv_iconst (v := 1) hx hb dX9_isEscaped_194 kc_i_1 ?_
    refine lv_goto (tgt := 199) hx hb dX9_isEscaped_195 (by decide) ?_
    exact gw_zret C I hr dX9_isEscaped_199 hf
  · have hf := gift hq hf
    refine lv_iload_n hx hb dX9_isEscaped_185 rfl (lv_at hl 1 rfl) ?_
    refine lv_iconst (v := 3) hx hb dX9_isEscaped_186 kc_i_3 ?_
    refine lv_icmp_ne (tgt := 198) hx hb dX9_isEscaped_187 (by decide) (fun hq => ?_) (fun hq => ?_)
    · have hf := giff hq hf
      refine lv_iconst (v := 0) hx hb dX9_isEscaped_198 kc_i_0 ?_
      exact gw_zret C I hr dX9_isEscaped_199 hf
    · have hf := gift hq hf
      refine lv_iload_n hx hb dX9_isEscaped_190 rfl (lv_at hl 0 rfl) ?_
      refine lv_if_eq (tgt := 198) hx hb dX9_isEscaped_191 (by decide) (fun hq => ?_) (fun hq => ?_)
      · have hf := gift hq hf
        refine lv_iconst (v := 0) hx hb dX9_isEscaped_198 kc_i_0 ?_
        exact gw_zret C I hr dX9_isEscaped_199 hf
      · have hf := giff hq hf
        refine lv_iconst (v := 1) hx hb dX9_isEscaped_194 kc_i_1 ?_
        refine lv_goto (tgt := 199) hx hb dX9_isEscaped_195 (by decide) ?_
        exact gw_zret C I hr dX9_isEscaped_199 hf
set_option maxHeartbeats 4000000 in
set_option maxRecDepth 100000 in
theorem w_X9_isEscaped_175 (C : gC G p s m args meth c cX9_isEscaped 4 RX9) (hr : meth.sig.returnType = (some .boolean))  (x1 : Int32) (x2 : Int32) : gJ G p l e 0 0 mc ms s m args below meth c gri y 4 175 [(1, .int x1), (2, .int x2)] [] (f_X9_isEscaped_175  x1 x2) := by
  have hx := C.1
  have hb := C.2.1
  intro σ H locs cells slots ls hf I hl
  unfold f_X9_isEscaped_175 at hf
  refine lv_iconst (v := 1) hx hb dX9_isEscaped_175 kc_i_1 ?_
  refine lv_goto (tgt := 180) hx hb dX9_isEscaped_176 (by decide) ?_
  exact w_X9_isEscaped_180 C hr  x1 x2 1 _ _ _ _ _ _ hf I (lv_sub hl [0, 1] rfl)
set_option maxHeartbeats 4000000 in
set_option maxRecDepth 100000 in
theorem w_X9_isEscaped_120 (C : gC G p s m args meth c cX9_isEscaped 4 RX9) (hr : meth.sig.returnType = (some .boolean))  (x0 : Int32) (x1 : Int32) (s0 : Int32) : gJ G p l e 0 0 mc ms s m args below meth c gri y 4 120 [(0, .int x0), (1, .int x1)] [.int s0] (f_X9_isEscaped_120  x0 x1 s0) := by
  have hx := C.1
  have hb := C.2.1
  intro σ H locs cells slots ls hf I hl
  unfold f_X9_isEscaped_120 at hf
  refine lv_istore_n (lv' := [(2, .int s0), (0, .int x0), (1, .int x1)]) hx hb dX9_isEscaped_120 rfl hl (by decide) rfl (fun ls hl => ?_)
  refine lv_iload_n hx hb dX9_isEscaped_121 rfl (lv_at hl 1 rfl) ?_
  refine lv_bipush (v := 47) hx hb dX9_isEscaped_122 kc_b_47 ?_
  refine lv_icmp_eq (tgt := 175) hx hb dX9_isEscaped_124 (by decide) (fun hq => ?_) (fun hq => ?_)
  · have hf := gift hq hf
    exact w_X9_isEscaped_175 C hr  x1 s0 _ _ _ _ _ _ hf I (lv_sub hl [2, 0] rfl)
  · have hf := giff hq hf
    refine lv_iload_n hx hb dX9_isEscaped_127 rfl (lv_at hl 1 rfl) ?_
    refine lv_bipush (v := 58) hx hb dX9_isEscaped_128 kc_b_58 ?_
    refine lv_icmp_eq (tgt := 175) hx hb dX9_isEscaped_130 (by decide) (fun hq => ?_) (fun hq => ?_)
    · have hf := gift hq hf
      exact w_X9_isEscaped_175 C hr  x1 s0 _ _ _ _ _ _ hf I (lv_sub hl [2, 0] rfl)
    · have hf := giff hq hf
      refine lv_iload_n hx hb dX9_isEscaped_133 rfl (lv_at hl 1 rfl) ?_
      refine lv_bipush (v := 59) hx hb dX9_isEscaped_134 kc_b_59 ?_
      refine lv_icmp_eq (tgt := 175) hx hb dX9_isEscaped_136 (by decide) (fun hq => ?_) (fun hq => ?_)
      · have hf := gift hq hf
        exact w_X9_isEscaped_175 C hr  x1 s0 _ _ _ _ _ _ hf I (lv_sub hl [2, 0] rfl)
      · have hf := giff hq hf
        refine lv_iload_n hx hb dX9_isEscaped_139 rfl (lv_at hl 1 rfl) ?_
        refine lv_bipush (v := 61) hx hb dX9_isEscaped_140 kc_b_61 ?_
        refine lv_icmp_eq (tgt := 175) hx hb dX9_isEscaped_142 (by decide) (fun hq => ?_) (fun hq => ?_)
        · have hf := gift hq hf
          exact w_X9_isEscaped_175 C hr  x1 s0 _ _ _ _ _ _ hf I (lv_sub hl [2, 0] rfl)
        · have hf := giff hq hf
          refine lv_iload_n hx hb dX9_isEscaped_145 rfl (lv_at hl 1 rfl) ?_
          refine lv_bipush (v := 64) hx hb dX9_isEscaped_146 kc_b_64 ?_
          refine lv_icmp_eq (tgt := 175) hx hb dX9_isEscaped_148 (by decide) (fun hq => ?_) (fun hq => ?_)
          · have hf := gift hq hf
            exact w_X9_isEscaped_175 C hr  x1 s0 _ _ _ _ _ _ hf I (lv_sub hl [2, 0] rfl)
          · have hf := giff hq hf
            refine lv_iload_n hx hb dX9_isEscaped_151 rfl (lv_at hl 1 rfl) ?_
            refine lv_bipush (v := 91) hx hb dX9_isEscaped_152 kc_b_91 ?_
            refine lv_icmp_eq (tgt := 175) hx hb dX9_isEscaped_154 (by decide) (fun hq => ?_) (fun hq => ?_)
            · have hf := gift hq hf
              exact w_X9_isEscaped_175 C hr  x1 s0 _ _ _ _ _ _ hf I (lv_sub hl [2, 0] rfl)
            · have hf := giff hq hf
              refine lv_iload_n hx hb dX9_isEscaped_157 rfl (lv_at hl 1 rfl) ?_
              refine lv_bipush (v := 92) hx hb dX9_isEscaped_158 kc_b_92 ?_
              refine lv_icmp_eq (tgt := 175) hx hb dX9_isEscaped_160 (by decide) (fun hq => ?_) (fun hq => ?_)
              · have hf := gift hq hf
                exact w_X9_isEscaped_175 C hr  x1 s0 _ _ _ _ _ _ hf I (lv_sub hl [2, 0] rfl)
              · have hf := giff hq hf
                refine lv_iload_n hx hb dX9_isEscaped_163 rfl (lv_at hl 1 rfl) ?_
                refine lv_bipush (v := 93) hx hb dX9_isEscaped_164 kc_b_93 ?_
                refine lv_icmp_eq (tgt := 175) hx hb dX9_isEscaped_166 (by decide) (fun hq => ?_) (fun hq => ?_)
                · have hf := gift hq hf
                  exact w_X9_isEscaped_175 C hr  x1 s0 _ _ _ _ _ _ hf I (lv_sub hl [2, 0] rfl)
                · have hf := giff hq hf
                  refine lv_iload_n hx hb dX9_isEscaped_169 rfl (lv_at hl 1 rfl) ?_
                  refine lv_bipush (v := 124) hx hb dX9_isEscaped_170 kc_b_124 ?_
                  refine lv_icmp_ne (tgt := 179) hx hb dX9_isEscaped_172 (by decide) (fun hq => ?_) (fun hq => ?_)
                  · have hf := giff hq hf
                    refine lv_iconst (v := 0) hx hb dX9_isEscaped_179 kc_i_0 ?_
                    exact w_X9_isEscaped_180 C hr  x1 s0 0 _ _ _ _ _ _ hf I (lv_sub hl [2, 0] rfl)
                  · have hf := gift hq hf
                    exact w_X9_isEscaped_175 C hr  x1 s0 _ _ _ _ _ _ hf I (lv_sub hl [2, 0] rfl)
set_option maxHeartbeats 4000000 in
set_option maxRecDepth 100000 in
theorem w_X9_isEscaped_115 (C : gC G p s m args meth c cX9_isEscaped 4 RX9) (hr : meth.sig.returnType = (some .boolean))  (x0 : Int32) (x1 : Int32) : gJ G p l e 0 0 mc ms s m args below meth c gri y 4 115 [(0, .int x0), (1, .int x1)] [] (f_X9_isEscaped_115  x0 x1) := by
  have hx := C.1
  have hb := C.2.1
  intro σ H locs cells slots ls hf I hl
  unfold f_X9_isEscaped_115 at hf
  refine lv_iconst (v := 1) hx hb dX9_isEscaped_115 kc_i_1 ?_
  refine lv_goto (tgt := 120) hx hb dX9_isEscaped_116 (by decide) ?_
  exact w_X9_isEscaped_120 C hr  x0 x1 1 _ _ _ _ _ _ hf I (lv_sub hl [0, 1] rfl)
set_option maxHeartbeats 4000000 in
set_option maxRecDepth 100000 in
theorem w_X9_isEscaped_0 (C : gC G p s m args meth c cX9_isEscaped 4 RX9) (hr : meth.sig.returnType = (some .boolean))  (a0 : Int32) (a1 : Int32) : gJ G p l e 0 0 mc ms s m args below meth c gri y 4 0 [(0, .int a0), (1, .int a1)] [] (f_X9_isEscaped  a0 a1) := by
  have hx := C.1
  have hb := C.2.1
  intro σ H locs cells slots ls hf I hl
  unfold f_X9_isEscaped at hf
  refine lv_iload_n hx hb dX9_isEscaped_0 rfl (lv_at hl 0 rfl) ?_
  refine lv_bipush (v := 32) hx hb dX9_isEscaped_1 kc_b_32 ?_
  refine lv_icmp_lt (tgt := 12) hx hb dX9_isEscaped_3 (by decide) (fun hq => ?_) (fun hq => ?_)
  · have hf := gift hq hf
    refine lv_iconst (v := 1) hx hb dX9_isEscaped_12 kc_i_1 ?_
    exact gw_zret C I hr dX9_isEscaped_13 hf
  · have hf := giff hq hf
    refine lv_iload_n hx hb dX9_isEscaped_6 rfl (lv_at hl 0 rfl) ?_
    refine lv_bipush (v := 126) hx hb dX9_isEscaped_7 kc_b_126 ?_
    refine lv_icmp_le (tgt := 14) hx hb dX9_isEscaped_9 (by decide) (fun hq => ?_) (fun hq => ?_)
    · have hf := gift hq hf
      refine lv_iload_n hx hb dX9_isEscaped_14 rfl (lv_at hl 0 rfl) ?_
      refine lv_bipush (v := 32) hx hb dX9_isEscaped_15 kc_b_32 ?_
      refine lv_icmp_eq (tgt := 38) hx hb dX9_isEscaped_17 (by decide) (fun hq => ?_) (fun hq => ?_)
      · have hf := gift hq hf
        refine lv_iconst (v := 1) hx hb dX9_isEscaped_38 kc_i_1 ?_
        exact gw_zret C I hr dX9_isEscaped_39 hf
      · have hf := giff hq hf
        refine lv_iload_n hx hb dX9_isEscaped_20 rfl (lv_at hl 0 rfl) ?_
        refine lv_bipush (v := 34) hx hb dX9_isEscaped_21 kc_b_34 ?_
        refine lv_icmp_eq (tgt := 38) hx hb dX9_isEscaped_23 (by decide) (fun hq => ?_) (fun hq => ?_)
        · have hf := gift hq hf
          refine lv_iconst (v := 1) hx hb dX9_isEscaped_38 kc_i_1 ?_
          exact gw_zret C I hr dX9_isEscaped_39 hf
        · have hf := giff hq hf
          refine lv_iload_n hx hb dX9_isEscaped_26 rfl (lv_at hl 0 rfl) ?_
          refine lv_bipush (v := 60) hx hb dX9_isEscaped_27 kc_b_60 ?_
          refine lv_icmp_eq (tgt := 38) hx hb dX9_isEscaped_29 (by decide) (fun hq => ?_) (fun hq => ?_)
          · have hf := gift hq hf
            refine lv_iconst (v := 1) hx hb dX9_isEscaped_38 kc_i_1 ?_
            exact gw_zret C I hr dX9_isEscaped_39 hf
          · have hf := giff hq hf
            refine lv_iload_n hx hb dX9_isEscaped_32 rfl (lv_at hl 0 rfl) ?_
            refine lv_bipush (v := 62) hx hb dX9_isEscaped_33 kc_b_62 ?_
            refine lv_icmp_ne (tgt := 40) hx hb dX9_isEscaped_35 (by decide) (fun hq => ?_) (fun hq => ?_)
            · have hf := giff hq hf
              refine lv_iload_n hx hb dX9_isEscaped_40 rfl (lv_at hl 1 rfl) ?_
              refine lv_if_ne (tgt := 56) hx hb dX9_isEscaped_41 (by decide) (fun hq => ?_) (fun hq => ?_)
              · have hf := giff hq hf
                refine lv_iload_n hx hb dX9_isEscaped_56 rfl (lv_at hl 1 rfl) ?_
                refine lv_iconst (v := 1) hx hb dX9_isEscaped_57 kc_i_1 ?_
                refine lv_icmp_ne (tgt := 79) hx hb dX9_isEscaped_58 (by decide) (fun hq => ?_) (fun hq => ?_)
                · have hf := giff hq hf
                  refine lv_iload_n hx hb dX9_isEscaped_79 rfl (lv_at hl 0 rfl) ?_
                  refine lv_bipush (v := 35) hx hb dX9_isEscaped_80 kc_b_35 ?_
                  refine lv_icmp_eq (tgt := 115) hx hb dX9_isEscaped_82 (by decide) (fun hq => ?_) (fun hq => ?_)
                  · have hf := gift hq hf
                    exact w_X9_isEscaped_115 C hr  a0 a1 _ _ _ _ _ _ hf I (lv_sub hl [0, 1] rfl)
                  · have hf := giff hq hf
                    refine lv_iload_n hx hb dX9_isEscaped_85 rfl (lv_at hl 0 rfl) ?_
                    refine lv_bipush (v := 63) hx hb dX9_isEscaped_86 kc_b_63 ?_
                    refine lv_icmp_eq (tgt := 115) hx hb dX9_isEscaped_88 (by decide) (fun hq => ?_) (fun hq => ?_)
                    · have hf := gift hq hf
                      exact w_X9_isEscaped_115 C hr  a0 a1 _ _ _ _ _ _ hf I (lv_sub hl [0, 1] rfl)
                    · have hf := giff hq hf
                      refine lv_iload_n hx hb dX9_isEscaped_91 rfl (lv_at hl 0 rfl) ?_
                      refine lv_bipush (v := 94) hx hb dX9_isEscaped_92 kc_b_94 ?_
                      refine lv_icmp_eq (tgt := 115) hx hb dX9_isEscaped_94 (by decide) (fun hq => ?_) (fun hq => ?_)
                      · have hf := gift hq hf
                        exact w_X9_isEscaped_115 C hr  a0 a1 _ _ _ _ _ _ hf I (lv_sub hl [0, 1] rfl)
                      · have hf := giff hq hf
                        refine lv_iload_n hx hb dX9_isEscaped_97 rfl (lv_at hl 0 rfl) ?_
                        refine lv_bipush (v := 96) hx hb dX9_isEscaped_98 kc_b_96 ?_
                        refine lv_icmp_eq (tgt := 115) hx hb dX9_isEscaped_100 (by decide) (fun hq => ?_) (fun hq => ?_)
                        · have hf := gift hq hf
                          exact w_X9_isEscaped_115 C hr  a0 a1 _ _ _ _ _ _ hf I (lv_sub hl [0, 1] rfl)
                        · have hf := giff hq hf
                          refine lv_iload_n hx hb dX9_isEscaped_103 rfl (lv_at hl 0 rfl) ?_
                          refine lv_bipush (v := 123) hx hb dX9_isEscaped_104 kc_b_123 ?_
                          refine lv_icmp_eq (tgt := 115) hx hb dX9_isEscaped_106 (by decide) (fun hq => ?_) (fun hq => ?_)
                          · have hf := gift hq hf
                            exact w_X9_isEscaped_115 C hr  a0 a1 _ _ _ _ _ _ hf I (lv_sub hl [0, 1] rfl)
                          · have hf := giff hq hf
                            refine lv_iload_n hx hb dX9_isEscaped_109 rfl (lv_at hl 0 rfl) ?_
                            refine lv_bipush (v := 125) hx hb dX9_isEscaped_110 kc_b_125 ?_
                            refine lv_icmp_ne (tgt := 119) hx hb dX9_isEscaped_112 (by decide) (fun hq => ?_) (fun hq => ?_)
                            · have hf := giff hq hf
                              refine lv_iconst (v := 0) hx hb dX9_isEscaped_119 kc_i_0 ?_
                              exact w_X9_isEscaped_120 C hr  a0 a1 0 _ _ _ _ _ _ hf I (lv_sub hl [0, 1] rfl)
                            · have hf := gift hq hf
                              exact w_X9_isEscaped_115 C hr  a0 a1 _ _ _ _ _ _ hf I (lv_sub hl [0, 1] rfl)
                · have hf := gift hq hf
                  refine lv_iload_n hx hb dX9_isEscaped_61 rfl (lv_at hl 0 rfl) ?_
                  refine lv_bipush (v := 35) hx hb dX9_isEscaped_62 kc_b_35 ?_
                  refine lv_icmp_eq (tgt := 73) hx hb dX9_isEscaped_64 (by decide) (fun hq => ?_) (fun hq => ?_)
                  · have hf := gift hq hf
                    refine lv_iconst (v := 1) hx hb dX9_isEscaped_73 kc_i_1 ?_
                    refine lv_goto (tgt := 78) hx hb dX9_isEscaped_74 (by decide) ?_
                    exact gw_zret C I hr dX9_isEscaped_78 hf
                  · have hf := giff hq hf
                    refine lv_iload_n hx hb dX9_isEscaped_67 rfl (lv_at hl 0 rfl) ?_
                    refine lv_bipush (v := 39) hx hb dX9_isEscaped_68 kc_b_39 ?_
                    refine lv_icmp_ne (tgt := 77) hx hb dX9_isEscaped_70 (by decide) (fun hq => ?_) (fun hq => ?_)
                    · have hf := giff hq hf
                      refine lv_iconst (v := 0) hx hb dX9_isEscaped_77 kc_i_0 ?_
                      exact gw_zret C I hr dX9_isEscaped_78 hf
                    · have hf := gift hq hf
                      refine lv_iconst (v := 1) hx hb dX9_isEscaped_73 kc_i_1 ?_
                      refine lv_goto (tgt := 78) hx hb dX9_isEscaped_74 (by decide) ?_
                      exact gw_zret C I hr dX9_isEscaped_78 hf
              · have hf := gift hq hf
                refine lv_iload_n hx hb dX9_isEscaped_44 rfl (lv_at hl 0 rfl) ?_
                refine lv_bipush (v := 96) hx hb dX9_isEscaped_45 kc_b_96 ?_
                refine lv_icmp_ne (tgt := 54) hx hb dX9_isEscaped_47 (by decide) (fun hq => ?_) (fun hq => ?_)
                · have hf := giff hq hf
                  refine lv_iconst (v := 0) hx hb dX9_isEscaped_54 kc_i_0 ?_
                  exact gw_zret C I hr dX9_isEscaped_55 hf
                · have hf := gift hq hf
                  refine lv_iconst (v := 1) hx hb dX9_isEscaped_50 kc_i_1 ?_
                  refine lv_goto (tgt := 55) hx hb dX9_isEscaped_51 (by decide) ?_
                  exact gw_zret C I hr dX9_isEscaped_55 hf
            · have hf := gift hq hf
              refine lv_iconst (v := 1) hx hb dX9_isEscaped_38 kc_i_1 ?_
              exact gw_zret C I hr dX9_isEscaped_39 hf
    · have hf := giff hq hf
      refine lv_iconst (v := 1) hx hb dX9_isEscaped_12 kc_i_1 ?_
      exact gw_zret C I hr dX9_isEscaped_13 hf
end S_X9_isEscaped
theorem m_X9_isEscaped (G : gX) (l : Launch) (a0 : Int32) (a1 : Int32) : gMet G l yX9_isEscaped cX9_isEscaped 4 (some .boolean) 0 0 [.int a0, .int a1] gri (f_X9_isEscaped a0 a1) := by
  refine gMet_of (by decide) ?_
  intro σ y p e s m below meth c mc ms hf C hr hnm I
  obtain ⟨ls, e1, hl⟩ := gentry m [.int a0, .int a1] 4 [(0, .int a0), (1, .int a1)] (by simp [lg_sl, grc, gcat_i, gcat_l]) (by simp [lv_args, grc, gcat_i, gcat_l])
  rw [e1]
  exact w_X9_isEscaped_0 C hr a0 a1 _ _ _ _ _ _ hf I hl
def f_X9_digitOf  (a0 : Int32) : gM Int32 := if 10 ≤ a0 then (gp ((65 + a0) - 10)) else (gp (48 + a0))
section S_X9_digitOf
variable {G : gX} {p : Program} {l : Launch} {e : Env} {s : State} {m : MethodId} {args : Array Value} {below : List Frame} {meth : Method} {c : Code} {mc ms : Nat} {y : Int32 × gS}
set_option maxHeartbeats 4000000 in
set_option maxRecDepth 100000 in
theorem w_X9_digitOf_0 (C : gC G p s m args meth c cX9_digitOf 1 RX9) (hr : meth.sig.returnType = (some .int))  (a0 : Int32) : gJ G p l e 0 0 mc ms s m args below meth c gri y 1 0 [(0, .int a0)] [] (f_X9_digitOf  a0) := by
  have hx := C.1
  have hb := C.2.1
  intro σ H locs cells slots ls hf I hl
  unfold f_X9_digitOf at hf
  refine lv_iload_n hx hb dX9_digitOf_0 rfl (lv_at hl 0 rfl) ?_
  refine lv_bipush (v := 10) hx hb dX9_digitOf_1 kc_b_10 ?_
  refine lv_icmp_ge (tgt := 13) hx hb dX9_digitOf_3 (by decide) (fun hq => ?_) (fun hq => ?_)
  · have hf := gift hq hf
    refine lv_bipush (v := 65) hx hb dX9_digitOf_13 kc_b_65 ?_
    refine lv_iload_n hx hb dX9_digitOf_15 rfl (lv_at hl 0 rfl) ?_
    refine lv_iadd hx hb dX9_digitOf_16 ?_
    refine lv_bipush (v := 10) hx hb dX9_digitOf_17 kc_b_10 ?_
    refine lv_isub hx hb dX9_digitOf_19 ?_
    exact gw_iret C I hr dX9_digitOf_20 hf
  · have hf := giff hq hf
    refine lv_bipush (v := 48) hx hb dX9_digitOf_6 kc_b_48 ?_
    refine lv_iload_n hx hb dX9_digitOf_8 rfl (lv_at hl 0 rfl) ?_
    refine lv_iadd hx hb dX9_digitOf_9 ?_
    refine lv_goto (tgt := 20) hx hb dX9_digitOf_10 (by decide) ?_
    exact gw_iret C I hr dX9_digitOf_20 hf
end S_X9_digitOf
theorem m_X9_digitOf (G : gX) (l : Launch) (a0 : Int32) : gMet G l yX9_digitOf cX9_digitOf 1 (some .int) 0 0 [.int a0] gri (f_X9_digitOf a0) := by
  refine gMet_of (by decide) ?_
  intro σ y p e s m below meth c mc ms hf C hr hnm I
  obtain ⟨ls, e1, hl⟩ := gentry m [.int a0] 1 [(0, .int a0)] (by simp [lg_sl, grc, gcat_i, gcat_l]) (by simp [lv_args, grc, gcat_i, gcat_l])
  rw [e1]
  exact w_X9_digitOf_0 C hr a0 _ _ _ _ _ _ hf I hl
def f_X9_addEscaped  (a0 : Option Nat) (a1 : Int32) (a2 : Int32) (a3 : Int32) : gM Unit := gb (f_X9_isEscaped a2 a3) fun v1 => if v1 = 0 then (gb (nn 8 a0) fun _ => gb (f_X9_add a0 a1 a2) fun _ => gp ()) else (gb (nn 8 a0) fun _ => gb (f_X9_add a0 a1 37) fun _ => gb (f_X9_digitOf (a2 >>> (4 &&& 31))) fun v2 => gb (nn 8 a0) fun _ => gb (f_X9_add a0 a1 v2) fun _ => gb (f_X9_digitOf (a2 &&& 15)) fun v3 => gb (nn 8 a0) fun _ => gb (f_X9_add a0 a1 v3) fun _ => gp ())
section S_X9_addEscaped
variable {G : gX} {p : Program} {l : Launch} {e : Env} {s : State} {m : MethodId} {args : Array Value} {below : List Frame} {meth : Method} {c : Code} {mc ms : Nat} {y : Unit × gS}
set_option maxHeartbeats 4000000 in
set_option maxRecDepth 100000 in
theorem w_X9_addEscaped_0 (C : gC G p s m args meth c cX9_addEscaped 4 RX9) (hr : meth.sig.returnType = none)  (a0 : Option Nat) (a1 : Int32) (a2 : Int32) (a3 : Int32) : gJ G p l e 1 23 mc ms s m args below meth c grv y 4 0 [(0, va_rf a0), (1, .int a1), (2, .int a2), (3, .int a3)] [] (f_X9_addEscaped  a0 a1 a2 a3) := by
  have hx := C.1
  have hb := C.2.1
  intro σ H locs cells slots ls hf I hl
  unfold f_X9_addEscaped at hf
  refine lv_iload_n hx hb dX9_addEscaped_0 rfl (lv_at hl 2 rfl) ?_
  refine lv_iload_n hx hb dX9_addEscaped_1 rfl (lv_at hl 3 rfl) ?_
  refine gw_callS (rest := []) C I hl.1 (m_X9_isEscaped G l a2 a3) gl_RX9_118 kw_196 ⟨Nat.le_of_ble_eq_true rfl, Nat.le_of_ble_eq_true rfl⟩ rfl (gc4 (Nat.le_of_ble_eq_true rfl)) rfl dX9_addEscaped_2 hf (fun v1 σ H locs cells slots I hf => ?_)
  refine W.eq (g2 := F0 m 5 ls [.int v1]) rfl ?_
  refine lv_if_eq (tgt := 41) hx hb dX9_addEscaped_5 (by decide) (fun hq => ?_) (fun hq => ?_)
  · have hf := gift hq hf
    refine gw_aload_n hx hb dX9_addEscaped_41 rfl (lv_at hl 0 rfl) ?_
    refine lv_iload_n hx hb dX9_addEscaped_42 rfl (lv_at hl 1 rfl) ?_
    refine lv_iload_n hx hb dX9_addEscaped_43 rfl (lv_at hl 2 rfl) ?_
    refine gw_callV (rest := []) C I hl.1 gcls_8 (m_X9_add G l a0 a1 a2) gl_RX9_122 gn_X9_add ⟨Nat.le_of_ble_eq_true rfl, Nat.le_of_ble_eq_true rfl⟩ rfl (gc4 (Nat.le_of_ble_eq_true rfl)) rfl dX9_addEscaped_44 hf (fun _ σ H locs cells slots I hf => ?_)
    refine W.eq (g2 := F0 m 47 ls []) rfl ?_
    exact gw_vret C I hr dX9_addEscaped_47 hf
  · have hf := giff hq hf
    refine gw_aload_n hx hb dX9_addEscaped_8 rfl (lv_at hl 0 rfl) ?_
    refine lv_iload_n hx hb dX9_addEscaped_9 rfl (lv_at hl 1 rfl) ?_
    refine lv_bipush (v := 37) hx hb dX9_addEscaped_10 kc_b_37 ?_
    refine gw_callV (rest := []) C I hl.1 gcls_8 (m_X9_add G l a0 a1 37) gl_RX9_122 gn_X9_add ⟨Nat.le_of_ble_eq_true rfl, Nat.le_of_ble_eq_true rfl⟩ rfl (gc4 (Nat.le_of_ble_eq_true rfl)) rfl dX9_addEscaped_12 hf (fun _ σ H locs cells slots I hf => ?_)
    refine W.eq (g2 := F0 m 15 ls []) rfl ?_
    refine gw_aload_n hx hb dX9_addEscaped_15 rfl (lv_at hl 0 rfl) ?_
    refine lv_iload_n hx hb dX9_addEscaped_16 rfl (lv_at hl 1 rfl) ?_
    refine lv_iload_n hx hb dX9_addEscaped_17 rfl (lv_at hl 2 rfl) ?_
    refine lv_iconst (v := 4) hx hb dX9_addEscaped_18 kc_i_4 ?_
    refine lv_ishr hx hb dX9_addEscaped_19 ?_
    refine gw_callS (rest := [.int a1, va_rf a0]) C I hl.1 (m_X9_digitOf G l (a2 >>> (4 &&& 31))) gl_RX9_126 kw_197 ⟨Nat.le_of_ble_eq_true rfl, Nat.le_of_ble_eq_true rfl⟩ rfl (gc4 (Nat.le_of_ble_eq_true rfl)) rfl dX9_addEscaped_20 hf (fun v2 σ H locs cells slots I hf => ?_)
    refine W.eq (g2 := F0 m 23 ls [.int v2, .int a1, va_rf a0]) rfl ?_
    refine gw_callV (rest := []) C I hl.1 gcls_8 (m_X9_add G l a0 a1 v2) gl_RX9_122 gn_X9_add ⟨Nat.le_of_ble_eq_true rfl, Nat.le_of_ble_eq_true rfl⟩ rfl (gc4 (Nat.le_of_ble_eq_true rfl)) rfl dX9_addEscaped_23 hf (fun _ σ H locs cells slots I hf => ?_)
    refine W.eq (g2 := F0 m 26 ls []) rfl ?_
    refine gw_aload_n hx hb dX9_addEscaped_26 rfl (lv_at hl 0 rfl) ?_
    refine lv_iload_n hx hb dX9_addEscaped_27 rfl (lv_at hl 1 rfl) ?_
    refine lv_iload_n hx hb dX9_addEscaped_28 rfl (lv_at hl 2 rfl) ?_
    refine lv_bipush (v := 15) hx hb dX9_addEscaped_29 kc_b_15 ?_
    refine lv_iand hx hb dX9_addEscaped_31 ?_
    refine gw_callS (rest := [.int a1, va_rf a0]) C I hl.1 (m_X9_digitOf G l (a2 &&& 15)) gl_RX9_126 kw_197 ⟨Nat.le_of_ble_eq_true rfl, Nat.le_of_ble_eq_true rfl⟩ rfl (gc4 (Nat.le_of_ble_eq_true rfl)) rfl dX9_addEscaped_32 hf (fun v3 σ H locs cells slots I hf => ?_)
    refine W.eq (g2 := F0 m 35 ls [.int v3, .int a1, va_rf a0]) rfl ?_
    refine gw_callV (rest := []) C I hl.1 gcls_8 (m_X9_add G l a0 a1 v3) gl_RX9_122 gn_X9_add ⟨Nat.le_of_ble_eq_true rfl, Nat.le_of_ble_eq_true rfl⟩ rfl (gc4 (Nat.le_of_ble_eq_true rfl)) rfl dX9_addEscaped_35 hf (fun _ σ H locs cells slots I hf => ?_)
    refine W.eq (g2 := F0 m 38 ls []) rfl ?_
    refine lv_goto (tgt := 47) hx hb dX9_addEscaped_38 (by decide) ?_
    exact gw_vret C I hr dX9_addEscaped_47 hf
end S_X9_addEscaped
theorem m_X9_addEscaped (G : gX) (l : Launch) (a0 : Option Nat) (a1 : Int32) (a2 : Int32) (a3 : Int32) : gMet G l yX9_addEscaped cX9_addEscaped 4 none 1 23 [va_rf a0, .int a1, .int a2, .int a3] grv (f_X9_addEscaped a0 a1 a2 a3) := by
  refine gMet_of (by decide) ?_
  intro σ y p e s m below meth c mc ms hf C hr hnm I
  obtain ⟨ls, e1, hl⟩ := gentry m [va_rf a0, .int a1, .int a2, .int a3] 4 [(0, va_rf a0), (1, .int a1), (2, .int a2), (3, .int a3)] (by simp [lg_sl, grc, gcat_i, gcat_l]) (by simp [lv_args, grc, gcat_i, gcat_l])
  rw [e1]
  exact w_X9_addEscaped_0 C hr a0 a1 a2 a3 _ _ _ _ _ _ hf I hl
def f_X9_byteAt  (a0 : Option Nat) (a1 : Int32) : gM Int32 := gb (rI 8 12 a0) fun v1 => if v1 ≤ a1 then (gp (-1)) else (gb (rR 8 11 a0) fun v2 => gb (aI 0 v2 a1) fun v3 => gp (v3 &&& 255))
section S_X9_byteAt
variable {G : gX} {p : Program} {l : Launch} {e : Env} {s : State} {m : MethodId} {args : Array Value} {below : List Frame} {meth : Method} {c : Code} {mc ms : Nat} {y : Int32 × gS}
set_option maxHeartbeats 4000000 in
set_option maxRecDepth 100000 in
theorem w_X9_byteAt_0 (C : gC G p s m args meth c cX9_byteAt 2 RX9) (hr : meth.sig.returnType = (some .int))  (a0 : Option Nat) (a1 : Int32) : gJ G p l e 0 0 mc ms s m args below meth c gri y 2 0 [(0, va_rf a0), (1, .int a1)] [] (f_X9_byteAt  a0 a1) := by
  have hx := C.1
  have hb := C.2.1
  intro σ H locs cells slots ls hf I hl
  unfold f_X9_byteAt at hf
  refine lv_iload_n hx hb dX9_byteAt_0 rfl (lv_at hl 1 rfl) ?_
  refine gw_aload_n hx hb dX9_byteAt_1 rfl (lv_at hl 0 rfl) ?_
  refine gw_geti (k := 12) C I gcls_8 (by decide) rfl kw_198 dX9_byteAt_2 hf (fun v1 hf => ?_)
  refine lv_icmp_ge (tgt := 21) hx hb dX9_byteAt_5 (by decide) (fun hq => ?_) (fun hq => ?_)
  · have hf := gift hq hf
    refine lv_iconst (v := (-1)) hx hb dX9_byteAt_21 kc_i_m1 ?_
    exact gw_iret C I hr dX9_byteAt_22 hf
  · have hf := giff hq hf
    refine gw_aload_n hx hb dX9_byteAt_8 rfl (lv_at hl 0 rfl) ?_
    refine gw_getr (k := 11) C I gcls_8 (by decide) rfl kw_176 dX9_byteAt_9 hf (fun v2 hf => ?_)
    refine lv_iload_n hx hb dX9_byteAt_12 rfl (lv_at hl 1 rfl) ?_
    refine gw_bald C I dX9_byteAt_13 hf (fun v3 hf => ?_)
    refine lv_sipush (v := 255) hx hb dX9_byteAt_14 kc_s_255 ?_
    refine lv_iand hx hb dX9_byteAt_17 ?_
    refine lv_goto (tgt := 22) hx hb dX9_byteAt_18 (by decide) ?_
    exact gw_iret C I hr dX9_byteAt_22 hf
end S_X9_byteAt
theorem m_X9_byteAt (G : gX) (l : Launch) (a0 : Option Nat) (a1 : Int32) : gMet G l yX9_byteAt cX9_byteAt 2 (some .int) 0 0 [va_rf a0, .int a1] gri (f_X9_byteAt a0 a1) := by
  refine gMet_of (by decide) ?_
  intro σ y p e s m below meth c mc ms hf C hr hnm I
  obtain ⟨ls, e1, hl⟩ := gentry m [va_rf a0, .int a1] 2 [(0, va_rf a0), (1, .int a1)] (by simp [lg_sl, grc, gcat_i, gcat_l]) (by simp [lv_args, grc, gcat_i, gcat_l])
  rw [e1]
  exact w_X9_byteAt_0 C hr a0 a1 _ _ _ _ _ _ hf I hl
