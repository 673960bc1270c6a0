theorem dX7_readRelative_0 : decode cX7_readRelative 0 = .ok (.aload_n 0, 1) := by decide +kernel
theorem dX7_readRelative_1 : decode cX7_readRelative 1 = .ok (.getfield 12, 3) := by decide +kernel
theorem dX7_readRelative_4 : decode cX7_readRelative 4 = .ok (.aload_n 0, 1) := by decide +kernel
theorem dX7_readRelative_5 : decode cX7_readRelative 5 = .ok (.getfield 18, 3) := by decide +kernel
theorem dX7_readRelative_8 : decode cX7_readRelative 8 = .ok (.invokevirtual 61, 3) := by decide +kernel
theorem dX7_readRelative_11 : decode cX7_readRelative 11 = .ok (.istore_n 3, 1) := by decide +kernel
theorem dX7_readRelative_12 : decode cX7_readRelative 12 = .ok (.iload_n 3, 1) := by decide +kernel
theorem dX7_readRelative_13 : decode cX7_readRelative 13 = .ok (.invokestatic 65, 3) := by decide +kernel
theorem dX7_readRelative_16 : decode cX7_readRelative 16 = .ok (.ifCond .eq 24, 3) := by decide +kernel
theorem dX7_readRelative_19 : decode cX7_readRelative 19 = .ok (.aload_n 0, 1) := by decide +kernel
theorem dX7_readRelative_20 : decode cX7_readRelative 20 = .ok (.getfield 12, 3) := by decide +kernel
theorem dX7_readRelative_23 : decode cX7_readRelative 23 = .ok (.aload_n 0, 1) := by decide +kernel
theorem dX7_readRelative_24 : decode cX7_readRelative 24 = .ok (.getfield 18, 3) := by decide +kernel
theorem dX7_readRelative_27 : decode cX7_readRelative 27 = .ok (.iconst 1, 1) := by decide +kernel
theorem dX7_readRelative_28 : decode cX7_readRelative 28 = .ok (.iadd, 1) := by decide +kernel
theorem dX7_readRelative_29 : decode cX7_readRelative 29 = .ok (.invokevirtual 61, 3) := by decide +kernel
theorem dX7_readRelative_32 : decode cX7_readRelative 32 = .ok (.invokestatic 65, 3) := by decide +kernel
theorem dX7_readRelative_35 : decode cX7_readRelative 35 = .ok (.ifCond .eq 5, 3) := by decide +kernel
theorem dX7_readRelative_38 : decode cX7_readRelative 38 = .ok (.iconst 2, 1) := by decide +kernel
theorem dX7_readRelative_39 : decode cX7_readRelative 39 = .ok (.ireturn, 1) := by decide +kernel
theorem dX7_readRelative_40 : decode cX7_readRelative 40 = .ok (.aload_n 2, 1) := by decide +kernel
theorem dX7_readRelative_41 : decode cX7_readRelative 41 = .ok (.aload_n 1, 1) := by decide +kernel
theorem dX7_readRelative_42 : decode cX7_readRelative 42 = .ok (.invokevirtual 137, 3) := by decide +kernel
theorem dX7_readRelative_45 : decode cX7_readRelative 45 = .ok (.iload_n 3, 1) := by decide +kernel
theorem dX7_readRelative_46 : decode cX7_readRelative 46 = .ok (.invokestatic 65, 3) := by decide +kernel
theorem dX7_readRelative_49 : decode cX7_readRelative 49 = .ok (.ifCond .eq 5, 3) := by decide +kernel
theorem dX7_readRelative_52 : decode cX7_readRelative 52 = .ok (.iconst 4, 1) := by decide +kernel
theorem dX7_readRelative_53 : decode cX7_readRelative 53 = .ok (.ireturn, 1) := by decide +kernel
theorem dX7_readRelative_54 : decode cX7_readRelative 54 = .ok (.aload_n 2, 1) := by decide +kernel
theorem dX7_readRelative_55 : decode cX7_readRelative 55 = .ok (.aload_n 1, 1) := by decide +kernel
theorem dX7_readRelative_56 : decode cX7_readRelative 56 = .ok (.invokevirtual 140, 3) := by decide +kernel
theorem dX7_readRelative_59 : decode cX7_readRelative 59 = .ok (.iload_n 3, 1) := by decide +kernel
theorem dX7_readRelative_60 : decode cX7_readRelative 60 = .ok (.bipush 63, 2) := by decide +kernel
theorem dX7_readRelative_62 : decode cX7_readRelative 62 = .ok (.if_icmp .ne 6, 3) := by decide +kernel
theorem dX7_readRelative_65 : decode cX7_readRelative 65 = .ok (.bipush 6, 2) := by decide +kernel
theorem dX7_readRelative_67 : decode cX7_readRelative 67 = .ok (.ireturn, 1) := by decide +kernel
theorem dX7_readRelative_68 : decode cX7_readRelative 68 = .ok (.iload_n 3, 1) := by decide +kernel
theorem dX7_readRelative_69 : decode cX7_readRelative 69 = .ok (.bipush 35, 2) := by decide +kernel
theorem dX7_readRelative_71 : decode cX7_readRelative 71 = .ok (.if_icmp .eq 8, 3) := by decide +kernel
theorem dX7_readRelative_74 : decode cX7_readRelative 74 = .ok (.iload_n 3, 1) := by decide +kernel
theorem dX7_readRelative_75 : decode cX7_readRelative 75 = .ok (.iconst (-1), 1) := by decide +kernel
theorem dX7_readRelative_76 : decode cX7_readRelative 76 = .ok (.if_icmp .ne 11, 3) := by decide +kernel
theorem dX7_readRelative_79 : decode cX7_readRelative 79 = .ok (.aload_n 2, 1) := by decide +kernel
theorem dX7_readRelative_80 : decode cX7_readRelative 80 = .ok (.aload_n 1, 1) := by decide +kernel
theorem dX7_readRelative_81 : decode cX7_readRelative 81 = .ok (.invokevirtual 143, 3) := by decide +kernel
theorem dX7_readRelative_84 : decode cX7_readRelative 84 = .ok (.bipush 6, 2) := by decide +kernel
theorem dX7_readRelative_86 : decode cX7_readRelative 86 = .ok (.ireturn, 1) := by decide +kernel
theorem dX7_readRelative_87 : decode cX7_readRelative 87 = .ok (.aload_n 2, 1) := by decide +kernel
theorem dX7_readRelative_88 : decode cX7_readRelative 88 = .ok (.invokevirtual 146, 3) := by decide +kernel
theorem dX7_readRelative_91 : decode cX7_readRelative 91 = .ok (.iconst 5, 1) := by decide +kernel
theorem dX7_readRelative_92 : decode cX7_readRelative 92 = .ok (.ireturn, 1) := by decide +kernel
theorem dX1_isDivider_0 : decode cX1_isDivider 0 = .ok (.iload_n 0, 1) := by decide +kernel
theorem dX1_isDivider_1 : decode cX1_isDivider 1 = .ok (.bipush 47, 2) := by decide +kernel
theorem dX1_isDivider_3 : decode cX1_isDivider 3 = .ok (.if_icmp .eq 21, 3) := by decide +kernel
theorem dX1_isDivider_6 : decode cX1_isDivider 6 = .ok (.iload_n 0, 1) := by decide +kernel
theorem dX1_isDivider_7 : decode cX1_isDivider 7 = .ok (.bipush 92, 2) := by decide +kernel
theorem dX1_isDivider_9 : decode cX1_isDivider 9 = .ok (.if_icmp .eq 15, 3) := by decide +kernel
theorem dX1_isDivider_12 : decode cX1_isDivider 12 = .ok (.iload_n 0, 1) := by decide +kernel
theorem dX1_isDivider_13 : decode cX1_isDivider 13 = .ok (.bipush 63, 2) := by decide +kernel
theorem dX1_isDivider_15 : decode cX1_isDivider 15 = .ok (.if_icmp .eq 9, 3) := by decide +kernel
theorem dX1_isDivider_18 : decode cX1_isDivider 18 = .ok (.iload_n 0, 1) := by decide +kernel
theorem dX1_isDivider_19 : decode cX1_isDivider 19 = .ok (.bipush 35, 2) := by decide +kernel
theorem dX1_isDivider_21 : decode cX1_isDivider 21 = .ok (.if_icmp .ne 7, 3) := by decide +kernel
theorem dX1_isDivider_24 : decode cX1_isDivider 24 = .ok (.iconst 1, 1) := by decide +kernel
theorem dX1_isDivider_25 : decode cX1_isDivider 25 = .ok (.goto 4, 3) := by decide +kernel
theorem dX1_isDivider_28 : decode cX1_isDivider 28 = .ok (.iconst 0, 1) := by decide +kernel
theorem dX1_isDivider_29 : decode cX1_isDivider 29 = .ok (.ireturn, 1) := by decide +kernel
theorem dJ1_canEncode_9a6ad_0 : decode cJ1_canEncode_9a6ad 0 = .ok (.iload_n 0, 1) := by decide +kernel
theorem dJ1_canEncode_9a6ad_1 : decode cJ1_canEncode_9a6ad 1 = .ok (.ifCond .lt 14, 3) := by decide +kernel
theorem dJ1_canEncode_9a6ad_4 : decode cJ1_canEncode_9a6ad 4 = .ok (.iload_n 0, 1) := by decide +kernel
theorem dJ1_canEncode_9a6ad_5 : decode cJ1_canEncode_9a6ad 5 = .ok (.sipush 255, 3) := by decide +kernel
theorem dJ1_canEncode_9a6ad_8 : decode cJ1_canEncode_9a6ad 8 = .ok (.if_icmp .gt 7, 3) := by decide +kernel
theorem dJ1_canEncode_9a6ad_11 : decode cJ1_canEncode_9a6ad 11 = .ok (.iconst 1, 1) := by decide +kernel
theorem dJ1_canEncode_9a6ad_12 : decode cJ1_canEncode_9a6ad 12 = .ok (.goto 4, 3) := by decide +kernel
theorem dJ1_canEncode_9a6ad_15 : decode cJ1_canEncode_9a6ad 15 = .ok (.iconst 0, 1) := by decide +kernel
theorem dJ1_canEncode_9a6ad_16 : decode cJ1_canEncode_9a6ad 16 = .ok (.ireturn, 1) := by decide +kernel
theorem dJ1_indexOfChar_4cfef_0 : decode cJ1_indexOfChar_4cfef 0 = .ok (.iload_n 1, 1) := by decide +kernel
theorem dJ1_indexOfChar_4cfef_1 : decode cJ1_indexOfChar_4cfef 1 = .ok (.i2b, 1) := by decide +kernel
theorem dJ1_indexOfChar_4cfef_2 : decode cJ1_indexOfChar_4cfef 2 = .ok (.istore 4, 2) := by decide +kernel
theorem dJ1_indexOfChar_4cfef_4 : decode cJ1_indexOfChar_4cfef 4 = .ok (.iload_n 2, 1) := by decide +kernel
theorem dJ1_indexOfChar_4cfef_5 : decode cJ1_indexOfChar_4cfef 5 = .ok (.istore 5, 2) := by decide +kernel
theorem dJ1_indexOfChar_4cfef_7 : decode cJ1_indexOfChar_4cfef 7 = .ok (.iload 5, 2) := by decide +kernel
theorem dJ1_indexOfChar_4cfef_9 : decode cJ1_indexOfChar_4cfef 9 = .ok (.iload_n 3, 1) := by decide +kernel
theorem dJ1_indexOfChar_4cfef_10 : decode cJ1_indexOfChar_4cfef 10 = .ok (.if_icmp .ge 21, 3) := by decide +kernel
theorem dJ1_indexOfChar_4cfef_13 : decode cJ1_indexOfChar_4cfef 13 = .ok (.aload_n 0, 1) := by decide +kernel
theorem dJ1_indexOfChar_4cfef_14 : decode cJ1_indexOfChar_4cfef 14 = .ok (.iload 5, 2) := by decide +kernel
theorem dJ1_indexOfChar_4cfef_16 : decode cJ1_indexOfChar_4cfef 16 = .ok (.baload, 1) := by decide +kernel
theorem dJ1_indexOfChar_4cfef_17 : decode cJ1_indexOfChar_4cfef 17 = .ok (.iload 4, 2) := by decide +kernel
theorem dJ1_indexOfChar_4cfef_19 : decode cJ1_indexOfChar_4cfef 19 = .ok (.if_icmp .ne 6, 3) := by decide +kernel
theorem dJ1_indexOfChar_4cfef_22 : decode cJ1_indexOfChar_4cfef 22 = .ok (.iload 5, 2) := by decide +kernel
theorem dJ1_indexOfChar_4cfef_24 : decode cJ1_indexOfChar_4cfef 24 = .ok (.ireturn, 1) := by decide +kernel
theorem dJ1_indexOfChar_4cfef_25 : decode cJ1_indexOfChar_4cfef 25 = .ok (.iinc 5 1, 3) := by decide +kernel
theorem dJ1_indexOfChar_4cfef_28 : decode cJ1_indexOfChar_4cfef 28 = .ok (.goto (-21), 3) := by decide +kernel
theorem dJ1_indexOfChar_4cfef_31 : decode cJ1_indexOfChar_4cfef 31 = .ok (.iconst (-1), 1) := by decide +kernel
theorem dJ1_indexOfChar_4cfef_32 : decode cJ1_indexOfChar_4cfef 32 = .ok (.ireturn, 1) := by decide +kernel
theorem dJ1_indexOf_4cfef_0 : decode cJ1_indexOf_4cfef 0 = .ok (.iload_n 1, 1) := by decide +kernel
theorem dJ1_indexOf_4cfef_1 : decode cJ1_indexOf_4cfef 1 = .ok (.invokestatic 88, 3) := by decide +kernel
theorem dJ1_indexOf_4cfef_4 : decode cJ1_indexOf_4cfef 4 = .ok (.ifCond .ne 5, 3) := by decide +kernel
theorem dJ1_indexOf_4cfef_7 : decode cJ1_indexOf_4cfef 7 = .ok (.iconst (-1), 1) := by decide +kernel
theorem dJ1_indexOf_4cfef_8 : decode cJ1_indexOf_4cfef 8 = .ok (.ireturn, 1) := by decide +kernel
theorem dJ1_indexOf_4cfef_9 : decode cJ1_indexOf_4cfef 9 = .ok (.iload_n 2, 1) := by decide +kernel
theorem dJ1_indexOf_4cfef_10 : decode cJ1_indexOf_4cfef 10 = .ok (.iconst 0, 1) := by decide +kernel
theorem dJ1_indexOf_4cfef_11 : decode cJ1_indexOf_4cfef 11 = .ok (.invokestatic 92, 3) := by decide +kernel
theorem dJ1_indexOf_4cfef_14 : decode cJ1_indexOf_4cfef 14 = .ok (.istore_n 2, 1) := by decide +kernel
theorem dJ1_indexOf_4cfef_15 : decode cJ1_indexOf_4cfef 15 = .ok (.iload_n 3, 1) := by decide +kernel
theorem dJ1_indexOf_4cfef_16 : decode cJ1_indexOf_4cfef 16 = .ok (.aload_n 0, 1) := by decide +kernel
theorem dJ1_indexOf_4cfef_17 : decode cJ1_indexOf_4cfef 17 = .ok (.arraylength, 1) := by decide +kernel
theorem dJ1_indexOf_4cfef_18 : decode cJ1_indexOf_4cfef 18 = .ok (.invokestatic 38, 3) := by decide +kernel
theorem dJ1_indexOf_4cfef_21 : decode cJ1_indexOf_4cfef 21 = .ok (.istore_n 3, 1) := by decide +kernel
theorem dJ1_indexOf_4cfef_22 : decode cJ1_indexOf_4cfef 22 = .ok (.iload_n 2, 1) := by decide +kernel
theorem dJ1_indexOf_4cfef_23 : decode cJ1_indexOf_4cfef 23 = .ok (.iload_n 3, 1) := by decide +kernel
theorem dJ1_indexOf_4cfef_24 : decode cJ1_indexOf_4cfef 24 = .ok (.if_icmp .lt 5, 3) := by decide +kernel
theorem dJ1_indexOf_4cfef_27 : decode cJ1_indexOf_4cfef 27 = .ok (.iconst (-1), 1) := by decide +kernel
theorem dJ1_indexOf_4cfef_28 : decode cJ1_indexOf_4cfef 28 = .ok (.ireturn, 1) := by decide +kernel
theorem dJ1_indexOf_4cfef_29 : decode cJ1_indexOf_4cfef 29 = .ok (.aload_n 0, 1) := by decide +kernel
theorem dJ1_indexOf_4cfef_30 : decode cJ1_indexOf_4cfef 30 = .ok (.iload_n 1, 1) := by decide +kernel
theorem dJ1_indexOf_4cfef_31 : decode cJ1_indexOf_4cfef 31 = .ok (.iload_n 2, 1) := by decide +kernel
theorem dJ1_indexOf_4cfef_32 : decode cJ1_indexOf_4cfef 32 = .ok (.iload_n 3, 1) := by decide +kernel
theorem dJ1_indexOf_4cfef_33 : decode cJ1_indexOf_4cfef 33 = .ok (.invokestatic 95, 3) := by decide +kernel
theorem dJ1_indexOf_4cfef_36 : decode cJ1_indexOf_4cfef 36 = .ok (.ireturn, 1) := by decide +kernel
theorem dJ0_indexOf_7cf53_0 : decode cJ0_indexOf_7cf53 0 = .ok (.aload_n 0, 1) := by decide +kernel
theorem dJ0_indexOf_7cf53_1 : decode cJ0_indexOf_7cf53 1 = .ok (.invokevirtual 492, 3) := by decide +kernel
theorem dJ0_indexOf_7cf53_4 : decode cJ0_indexOf_7cf53 4 = .ok (.ifCond .eq 19, 3) := by decide +kernel
theorem dJ0_indexOf_7cf53_7 : decode cJ0_indexOf_7cf53 7 = .ok (.aload_n 0, 1) := by decide +kernel
theorem dJ0_indexOf_7cf53_8 : decode cJ0_indexOf_7cf53 8 = .ok (.getfield 9, 3) := by decide +kernel
theorem dJ0_indexOf_7cf53_11 : decode cJ0_indexOf_7cf53 11 = .ok (.iload_n 1, 1) := by decide +kernel
theorem dJ0_indexOf_7cf53_12 : decode cJ0_indexOf_7cf53 12 = .ok (.iload_n 2, 1) := by decide +kernel
theorem dJ0_indexOf_7cf53_13 : decode cJ0_indexOf_7cf53 13 = .ok (.aload_n 0, 1) := by decide +kernel
theorem dJ0_indexOf_7cf53_14 : decode cJ0_indexOf_7cf53 14 = .ok (.invokevirtual 505, 3) := by decide +kernel
theorem dJ0_indexOf_7cf53_17 : decode cJ0_indexOf_7cf53 17 = .ok (.invokestatic 637, 3) := by decide +kernel
theorem dJ0_indexOf_7cf53_20 : decode cJ0_indexOf_7cf53 20 = .ok (.goto 16, 3) := by decide +kernel
theorem dJ0_indexOf_7cf53_36 : decode cJ0_indexOf_7cf53 36 = .ok (.ireturn, 1) := by decide +kernel
theorem dJ0_indexOf_0f7a4_0 : decode cJ0_indexOf_0f7a4 0 = .ok (.aload_n 0, 1) := by decide +kernel
theorem dJ0_indexOf_0f7a4_1 : decode cJ0_indexOf_0f7a4 1 = .ok (.iload_n 1, 1) := by decide +kernel
theorem dJ0_indexOf_0f7a4_2 : decode cJ0_indexOf_0f7a4 2 = .ok (.iconst 0, 1) := by decide +kernel
theorem dJ0_indexOf_0f7a4_3 : decode cJ0_indexOf_0f7a4 3 = .ok (.invokevirtual 633, 3) := by decide +kernel
theorem dJ0_indexOf_0f7a4_6 : decode cJ0_indexOf_0f7a4 6 = .ok (.ireturn, 1) := by decide +kernel
theorem dX1_isToEscape_0 : decode cX1_isToEscape 0 = .ok (.iload_n 0, 1) := by decide +kernel
theorem dX1_isToEscape_1 : decode cX1_isToEscape 1 = .ok (.bipush 32, 2) := by decide +kernel
theorem dX1_isToEscape_3 : decode cX1_isToEscape 3 = .ok (.if_icmp .lt 18, 3) := by decide +kernel
theorem dX1_isToEscape_6 : decode cX1_isToEscape 6 = .ok (.iload_n 0, 1) := by decide +kernel
theorem dX1_isToEscape_7 : decode cX1_isToEscape 7 = .ok (.bipush 126, 2) := by decide +kernel
theorem dX1_isToEscape_9 : decode cX1_isToEscape 9 = .ok (.if_icmp .gt 12, 3) := by decide +kernel
theorem dX1_isToEscape_12 : decode cX1_isToEscape 12 = .ok (.aload_n 1, 1) := by decide +kernel
theorem dX1_isToEscape_13 : decode cX1_isToEscape 13 = .ok (.iload_n 0, 1) := by decide +kernel
theorem dX1_isToEscape_14 : decode cX1_isToEscape 14 = .ok (.i2c, 1) := by decide +kernel
theorem dX1_isToEscape_15 : decode cX1_isToEscape 15 = .ok (.invokevirtual 9, 3) := by decide +kernel
theorem dX1_isToEscape_18 : decode cX1_isToEscape 18 = .ok (.ifCond .lt 7, 3) := by decide +kernel
theorem dX1_isToEscape_21 : decode cX1_isToEscape 21 = .ok (.iconst 1, 1) := by decide +kernel
theorem dX1_isToEscape_22 : decode cX1_isToEscape 22 = .ok (.goto 4, 3) := by decide +kernel
theorem dX1_isToEscape_25 : decode cX1_isToEscape 25 = .ok (.iconst 0, 1) := by decide +kernel
theorem dX1_isToEscape_26 : decode cX1_isToEscape 26 = .ok (.ireturn, 1) := by decide +kernel
theorem dX5_addEscaped_0 : decode cX5_addEscaped 0 = .ok (.iload_n 1, 1) := by decide +kernel
theorem dX5_addEscaped_1 : decode cX5_addEscaped 1 = .ok (.aload_n 2, 1) := by decide +kernel
theorem dX5_addEscaped_2 : decode cX5_addEscaped 2 = .ok (.invokestatic 42, 3) := by decide +kernel
theorem dX5_addEscaped_5 : decode cX5_addEscaped 5 = .ok (.ifCond .ne 9, 3) := by decide +kernel
theorem dX5_addEscaped_8 : decode cX5_addEscaped 8 = .ok (.aload_n 0, 1) := by decide +kernel
theorem dX5_addEscaped_9 : decode cX5_addEscaped 9 = .ok (.iload_n 1, 1) := by decide +kernel
theorem dX5_addEscaped_10 : decode cX5_addEscaped 10 = .ok (.invokevirtual 29, 3) := by decide +kernel
theorem dX5_addEscaped_13 : decode cX5_addEscaped 13 = .ok (.return_, 1) := by decide +kernel
theorem dX5_addEscaped_14 : decode cX5_addEscaped 14 = .ok (.aload_n 0, 1) := by decide +kernel
theorem dX5_addEscaped_15 : decode cX5_addEscaped 15 = .ok (.bipush 37, 2) := by decide +kernel
theorem dX5_addEscaped_17 : decode cX5_addEscaped 17 = .ok (.invokevirtual 29, 3) := by decide +kernel
theorem dX5_addEscaped_20 : decode cX5_addEscaped 20 = .ok (.aload_n 0, 1) := by decide +kernel
theorem dX5_addEscaped_21 : decode cX5_addEscaped 21 = .ok (.ldc 48, 2) := by decide +kernel
theorem dX5_addEscaped_23 : decode cX5_addEscaped 23 = .ok (.iload_n 1, 1) := by decide +kernel
theorem dX5_addEscaped_24 : decode cX5_addEscaped 24 = .ok (.iconst 4, 1) := by decide +kernel
theorem dX5_addEscaped_25 : decode cX5_addEscaped 25 = .ok (.iushr, 1) := by decide +kernel
theorem dX5_addEscaped_26 : decode cX5_addEscaped 26 = .ok (.bipush 15, 2) := by decide +kernel
theorem dX5_addEscaped_28 : decode cX5_addEscaped 28 = .ok (.iand, 1) := by decide +kernel
theorem dX5_addEscaped_29 : decode cX5_addEscaped 29 = .ok (.invokevirtual 38, 3) := by decide +kernel
theorem dX5_addEscaped_32 : decode cX5_addEscaped 32 = .ok (.invokevirtual 29, 3) := by decide +kernel
theorem dX5_addEscaped_35 : decode cX5_addEscaped 35 = .ok (.aload_n 0, 1) := by decide +kernel
theorem dX5_addEscaped_36 : decode cX5_addEscaped 36 = .ok (.ldc 48, 2) := by decide +kernel
theorem dX5_addEscaped_38 : decode cX5_addEscaped 38 = .ok (.iload_n 1, 1) := by decide +kernel
theorem dX5_addEscaped_39 : decode cX5_addEscaped 39 = .ok (.bipush 15, 2) := by decide +kernel
theorem dX5_addEscaped_41 : decode cX5_addEscaped 41 = .ok (.iand, 1) := by decide +kernel
theorem dX5_addEscaped_42 : decode cX5_addEscaped 42 = .ok (.invokevirtual 38, 3) := by decide +kernel
theorem dX5_addEscaped_45 : decode cX5_addEscaped 45 = .ok (.invokevirtual 29, 3) := by decide +kernel
theorem dX5_addEscaped_48 : decode cX5_addEscaped 48 = .ok (.return_, 1) := by decide +kernel
theorem dX7_readUser_0 : decode cX7_readUser 0 = .ok (.iconst 0, 1) := by decide +kernel
theorem dX7_readUser_1 : decode cX7_readUser 1 = .ok (.istore 4, 2) := by decide +kernel
theorem dX7_readUser_3 : decode cX7_readUser 3 = .ok (.iload_n 1, 1) := by decide +kernel
theorem dX7_readUser_4 : decode cX7_readUser 4 = .ok (.istore 5, 2) := by decide +kernel
theorem dX7_readUser_6 : decode cX7_readUser 6 = .ok (.iload 5, 2) := by decide +kernel
theorem dX7_readUser_8 : decode cX7_readUser 8 = .ok (.iload_n 2, 1) := by decide +kernel
theorem dX7_readUser_9 : decode cX7_readUser 9 = .ok (.if_icmp .ge 65, 3) := by decide +kernel
theorem dX7_readUser_12 : decode cX7_readUser 12 = .ok (.aload_n 0, 1) := by decide +kernel
theorem dX7_readUser_13 : decode cX7_readUser 13 = .ok (.getfield 12, 3) := by decide +kernel
theorem dX7_readUser_16 : decode cX7_readUser 16 = .ok (.iload 5, 2) := by decide +kernel
theorem dX7_readUser_18 : decode cX7_readUser 18 = .ok (.invokevirtual 61, 3) := by decide +kernel
theorem dX7_readUser_21 : decode cX7_readUser 21 = .ok (.istore 6, 2) := by decide +kernel
theorem dX7_readUser_23 : decode cX7_readUser 23 = .ok (.iload 6, 2) := by decide +kernel
theorem dX7_readUser_25 : decode cX7_readUser 25 = .ok (.bipush 58, 2) := by decide +kernel
theorem dX7_readUser_27 : decode cX7_readUser 27 = .ok (.if_icmp .ne 14, 3) := by decide +kernel
theorem dX7_readUser_30 : decode cX7_readUser 30 = .ok (.iload 4, 2) := by decide +kernel
theorem dX7_readUser_32 : decode cX7_readUser 32 = .ok (.ifCond .ne 9, 3) := by decide +kernel
theorem dX7_readUser_35 : decode cX7_readUser 35 = .ok (.iconst 1, 1) := by decide +kernel
theorem dX7_readUser_36 : decode cX7_readUser 36 = .ok (.istore 4, 2) := by decide +kernel
theorem dX7_readUser_38 : decode cX7_readUser 38 = .ok (.goto 30, 3) := by decide +kernel
theorem dX7_readUser_41 : decode cX7_readUser 41 = .ok (.iload 4, 2) := by decide +kernel
theorem dX7_readUser_43 : decode cX7_readUser 43 = .ok (.ifCond .eq 10, 3) := by decide +kernel
theorem dX7_readUser_46 : decode cX7_readUser 46 = .ok (.aload_n 3, 1) := by decide +kernel
theorem dX7_readUser_47 : decode cX7_readUser 47 = .ok (.getfield 160, 3) := by decide +kernel
theorem dX7_readUser_50 : decode cX7_readUser 50 = .ok (.goto 7, 3) := by decide +kernel
theorem dX7_readUser_53 : decode cX7_readUser 53 = .ok (.aload_n 3, 1) := by decide +kernel
theorem dX7_readUser_54 : decode cX7_readUser 54 = .ok (.getfield 163, 3) := by decide +kernel
theorem dX7_readUser_57 : decode cX7_readUser 57 = .ok (.astore 7, 2) := by decide +kernel
theorem dX7_readUser_59 : decode cX7_readUser 59 = .ok (.aload 7, 2) := by decide +kernel
theorem dX7_readUser_61 : decode cX7_readUser 61 = .ok (.iload 6, 2) := by decide +kernel
theorem dX7_readUser_63 : decode cX7_readUser 63 = .ok (.ldc 166, 2) := by decide +kernel
theorem dX7_readUser_65 : decode cX7_readUser 65 = .ok (.invokevirtual 168, 3) := by decide +kernel
theorem dX7_readUser_68 : decode cX7_readUser 68 = .ok (.iinc 5 1, 3) := by decide +kernel
theorem dX7_readUser_71 : decode cX7_readUser 71 = .ok (.goto (-65), 3) := by decide +kernel
theorem dX7_readUser_74 : decode cX7_readUser 74 = .ok (.return_, 1) := by decide +kernel
theorem dX7_hostEndFrom_0 : decode cX7_hostEndFrom 0 = .ok (.iconst 0, 1) := by decide +kernel
theorem dX7_hostEndFrom_1 : decode cX7_hostEndFrom 1 = .ok (.istore_n 3, 1) := by decide +kernel
theorem dX7_hostEndFrom_2 : decode cX7_hostEndFrom 2 = .ok (.iload_n 1, 1) := by decide +kernel
theorem dX7_hostEndFrom_3 : decode cX7_hostEndFrom 3 = .ok (.istore 4, 2) := by decide +kernel
theorem dX7_hostEndFrom_5 : decode cX7_hostEndFrom 5 = .ok (.iload 4, 2) := by decide +kernel
theorem dX7_hostEndFrom_7 : decode cX7_hostEndFrom 7 = .ok (.iload_n 2, 1) := by decide +kernel
theorem dX7_hostEndFrom_8 : decode cX7_hostEndFrom 8 = .ok (.if_icmp .ge 58, 3) := by decide +kernel
theorem dX7_hostEndFrom_11 : decode cX7_hostEndFrom 11 = .ok (.aload_n 0, 1) := by decide +kernel
theorem dX7_hostEndFrom_12 : decode cX7_hostEndFrom 12 = .ok (.getfield 12, 3) := by decide +kernel
theorem dX7_hostEndFrom_15 : decode cX7_hostEndFrom 15 = .ok (.iload 4, 2) := by decide +kernel
theorem dX7_hostEndFrom_17 : decode cX7_hostEndFrom 17 = .ok (.invokevirtual 61, 3) := by decide +kernel
theorem dX7_hostEndFrom_20 : decode cX7_hostEndFrom 20 = .ok (.istore 5, 2) := by decide +kernel
theorem dX7_hostEndFrom_22 : decode cX7_hostEndFrom 22 = .ok (.iload 5, 2) := by decide +kernel
theorem dX7_hostEndFrom_24 : decode cX7_hostEndFrom 24 = .ok (.bipush 58, 2) := by decide +kernel
theorem dX7_hostEndFrom_26 : decode cX7_hostEndFrom 26 = .ok (.if_icmp .ne 10, 3) := by decide +kernel
theorem dX7_hostEndFrom_29 : decode cX7_hostEndFrom 29 = .ok (.iload_n 3, 1) := by decide +kernel
theorem dX7_hostEndFrom_30 : decode cX7_hostEndFrom 30 = .ok (.ifCond .ne 6, 3) := by decide +kernel
theorem dX7_hostEndFrom_33 : decode cX7_hostEndFrom 33 = .ok (.iload 4, 2) := by decide +kernel
theorem dX7_hostEndFrom_35 : decode cX7_hostEndFrom 35 = .ok (.ireturn, 1) := by decide +kernel
theorem dX7_hostEndFrom_36 : decode cX7_hostEndFrom 36 = .ok (.iload 5, 2) := by decide +kernel
theorem dX7_hostEndFrom_38 : decode cX7_hostEndFrom 38 = .ok (.bipush 91, 2) := by decide +kernel
theorem dX7_hostEndFrom_40 : decode cX7_hostEndFrom 40 = .ok (.if_icmp .eq 14, 3) := by decide +kernel
theorem dX7_hostEndFrom_43 : decode cX7_hostEndFrom 43 = .ok (.iload_n 3, 1) := by decide +kernel
theorem dX7_hostEndFrom_44 : decode cX7_hostEndFrom 44 = .ok (.ifCond .eq 14, 3) := by decide +kernel
theorem dX7_hostEndFrom_47 : decode cX7_hostEndFrom 47 = .ok (.iload 5, 2) := by decide +kernel
theorem dX7_hostEndFrom_49 : decode cX7_hostEndFrom 49 = .ok (.bipush 93, 2) := by decide +kernel
theorem dX7_hostEndFrom_51 : decode cX7_hostEndFrom 51 = .ok (.if_icmp .eq 7, 3) := by decide +kernel
theorem dX7_hostEndFrom_54 : decode cX7_hostEndFrom 54 = .ok (.iconst 1, 1) := by decide +kernel
theorem dX7_hostEndFrom_55 : decode cX7_hostEndFrom 55 = .ok (.goto 4, 3) := by decide +kernel
theorem dX7_hostEndFrom_58 : decode cX7_hostEndFrom 58 = .ok (.iconst 0, 1) := by decide +kernel
theorem dX7_hostEndFrom_59 : decode cX7_hostEndFrom 59 = .ok (.istore_n 3, 1) := by decide +kernel
theorem dX7_hostEndFrom_60 : decode cX7_hostEndFrom 60 = .ok (.iinc 4 1, 3) := by decide +kernel
theorem dX7_hostEndFrom_63 : decode cX7_hostEndFrom 63 = .ok (.goto (-58), 3) := by decide +kernel
theorem dX7_hostEndFrom_66 : decode cX7_hostEndFrom 66 = .ok (.iload_n 2, 1) := by decide +kernel
theorem dX7_hostEndFrom_67 : decode cX7_hostEndFrom 67 = .ok (.ireturn, 1) := by decide +kernel
theorem dX7_readAuthority_0 : decode cX7_readAuthority 0 = .ok (.aload_n 0, 1) := by decide +kernel
theorem dX7_readAuthority_1 : decode cX7_readAuthority 1 = .ok (.getfield 18, 3) := by decide +kernel
theorem dX7_readAuthority_4 : decode cX7_readAuthority 4 = .ok (.istore_n 2, 1) := by decide +kernel
theorem dX7_readAuthority_5 : decode cX7_readAuthority 5 = .ok (.iload_n 2, 1) := by decide +kernel
theorem dX7_readAuthority_6 : decode cX7_readAuthority 6 = .ok (.aload_n 0, 1) := by decide +kernel
theorem dX7_readAuthority_7 : decode cX7_readAuthority 7 = .ok (.getfield 12, 3) := by decide +kernel
theorem dX7_readAuthority_10 : decode cX7_readAuthority 10 = .ok (.getfield 81, 3) := by decide +kernel
theorem dX7_readAuthority_13 : decode cX7_readAuthority 13 = .ok (.if_icmp .ge 23, 3) := by decide +kernel
theorem dX7_readAuthority_16 : decode cX7_readAuthority 16 = .ok (.aload_n 0, 1) := by decide +kernel
theorem dX7_readAuthority_17 : decode cX7_readAuthority 17 = .ok (.getfield 12, 3) := by decide +kernel
theorem dX7_readAuthority_20 : decode cX7_readAuthority 20 = .ok (.iload_n 2, 1) := by decide +kernel
theorem dX7_readAuthority_21 : decode cX7_readAuthority 21 = .ok (.invokevirtual 61, 3) := by decide +kernel
theorem dX7_readAuthority_24 : decode cX7_readAuthority 24 = .ok (.invokestatic 65, 3) := by decide +kernel
theorem dX7_readAuthority_27 : decode cX7_readAuthority 27 = .ok (.ifCond .eq 9, 3) := by decide +kernel
theorem dX7_readAuthority_30 : decode cX7_readAuthority 30 = .ok (.iinc 2 1, 3) := by decide +kernel
theorem dX7_readAuthority_33 : decode cX7_readAuthority 33 = .ok (.goto (-28), 3) := by decide +kernel
theorem dX7_readAuthority_36 : decode cX7_readAuthority 36 = .ok (.iload_n 2, 1) := by decide +kernel
theorem dX7_readAuthority_37 : decode cX7_readAuthority 37 = .ok (.istore_n 3, 1) := by decide +kernel
theorem dX7_readAuthority_38 : decode cX7_readAuthority 38 = .ok (.iload_n 3, 1) := by decide +kernel
theorem dX7_readAuthority_39 : decode cX7_readAuthority 39 = .ok (.aload_n 0, 1) := by decide +kernel
theorem dX7_readAuthority_40 : decode cX7_readAuthority 40 = .ok (.getfield 12, 3) := by decide +kernel
theorem dX7_readAuthority_43 : decode cX7_readAuthority 43 = .ok (.getfield 81, 3) := by decide +kernel
theorem dX7_readAuthority_46 : decode cX7_readAuthority 46 = .ok (.if_icmp .ge 23, 3) := by decide +kernel
theorem dX7_readAuthority_49 : decode cX7_readAuthority 49 = .ok (.aload_n 0, 1) := by decide +kernel
theorem dX7_readAuthority_50 : decode cX7_readAuthority 50 = .ok (.getfield 12, 3) := by decide +kernel
theorem dX7_readAuthority_53 : decode cX7_readAuthority 53 = .ok (.iload_n 3, 1) := by decide +kernel
theorem dX7_readAuthority_54 : decode cX7_readAuthority 54 = .ok (.invokevirtual 61, 3) := by decide +kernel
theorem dX7_readAuthority_57 : decode cX7_readAuthority 57 = .ok (.invokestatic 149, 3) := by decide +kernel
theorem dX7_readAuthority_60 : decode cX7_readAuthority 60 = .ok (.ifCond .ne 9, 3) := by decide +kernel
theorem dX7_readAuthority_63 : decode cX7_readAuthority 63 = .ok (.iinc 3 1, 3) := by decide +kernel
theorem dX7_readAuthority_66 : decode cX7_readAuthority 66 = .ok (.goto (-28), 3) := by decide +kernel
theorem dX7_readAuthority_69 : decode cX7_readAuthority 69 = .ok (.aload_n 0, 1) := by decide +kernel
theorem dX7_readAuthority_70 : decode cX7_readAuthority 70 = .ok (.iload_n 3, 1) := by decide +kernel
theorem dX7_readAuthority_71 : decode cX7_readAuthority 71 = .ok (.putfield 18, 3) := by decide +kernel
theorem dX7_readAuthority_74 : decode cX7_readAuthority 74 = .ok (.iload_n 3, 1) := by decide +kernel
theorem dX7_readAuthority_75 : decode cX7_readAuthority 75 = .ok (.iconst 1, 1) := by decide +kernel
theorem dX7_readAuthority_76 : decode cX7_readAuthority 76 = .ok (.isub, 1) := by decide +kernel
theorem dX7_readAuthority_77 : decode cX7_readAuthority 77 = .ok (.istore 4, 2) := by decide +kernel
theorem dX7_readAuthority_79 : decode cX7_readAuthority 79 = .ok (.iload 4, 2) := by decide +kernel
theorem dX7_readAuthority_81 : decode cX7_readAuthority 81 = .ok (.iload_n 2, 1) := by decide +kernel
theorem dX7_readAuthority_82 : decode cX7_readAuthority 82 = .ok (.if_icmp .lt 23, 3) := by decide +kernel
theorem dX7_readAuthority_85 : decode cX7_readAuthority 85 = .ok (.aload_n 0, 1) := by decide +kernel
theorem dX7_readAuthority_86 : decode cX7_readAuthority 86 = .ok (.getfield 12, 3) := by decide +kernel
theorem dX7_readAuthority_89 : decode cX7_readAuthority 89 = .ok (.iload 4, 2) := by decide +kernel
theorem dX7_readAuthority_91 : decode cX7_readAuthority 91 = .ok (.invokevirtual 61, 3) := by decide +kernel
theorem dX7_readAuthority_94 : decode cX7_readAuthority 94 = .ok (.bipush 64, 2) := by decide +kernel
theorem dX7_readAuthority_96 : decode cX7_readAuthority 96 = .ok (.if_icmp .eq 9, 3) := by decide +kernel
theorem dX7_readAuthority_99 : decode cX7_readAuthority 99 = .ok (.iinc 4 (-1), 3) := by decide +kernel
theorem dX7_readAuthority_102 : decode cX7_readAuthority 102 = .ok (.goto (-23), 3) := by decide +kernel
theorem dX7_readAuthority_105 : decode cX7_readAuthority 105 = .ok (.iload 4, 2) := by decide +kernel
theorem dX7_readAuthority_107 : decode cX7_readAuthority 107 = .ok (.iload_n 2, 1) := by decide +kernel
theorem dX7_readAuthority_108 : decode cX7_readAuthority 108 = .ok (.if_icmp .lt 16, 3) := by decide +kernel
theorem dX7_readAuthority_111 : decode cX7_readAuthority 111 = .ok (.aload_n 0, 1) := by decide +kernel
theorem dX7_readAuthority_112 : decode cX7_readAuthority 112 = .ok (.iload_n 2, 1) := by decide +kernel
theorem dX7_readAuthority_113 : decode cX7_readAuthority 113 = .ok (.iload 4, 2) := by decide +kernel
theorem dX7_readAuthority_115 : decode cX7_readAuthority 115 = .ok (.aload_n 1, 1) := by decide +kernel
theorem dX7_readAuthority_116 : decode cX7_readAuthority 116 = .ok (.invokevirtual 152, 3) := by decide +kernel
theorem dX7_readAuthority_119 : decode cX7_readAuthority 119 = .ok (.iload 4, 2) := by decide +kernel
theorem dX7_readAuthority_121 : decode cX7_readAuthority 121 = .ok (.iconst 1, 1) := by decide +kernel
theorem dX7_readAuthority_122 : decode cX7_readAuthority 122 = .ok (.iadd, 1) := by decide +kernel
theorem dX7_readAuthority_123 : decode cX7_readAuthority 123 = .ok (.istore_n 2, 1) := by decide +kernel
theorem dX7_readAuthority_124 : decode cX7_readAuthority 124 = .ok (.aload_n 0, 1) := by decide +kernel
theorem dX7_readAuthority_125 : decode cX7_readAuthority 125 = .ok (.iload_n 2, 1) := by decide +kernel
theorem dX7_readAuthority_126 : decode cX7_readAuthority 126 = .ok (.putfield 22, 3) := by decide +kernel
theorem dX7_readAuthority_129 : decode cX7_readAuthority 129 = .ok (.aload_n 0, 1) := by decide +kernel
theorem dX7_readAuthority_130 : decode cX7_readAuthority 130 = .ok (.aload_n 0, 1) := by decide +kernel
theorem dX7_readAuthority_131 : decode cX7_readAuthority 131 = .ok (.iload_n 2, 1) := by decide +kernel
theorem dX7_readAuthority_132 : decode cX7_readAuthority 132 = .ok (.iload_n 3, 1) := by decide +kernel
theorem dX7_readAuthority_133 : decode cX7_readAuthority 133 = .ok (.invokevirtual 156, 3) := by decide +kernel
theorem dX7_readAuthority_136 : decode cX7_readAuthority 136 = .ok (.putfield 25, 3) := by decide +kernel
theorem dX7_readAuthority_139 : decode cX7_readAuthority 139 = .ok (.aload_n 0, 1) := by decide +kernel
theorem dX7_readAuthority_140 : decode cX7_readAuthority 140 = .ok (.getfield 25, 3) := by decide +kernel
theorem dX7_readAuthority_143 : decode cX7_readAuthority 143 = .ok (.aload_n 0, 1) := by decide +kernel
theorem dX7_readAuthority_144 : decode cX7_readAuthority 144 = .ok (.getfield 22, 3) := by decide +kernel
theorem dX7_readAuthority_147 : decode cX7_readAuthority 147 = .ok (.if_icmp .ne 8, 3) := by decide +kernel
theorem dX7_readAuthority_150 : decode cX7_readAuthority 150 = .ok (.bipush (-13), 2) := by decide +kernel
theorem dX7_readAuthority_152 : decode cX7_readAuthority 152 = .ok (.goto 4, 3) := by decide +kernel
theorem dX7_readAuthority_155 : decode cX7_readAuthority 155 = .ok (.iconst 3, 1) := by decide +kernel
theorem dX7_readAuthority_156 : decode cX7_readAuthority 156 = .ok (.ireturn, 1) := by decide +kernel
theorem dX4_findGap_0 : decode cX4_findGap 0 = .ok (.iload_n 2, 1) := by decide +kernel
theorem dX4_findGap_1 : decode cX4_findGap 1 = .ok (.istore 4, 2) := by decide +kernel
theorem dX4_findGap_3 : decode cX4_findGap 3 = .ok (.iload 4, 2) := by decide +kernel
theorem dX4_findGap_5 : decode cX4_findGap 5 = .ok (.iconst 1, 1) := by decide +kernel
theorem dX4_findGap_6 : decode cX4_findGap 6 = .ok (.iadd, 1) := by decide +kernel
theorem dX4_findGap_7 : decode cX4_findGap 7 = .ok (.iload_n 3, 1) := by decide +kernel
theorem dX4_findGap_8 : decode cX4_findGap 8 = .ok (.if_icmp .ge 36, 3) := by decide +kernel
theorem dX4_findGap_11 : decode cX4_findGap 11 = .ok (.aload_n 1, 1) := by decide +kernel
theorem dX4_findGap_12 : decode cX4_findGap 12 = .ok (.iload 4, 2) := by decide +kernel
theorem dX4_findGap_14 : decode cX4_findGap 14 = .ok (.invokevirtual 26, 3) := by decide +kernel
theorem dX4_findGap_17 : decode cX4_findGap 17 = .ok (.bipush 58, 2) := by decide +kernel
theorem dX4_findGap_19 : decode cX4_findGap 19 = .ok (.if_icmp .ne 19, 3) := by decide +kernel
theorem dX4_findGap_22 : decode cX4_findGap 22 = .ok (.aload_n 1, 1) := by decide +kernel
theorem dX4_findGap_23 : decode cX4_findGap 23 = .ok (.iload 4, 2) := by decide +kernel
theorem dX4_findGap_25 : decode cX4_findGap 25 = .ok (.iconst 1, 1) := by decide +kernel
theorem dX4_findGap_26 : decode cX4_findGap 26 = .ok (.iadd, 1) := by decide +kernel
theorem dX4_findGap_27 : decode cX4_findGap 27 = .ok (.invokevirtual 26, 3) := by decide +kernel
theorem dX4_findGap_30 : decode cX4_findGap 30 = .ok (.bipush 58, 2) := by decide +kernel
theorem dX4_findGap_32 : decode cX4_findGap 32 = .ok (.if_icmp .ne 6, 3) := by decide +kernel
theorem dX4_findGap_35 : decode cX4_findGap 35 = .ok (.iload 4, 2) := by decide +kernel
theorem dX4_findGap_37 : decode cX4_findGap 37 = .ok (.ireturn, 1) := by decide +kernel
theorem dX4_findGap_38 : decode cX4_findGap 38 = .ok (.iinc 4 1, 3) := by decide +kernel
theorem dX4_findGap_41 : decode cX4_findGap 41 = .ok (.goto (-38), 3) := by decide +kernel
theorem dX4_findGap_44 : decode cX4_findGap 44 = .ok (.iload_n 3, 1) := by decide +kernel
theorem dX4_findGap_45 : decode cX4_findGap 45 = .ok (.ireturn, 1) := by decide +kernel
theorem dX4_addPiece_0 : decode cX4_addPiece 0 = .ok (.aload_n 0, 1) := by decide +kernel
theorem dX4_addPiece_1 : decode cX4_addPiece 1 = .ok (.getfield 22, 3) := by decide +kernel
theorem dX4_addPiece_4 : decode cX4_addPiece 4 = .ok (.aload_n 0, 1) := by decide +kernel
theorem dX4_addPiece_5 : decode cX4_addPiece 5 = .ok (.getfield 18, 3) := by decide +kernel
theorem dX4_addPiece_8 : decode cX4_addPiece 8 = .ok (.arraylength, 1) := by decide +kernel
theorem dX4_addPiece_9 : decode cX4_addPiece 9 = .ok (.if_icmp .lt 5, 3) := by decide +kernel
theorem dX4_addPiece_12 : decode cX4_addPiece 12 = .ok (.iconst 0, 1) := by decide +kernel
theorem dX4_addPiece_13 : decode cX4_addPiece 13 = .ok (.ireturn, 1) := by decide +kernel
theorem dX4_addPiece_14 : decode cX4_addPiece 14 = .ok (.aload_n 0, 1) := by decide +kernel
theorem dX4_addPiece_15 : decode cX4_addPiece 15 = .ok (.getfield 18, 3) := by decide +kernel
theorem dX4_addPiece_18 : decode cX4_addPiece 18 = .ok (.aload_n 0, 1) := by decide +kernel
theorem dX4_addPiece_19 : decode cX4_addPiece 19 = .ok (.getfield 22, 3) := by decide +kernel
theorem dX4_addPiece_22 : decode cX4_addPiece 22 = .ok (.iload_n 1, 1) := by decide +kernel
theorem dX4_addPiece_23 : decode cX4_addPiece 23 = .ok (.iastore, 1) := by decide +kernel
theorem dX4_addPiece_24 : decode cX4_addPiece 24 = .ok (.aload_n 0, 1) := by decide +kernel
theorem dX4_addPiece_25 : decode cX4_addPiece 25 = .ok (.dup, 1) := by decide +kernel
theorem dX4_addPiece_26 : decode cX4_addPiece 26 = .ok (.getfield 22, 3) := by decide +kernel
theorem dX4_addPiece_29 : decode cX4_addPiece 29 = .ok (.iconst 1, 1) := by decide +kernel
theorem dX4_addPiece_30 : decode cX4_addPiece 30 = .ok (.iadd, 1) := by decide +kernel
theorem dX4_addPiece_31 : decode cX4_addPiece 31 = .ok (.putfield 22, 3) := by decide +kernel
theorem dX4_addPiece_34 : decode cX4_addPiece 34 = .ok (.iconst 1, 1) := by decide +kernel
theorem dX4_addPiece_35 : decode cX4_addPiece 35 = .ok (.ireturn, 1) := by decide +kernel
theorem dX4_readPoints_0 : decode cX4_readPoints 0 = .ok (.iconst 0, 1) := by decide +kernel
theorem dX4_readPoints_1 : decode cX4_readPoints 1 = .ok (.istore 4, 2) := by decide +kernel
theorem dX4_readPoints_3 : decode cX4_readPoints 3 = .ok (.iconst (-1), 1) := by decide +kernel
theorem dX4_readPoints_4 : decode cX4_readPoints 4 = .ok (.istore 5, 2) := by decide +kernel
theorem dX4_readPoints_6 : decode cX4_readPoints 6 = .ok (.iconst 0, 1) := by decide +kernel
theorem dX4_readPoints_7 : decode cX4_readPoints 7 = .ok (.istore 6, 2) := by decide +kernel
theorem dX4_readPoints_9 : decode cX4_readPoints 9 = .ok (.iload_n 2, 1) := by decide +kernel
theorem dX4_readPoints_10 : decode cX4_readPoints 10 = .ok (.istore 7, 2) := by decide +kernel
theorem dX4_readPoints_12 : decode cX4_readPoints 12 = .ok (.iload 7, 2) := by decide +kernel
theorem dX4_readPoints_14 : decode cX4_readPoints 14 = .ok (.iload_n 3, 1) := by decide +kernel
theorem dX4_readPoints_15 : decode cX4_readPoints 15 = .ok (.if_icmp .ge 109, 3) := by decide +kernel
theorem dX4_readPoints_18 : decode cX4_readPoints 18 = .ok (.aload_n 1, 1) := by decide +kernel
theorem dX4_readPoints_19 : decode cX4_readPoints 19 = .ok (.iload 7, 2) := by decide +kernel
theorem dX4_readPoints_21 : decode cX4_readPoints 21 = .ok (.invokevirtual 26, 3) := by decide +kernel
theorem dX4_readPoints_24 : decode cX4_readPoints 24 = .ok (.istore 8, 2) := by decide +kernel
theorem dX4_readPoints_26 : decode cX4_readPoints 26 = .ok (.iload 8, 2) := by decide +kernel
theorem dX4_readPoints_28 : decode cX4_readPoints 28 = .ok (.bipush 46, 2) := by decide +kernel
theorem dX4_readPoints_30 : decode cX4_readPoints 30 = .ok (.if_icmp .ne 30, 3) := by decide +kernel
theorem dX4_readPoints_33 : decode cX4_readPoints 33 = .ok (.iload 5, 2) := by decide +kernel
theorem dX4_readPoints_35 : decode cX4_readPoints 35 = .ok (.iconst (-1), 1) := by decide +kernel
theorem dX4_readPoints_36 : decode cX4_readPoints 36 = .ok (.if_icmp .ne 5, 3) := by decide +kernel
theorem dX4_readPoints_39 : decode cX4_readPoints 39 = .ok (.iconst 0, 1) := by decide +kernel
theorem dX4_readPoints_40 : decode cX4_readPoints 40 = .ok (.ireturn, 1) := by decide +kernel
theorem dX4_readPoints_41 : decode cX4_readPoints 41 = .ok (.iload 4, 2) := by decide +kernel
theorem dX4_readPoints_43 : decode cX4_readPoints 43 = .ok (.bipush 8, 2) := by decide +kernel
theorem dX4_readPoints_45 : decode cX4_readPoints 45 = .ok (.ishl, 1) := by decide +kernel
theorem dX4_readPoints_46 : decode cX4_readPoints 46 = .ok (.iload 5, 2) := by decide +kernel
theorem dX4_readPoints_48 : decode cX4_readPoints 48 = .ok (.ior, 1) := by decide +kernel
theorem dX4_readPoints_49 : decode cX4_readPoints 49 = .ok (.istore 4, 2) := by decide +kernel
theorem dX4_readPoints_51 : decode cX4_readPoints 51 = .ok (.iconst (-1), 1) := by decide +kernel
theorem dX4_readPoints_52 : decode cX4_readPoints 52 = .ok (.istore 5, 2) := by decide +kernel
theorem dX4_readPoints_54 : decode cX4_readPoints 54 = .ok (.iinc 6 1, 3) := by decide +kernel
theorem dX4_readPoints_57 : decode cX4_readPoints 57 = .ok (.goto 45, 3) := by decide +kernel
theorem dX4_readPoints_60 : decode cX4_readPoints 60 = .ok (.iload 8, 2) := by decide +kernel
theorem dX4_readPoints_62 : decode cX4_readPoints 62 = .ok (.invokestatic 93, 3) := by decide +kernel
theorem dX4_readPoints_65 : decode cX4_readPoints 65 = .ok (.ifCond .eq 8, 3) := by decide +kernel
theorem dX4_readPoints_68 : decode cX4_readPoints 68 = .ok (.iload 5, 2) := by decide +kernel
theorem dX4_readPoints_70 : decode cX4_readPoints 70 = .ok (.ifCond .ne 5, 3) := by decide +kernel
theorem dX4_readPoints_73 : decode cX4_readPoints 73 = .ok (.iconst 0, 1) := by decide +kernel
theorem dX4_readPoints_74 : decode cX4_readPoints 74 = .ok (.ireturn, 1) := by decide +kernel
theorem dX4_readPoints_75 : decode cX4_readPoints 75 = .ok (.iload 5, 2) := by decide +kernel
theorem dX4_readPoints_77 : decode cX4_readPoints 77 = .ok (.iconst (-1), 1) := by decide +kernel
theorem dX4_readPoints_78 : decode cX4_readPoints 78 = .ok (.if_icmp .ne 11, 3) := by decide +kernel
theorem dX4_readPoints_81 : decode cX4_readPoints 81 = .ok (.iload 8, 2) := by decide +kernel
theorem dX4_readPoints_83 : decode cX4_readPoints 83 = .ok (.bipush 48, 2) := by decide +kernel
theorem dX4_readPoints_85 : decode cX4_readPoints 85 = .ok (.isub, 1) := by decide +kernel
theorem dX4_readPoints_86 : decode cX4_readPoints 86 = .ok (.goto 14, 3) := by decide +kernel
theorem dX4_readPoints_89 : decode cX4_readPoints 89 = .ok (.bipush 10, 2) := by decide +kernel
theorem dX4_readPoints_91 : decode cX4_readPoints 91 = .ok (.iload 5, 2) := by decide +kernel
theorem dX4_readPoints_93 : decode cX4_readPoints 93 = .ok (.imul, 1) := by decide +kernel
theorem dX4_readPoints_94 : decode cX4_readPoints 94 = .ok (.iload 8, 2) := by decide +kernel
theorem dX4_readPoints_96 : decode cX4_readPoints 96 = .ok (.iadd, 1) := by decide +kernel
theorem dX4_readPoints_97 : decode cX4_readPoints 97 = .ok (.bipush 48, 2) := by decide +kernel
theorem dX4_readPoints_99 : decode cX4_readPoints 99 = .ok (.isub, 1) := by decide +kernel
theorem dX4_readPoints_100 : decode cX4_readPoints 100 = .ok (.istore 5, 2) := by decide +kernel
theorem dX4_readPoints_102 : decode cX4_readPoints 102 = .ok (.iload 5, 2) := by decide +kernel
theorem dX4_readPoints_104 : decode cX4_readPoints 104 = .ok (.sipush 255, 3) := by decide +kernel
theorem dX4_readPoints_107 : decode cX4_readPoints 107 = .ok (.if_icmp .gt 9, 3) := by decide +kernel
theorem dX4_readPoints_110 : decode cX4_readPoints 110 = .ok (.iload 6, 2) := by decide +kernel
theorem dX4_readPoints_112 : decode cX4_readPoints 112 = .ok (.iconst 3, 1) := by decide +kernel
theorem dX4_readPoints_113 : decode cX4_readPoints 113 = .ok (.if_icmp .le 5, 3) := by decide +kernel
theorem dX4_readPoints_116 : decode cX4_readPoints 116 = .ok (.iconst 0, 1) := by decide +kernel
theorem dX4_readPoints_117 : decode cX4_readPoints 117 = .ok (.ireturn, 1) := by decide +kernel
theorem dX4_readPoints_118 : decode cX4_readPoints 118 = .ok (.iinc 7 1, 3) := by decide +kernel
theorem dX4_readPoints_121 : decode cX4_readPoints 121 = .ok (.goto (-109), 3) := by decide +kernel
theorem dX4_readPoints_124 : decode cX4_readPoints 124 = .ok (.iload 5, 2) := by decide +kernel
theorem dX4_readPoints_126 : decode cX4_readPoints 126 = .ok (.iconst (-1), 1) := by decide +kernel
theorem dX4_readPoints_127 : decode cX4_readPoints 127 = .ok (.if_icmp .eq 9, 3) := by decide +kernel
theorem dX4_readPoints_130 : decode cX4_readPoints 130 = .ok (.iload 6, 2) := by decide +kernel
theorem dX4_readPoints_132 : decode cX4_readPoints 132 = .ok (.iconst 3, 1) := by decide +kernel
theorem dX4_readPoints_133 : decode cX4_readPoints 133 = .ok (.if_icmp .eq 5, 3) := by decide +kernel
theorem dX4_readPoints_136 : decode cX4_readPoints 136 = .ok (.iconst 0, 1) := by decide +kernel
theorem dX4_readPoints_137 : decode cX4_readPoints 137 = .ok (.ireturn, 1) := by decide +kernel
theorem dX4_readPoints_138 : decode cX4_readPoints 138 = .ok (.iload 4, 2) := by decide +kernel
theorem dX4_readPoints_140 : decode cX4_readPoints 140 = .ok (.bipush 8, 2) := by decide +kernel
theorem dX4_readPoints_142 : decode cX4_readPoints 142 = .ok (.ishl, 1) := by decide +kernel
theorem dX4_readPoints_143 : decode cX4_readPoints 143 = .ok (.iload 5, 2) := by decide +kernel
theorem dX4_readPoints_145 : decode cX4_readPoints 145 = .ok (.ior, 1) := by decide +kernel
theorem dX4_readPoints_146 : decode cX4_readPoints 146 = .ok (.istore 4, 2) := by decide +kernel
theorem dX4_readPoints_148 : decode cX4_readPoints 148 = .ok (.aload_n 0, 1) := by decide +kernel
theorem dX4_readPoints_149 : decode cX4_readPoints 149 = .ok (.iload 4, 2) := by decide +kernel
theorem dX4_readPoints_151 : decode cX4_readPoints 151 = .ok (.bipush 16, 2) := by decide +kernel
theorem dX4_readPoints_153 : decode cX4_readPoints 153 = .ok (.iushr, 1) := by decide +kernel
theorem dX4_readPoints_154 : decode cX4_readPoints 154 = .ok (.invokevirtual 146, 3) := by decide +kernel
theorem dX4_readPoints_157 : decode cX4_readPoints 157 = .ok (.ifCond .eq 19, 3) := by decide +kernel
theorem dX4_readPoints_160 : decode cX4_readPoints 160 = .ok (.aload_n 0, 1) := by decide +kernel
theorem dX4_readPoints_161 : decode cX4_readPoints 161 = .ok (.iload 4, 2) := by decide +kernel
theorem dX4_readPoints_163 : decode cX4_readPoints 163 = .ok (.ldc 149, 2) := by decide +kernel
theorem dX4_readPoints_165 : decode cX4_readPoints 165 = .ok (.iand, 1) := by decide +kernel
theorem dX4_readPoints_166 : decode cX4_readPoints 166 = .ok (.invokevirtual 146, 3) := by decide +kernel
theorem dX4_readPoints_169 : decode cX4_readPoints 169 = .ok (.ifCond .eq 7, 3) := by decide +kernel
theorem dX4_readPoints_172 : decode cX4_readPoints 172 = .ok (.iconst 1, 1) := by decide +kernel
theorem dX4_readPoints_173 : decode cX4_readPoints 173 = .ok (.goto 4, 3) := by decide +kernel
theorem dX4_readPoints_176 : decode cX4_readPoints 176 = .ok (.iconst 0, 1) := by decide +kernel
theorem dX4_readPoints_177 : decode cX4_readPoints 177 = .ok (.ireturn, 1) := by decide +kernel
def f_X7_readRelative_79  (x1 : Option Nat) (x2 : Option Nat) : gM Int32 := gb (nn 5 x2) fun _ => gb (f_X6_takeQuery x2 x1) fun _ => gp 6
def f_X7_readRelative_40  (x1 : Option Nat) (x2 : Option Nat) (x3 : Int32) : gM Int32 := gb (nn 5 x2) fun _ => gb (f_X6_takeAuthority x2 x1) fun _ => gb (f_X1_isSlash x3) fun v1 => if v1 = 0 then (gb (nn 5 x2) fun _ => gb (f_X6_takePath x2 x1) fun _ => if x3 = 63 then (gp 6) else (if x3 = 35 then (f_X7_readRelative_79  x1 x2) else (if x3 = (-1) then (f_X7_readRelative_79  x1 x2) else (gb (nn 5 x2) fun _ => gb (f_X6_dropSegment x2) fun _ => gp 5)))) else (gp 4)
def f_X7_readRelative  (a0 : Option Nat) (a1 : Option Nat) (a2 : Option Nat) : gM Int32 := gb (rR 6 0 a0) fun v1 => gb (rI 6 1 a0) fun v2 => gb (nn 4 v1) fun _ => gb (f_X5_byteAt v1 v2) fun v3 => gb (f_X1_isSlash v3) fun v4 => if v4 = 0 then (f_X7_readRelative_40  a1 a2 v3) else (gb (rR 6 0 a0) fun v5 => gb (rI 6 1 a0) fun v6 => gb (nn 4 v5) fun _ => gb (f_X5_byteAt v5 (v6 + 1)) fun v7 => gb (f_X1_isSlash v7) fun v8 => if v8 = 0 then (f_X7_readRelative_40  a1 a2 v3) else (gp 2))
section S_X7_readRelative
variable {G : gX} {p : Program} {l : Launch} {e : Env} {s : State} {m : MethodId} {args : Array Value} {below : List Frame} {meth : Method} {c : Code} {mc ms : Nat} {y : Int32 × gS}
set_option maxHeartbeats 4000000 in
set_option maxRecDepth 100000 in
theorem w_X7_readRelative_79 (C : gC G p s m args meth c cX7_readRelative 4 RX7) (hr : meth.sig.returnType = (some .int))  (x1 : Option Nat) (x2 : Option Nat) : gJ G p l e 6 148 mc ms s m args below meth c gri y 4 79 [(1, va_rf x1), (2, va_rf x2)] [] (f_X7_readRelative_79  x1 x2) := by
  have hx := C.1
  have hb := C.2.1
  intro σ H locs cells slots ls hf I hl
  unfold f_X7_readRelative_79 at hf
  refine gw_aload_n hx hb dX7_readRelative_79 rfl (lv_at hl 1 rfl) ?_
  refine gw_aload_n hx hb dX7_readRelative_80 rfl (lv_at hl 0 rfl) ?_
  refine gw_callV (rest := []) C I hl.1 gcls_5 (m_X6_takeQuery G l x2 x1) gl_RX7_143 gn_X6_takeQuery ⟨Nat.le_of_ble_eq_true rfl, Nat.le_of_ble_eq_true rfl⟩ rfl (gc4 (Nat.le_of_ble_eq_true rfl)) rfl dX7_readRelative_81 hf (fun _ σ H locs cells slots I hf => ?_)
  refine W.eq (g2 := F0 m 84 ls []) rfl ?_
  refine lv_bipush (v := 6) hx hb dX7_readRelative_84 kc_b_6 ?_
  exact gw_iret C I hr dX7_readRelative_86 hf
set_option maxHeartbeats 4000000 in
set_option maxRecDepth 100000 in
theorem w_X7_readRelative_40 (C : gC G p s m args meth c cX7_readRelative 4 RX7) (hr : meth.sig.returnType = (some .int))  (x1 : Option Nat) (x2 : Option Nat) (x3 : Int32) : gJ G p l e 6 148 mc ms s m args below meth c gri y 4 40 [(1, va_rf x1), (2, va_rf x2), (3, .int x3)] [] (f_X7_readRelative_40  x1 x2 x3) := by
  have hx := C.1
  have hb := C.2.1
  intro σ H locs cells slots ls hf I hl
  unfold f_X7_readRelative_40 at hf
  refine gw_aload_n hx hb dX7_readRelative_40 rfl (lv_at hl 1 rfl) ?_
  refine gw_aload_n hx hb dX7_readRelative_41 rfl (lv_at hl 0 rfl) ?_
  refine gw_callV (rest := []) C I hl.1 gcls_5 (m_X6_takeAuthority G l x2 x1) gl_RX7_137 gn_X6_takeAuthority ⟨Nat.le_of_ble_eq_true rfl, Nat.le_of_ble_eq_true rfl⟩ rfl (gc4 (Nat.le_of_ble_eq_true rfl)) rfl dX7_readRelative_42 hf (fun _ σ H locs cells slots I hf => ?_)
  refine W.eq (g2 := F0 m 45 ls []) rfl ?_
  refine lv_iload_n hx hb dX7_readRelative_45 rfl (lv_at hl 2 rfl) ?_
  refine gw_callS (rest := []) C I hl.1 (m_X1_isSlash G l x3) gl_RX7_65 kw_115 ⟨Nat.le_of_ble_eq_true rfl, Nat.le_of_ble_eq_true rfl⟩ rfl (gc4 (Nat.le_of_ble_eq_true rfl)) rfl dX7_readRelative_46 hf (fun v1 σ H locs cells slots I hf => ?_)
  refine W.eq (g2 := F0 m 49 ls [.int v1]) rfl ?_
  refine lv_if_eq (tgt := 54) hx hb dX7_readRelative_49 (by decide) (fun hq => ?_) (fun hq => ?_)
  · have hf := gift hq hf
    refine gw_aload_n hx hb dX7_readRelative_54 rfl (lv_at hl 1 rfl) ?_
    refine gw_aload_n hx hb dX7_readRelative_55 rfl (lv_at hl 0 rfl) ?_
    refine gw_callV (rest := []) C I hl.1 gcls_5 (m_X6_takePath G l x2 x1) gl_RX7_140 gn_X6_takePath ⟨Nat.le_of_ble_eq_true rfl, Nat.le_of_ble_eq_true rfl⟩ rfl (gc4 (Nat.le_of_ble_eq_true rfl)) rfl dX7_readRelative_56 hf (fun _ σ H locs cells slots I hf => ?_)
    refine W.eq (g2 := F0 m 59 ls []) rfl ?_
    refine lv_iload_n hx hb dX7_readRelative_59 rfl (lv_at hl 2 rfl) ?_
    refine lv_bipush (v := 63) hx hb dX7_readRelative_60 kc_b_63 ?_
    refine lv_icmp_ne (tgt := 68) hx hb dX7_readRelative_62 (by decide) (fun hq => ?_) (fun hq => ?_)
    · have hf := giff hq hf
      refine lv_iload_n hx hb dX7_readRelative_68 rfl (lv_at hl 2 rfl) ?_
      refine lv_bipush (v := 35) hx hb dX7_readRelative_69 kc_b_35 ?_
      refine lv_icmp_eq (tgt := 79) hx hb dX7_readRelative_71 (by decide) (fun hq => ?_) (fun hq => ?_)
      · have hf := gift hq hf
        exact w_X7_readRelative_79 C hr  x1 x2 _ _ _ _ _ _ hf I (lv_sub hl [0, 1] rfl)
      · have hf := giff hq hf
        refine lv_iload_n hx hb dX7_readRelative_74 rfl (lv_at hl 2 rfl) ?_
        refine lv_iconst (v := (-1)) hx hb dX7_readRelative_75 kc_i_m1 ?_
        refine lv_icmp_ne (tgt := 87) hx hb dX7_readRelative_76 (by decide) (fun hq => ?_) (fun hq => ?_)
        · have hf := giff hq hf
          refine gw_aload_n hx hb dX7_readRelative_87 rfl (lv_at hl 1 rfl) ?_
          refine gw_callV (rest := []) C I hl.1 gcls_5 (m_X6_dropSegment G l x2) gl_RX7_146 gn_X6_dropSegment ⟨Nat.le_of_ble_eq_true rfl, Nat.le_of_ble_eq_true rfl⟩ rfl (gc4 (Nat.le_of_ble_eq_true rfl)) rfl dX7_readRelative_88 hf (fun _ σ H locs cells slots I hf => ?_)
          refine W.eq (g2 := F0 m 91 ls []) rfl ?_
          refine lv_iconst (v := 5) hx hb dX7_readRelative_91 kc_i_5 ?_
          exact gw_iret C I hr dX7_readRelative_92 hf
        · have hf := gift hq hf
          exact w_X7_readRelative_79 C hr  x1 x2 _ _ _ _ _ _ hf I (lv_sub hl [0, 1] rfl)
    · have hf := gift hq hf
      refine lv_bipush (v := 6) hx hb dX7_readRelative_65 kc_b_6 ?_
      exact gw_iret C I hr dX7_readRelative_67 hf
  · have hf := giff hq hf
    refine lv_iconst (v := 4) hx hb dX7_readRelative_52 kc_i_4 ?_
    exact gw_iret C I hr dX7_readRelative_53 hf
set_option maxHeartbeats 4000000 in
set_option maxRecDepth 100000 in
theorem w_X7_readRelative_0 (C : gC G p s m args meth c cX7_readRelative 4 RX7) (hr : meth.sig.returnType = (some .int))  (a0 : Option Nat) (a1 : Option Nat) (a2 : Option Nat) : gJ G p l e 6 148 mc ms s m args below meth c gri y 4 0 [(0, va_rf a0), (1, va_rf a1), (2, va_rf a2)] [] (f_X7_readRelative  a0 a1 a2) := by
  have hx := C.1
  have hb := C.2.1
  intro σ H locs cells slots ls hf I hl
  unfold f_X7_readRelative at hf
  refine gw_aload_n hx hb dX7_readRelative_0 rfl (lv_at hl 0 rfl) ?_
  refine gw_getr (k := 0) C I gcls_6 (by decide) rfl kw_27 dX7_readRelative_1 hf (fun v1 hf => ?_)
  refine gw_aload_n hx hb dX7_readRelative_4 rfl (lv_at hl 0 rfl) ?_
  refine gw_geti (k := 1) C I gcls_6 (by decide) rfl kw_28 dX7_readRelative_5 hf (fun v2 hf => ?_)
  refine gw_callV (rest := []) C I hl.1 gcls_4 (m_X5_byteAt G l v1 v2) gl_RX7_61 gn_X5_byteAt ⟨Nat.le_of_ble_eq_true rfl, Nat.le_of_ble_eq_true rfl⟩ rfl (gc4 (Nat.le_of_ble_eq_true rfl)) rfl dX7_readRelative_8 hf (fun v3 σ H locs cells slots I hf => ?_)
  refine W.eq (g2 := F0 m 11 ls [.int v3]) rfl ?_
  refine lv_istore_n (lv' := [(3, .int v3), (0, va_rf a0), (1, va_rf a1), (2, va_rf a2)]) hx hb dX7_readRelative_11 rfl hl (by decide) (by cases a2 <;> rfl) (fun ls hl => ?_)
  refine lv_iload_n hx hb dX7_readRelative_12 rfl (lv_at hl 0 rfl) ?_
  refine gw_callS (rest := []) C I hl.1 (m_X1_isSlash G l v3) gl_RX7_65 kw_115 ⟨Nat.le_of_ble_eq_true rfl, Nat.le_of_ble_eq_true rfl⟩ rfl (gc4 (Nat.le_of_ble_eq_true rfl)) rfl dX7_readRelative_13 hf (fun v4 σ H locs cells slots I hf => ?_)
  refine W.eq (g2 := F0 m 16 ls [.int v4]) rfl ?_
  refine lv_if_eq (tgt := 40) hx hb dX7_readRelative_16 (by decide) (fun hq => ?_) (fun hq => ?_)
  · have hf := gift hq hf
    exact w_X7_readRelative_40 C hr  a1 a2 v3 _ _ _ _ _ _ hf I (lv_sub hl [2, 3, 0] rfl)
  · have hf := giff hq hf
    refine gw_aload_n hx hb dX7_readRelative_19 rfl (lv_at hl 1 rfl) ?_
    refine gw_getr (k := 0) C I gcls_6 (by decide) rfl kw_27 dX7_readRelative_20 hf (fun v5 hf => ?_)
    refine gw_aload_n hx hb dX7_readRelative_23 rfl (lv_at hl 1 rfl) ?_
    refine gw_geti (k := 1) C I gcls_6 (by decide) rfl kw_28 dX7_readRelative_24 hf (fun v6 hf => ?_)
    refine lv_iconst (v := 1) hx hb dX7_readRelative_27 kc_i_1 ?_
    refine lv_iadd hx hb dX7_readRelative_28 ?_
    refine gw_callV (rest := []) C I hl.1 gcls_4 (m_X5_byteAt G l v5 (v6 + 1)) gl_RX7_61 gn_X5_byteAt ⟨Nat.le_of_ble_eq_true rfl, Nat.le_of_ble_eq_true rfl⟩ rfl (gc4 (Nat.le_of_ble_eq_true rfl)) rfl dX7_readRelative_29 hf (fun v7 σ H locs cells slots I hf => ?_)
    refine W.eq (g2 := F0 m 32 ls [.int v7]) rfl ?_
    refine gw_callS (rest := []) C I hl.1 (m_X1_isSlash G l v7) gl_RX7_65 kw_115 ⟨Nat.le_of_ble_eq_true rfl, Nat.le_of_ble_eq_true rfl⟩ rfl (gc4 (Nat.le_of_ble_eq_true rfl)) rfl dX7_readRelative_32 hf (fun v8 σ H locs cells slots I hf => ?_)
    refine W.eq (g2 := F0 m 35 ls [.int v8]) rfl ?_
    refine lv_if_eq (tgt := 40) hx hb dX7_readRelative_35 (by decide) (fun hq => ?_) (fun hq => ?_)
    · have hf := gift hq hf
      exact w_X7_readRelative_40 C hr  a1 a2 v3 _ _ _ _ _ _ hf I (lv_sub hl [2, 3, 0] rfl)
    · have hf := giff hq hf
      refine lv_iconst (v := 2) hx hb dX7_readRelative_38 kc_i_2 ?_
      exact gw_iret C I hr dX7_readRelative_39 hf
end S_X7_readRelative
theorem m_X7_readRelative (G : gX) (l : Launch) (a0 : Option Nat) (a1 : Option Nat) (a2 : Option Nat) : gMet G l yX7_readRelative cX7_readRelative 4 (some .int) 6 148 [va_rf a0, va_rf a1, va_rf a2] gri (f_X7_readRelative a0 a1 a2) := by
  refine gMet_of (by decide) ?_
  intro σ y p e s m below meth c mc ms hf C hr hnm I
  obtain ⟨ls, e1, hl⟩ := gentry m [va_rf a0, va_rf a1, va_rf a2] 4 [(0, va_rf a0), (1, va_rf a1), (2, va_rf a2)] (by simp [lg_sl, grc, gcat_i, gcat_l]) (by simp [lv_args, grc, gcat_i, gcat_l])
  rw [e1]
  exact w_X7_readRelative_0 C hr a0 a1 a2 _ _ _ _ _ _ hf I hl
def f_X1_isDivider  (a0 : Int32) : gM Int32 := if a0 = 47 then (gz 1) else (if a0 = 92 then (gz 1) else (if a0 = 63 then (gz 1) else (if a0 = 35 then (gz 1) else (gz 0))))
section S_X1_isDivider
variable {G : gX} {p : Program} {l : Launch} {e : Env} {s : State} {m : MethodId} {args : Array Value} {below : List Frame} {meth : Method} {c : Code} {mc ms : Nat} {y : Int32 × gS}
set_option maxHeartbeats 4000000 in
set_option maxRecDepth 100000 in
theorem w_X1_isDivider_0 (C : gC G p s m args meth c cX1_isDivider 1 RX1) (hr : meth.sig.returnType = (some .boolean))  (a0 : Int32) : gJ G p l e 0 0 mc ms s m args below meth c gri y 1 0 [(0, .int a0)] [] (f_X1_isDivider  a0) := by
  have hx := C.1
  have hb := C.2.1
  intro σ H locs cells slots ls hf I hl
  unfold f_X1_isDivider at hf
  refine lv_iload_n hx hb dX1_isDivider_0 rfl (lv_at hl 0 rfl) ?_
  refine lv_bipush (v := 47) hx hb dX1_isDivider_1 kc_b_47 ?_
  refine lv_icmp_eq (tgt := 24) hx hb dX1_isDivider_3 (by decide) (fun hq => ?_) (fun hq => ?_)
  · have hf := gift hq hf
    refine lv_iconst (v := 1) hx hb dX1_isDivider_24 kc_i_1 ?_
    refine lv_goto (tgt := 29) hx hb dX1_isDivider_25 (by decide) ?_
    exact gw_zret C I hr dX1_isDivider_29 hf
  · have hf := giff hq hf
    refine lv_iload_n hx hb dX1_isDivider_6 rfl (lv_at hl 0 rfl) ?_
    refine lv_bipush (v := 92) hx hb dX1_isDivider_7 kc_b_92 ?_
    refine lv_icmp_eq (tgt := 24) hx hb dX1_isDivider_9 (by decide) (fun hq => ?_) (fun hq => ?_)
    · have hf := gift hq hf
      refine lv_iconst (v := 1) hx hb dX1_isDivider_24 kc_i_1 ?_
      refine lv_goto (tgt := 29) hx hb dX1_isDivider_25 (by decide) ?_
      exact gw_zret C I hr dX1_isDivider_29 hf
    · have hf := giff hq hf
      refine lv_iload_n hx hb dX1_isDivider_12 rfl (lv_at hl 0 rfl) ?_
      refine lv_bipush (v := 63) hx hb dX1_isDivider_13 kc_b_63 ?_
      refine lv_icmp_eq (tgt := 24) hx hb dX1_isDivider_15 (by decide) (fun hq => ?_) (fun hq => ?_)
      · have hf := gift hq hf
        refine lv_iconst (v := 1) hx hb dX1_isDivider_24 kc_i_1 ?_
        refine lv_goto (tgt := 29) hx hb dX1_isDivider_25 (by decide) ?_
        exact gw_zret C I hr dX1_isDivider_29 hf
      · have hf := giff hq hf
        refine lv_iload_n hx hb dX1_isDivider_18 rfl (lv_at hl 0 rfl) ?_
        refine lv_bipush (v := 35) hx hb dX1_isDivider_19 kc_b_35 ?_
        refine lv_icmp_ne (tgt := 28) hx hb dX1_isDivider_21 (by decide) (fun hq => ?_) (fun hq => ?_)
        · have hf := giff hq hf
          refine lv_iconst (v := 0) hx hb dX1_isDivider_28 kc_i_0 ?_
          exact gw_zret C I hr dX1_isDivider_29 hf
        · have hf := gift hq hf
          refine lv_iconst (v := 1) hx hb dX1_isDivider_24 kc_i_1 ?_
          refine lv_goto (tgt := 29) hx hb dX1_isDivider_25 (by decide) ?_
          exact gw_zret C I hr dX1_isDivider_29 hf
end S_X1_isDivider
theorem m_X1_isDivider (G : gX) (l : Launch) (a0 : Int32) : gMet G l yX1_isDivider cX1_isDivider 1 (some .boolean) 0 0 [.int a0] gri (f_X1_isDivider a0) := by
  refine gMet_of (by decide) ?_
  intro σ y p e s m below meth c mc ms hf C hr hnm I
  obtain ⟨ls, e1, hl⟩ := gentry m [.int a0] 1 [(0, .int a0)] (by simp [lg_sl, grc, gcat_i, gcat_l]) (by simp [lv_args, grc, gcat_i, gcat_l])
  rw [e1]
  exact w_X1_isDivider_0 C hr a0 _ _ _ _ _ _ hf I hl
def f_J1_canEncode_9a6ad  (a0 : Int32) : gM Int32 := if a0 < 0 then (gz 0) else (if 255 < a0 then (gz 0) else (gz 1))
section S_J1_canEncode_9a6ad
variable {G : gX} {p : Program} {l : Launch} {e : Env} {s : State} {m : MethodId} {args : Array Value} {below : List Frame} {meth : Method} {c : Code} {mc ms : Nat} {y : Int32 × gS}
set_option maxHeartbeats 4000000 in
set_option maxRecDepth 100000 in
theorem w_J1_canEncode_9a6ad_0 (C : gC G p s m args meth c cJ1_canEncode_9a6ad 1 RJ1) (hr : meth.sig.returnType = (some .boolean))  (a0 : Int32) : gJ G p l e 0 0 mc ms s m args below meth c gri y 1 0 [(0, .int a0)] [] (f_J1_canEncode_9a6ad  a0) := by
  have hx := C.1
  have hb := C.2.1
  intro σ H locs cells slots ls hf I hl
  unfold f_J1_canEncode_9a6ad at hf
  refine lv_iload_n hx hb dJ1_canEncode_9a6ad_0 rfl (lv_at hl 0 rfl) ?_
  refine lv_if_lt (tgt := 15) hx hb dJ1_canEncode_9a6ad_1 (by decide) (fun hq => ?_) (fun hq => ?_)
  · have hf := gift hq hf
    refine lv_iconst (v := 0) hx hb dJ1_canEncode_9a6ad_15 kc_i_0 ?_
    exact gw_zret C I hr dJ1_canEncode_9a6ad_16 hf
  · have hf := giff hq hf
    refine lv_iload_n hx hb dJ1_canEncode_9a6ad_4 rfl (lv_at hl 0 rfl) ?_
    refine lv_sipush (v := 255) hx hb dJ1_canEncode_9a6ad_5 kc_s_255 ?_
    refine lv_icmp_gt (tgt := 15) hx hb dJ1_canEncode_9a6ad_8 (by decide) (fun hq => ?_) (fun hq => ?_)
    · have hf := gift hq hf
      refine lv_iconst (v := 0) hx hb dJ1_canEncode_9a6ad_15 kc_i_0 ?_
      exact gw_zret C I hr dJ1_canEncode_9a6ad_16 hf
    · have hf := giff hq hf
      refine lv_iconst (v := 1) hx hb dJ1_canEncode_9a6ad_11 kc_i_1 ?_
      refine lv_goto (tgt := 16) hx hb dJ1_canEncode_9a6ad_12 (by decide) ?_
      exact gw_zret C I hr dJ1_canEncode_9a6ad_16 hf
end S_J1_canEncode_9a6ad
theorem m_J1_canEncode_9a6ad (G : gX) (l : Launch) (a0 : Int32) : gMet G l yJ1_canEncode_9a6ad cJ1_canEncode_9a6ad 1 (some .boolean) 0 0 [.int a0] gri (f_J1_canEncode_9a6ad a0) := by
  refine gMet_of (by decide) ?_
  intro σ y p e s m below meth c mc ms hf C hr hnm I
  obtain ⟨ls, e1, hl⟩ := gentry m [.int a0] 1 [(0, .int a0)] (by simp [lg_sl, grc, gcat_i, gcat_l]) (by simp [lv_args, grc, gcat_i, gcat_l])
  rw [e1]
  exact w_J1_canEncode_9a6ad_0 C hr a0 _ _ _ _ _ _ hf I hl
def f_J1_indexOfChar_4cfef_7 (rec7 : Nat → Int32 → Int32 → Int32 → gM Int32) (x0 : Nat) (x3 : Int32) (x4 : Int32) (x5 : Int32) : gM Int32 := if x3 ≤ x5 then (gp (-1)) else (gb (tA x0 x5) fun v1 => if v1 = x4 then (gp x5) else (rec7 x0 x3 x4 (x5 + 1)))
def f_J1_indexOfChar_4cfef_L7  : Nat → Nat → Int32 → Int32 → Int32 → gM Int32
  | 0, _, _, _, _ => gno
  | n + 1, x0, x3, x4, x5 => f_J1_indexOfChar_4cfef_7  (f_J1_indexOfChar_4cfef_L7  n) x0 x3 x4 x5
def f_J1_indexOfChar_4cfef  (a0 : Nat) (a1 : Int32) (a2 : Int32) (a3 : Int32) : gM Int32 := f_J1_indexOfChar_4cfef_L7  gF a0 a3 a1.toInt8.toInt32 a2
section S_J1_indexOfChar_4cfef
variable {G : gX} {p : Program} {l : Launch} {e : Env} {s : State} {m : MethodId} {args : Array Value} {below : List Frame} {meth : Method} {c : Code} {mc ms : Nat} {y : Int32 × gS}
set_option maxHeartbeats 4000000 in
set_option maxRecDepth 100000 in
theorem w_J1_indexOfChar_4cfef_7 (C : gC G p s m args meth c cJ1_indexOfChar_4cfef 6 RJ1) (hr : meth.sig.returnType = (some .int)) {rec7 : Nat → Int32 → Int32 → Int32 → gM Int32} (hrec7 : ∀ (x0 : Nat) (x3 : Int32) (x4 : Int32) (x5 : Int32), gJ G p l e 0 0 mc ms s m args below meth c gri y 6 7 [(0, va_rf (some (gV G x0))), (3, .int x3), (4, .int x4), (5, .int x5)] [] (rec7 x0 x3 x4 x5)) (x0 : Nat) (x3 : Int32) (x4 : Int32) (x5 : Int32) : gJ G p l e 0 0 mc ms s m args below meth c gri y 6 7 [(0, va_rf (some (gV G x0))), (3, .int x3), (4, .int x4), (5, .int x5)] [] (f_J1_indexOfChar_4cfef_7 rec7 x0 x3 x4 x5) := by
  have hx := C.1
  have hb := C.2.1
  intro σ H locs cells slots ls hf I hl
  unfold f_J1_indexOfChar_4cfef_7 at hf
  refine lv_iload hx hb dJ1_indexOfChar_4cfef_7 (lv_at hl 3 rfl) ?_
  refine lv_iload_n hx hb dJ1_indexOfChar_4cfef_9 rfl (lv_at hl 1 rfl) ?_
  refine lv_icmp_ge (tgt := 31) hx hb dJ1_indexOfChar_4cfef_10 (by decide) (fun hq => ?_) (fun hq => ?_)
  · have hf := gift hq hf
    refine lv_iconst (v := (-1)) hx hb dJ1_indexOfChar_4cfef_31 kc_i_m1 ?_
    exact gw_iret C I hr dJ1_indexOfChar_4cfef_32 hf
  · have hf := giff hq hf
    refine gw_aload_n hx hb dJ1_indexOfChar_4cfef_13 rfl (lv_at hl 0 rfl) ?_
    refine lv_iload hx hb dJ1_indexOfChar_4cfef_14 (lv_at hl 3 rfl) ?_
    refine gw_tald C I dJ1_indexOfChar_4cfef_16 hf (fun v1 hf => ?_)
    refine lv_iload hx hb dJ1_indexOfChar_4cfef_17 (lv_at hl 2 rfl) ?_
    refine lv_icmp_ne (tgt := 25) hx hb dJ1_indexOfChar_4cfef_19 (by decide) (fun hq => ?_) (fun hq => ?_)
    · have hf := giff hq hf
      refine lv_iinc (v := x5 + 1) (lv' := [(5, .int (x5 + 1)), (0, va_rf (some (gV G x0))), (3, .int x3), (4, .int x4)]) hx hb dJ1_indexOfChar_4cfef_25 hl (k := 3) rfl rfl (by decide) rfl (fun ls hl => ?_)
      refine lv_goto (tgt := 7) hx hb dJ1_indexOfChar_4cfef_28 (by decide) ?_
      exact hrec7 x0 x3 x4 (x5 + 1) _ _ _ _ _ _ hf I (lv_sub hl [1, 2, 3, 0] rfl)
    · have hf := gift hq hf
      refine lv_iload hx hb dJ1_indexOfChar_4cfef_22 (lv_at hl 3 rfl) ?_
      exact gw_iret C I hr dJ1_indexOfChar_4cfef_24 hf
theorem w_J1_indexOfChar_4cfef_L7 (C : gC G p s m args meth c cJ1_indexOfChar_4cfef 6 RJ1) (hr : meth.sig.returnType = (some .int))  : ∀ (n : Nat) (x0 : Nat) (x3 : Int32) (x4 : Int32) (x5 : Int32), gJ G p l e 0 0 mc ms s m args below meth c gri y 6 7 [(0, va_rf (some (gV G x0))), (3, .int x3), (4, .int x4), (5, .int x5)] [] (f_J1_indexOfChar_4cfef_L7  n x0 x3 x4 x5) := by
  intro n
  induction n with
  | zero => intro x0 x3 x4 x5 σ H locs cells slots ls hf; exact (gno_some hf).elim
  | succ n ih => intro x0 x3 x4 x5; exact w_J1_indexOfChar_4cfef_7 C hr  ih x0 x3 x4 x5
set_option maxHeartbeats 4000000 in
set_option maxRecDepth 100000 in
theorem w_J1_indexOfChar_4cfef_0 (C : gC G p s m args meth c cJ1_indexOfChar_4cfef 6 RJ1) (hr : meth.sig.returnType = (some .int))  (a0 : Nat) (a1 : Int32) (a2 : Int32) (a3 : Int32) : gJ G p l e 0 0 mc ms s m args below meth c gri y 6 0 [(0, va_rf (some (gV G a0))), (1, .int a1), (2, .int a2), (3, .int a3)] [] (f_J1_indexOfChar_4cfef  a0 a1 a2 a3) := by
  have hx := C.1
  have hb := C.2.1
  intro σ H locs cells slots ls hf I hl
  unfold f_J1_indexOfChar_4cfef at hf
  refine lv_iload_n hx hb dJ1_indexOfChar_4cfef_0 rfl (lv_at hl 1 rfl) ?_
  refine lv_i2b hx hb dJ1_indexOfChar_4cfef_1 rfl ?_
  refine lv_istore (lv' := [(4, .int a1.toInt8.toInt32), (0, va_rf (some (gV G a0))), (1, .int a1), (2, .int a2), (3, .int a3)]) hx hb dJ1_indexOfChar_4cfef_2 hl (by decide) rfl (fun ls hl => ?_)
  refine lv_iload_n hx hb dJ1_indexOfChar_4cfef_4 rfl (lv_at hl 3 rfl) ?_
  refine lv_istore (lv' := [(5, .int a2), (4, .int a1.toInt8.toInt32), (0, va_rf (some (gV G a0))), (1, .int a1), (2, .int a2), (3, .int a3)]) hx hb dJ1_indexOfChar_4cfef_5 hl (by decide) rfl (fun ls hl => ?_)
  exact w_J1_indexOfChar_4cfef_L7 C hr  _ a0 a3 a1.toInt8.toInt32 a2 _ _ _ _ _ _ hf I (lv_sub hl [2, 5, 1, 0] rfl)
end S_J1_indexOfChar_4cfef
theorem m_J1_indexOfChar_4cfef (G : gX) (l : Launch) (a0 : Nat) (a1 : Int32) (a2 : Int32) (a3 : Int32) : gMet G l yJ1_indexOfChar_4cfef cJ1_indexOfChar_4cfef 6 (some .int) 0 0 [va_rf (some (gV G a0)), .int a1, .int a2, .int a3] gri (f_J1_indexOfChar_4cfef a0 a1 a2 a3) := by
  refine gMet_of (by decide) ?_
  intro σ y p e s m below meth c mc ms hf C hr hnm I
  obtain ⟨ls, e1, hl⟩ := gentry m [va_rf (some (gV G a0)), .int a1, .int a2, .int a3] 6 [(0, va_rf (some (gV G a0))), (1, .int a1), (2, .int a2), (3, .int a3)] (by simp [lg_sl, grc, gcat_i, gcat_l]) (by simp [lv_args, grc, gcat_i, gcat_l])
  rw [e1]
  exact w_J1_indexOfChar_4cfef_0 C hr a0 a1 a2 a3 _ _ _ _ _ _ hf I hl
def f_J1_indexOf_4cfef  (a0 : Nat) (a1 : Int32) (a2 : Int32) (a3 : Int32) : gM Int32 := gb (f_J1_canEncode_9a6ad a1) fun v1 => if v1 = 0 then (gp (-1)) else (gb (tk a0) fun _ => if (if a2 < 0 then 0 else a2) < (if Int32.ofNat (gLen.getD a0 0) < a3 then Int32.ofNat (gLen.getD a0 0) else a3) then (gb (f_J1_indexOfChar_4cfef a0 a1 (if a2 < 0 then 0 else a2) (if Int32.ofNat (gLen.getD a0 0) < a3 then Int32.ofNat (gLen.getD a0 0) else a3)) fun v2 => gp v2) else (gp (-1)))
section S_J1_indexOf_4cfef
variable {G : gX} {p : Program} {l : Launch} {e : Env} {s : State} {m : MethodId} {args : Array Value} {below : List Frame} {meth : Method} {c : Code} {mc ms : Nat} {y : Int32 × gS}
set_option maxHeartbeats 4000000 in
set_option maxRecDepth 100000 in
theorem w_J1_indexOf_4cfef_0 (C : gC G p s m args meth c cJ1_indexOf_4cfef 4 RJ1) (hr : meth.sig.returnType = (some .int))  (a0 : Nat) (a1 : Int32) (a2 : Int32) (a3 : Int32) : gJ G p l e 1 25 mc ms s m args below meth c gri y 4 0 [(0, va_rf (some (gV G a0))), (1, .int a1), (2, .int a2), (3, .int a3)] [] (f_J1_indexOf_4cfef  a0 a1 a2 a3) := by
  have hx := C.1
  have hb := C.2.1
  intro σ H locs cells slots ls hf I hl
  unfold f_J1_indexOf_4cfef at hf
  refine lv_iload_n hx hb dJ1_indexOf_4cfef_0 rfl (lv_at hl 1 rfl) ?_
  refine gw_callS (rest := []) C I hl.1 (m_J1_canEncode_9a6ad G l a1) gl_RJ1_88 kw_116 ⟨Nat.le_of_ble_eq_true rfl, Nat.le_of_ble_eq_true rfl⟩ rfl (gc4 (Nat.le_of_ble_eq_true rfl)) rfl dJ1_indexOf_4cfef_1 hf (fun v1 σ H locs cells slots I hf => ?_)
  refine W.eq (g2 := F0 m 4 ls [.int v1]) rfl ?_
  refine lv_if_ne (tgt := 9) hx hb dJ1_indexOf_4cfef_4 (by decide) (fun hq => ?_) (fun hq => ?_)
  · have hf := giff hq hf
    refine lv_iload_n hx hb dJ1_indexOf_4cfef_9 rfl (lv_at hl 2 rfl) ?_
    refine lv_iconst (v := 0) hx hb dJ1_indexOf_4cfef_10 kc_i_0 ?_
    refine gw_mmax (rest := []) C I hl.1 ⟨kw_117, kw_118, kw_92, kw_119⟩ ⟨Nat.le_of_ble_eq_true rfl, Nat.le_of_ble_eq_true rfl⟩ (gc4 (Nat.le_of_ble_eq_true rfl)) dJ1_indexOf_4cfef_11 hf ?_
    refine lv_istore_n (lv' := [(2, .int (if a2 < 0 then 0 else a2)), (0, va_rf (some (gV G a0))), (1, .int a1), (3, .int a3)]) hx hb dJ1_indexOf_4cfef_14 rfl hl (by decide) rfl (fun ls hl => ?_)
    refine lv_iload_n hx hb dJ1_indexOf_4cfef_15 rfl (lv_at hl 3 rfl) ?_
    refine gw_aload_n hx hb dJ1_indexOf_4cfef_16 rfl (lv_at hl 1 rfl) ?_
    refine gw_tlen C I dJ1_indexOf_4cfef_17 hf (fun hf => ?_)
    refine gw_mmin (rest := []) C I hl.1 ⟨kw_120, kw_91, kw_92, kw_93⟩ ⟨Nat.le_of_ble_eq_true rfl, Nat.le_of_ble_eq_true rfl⟩ (gc4 (Nat.le_of_ble_eq_true rfl)) dJ1_indexOf_4cfef_18 hf ?_
    refine lv_istore_n (lv' := [(3, .int (if Int32.ofNat (gLen.getD a0 0) < a3 then Int32.ofNat (gLen.getD a0 0) else a3)), (2, .int (if a2 < 0 then 0 else a2)), (0, va_rf (some (gV G a0))), (1, .int a1)]) hx hb dJ1_indexOf_4cfef_21 rfl hl (by decide) rfl (fun ls hl => ?_)
    refine lv_iload_n hx hb dJ1_indexOf_4cfef_22 rfl (lv_at hl 1 rfl) ?_
    refine lv_iload_n hx hb dJ1_indexOf_4cfef_23 rfl (lv_at hl 0 rfl) ?_
    refine lv_icmp_lt (tgt := 29) hx hb dJ1_indexOf_4cfef_24 (by decide) (fun hq => ?_) (fun hq => ?_)
    · have hf := gift hq hf
      refine gw_aload_n hx hb dJ1_indexOf_4cfef_29 rfl (lv_at hl 2 rfl) ?_
      refine lv_iload_n hx hb dJ1_indexOf_4cfef_30 rfl (lv_at hl 3 rfl) ?_
      refine lv_iload_n hx hb dJ1_indexOf_4cfef_31 rfl (lv_at hl 1 rfl) ?_
      refine lv_iload_n hx hb dJ1_indexOf_4cfef_32 rfl (lv_at hl 0 rfl) ?_
      refine gw_callS (rest := []) C I hl.1 (m_J1_indexOfChar_4cfef G l a0 a1 (if a2 < 0 then 0 else a2) (if Int32.ofNat (gLen.getD a0 0) < a3 then Int32.ofNat (gLen.getD a0 0) else a3)) gl_RJ1_95 kw_121 ⟨Nat.le_of_ble_eq_true rfl, Nat.le_of_ble_eq_true rfl⟩ rfl (gc4 (Nat.le_of_ble_eq_true rfl)) rfl dJ1_indexOf_4cfef_33 hf (fun v2 σ H locs cells slots I hf => ?_)
      refine W.eq (g2 := F0 m 36 ls [.int v2]) rfl ?_
      exact gw_iret C I hr dJ1_indexOf_4cfef_36 hf
    · have hf := giff hq hf
      refine lv_iconst (v := (-1)) hx hb dJ1_indexOf_4cfef_27 kc_i_m1 ?_
      exact gw_iret C I hr dJ1_indexOf_4cfef_28 hf
  · have hf := gift hq hf
    refine lv_iconst (v := (-1)) hx hb dJ1_indexOf_4cfef_7 kc_i_m1 ?_
    exact gw_iret C I hr dJ1_indexOf_4cfef_8 hf
end S_J1_indexOf_4cfef
theorem m_J1_indexOf_4cfef (G : gX) (l : Launch) (a0 : Nat) (a1 : Int32) (a2 : Int32) (a3 : Int32) : gMet G l yJ1_indexOf_4cfef cJ1_indexOf_4cfef 4 (some .int) 1 25 [va_rf (some (gV G a0)), .int a1, .int a2, .int a3] gri (f_J1_indexOf_4cfef a0 a1 a2 a3) := by
  refine gMet_of (by decide) ?_
  intro σ y p e s m below meth c mc ms hf C hr hnm I
  obtain ⟨ls, e1, hl⟩ := gentry m [va_rf (some (gV G a0)), .int a1, .int a2, .int a3] 4 [(0, va_rf (some (gV G a0))), (1, .int a1), (2, .int a2), (3, .int a3)] (by simp [lg_sl, grc, gcat_i, gcat_l]) (by simp [lv_args, grc, gcat_i, gcat_l])
  rw [e1]
  exact w_J1_indexOf_4cfef_0 C hr a0 a1 a2 a3 _ _ _ _ _ _ hf I hl
def f_J0_indexOf_7cf53  (a0 : Nat) (a1 : Int32) (a2 : Int32) : gM Int32 := gb (tk a0) fun _ => gb (f_J0_isLatin1_aae02 a0) fun v1 => if v1 = 0 then (gno) else (gb (tk a0) fun _ => gb (tk a0) fun _ => gb (f_J0_length_8abf5 a0) fun v2 => gb (f_J1_indexOf_4cfef a0 a1 a2 v2) fun v3 => gp v3)
section S_J0_indexOf_7cf53
variable {G : gX} {p : Program} {l : Launch} {e : Env} {s : State} {m : MethodId} {args : Array Value} {below : List Frame} {meth : Method} {c : Code} {mc ms : Nat} {y : Int32 × gS}
set_option maxHeartbeats 4000000 in
set_option maxRecDepth 100000 in
theorem w_J0_indexOf_7cf53_0 (C : gC G p s m args meth c cJ0_indexOf_7cf53 3 RJ0) (hr : meth.sig.returnType = (some .int))  (a0 : Nat) (a1 : Int32) (a2 : Int32) : gJ G p l e 2 48 mc ms s m args below meth c gri y 3 0 [(0, va_rf (some (gK G a0))), (1, .int a1), (2, .int a2)] [] (f_J0_indexOf_7cf53  a0 a1 a2) := by
  have hx := C.1
  have hb := C.2.1
  intro σ H locs cells slots ls hf I hl
  unfold f_J0_indexOf_7cf53 at hf
  refine gw_aload_n hx hb dJ0_indexOf_7cf53_0 rfl (lv_at hl 0 rfl) ?_
  refine gw_callT (rest := []) C I hl.1 (m_J0_isLatin1_aae02 G l a0) gl_RJ0_492 gn_J0_isLatin1_aae02 ⟨Nat.le_of_ble_eq_true rfl, Nat.le_of_ble_eq_true rfl⟩ rfl (gc4 (Nat.le_of_ble_eq_true rfl)) rfl dJ0_indexOf_7cf53_1 hf (fun v1 σ H locs cells slots I hf => ?_)
  refine W.eq (g2 := F0 m 4 ls [.int v1]) rfl ?_
  refine lv_if_eq (tgt := 23) hx hb dJ0_indexOf_7cf53_4 (by decide) (fun hq => ?_) (fun hq => ?_)
  · have hf := gift hq hf
    exact (gno_some hf).elim
  · have hf := giff hq hf
    refine gw_aload_n hx hb dJ0_indexOf_7cf53_7 rfl (lv_at hl 0 rfl) ?_
    refine gw_tval C I kw_106 dJ0_indexOf_7cf53_8 hf (fun hf => ?_)
    refine lv_iload_n hx hb dJ0_indexOf_7cf53_11 rfl (lv_at hl 1 rfl) ?_
    refine lv_iload_n hx hb dJ0_indexOf_7cf53_12 rfl (lv_at hl 2 rfl) ?_
    refine gw_aload_n hx hb dJ0_indexOf_7cf53_13 rfl (lv_at hl 0 rfl) ?_
    refine gw_callT (rest := [.int a2, .int a1, va_rf (some (gV G a0))]) C I hl.1 (m_J0_length_8abf5 G l a0) gl_RJ0_505 gn_J0_length_8abf5 ⟨Nat.le_of_ble_eq_true rfl, Nat.le_of_ble_eq_true rfl⟩ rfl (gc4 (Nat.le_of_ble_eq_true rfl)) rfl dJ0_indexOf_7cf53_14 hf (fun v2 σ H locs cells slots I hf => ?_)
    refine W.eq (g2 := F0 m 17 ls [.int v2, .int a2, .int a1, va_rf (some (gV G a0))]) rfl ?_
    refine gw_callS (rest := []) C I hl.1 (m_J1_indexOf_4cfef G l a0 a1 a2 v2) gl_RJ0_637 kw_122 ⟨Nat.le_of_ble_eq_true rfl, Nat.le_of_ble_eq_true rfl⟩ rfl (gc4 (Nat.le_of_ble_eq_true rfl)) rfl dJ0_indexOf_7cf53_17 hf (fun v3 σ H locs cells slots I hf => ?_)
    refine W.eq (g2 := F0 m 20 ls [.int v3]) rfl ?_
    refine lv_goto (tgt := 36) hx hb dJ0_indexOf_7cf53_20 (by decide) ?_
    exact gw_iret C I hr dJ0_indexOf_7cf53_36 hf
end S_J0_indexOf_7cf53
theorem m_J0_indexOf_7cf53 (G : gX) (l : Launch) (a0 : Nat) (a1 : Int32) (a2 : Int32) : gMet G l yJ0_indexOf_7cf53 cJ0_indexOf_7cf53 3 (some .int) 2 48 [va_rf (some (gK G a0)), .int a1, .int a2] gri (f_J0_indexOf_7cf53 a0 a1 a2) := by
  refine gMet_of (by decide) ?_
  intro σ y p e s m below meth c mc ms hf C hr hnm I
  obtain ⟨ls, e1, hl⟩ := gentry m [va_rf (some (gK G a0)), .int a1, .int a2] 3 [(0, va_rf (some (gK G a0))), (1, .int a1), (2, .int a2)] (by simp [lg_sl, grc, gcat_i, gcat_l]) (by simp [lv_args, grc, gcat_i, gcat_l])
  rw [e1]
  exact w_J0_indexOf_7cf53_0 C hr a0 a1 a2 _ _ _ _ _ _ hf I hl
def f_J0_indexOf_0f7a4  (a0 : Nat) (a1 : Int32) : gM Int32 := gb (tk a0) fun _ => gb (f_J0_indexOf_7cf53 a0 a1 0) fun v1 => gp v1
section S_J0_indexOf_0f7a4
variable {G : gX} {p : Program} {l : Launch} {e : Env} {s : State} {m : MethodId} {args : Array Value} {below : List Frame} {meth : Method} {c : Code} {mc ms : Nat} {y : Int32 × gS}
set_option maxHeartbeats 4000000 in
set_option maxRecDepth 100000 in
theorem w_J0_indexOf_0f7a4_0 (C : gC G p s m args meth c cJ0_indexOf_0f7a4 2 RJ0) (hr : meth.sig.returnType = (some .int))  (a0 : Nat) (a1 : Int32) : gJ G p l e 3 70 mc ms s m args below meth c gri y 2 0 [(0, va_rf (some (gK G a0))), (1, .int a1)] [] (f_J0_indexOf_0f7a4  a0 a1) := by
  have hx := C.1
  have hb := C.2.1
  intro σ H locs cells slots ls hf I hl
  unfold f_J0_indexOf_0f7a4 at hf
  refine gw_aload_n hx hb dJ0_indexOf_0f7a4_0 rfl (lv_at hl 0 rfl) ?_
  refine lv_iload_n hx hb dJ0_indexOf_0f7a4_1 rfl (lv_at hl 1 rfl) ?_
  refine lv_iconst (v := 0) hx hb dJ0_indexOf_0f7a4_2 kc_i_0 ?_
  refine gw_callT (rest := []) C I hl.1 (m_J0_indexOf_7cf53 G l a0 a1 0) gl_RJ0_633 gn_J0_indexOf_7cf53 ⟨Nat.le_of_ble_eq_true rfl, Nat.le_of_ble_eq_true rfl⟩ rfl (gc4 (Nat.le_of_ble_eq_true rfl)) rfl dJ0_indexOf_0f7a4_3 hf (fun v1 σ H locs cells slots I hf => ?_)
  refine W.eq (g2 := F0 m 6 ls [.int v1]) rfl ?_
  exact gw_iret C I hr dJ0_indexOf_0f7a4_6 hf
end S_J0_indexOf_0f7a4
theorem m_J0_indexOf_0f7a4 (G : gX) (l : Launch) (a0 : Nat) (a1 : Int32) : gMet G l yJ0_indexOf_0f7a4 cJ0_indexOf_0f7a4 2 (some .int) 3 70 [va_rf (some (gK G a0)), .int a1] gri (f_J0_indexOf_0f7a4 a0 a1) := by
  refine gMet_of (by decide) ?_
  intro σ y p e s m below meth c mc ms hf C hr hnm I
  obtain ⟨ls, e1, hl⟩ := gentry m [va_rf (some (gK G a0)), .int a1] 2 [(0, va_rf (some (gK G a0))), (1, .int a1)] (by simp [lg_sl, grc, gcat_i, gcat_l]) (by simp [lv_args, grc, gcat_i, gcat_l])
  rw [e1]
  exact w_J0_indexOf_0f7a4_0 C hr a0 a1 _ _ _ _ _ _ hf I hl
def f_X1_isToEscape  (a0 : Int32) (a1 : Nat) : gM Int32 := if a0 < 32 then (gz 1) else (if 126 < a0 then (gz 1) else (gb (tk a1) fun _ => gb (f_J0_indexOf_0f7a4 a1 ((a0.toUInt32 % 65536).toInt32)) fun v1 => if v1 < 0 then (gz 0) else (gz 1)))
section S_X1_isToEscape
variable {G : gX} {p : Program} {l : Launch} {e : Env} {s : State} {m : MethodId} {args : Array Value} {below : List Frame} {meth : Method} {c : Code} {mc ms : Nat} {y : Int32 × gS}
set_option maxHeartbeats 4000000 in
set_option maxRecDepth 100000 in
theorem w_X1_isToEscape_0 (C : gC G p s m args meth c cX1_isToEscape 2 RX1) (hr : meth.sig.returnType = (some .boolean))  (a0 : Int32) (a1 : Nat) : gJ G p l e 4 91 mc ms s m args below meth c gri y 2 0 [(0, .int a0), (1, va_rf (some (gK G a1)))] [] (f_X1_isToEscape  a0 a1) := by
  have hx := C.1
  have hb := C.2.1
  intro σ H locs cells slots ls hf I hl
  unfold f_X1_isToEscape at hf
  refine lv_iload_n hx hb dX1_isToEscape_0 rfl (lv_at hl 0 rfl) ?_
  refine lv_bipush (v := 32) hx hb dX1_isToEscape_1 kc_b_32 ?_
  refine lv_icmp_lt (tgt := 21) hx hb dX1_isToEscape_3 (by decide) (fun hq => ?_) (fun hq => ?_)
  · have hf := gift hq hf
    refine lv_iconst (v := 1) hx hb dX1_isToEscape_21 kc_i_1 ?_
    refine lv_goto (tgt := 26) hx hb dX1_isToEscape_22 (by decide) ?_
    exact gw_zret C I hr dX1_isToEscape_26 hf
  · have hf := giff hq hf
    refine lv_iload_n hx hb dX1_isToEscape_6 rfl (lv_at hl 0 rfl) ?_
    refine lv_bipush (v := 126) hx hb dX1_isToEscape_7 kc_b_126 ?_
    refine lv_icmp_gt (tgt := 21) hx hb dX1_isToEscape_9 (by decide) (fun hq => ?_) (fun hq => ?_)
    · have hf := gift hq hf
      refine lv_iconst (v := 1) hx hb dX1_isToEscape_21 kc_i_1 ?_
      refine lv_goto (tgt := 26) hx hb dX1_isToEscape_22 (by decide) ?_
      exact gw_zret C I hr dX1_isToEscape_26 hf
    · have hf := giff hq hf
      refine gw_aload_n hx hb dX1_isToEscape_12 rfl (lv_at hl 1 rfl) ?_
      refine lv_iload_n hx hb dX1_isToEscape_13 rfl (lv_at hl 0 rfl) ?_
      refine lv_i2c hx hb dX1_isToEscape_14 rfl ?_
      refine gw_callT (rest := []) C I hl.1 (m_J0_indexOf_0f7a4 G l a1 ((a0.toUInt32 % 65536).toInt32)) gl_RX1_9 gn_J0_indexOf_0f7a4 ⟨Nat.le_of_ble_eq_true rfl, Nat.le_of_ble_eq_true rfl⟩ rfl (gc4 (Nat.le_of_ble_eq_true rfl)) rfl dX1_isToEscape_15 hf (fun v1 σ H locs cells slots I hf => ?_)
      refine W.eq (g2 := F0 m 18 ls [.int v1]) rfl ?_
      refine lv_if_lt (tgt := 25) hx hb dX1_isToEscape_18 (by decide) (fun hq => ?_) (fun hq => ?_)
      · have hf := gift hq hf
        refine lv_iconst (v := 0) hx hb dX1_isToEscape_25 kc_i_0 ?_
        exact gw_zret C I hr dX1_isToEscape_26 hf
      · have hf := giff hq hf
        refine lv_iconst (v := 1) hx hb dX1_isToEscape_21 kc_i_1 ?_
        refine lv_goto (tgt := 26) hx hb dX1_isToEscape_22 (by decide) ?_
        exact gw_zret C I hr dX1_isToEscape_26 hf
end S_X1_isToEscape
theorem m_X1_isToEscape (G : gX) (l : Launch) (a0 : Int32) (a1 : Nat) : gMet G l yX1_isToEscape cX1_isToEscape 2 (some .boolean) 4 91 [.int a0, va_rf (some (gK G a1))] gri (f_X1_isToEscape a0 a1) := by
  refine gMet_of (by decide) ?_
  intro σ y p e s m below meth c mc ms hf C hr hnm I
  obtain ⟨ls, e1, hl⟩ := gentry m [.int a0, va_rf (some (gK G a1))] 2 [(0, .int a0), (1, va_rf (some (gK G a1)))] (by simp [lg_sl, grc, gcat_i, gcat_l]) (by simp [lv_args, grc, gcat_i, gcat_l])
  rw [e1]
  exact w_X1_isToEscape_0 C hr a0 a1 _ _ _ _ _ _ hf I hl
def f_X5_addEscaped  (a0 : Option Nat) (a1 : Int32) (a2 : Nat) : gM Unit := gb (f_X1_isToEscape a1 a2) fun v1 => if v1 = 0 then (gb (nn 4 a0) fun _ => gb (f_X5_add a0 a1) fun _ => gp ()) else (gb (nn 4 a0) fun _ => gb (f_X5_add a0 37) fun _ => gb (tk 7) fun _ => gb (f_J0_charAt_5068e 7 (((a1.toUInt32 >>> ((4 : Int32).toUInt32 &&& Int32.toUInt32 31)).toInt32) &&& 15)) fun v2 => gb (nn 4 a0) fun _ => gb (f_X5_add a0 v2) fun _ => gb (tk 7) fun _ => gb (f_J0_charAt_5068e 7 (a1 &&& 15)) fun v3 => gb (nn 4 a0) fun _ => gb (f_X5_add a0 v3) fun _ => gp ())
section S_X5_addEscaped
variable {G : gX} {p : Program} {l : Launch} {e : Env} {s : State} {m : MethodId} {args : Array Value} {below : List Frame} {meth : Method} {c : Code} {mc ms : Nat} {y : Unit × gS}
set_option maxHeartbeats 4000000 in
set_option maxRecDepth 100000 in
theorem w_X5_addEscaped_0 (C : gC G p s m args meth c cX5_addEscaped 3 RX5) (hr : meth.sig.returnType = none)  (a0 : Option Nat) (a1 : Int32) (a2 : Nat) : gJ G p l e 5 112 mc ms s m args below meth c grv y 3 0 [(0, va_rf a0), (1, .int a1), (2, va_rf (some (gK G a2)))] [] (f_X5_addEscaped  a0 a1 a2) := by
  have hx := C.1
  have hb := C.2.1
  intro σ H locs cells slots ls hf I hl
  unfold f_X5_addEscaped at hf
  refine lv_iload_n hx hb dX5_addEscaped_0 rfl (lv_at hl 1 rfl) ?_
  refine gw_aload_n hx hb dX5_addEscaped_1 rfl (lv_at hl 2 rfl) ?_
  refine gw_callS (rest := []) C I hl.1 (m_X1_isToEscape G l a1 a2) gl_RX5_42 kw_123 ⟨Nat.le_of_ble_eq_true rfl, Nat.le_of_ble_eq_true rfl⟩ rfl (gc4 (Nat.le_of_ble_eq_true rfl)) rfl dX5_addEscaped_2 hf (fun v1 σ H locs cells slots I hf => ?_)
  refine W.eq (g2 := F0 m 5 ls [.int v1]) rfl ?_
  refine lv_if_ne (tgt := 14) hx hb dX5_addEscaped_5 (by decide) (fun hq => ?_) (fun hq => ?_)
  · have hf := giff hq hf
    refine gw_aload_n hx hb dX5_addEscaped_14 rfl (lv_at hl 0 rfl) ?_
    refine lv_bipush (v := 37) hx hb dX5_addEscaped_15 kc_b_37 ?_
    refine gw_callV (rest := []) C I hl.1 gcls_4 (m_X5_add G l a0 37) gl_RX5_29 gn_X5_add ⟨Nat.le_of_ble_eq_true rfl, Nat.le_of_ble_eq_true rfl⟩ rfl (gc4 (Nat.le_of_ble_eq_true rfl)) rfl dX5_addEscaped_17 hf (fun _ σ H locs cells slots I hf => ?_)
    refine W.eq (g2 := F0 m 20 ls []) rfl ?_
    refine gw_aload_n hx hb dX5_addEscaped_20 rfl (lv_at hl 0 rfl) ?_
    refine gw_ldcs C 7 (tx := "0123456789ABCDEF") rfl dX5_addEscaped_21 ?_
    refine lv_iload_n hx hb dX5_addEscaped_23 rfl (lv_at hl 1 rfl) ?_
    refine lv_iconst (v := 4) hx hb dX5_addEscaped_24 kc_i_4 ?_
    refine lv_iushr hx hb dX5_addEscaped_25 rfl ?_
    refine lv_bipush (v := 15) hx hb dX5_addEscaped_26 kc_b_15 ?_
    refine lv_iand hx hb dX5_addEscaped_28 ?_
    refine gw_callT (rest := [va_rf a0]) C I hl.1 (m_J0_charAt_5068e G l 7 (((a1.toUInt32 >>> ((4 : Int32).toUInt32 &&& Int32.toUInt32 31)).toInt32) &&& 15)) gl_RX5_38 gn_J0_charAt_5068e ⟨Nat.le_of_ble_eq_true rfl, Nat.le_of_ble_eq_true rfl⟩ rfl (gc4 (Nat.le_of_ble_eq_true rfl)) rfl dX5_addEscaped_29 hf (fun v2 σ H locs cells slots I hf => ?_)
    refine W.eq (g2 := F0 m 32 ls [.int v2, va_rf a0]) rfl ?_
    refine gw_callV (rest := []) C I hl.1 gcls_4 (m_X5_add G l a0 v2) gl_RX5_29 gn_X5_add ⟨Nat.le_of_ble_eq_true rfl, Nat.le_of_ble_eq_true rfl⟩ rfl (gc4 (Nat.le_of_ble_eq_true rfl)) rfl dX5_addEscaped_32 hf (fun _ σ H locs cells slots I hf => ?_)
    refine W.eq (g2 := F0 m 35 ls []) rfl ?_
    refine gw_aload_n hx hb dX5_addEscaped_35 rfl (lv_at hl 0 rfl) ?_
    refine gw_ldcs C 7 (tx := "0123456789ABCDEF") rfl dX5_addEscaped_36 ?_
    refine lv_iload_n hx hb dX5_addEscaped_38 rfl (lv_at hl 1 rfl) ?_
    refine lv_bipush (v := 15) hx hb dX5_addEscaped_39 kc_b_15 ?_
    refine lv_iand hx hb dX5_addEscaped_41 ?_
    refine gw_callT (rest := [va_rf a0]) C I hl.1 (m_J0_charAt_5068e G l 7 (a1 &&& 15)) gl_RX5_38 gn_J0_charAt_5068e ⟨Nat.le_of_ble_eq_true rfl, Nat.le_of_ble_eq_true rfl⟩ rfl (gc4 (Nat.le_of_ble_eq_true rfl)) rfl dX5_addEscaped_42 hf (fun v3 σ H locs cells slots I hf => ?_)
    refine W.eq (g2 := F0 m 45 ls [.int v3, va_rf a0]) rfl ?_
    refine gw_callV (rest := []) C I hl.1 gcls_4 (m_X5_add G l a0 v3) gl_RX5_29 gn_X5_add ⟨Nat.le_of_ble_eq_true rfl, Nat.le_of_ble_eq_true rfl⟩ rfl (gc4 (Nat.le_of_ble_eq_true rfl)) rfl dX5_addEscaped_45 hf (fun _ σ H locs cells slots I hf => ?_)
    refine W.eq (g2 := F0 m 48 ls []) rfl ?_
    exact gw_vret C I hr dX5_addEscaped_48 hf
  · have hf := gift hq hf
    refine gw_aload_n hx hb dX5_addEscaped_8 rfl (lv_at hl 0 rfl) ?_
    refine lv_iload_n hx hb dX5_addEscaped_9 rfl (lv_at hl 1 rfl) ?_
    refine gw_callV (rest := []) C I hl.1 gcls_4 (m_X5_add G l a0 a1) gl_RX5_29 gn_X5_add ⟨Nat.le_of_ble_eq_true rfl, Nat.le_of_ble_eq_true rfl⟩ rfl (gc4 (Nat.le_of_ble_eq_true rfl)) rfl dX5_addEscaped_10 hf (fun _ σ H locs cells slots I hf => ?_)
    refine W.eq (g2 := F0 m 13 ls []) rfl ?_
    exact gw_vret C I hr dX5_addEscaped_13 hf
end S_X5_addEscaped
theorem m_X5_addEscaped (G : gX) (l : Launch) (a0 : Option Nat) (a1 : Int32) (a2 : Nat) : gMet G l yX5_addEscaped cX5_addEscaped 3 none 5 112 [va_rf a0, .int a1, va_rf (some (gK G a2))] grv (f_X5_addEscaped a0 a1 a2) := by
  refine gMet_of (by decide) ?_
  intro σ y p e s m below meth c mc ms hf C hr hnm I
  obtain ⟨ls, e1, hl⟩ := gentry m [va_rf a0, .int a1, va_rf (some (gK G a2))] 3 [(0, va_rf a0), (1, .int a1), (2, va_rf (some (gK G a2)))] (by simp [lg_sl, grc, gcat_i, gcat_l]) (by simp [lv_args, grc, gcat_i, gcat_l])
  rw [e1]
  exact w_X5_addEscaped_0 C hr a0 a1 a2 _ _ _ _ _ _ hf I hl
def f_X7_readUser_57 (rec6 : Option Nat → Int32 → Option Nat → Int32 → Int32 → gM Unit) (x0 : Option Nat) (x2 : Int32) (x3 : Option Nat) (x4 : Int32) (x5 : Int32) (x6 : Int32) (s0 : Option Nat) : gM Unit := gb (nn 4 s0) fun _ => gb (f_X5_addEscaped s0 x6 6) fun _ => rec6 x0 x2 x3 x4 (x5 + 1)
def f_X7_readUser_41 (rec6 : Option Nat → Int32 → Option Nat → Int32 → Int32 → gM Unit) (x0 : Option Nat) (x2 : Int32) (x3 : Option Nat) (x4 : Int32) (x5 : Int32) (x6 : Int32) : gM Unit := if x4 = 0 then (gb (rR 5 2 x3) fun v1 => f_X7_readUser_57 rec6 x0 x2 x3 x4 x5 x6 v1) else (gb (rR 5 3 x3) fun v2 => f_X7_readUser_57 rec6 x0 x2 x3 x4 x5 x6 v2)
def f_X7_readUser_6 (rec6 : Option Nat → Int32 → Option Nat → Int32 → Int32 → gM Unit) (x0 : Option Nat) (x2 : Int32) (x3 : Option Nat) (x4 : Int32) (x5 : Int32) : gM Unit := if x2 ≤ x5 then (gp ()) else (gb (rR 6 0 x0) fun v1 => gb (nn 4 v1) fun _ => gb (f_X5_byteAt v1 x5) fun v2 => if v2 = 58 then (if x4 = 0 then (rec6 x0 x2 x3 1 (x5 + 1)) else (f_X7_readUser_41 rec6 x0 x2 x3 x4 x5 v2)) else (f_X7_readUser_41 rec6 x0 x2 x3 x4 x5 v2))
def f_X7_readUser_L6  : Nat → Option Nat → Int32 → Option Nat → Int32 → Int32 → gM Unit
  | 0, _, _, _, _, _ => gno
  | n + 1, x0, x2, x3, x4, x5 => f_X7_readUser_6  (f_X7_readUser_L6  n) x0 x2 x3 x4 x5
def f_X7_readUser  (a0 : Option Nat) (a1 : Int32) (a2 : Int32) (a3 : Option Nat) : gM Unit := f_X7_readUser_L6  gF a0 a2 a3 0 a1
section S_X7_readUser
variable {G : gX} {p : Program} {l : Launch} {e : Env} {s : State} {m : MethodId} {args : Array Value} {below : List Frame} {meth : Method} {c : Code} {mc ms : Nat} {y : Unit × gS}
set_option maxHeartbeats 4000000 in
set_option maxRecDepth 100000 in
theorem w_X7_readUser_57 (C : gC G p s m args meth c cX7_readUser 8 RX7) (hr : meth.sig.returnType = none) {rec6 : Option Nat → Int32 → Option Nat → Int32 → Int32 → gM Unit} (hrec6 : ∀ (x0 : Option Nat) (x2 : Int32) (x3 : Option Nat) (x4 : Int32) (x5 : Int32), gJ G p l e 6 134 mc ms s m args below meth c grv y 8 6 [(0, va_rf x0), (2, .int x2), (3, va_rf x3), (4, .int x4), (5, .int x5)] [] (rec6 x0 x2 x3 x4 x5)) (x0 : Option Nat) (x2 : Int32) (x3 : Option Nat) (x4 : Int32) (x5 : Int32) (x6 : Int32) (s0 : Option Nat) : gJ G p l e 6 134 mc ms s m args below meth c grv y 8 57 [(0, va_rf x0), (2, .int x2), (3, va_rf x3), (4, .int x4), (5, .int x5), (6, .int x6)] [va_rf s0] (f_X7_readUser_57 rec6 x0 x2 x3 x4 x5 x6 s0) := by
  have hx := C.1
  have hb := C.2.1
  intro σ H locs cells slots ls hf I hl
  unfold f_X7_readUser_57 at hf
  refine gw_astore (lv' := [(7, va_rf s0), (0, va_rf x0), (2, .int x2), (3, va_rf x3), (4, .int x4), (5, .int x5), (6, .int x6)]) hx hb dX7_readUser_57 hl (by decide) rfl (fun ls hl => ?_)
  refine gw_aload hx hb dX7_readUser_59 (lv_at hl 0 rfl) ?_
  refine lv_iload hx hb dX7_readUser_61 (lv_at hl 6 rfl) ?_
  refine gw_ldcs C 6 (tx := " \"#<>?^`{}/:;=\x40[\\]|") rfl dX7_readUser_63 ?_
  refine gw_callV (rest := []) C I hl.1 gcls_4 (m_X5_addEscaped G l s0 x6 6) gl_RX7_168 gn_X5_addEscaped ⟨Nat.le_of_ble_eq_true rfl, Nat.le_of_ble_eq_true rfl⟩ rfl (gc4 (Nat.le_of_ble_eq_true rfl)) rfl dX7_readUser_65 hf (fun _ σ H locs cells slots I hf => ?_)
  refine W.eq (g2 := F0 m 68 ls []) rfl ?_
  refine lv_iinc (v := x5 + 1) (lv' := [(5, .int (x5 + 1)), (7, va_rf s0), (0, va_rf x0), (2, .int x2), (3, va_rf x3), (4, .int x4), (6, .int x6)]) hx hb dX7_readUser_68 hl (k := 5) rfl rfl (by decide) rfl (fun ls hl => ?_)
  refine lv_goto (tgt := 6) hx hb dX7_readUser_71 (by decide) ?_
  exact hrec6 x0 x2 x3 x4 (x5 + 1) _ _ _ _ _ _ hf I (lv_sub hl [2, 3, 4, 5, 0] rfl)
set_option maxHeartbeats 4000000 in
set_option maxRecDepth 100000 in
theorem w_X7_readUser_41 (C : gC G p s m args meth c cX7_readUser 8 RX7) (hr : meth.sig.returnType = none) {rec6 : Option Nat → Int32 → Option Nat → Int32 → Int32 → gM Unit} (hrec6 : ∀ (x0 : Option Nat) (x2 : Int32) (x3 : Option Nat) (x4 : Int32) (x5 : Int32), gJ G p l e 6 134 mc ms s m args below meth c grv y 8 6 [(0, va_rf x0), (2, .int x2), (3, va_rf x3), (4, .int x4), (5, .int x5)] [] (rec6 x0 x2 x3 x4 x5)) (x0 : Option Nat) (x2 : Int32) (x3 : Option Nat) (x4 : Int32) (x5 : Int32) (x6 : Int32) : gJ G p l e 6 134 mc ms s m args below meth c grv y 8 41 [(0, va_rf x0), (2, .int x2), (3, va_rf x3), (4, .int x4), (5, .int x5), (6, .int x6)] [] (f_X7_readUser_41 rec6 x0 x2 x3 x4 x5 x6) := by
  have hx := C.1
  have hb := C.2.1
  intro σ H locs cells slots ls hf I hl
  unfold f_X7_readUser_41 at hf
  refine lv_iload hx hb dX7_readUser_41 (lv_at hl 3 rfl) ?_
  refine lv_if_eq (tgt := 53) hx hb dX7_readUser_43 (by decide) (fun hq => ?_) (fun hq => ?_)
  · have hf := gift hq hf
    refine gw_aload_n hx hb dX7_readUser_53 rfl (lv_at hl 2 rfl) ?_
    refine gw_getr (k := 2) C I gcls_5 (by decide) rfl kw_124 dX7_readUser_54 hf (fun v1 hf => ?_)
    exact w_X7_readUser_57 C hr hrec6 x0 x2 x3 x4 x5 x6 v1 _ _ _ _ _ _ hf I (lv_sub hl [0, 1, 2, 3, 4, 5] rfl)
  · have hf := giff hq hf
    refine gw_aload_n hx hb dX7_readUser_46 rfl (lv_at hl 2 rfl) ?_
    refine gw_getr (k := 3) C I gcls_5 (by decide) rfl kw_125 dX7_readUser_47 hf (fun v2 hf => ?_)
    refine lv_goto (tgt := 57) hx hb dX7_readUser_50 (by decide) ?_
    exact w_X7_readUser_57 C hr hrec6 x0 x2 x3 x4 x5 x6 v2 _ _ _ _ _ _ hf I (lv_sub hl [0, 1, 2, 3, 4, 5] rfl)
set_option maxHeartbeats 4000000 in
set_option maxRecDepth 100000 in
theorem w_X7_readUser_6 (C : gC G p s m args meth c cX7_readUser 8 RX7) (hr : meth.sig.returnType = none) {rec6 : Option Nat → Int32 → Option Nat → Int32 → Int32 → gM Unit} (hrec6 : ∀ (x0 : Option Nat) (x2 : Int32) (x3 : Option Nat) (x4 : Int32) (x5 : Int32), gJ G p l e 6 134 mc ms s m args below meth c grv y 8 6 [(0, va_rf x0), (2, .int x2), (3, va_rf x3), (4, .int x4), (5, .int x5)] [] (rec6 x0 x2 x3 x4 x5)) (x0 : Option Nat) (x2 : Int32) (x3 : Option Nat) (x4 : Int32) (x5 : Int32) : gJ G p l e 6 134 mc ms s m args below meth c grv y 8 6 [(0, va_rf x0), (2, .int x2), (3, va_rf x3), (4, .int x4), (5, .int x5)] [] (f_X7_readUser_6 rec6 x0 x2 x3 x4 x5) := by
  have hx := C.1
  have hb := C.2.1
  intro σ H locs cells slots ls hf I hl
  unfold f_X7_readUser_6 at hf
  refine lv_iload hx hb dX7_readUser_6 (lv_at hl 4 rfl) ?_
  refine lv_iload_n hx hb dX7_readUser_8 rfl (lv_at hl 1 rfl) ?_
  refine lv_icmp_ge (tgt := 74) hx hb dX7_readUser_9 (by decide) (fun hq => ?_) (fun hq => ?_)
  · have hf := gift hq hf
    exact gw_vret C I hr dX7_readUser_74 hf
  · have hf := giff hq hf
    refine gw_aload_n hx hb dX7_readUser_12 rfl (lv_at hl 0 rfl) ?_
    refine gw_getr (k := 0) C I gcls_6 (by decide) rfl kw_27 dX7_readUser_13 hf (fun v1 hf => ?_)
    refine lv_iload hx hb dX7_readUser_16 (lv_at hl 4 rfl) ?_
    refine gw_callV (rest := []) C I hl.1 gcls_4 (m_X5_byteAt G l v1 x5) gl_RX7_61 gn_X5_byteAt ⟨Nat.le_of_ble_eq_true rfl, Nat.le_of_ble_eq_true rfl⟩ rfl (gc4 (Nat.le_of_ble_eq_true rfl)) rfl dX7_readUser_18 hf (fun v2 σ H locs cells slots I hf => ?_)
    refine W.eq (g2 := F0 m 21 ls [.int v2]) rfl ?_
    refine lv_istore (lv' := [(6, .int v2), (0, va_rf x0), (2, .int x2), (3, va_rf x3), (4, .int x4), (5, .int x5)]) hx hb dX7_readUser_21 hl (by decide) rfl (fun ls hl => ?_)
    refine lv_iload hx hb dX7_readUser_23 (lv_at hl 0 rfl) ?_
    refine lv_bipush (v := 58) hx hb dX7_readUser_25 kc_b_58 ?_
    refine lv_icmp_ne (tgt := 41) hx hb dX7_readUser_27 (by decide) (fun hq => ?_) (fun hq => ?_)
    · have hf := giff hq hf
      exact w_X7_readUser_41 C hr hrec6 x0 x2 x3 x4 x5 v2 _ _ _ _ _ _ hf I (lv_sub hl [1, 2, 3, 4, 5, 0] rfl)
    · have hf := gift hq hf
      refine lv_iload hx hb dX7_readUser_30 (lv_at hl 4 rfl) ?_
      refine lv_if_ne (tgt := 41) hx hb dX7_readUser_32 (by decide) (fun hq => ?_) (fun hq => ?_)
      · have hf := giff hq hf
        exact w_X7_readUser_41 C hr hrec6 x0 x2 x3 x4 x5 v2 _ _ _ _ _ _ hf I (lv_sub hl [1, 2, 3, 4, 5, 0] rfl)
      · have hf := gift hq hf
        refine lv_iconst (v := 1) hx hb dX7_readUser_35 kc_i_1 ?_
        refine lv_istore (lv' := [(4, .int 1), (6, .int v2), (0, va_rf x0), (2, .int x2), (3, va_rf x3), (5, .int x5)]) hx hb dX7_readUser_36 hl (by decide) (by cases x3 <;> rfl) (fun ls hl => ?_)
        refine lv_goto (tgt := 68) hx hb dX7_readUser_38 (by decide) ?_
        refine lv_iinc (v := x5 + 1) (lv' := [(5, .int (x5 + 1)), (4, .int 1), (6, .int v2), (0, va_rf x0), (2, .int x2), (3, va_rf x3)]) hx hb dX7_readUser_68 hl (k := 5) rfl rfl (by decide) rfl (fun ls hl => ?_)
        refine lv_goto (tgt := 6) hx hb dX7_readUser_71 (by decide) ?_
        exact hrec6 x0 x2 x3 1 (x5 + 1) _ _ _ _ _ _ hf I (lv_sub hl [3, 4, 5, 1, 0] rfl)
theorem w_X7_readUser_L6 (C : gC G p s m args meth c cX7_readUser 8 RX7) (hr : meth.sig.returnType = none)  : ∀ (n : Nat) (x0 : Option Nat) (x2 : Int32) (x3 : Option Nat) (x4 : Int32) (x5 : Int32), gJ G p l e 6 134 mc ms s m args below meth c grv y 8 6 [(0, va_rf x0), (2, .int x2), (3, va_rf x3), (4, .int x4), (5, .int x5)] [] (f_X7_readUser_L6  n x0 x2 x3 x4 x5) := by
  intro n
  induction n with
  | zero => intro x0 x2 x3 x4 x5 σ H locs cells slots ls hf; exact (gno_some hf).elim
  | succ n ih => intro x0 x2 x3 x4 x5; exact w_X7_readUser_6 C hr  ih x0 x2 x3 x4 x5
set_option maxHeartbeats 4000000 in
set_option maxRecDepth 100000 in
theorem w_X7_readUser_0 (C : gC G p s m args meth c cX7_readUser 8 RX7) (hr : meth.sig.returnType = none)  (a0 : Option Nat) (a1 : Int32) (a2 : Int32) (a3 : Option Nat) : gJ G p l e 6 134 mc ms s m args below meth c grv y 8 0 [(0, va_rf a0), (1, .int a1), (2, .int a2), (3, va_rf a3)] [] (f_X7_readUser  a0 a1 a2 a3) := by
  have hx := C.1
  have hb := C.2.1
  intro σ H locs cells slots ls hf I hl
  unfold f_X7_readUser at hf
  refine lv_iconst (v := 0) hx hb dX7_readUser_0 kc_i_0 ?_
  refine lv_istore (lv' := [(4, .int 0), (0, va_rf a0), (1, .int a1), (2, .int a2), (3, va_rf a3)]) hx hb dX7_readUser_1 hl (by decide) (by cases a3 <;> rfl) (fun ls hl => ?_)
  refine lv_iload_n hx hb dX7_readUser_3 rfl (lv_at hl 2 rfl) ?_
  refine lv_istore (lv' := [(5, .int a1), (4, .int 0), (0, va_rf a0), (1, .int a1), (2, .int a2), (3, va_rf a3)]) hx hb dX7_readUser_4 hl (by decide) rfl (fun ls hl => ?_)
  exact w_X7_readUser_L6 C hr  _ a0 a2 a3 0 a1 _ _ _ _ _ _ hf I (lv_sub hl [2, 4, 5, 1, 0] rfl)
end S_X7_readUser
theorem m_X7_readUser (G : gX) (l : Launch) (a0 : Option Nat) (a1 : Int32) (a2 : Int32) (a3 : Option Nat) : gMet G l yX7_readUser cX7_readUser 8 none 6 134 [va_rf a0, .int a1, .int a2, va_rf a3] grv (f_X7_readUser a0 a1 a2 a3) := by
  refine gMet_of (by decide) ?_
  intro σ y p e s m below meth c mc ms hf C hr hnm I
  obtain ⟨ls, e1, hl⟩ := gentry m [va_rf a0, .int a1, .int a2, va_rf a3] 8 [(0, va_rf a0), (1, .int a1), (2, .int a2), (3, va_rf a3)] (by simp [lg_sl, grc, gcat_i, gcat_l]) (by simp [lv_args, grc, gcat_i, gcat_l])
  rw [e1]
  exact w_X7_readUser_0 C hr a0 a1 a2 a3 _ _ _ _ _ _ hf I hl
def f_X7_hostEndFrom_36 (rec5 : Option Nat → Int32 → Int32 → Int32 → gM Int32) (x0 : Option Nat) (x2 : Int32) (x3 : Int32) (x4 : Int32) (x5 : Int32) : gM Int32 := if x5 = 91 then (rec5 x0 x2 1 (x4 + 1)) else (if x3 = 0 then (rec5 x0 x2 0 (x4 + 1)) else (if x5 = 93 then (rec5 x0 x2 0 (x4 + 1)) else (rec5 x0 x2 1 (x4 + 1))))
def f_X7_hostEndFrom_5 (rec5 : Option Nat → Int32 → Int32 → Int32 → gM Int32) (x0 : Option Nat) (x2 : Int32) (x3 : Int32) (x4 : Int32) : gM Int32 := if x2 ≤ x4 then (gp x2) else (gb (rR 6 0 x0) fun v1 => gb (nn 4 v1) fun _ => gb (f_X5_byteAt v1 x4) fun v2 => if v2 = 58 then (if x3 = 0 then (gp x4) else (f_X7_hostEndFrom_36 rec5 x0 x2 x3 x4 v2)) else (f_X7_hostEndFrom_36 rec5 x0 x2 x3 x4 v2))
def f_X7_hostEndFrom_L5  : Nat → Option Nat → Int32 → Int32 → Int32 → gM Int32
  | 0, _, _, _, _ => gno
  | n + 1, x0, x2, x3, x4 => f_X7_hostEndFrom_5  (f_X7_hostEndFrom_L5  n) x0 x2 x3 x4
def f_X7_hostEndFrom  (a0 : Option Nat) (a1 : Int32) (a2 : Int32) : gM Int32 := f_X7_hostEndFrom_L5  gF a0 a2 0 a1
section S_X7_hostEndFrom
variable {G : gX} {p : Program} {l : Launch} {e : Env} {s : State} {m : MethodId} {args : Array Value} {below : List Frame} {meth : Method} {c : Code} {mc ms : Nat} {y : Int32 × gS}
set_option maxHeartbeats 4000000 in
set_option maxRecDepth 100000 in
theorem w_X7_hostEndFrom_36 (C : gC G p s m args meth c cX7_hostEndFrom 6 RX7) (hr : meth.sig.returnType = (some .int)) {rec5 : Option Nat → Int32 → Int32 → Int32 → gM Int32} (hrec5 : ∀ (x0 : Option Nat) (x2 : Int32) (x3 : Int32) (x4 : Int32), gJ G p l e 1 21 mc ms s m args below meth c gri y 6 5 [(0, va_rf x0), (2, .int x2), (3, .int x3), (4, .int x4)] [] (rec5 x0 x2 x3 x4)) (x0 : Option Nat) (x2 : Int32) (x3 : Int32) (x4 : Int32) (x5 : Int32) : gJ G p l e 1 21 mc ms s m args below meth c gri y 6 36 [(0, va_rf x0), (2, .int x2), (3, .int x3), (4, .int x4), (5, .int x5)] [] (f_X7_hostEndFrom_36 rec5 x0 x2 x3 x4 x5) := by
  have hx := C.1
  have hb := C.2.1
  intro σ H locs cells slots ls hf I hl
  unfold f_X7_hostEndFrom_36 at hf
  refine lv_iload hx hb dX7_hostEndFrom_36 (lv_at hl 4 rfl) ?_
  refine lv_bipush (v := 91) hx hb dX7_hostEndFrom_38 kc_b_91 ?_
  refine lv_icmp_eq (tgt := 54) hx hb dX7_hostEndFrom_40 (by decide) (fun hq => ?_) (fun hq => ?_)
  · have hf := gift hq hf
    refine lv_iconst (v := 1) hx hb dX7_hostEndFrom_54 kc_i_1 ?_
    refine lv_goto (tgt := 59) hx hb dX7_hostEndFrom_55 (by decide) ?_
    refine lv_istore_n (lv' := [(3, .int 1), (0, va_rf x0), (2, .int x2), (4, .int x4), (5, .int x5)]) hx hb dX7_hostEndFrom_59 rfl hl (by decide) rfl (fun ls hl => ?_)
    refine lv_iinc (v := x4 + 1) (lv' := [(4, .int (x4 + 1)), (3, .int 1), (0, va_rf x0), (2, .int x2), (5, .int x5)]) hx hb dX7_hostEndFrom_60 hl (k := 3) rfl rfl (by decide) rfl (fun ls hl => ?_)
    refine lv_goto (tgt := 5) hx hb dX7_hostEndFrom_63 (by decide) ?_
    exact hrec5 x0 x2 1 (x4 + 1) _ _ _ _ _ _ hf I (lv_sub hl [2, 3, 1, 0] rfl)
  · have hf := giff hq hf
    refine lv_iload_n hx hb dX7_hostEndFrom_43 rfl (lv_at hl 2 rfl) ?_
    refine lv_if_eq (tgt := 58) hx hb dX7_hostEndFrom_44 (by decide) (fun hq => ?_) (fun hq => ?_)
    · have hf := gift hq hf
      refine lv_iconst (v := 0) hx hb dX7_hostEndFrom_58 kc_i_0 ?_
      refine lv_istore_n (lv' := [(3, .int 0), (0, va_rf x0), (2, .int x2), (4, .int x4), (5, .int x5)]) hx hb dX7_hostEndFrom_59 rfl hl (by decide) rfl (fun ls hl => ?_)
      refine lv_iinc (v := x4 + 1) (lv' := [(4, .int (x4 + 1)), (3, .int 0), (0, va_rf x0), (2, .int x2), (5, .int x5)]) hx hb dX7_hostEndFrom_60 hl (k := 3) rfl rfl (by decide) rfl (fun ls hl => ?_)
      refine lv_goto (tgt := 5) hx hb dX7_hostEndFrom_63 (by decide) ?_
      exact hrec5 x0 x2 0 (x4 + 1) _ _ _ _ _ _ hf I (lv_sub hl [2, 3, 1, 0] rfl)
    · have hf := giff hq hf
      refine lv_iload hx hb dX7_hostEndFrom_47 (lv_at hl 4 rfl) ?_
      refine lv_bipush (v := 93) hx hb dX7_hostEndFrom_49 kc_b_93 ?_
      refine lv_icmp_eq (tgt := 58) hx hb dX7_hostEndFrom_51 (by decide) (fun hq => ?_) (fun hq => ?_)
      · have hf := gift hq hf
        refine lv_iconst (v := 0) hx hb dX7_hostEndFrom_58 kc_i_0 ?_
        refine lv_istore_n (lv' := [(3, .int 0), (0, va_rf x0), (2, .int x2), (4, .int x4), (5, .int x5)]) hx hb dX7_hostEndFrom_59 rfl hl (by decide) rfl (fun ls hl => ?_)
        refine lv_iinc (v := x4 + 1) (lv' := [(4, .int (x4 + 1)), (3, .int 0), (0, va_rf x0), (2, .int x2), (5, .int x5)]) hx hb dX7_hostEndFrom_60 hl (k := 3) rfl rfl (by decide) rfl (fun ls hl => ?_)
        refine lv_goto (tgt := 5) hx hb dX7_hostEndFrom_63 (by decide) ?_
        exact hrec5 x0 x2 0 (x4 + 1) _ _ _ _ _ _ hf I (lv_sub hl [2, 3, 1, 0] rfl)
      · have hf := giff hq hf
        refine lv_iconst (v := 1) hx hb dX7_hostEndFrom_54 kc_i_1 ?_
        refine lv_goto (tgt := 59) hx hb dX7_hostEndFrom_55 (by decide) ?_
        refine lv_istore_n (lv' := [(3, .int 1), (0, va_rf x0), (2, .int x2), (4, .int x4), (5, .int x5)]) hx hb dX7_hostEndFrom_59 rfl hl (by decide) rfl (fun ls hl => ?_)
        refine lv_iinc (v := x4 + 1) (lv' := [(4, .int (x4 + 1)), (3, .int 1), (0, va_rf x0), (2, .int x2), (5, .int x5)]) hx hb dX7_hostEndFrom_60 hl (k := 3) rfl rfl (by decide) rfl (fun ls hl => ?_)
        refine lv_goto (tgt := 5) hx hb dX7_hostEndFrom_63 (by decide) ?_
        exact hrec5 x0 x2 1 (x4 + 1) _ _ _ _ _ _ hf I (lv_sub hl [2, 3, 1, 0] rfl)
set_option maxHeartbeats 4000000 in
set_option maxRecDepth 100000 in
theorem w_X7_hostEndFrom_5 (C : gC G p s m args meth c cX7_hostEndFrom 6 RX7) (hr : meth.sig.returnType = (some .int)) {rec5 : Option Nat → Int32 → Int32 → Int32 → gM Int32} (hrec5 : ∀ (x0 : Option Nat) (x2 : Int32) (x3 : Int32) (x4 : Int32), gJ G p l e 1 21 mc ms s m args below meth c gri y 6 5 [(0, va_rf x0), (2, .int x2), (3, .int x3), (4, .int x4)] [] (rec5 x0 x2 x3 x4)) (x0 : Option Nat) (x2 : Int32) (x3 : Int32) (x4 : Int32) : gJ G p l e 1 21 mc ms s m args below meth c gri y 6 5 [(0, va_rf x0), (2, .int x2), (3, .int x3), (4, .int x4)] [] (f_X7_hostEndFrom_5 rec5 x0 x2 x3 x4) := by
  have hx := C.1
  have hb := C.2.1
  intro σ H locs cells slots ls hf I hl
  unfold f_X7_hostEndFrom_5 at hf
  refine lv_iload hx hb dX7_hostEndFrom_5 (lv_at hl 3 rfl) ?_
  refine lv_iload_n hx hb dX7_hostEndFrom_7 rfl (lv_at hl 1 rfl) ?_
  refine lv_icmp_ge (tgt := 66) hx hb dX7_hostEndFrom_8 (by decide) (fun hq => ?_) (fun hq => ?_)
  · have hf := gift hq hf
    refine lv_iload_n hx hb dX7_hostEndFrom_66 rfl (lv_at hl 1 rfl) ?_
    exact gw_iret C I hr dX7_hostEndFrom_67 hf
  · have hf := giff hq hf
    refine gw_aload_n hx hb dX7_hostEndFrom_11 rfl (lv_at hl 0 rfl) ?_
    refine gw_getr (k := 0) C I gcls_6 (by decide) rfl kw_27 dX7_hostEndFrom_12 hf (fun v1 hf => ?_)
    refine lv_iload hx hb dX7_hostEndFrom_15 (lv_at hl 3 rfl) ?_
    refine gw_callV (rest := []) C I hl.1 gcls_4 (m_X5_byteAt G l v1 x4) gl_RX7_61 gn_X5_byteAt ⟨Nat.le_of_ble_eq_true rfl, Nat.le_of_ble_eq_true rfl⟩ rfl (gc4 (Nat.le_of_ble_eq_true rfl)) rfl dX7_hostEndFrom_17 hf (fun v2 σ H locs cells slots I hf => ?_)
    refine W.eq (g2 := F0 m 20 ls [.int v2]) rfl ?_
    refine lv_istore (lv' := [(5, .int v2), (0, va_rf x0), (2, .int x2), (3, .int x3), (4, .int x4)]) hx hb dX7_hostEndFrom_20 hl (by decide) rfl (fun ls hl => ?_)
    refine lv_iload hx hb dX7_hostEndFrom_22 (lv_at hl 0 rfl) ?_
    refine lv_bipush (v := 58) hx hb dX7_hostEndFrom_24 kc_b_58 ?_
    refine lv_icmp_ne (tgt := 36) hx hb dX7_hostEndFrom_26 (by decide) (fun hq => ?_) (fun hq => ?_)
    · have hf := giff hq hf
      exact w_X7_hostEndFrom_36 C hr hrec5 x0 x2 x3 x4 v2 _ _ _ _ _ _ hf I (lv_sub hl [1, 2, 3, 4, 0] rfl)
    · have hf := gift hq hf
      refine lv_iload_n hx hb dX7_hostEndFrom_29 rfl (lv_at hl 3 rfl) ?_
      refine lv_if_ne (tgt := 36) hx hb dX7_hostEndFrom_30 (by decide) (fun hq => ?_) (fun hq => ?_)
      · have hf := giff hq hf
        exact w_X7_hostEndFrom_36 C hr hrec5 x0 x2 x3 x4 v2 _ _ _ _ _ _ hf I (lv_sub hl [1, 2, 3, 4, 0] rfl)
      · have hf := gift hq hf
        refine lv_iload hx hb dX7_hostEndFrom_33 (lv_at hl 4 rfl) ?_
        exact gw_iret C I hr dX7_hostEndFrom_35 hf
theorem w_X7_hostEndFrom_L5 (C : gC G p s m args meth c cX7_hostEndFrom 6 RX7) (hr : meth.sig.returnType = (some .int))  : ∀ (n : Nat) (x0 : Option Nat) (x2 : Int32) (x3 : Int32) (x4 : Int32), gJ G p l e 1 21 mc ms s m args below meth c gri y 6 5 [(0, va_rf x0), (2, .int x2), (3, .int x3), (4, .int x4)] [] (f_X7_hostEndFrom_L5  n x0 x2 x3 x4) := by
  intro n
  induction n with
  | zero => intro x0 x2 x3 x4 σ H locs cells slots ls hf; exact (gno_some hf).elim
  | succ n ih => intro x0 x2 x3 x4; exact w_X7_hostEndFrom_5 C hr  ih x0 x2 x3 x4
set_option maxHeartbeats 4000000 in
set_option maxRecDepth 100000 in
theorem w_X7_hostEndFrom_0 (C : gC G p s m args meth c cX7_hostEndFrom 6 RX7) (hr : meth.sig.returnType = (some .int))  (a0 : Option Nat) (a1 : Int32) (a2 : Int32) : gJ G p l e 1 21 mc ms s m args below meth c gri y 6 0 [(0, va_rf a0), (1, .int a1), (2, .int a2)] [] (f_X7_hostEndFrom  a0 a1 a2) := by
  have hx := C.1
  have hb := C.2.1
  intro σ H locs cells slots ls hf I hl
  unfold f_X7_hostEndFrom at hf
  refine lv_iconst (v := 0) hx hb dX7_hostEndFrom_0 kc_i_0 ?_
  refine lv_istore_n (lv' := [(3, .int 0), (0, va_rf a0), (1, .int a1), (2, .int a2)]) hx hb dX7_hostEndFrom_1 rfl hl (by decide) rfl (fun ls hl => ?_)
  refine lv_iload_n hx hb dX7_hostEndFrom_2 rfl (lv_at hl 2 rfl) ?_
  refine lv_istore (lv' := [(4, .int a1), (3, .int 0), (0, va_rf a0), (1, .int a1), (2, .int a2)]) hx hb dX7_hostEndFrom_3 hl (by decide) rfl (fun ls hl => ?_)
  exact w_X7_hostEndFrom_L5 C hr  _ a0 a2 0 a1 _ _ _ _ _ _ hf I (lv_sub hl [2, 4, 1, 0] rfl)
end S_X7_hostEndFrom
theorem m_X7_hostEndFrom (G : gX) (l : Launch) (a0 : Option Nat) (a1 : Int32) (a2 : Int32) : gMet G l yX7_hostEndFrom cX7_hostEndFrom 6 (some .int) 1 21 [va_rf a0, .int a1, .int a2] gri (f_X7_hostEndFrom a0 a1 a2) := by
  refine gMet_of (by decide) ?_
  intro σ y p e s m below meth c mc ms hf C hr hnm I
  obtain ⟨ls, e1, hl⟩ := gentry m [va_rf a0, .int a1, .int a2] 6 [(0, va_rf a0), (1, .int a1), (2, .int a2)] (by simp [lg_sl, grc, gcat_i, gcat_l]) (by simp [lv_args, grc, gcat_i, gcat_l])
  rw [e1]
  exact w_X7_hostEndFrom_0 C hr a0 a1 a2 _ _ _ _ _ _ hf I hl
def f_X7_readAuthority_124  (x0 : Option Nat) (x2 : Int32) (x3 : Int32) : gM Int32 := gb (wI 6 2 x0 x2) fun _ => gb (nn 6 x0) fun _ => gb (f_X7_hostEndFrom x0 x2 x3) fun v1 => gb (wI 6 3 x0 v1) fun _ => gb (rI 6 3 x0) fun v2 => gb (rI 6 2 x0) fun v3 => if v2 = v3 then (gp (-13)) else (gp 3)
def f_X7_readAuthority_105  (x0 : Option Nat) (x1 : Option Nat) (x2 : Int32) (x3 : Int32) (x4 : Int32) : gM Int32 := if x4 < x2 then (f_X7_readAuthority_124  x0 x2 x3) else (gb (nn 6 x0) fun _ => gb (f_X7_readUser x0 x2 x4 x1) fun _ => f_X7_readAuthority_124  x0 (x4 + 1) x3)
def f_X7_readAuthority_79 (rec79 : Option Nat → Option Nat → Int32 → Int32 → Int32 → gM Int32) (x0 : Option Nat) (x1 : Option Nat) (x2 : Int32) (x3 : Int32) (x4 : Int32) : gM Int32 := if x4 < x2 then (f_X7_readAuthority_105  x0 x1 x2 x3 x4) else (gb (rR 6 0 x0) fun v1 => gb (nn 4 v1) fun _ => gb (f_X5_byteAt v1 x4) fun v2 => if v2 = 64 then (f_X7_readAuthority_105  x0 x1 x2 x3 x4) else (rec79 x0 x1 x2 x3 (x4 + (-1))))
def f_X7_readAuthority_L79  : Nat → Option Nat → Option Nat → Int32 → Int32 → Int32 → gM Int32
  | 0, _, _, _, _, _ => gno
  | n + 1, x0, x1, x2, x3, x4 => f_X7_readAuthority_79  (f_X7_readAuthority_L79  n) x0 x1 x2 x3 x4
def f_X7_readAuthority_69  (x0 : Option Nat) (x1 : Option Nat) (x2 : Int32) (x3 : Int32) : gM Int32 := gb (wI 6 1 x0 x3) fun _ => f_X7_readAuthority_L79  gF x0 x1 x2 x3 (x3 - 1)
def f_X7_readAuthority_38 (rec38 : Option Nat → Option Nat → Int32 → Int32 → gM Int32) (x0 : Option Nat) (x1 : Option Nat) (x2 : Int32) (x3 : Int32) : gM Int32 := gb (rR 6 0 x0) fun v1 => gb (rI 4 1 v1) fun v2 => if v2 ≤ x3 then (f_X7_readAuthority_69  x0 x1 x2 x3) else (gb (rR 6 0 x0) fun v3 => gb (nn 4 v3) fun _ => gb (f_X5_byteAt v3 x3) fun v4 => gb (f_X1_isDivider v4) fun v5 => if v5 = 0 then (rec38 x0 x1 x2 (x3 + 1)) else (f_X7_readAuthority_69  x0 x1 x2 x3))
def f_X7_readAuthority_L38  : Nat → Option Nat → Option Nat → Int32 → Int32 → gM Int32
  | 0, _, _, _, _ => gno
  | n + 1, x0, x1, x2, x3 => f_X7_readAuthority_38  (f_X7_readAuthority_L38  n) x0 x1 x2 x3
def f_X7_readAuthority_5 (rec5 : Option Nat → Option Nat → Int32 → gM Int32) (x0 : Option Nat) (x1 : Option Nat) (x2 : Int32) : gM Int32 := gb (rR 6 0 x0) fun v1 => gb (rI 4 1 v1) fun v2 => if v2 ≤ x2 then (f_X7_readAuthority_L38  gF x0 x1 x2 x2) else (gb (rR 6 0 x0) fun v3 => gb (nn 4 v3) fun _ => gb (f_X5_byteAt v3 x2) fun v4 => gb (f_X1_isSlash v4) fun v5 => if v5 = 0 then (f_X7_readAuthority_L38  gF x0 x1 x2 x2) else (rec5 x0 x1 (x2 + 1)))
def f_X7_readAuthority_L5  : Nat → Option Nat → Option Nat → Int32 → gM Int32
  | 0, _, _, _ => gno
  | n + 1, x0, x1, x2 => f_X7_readAuthority_5  (f_X7_readAuthority_L5  n) x0 x1 x2
def f_X7_readAuthority  (a0 : Option Nat) (a1 : Option Nat) : gM Int32 := gb (rI 6 1 a0) fun v1 => f_X7_readAuthority_L5  gF a0 a1 v1
section S_X7_readAuthority
variable {G : gX} {p : Program} {l : Launch} {e : Env} {s : State} {m : MethodId} {args : Array Value} {below : List Frame} {meth : Method} {c : Code} {mc ms : Nat} {y : Int32 × gS}
set_option maxHeartbeats 4000000 in
set_option maxRecDepth 100000 in
theorem w_X7_readAuthority_124 (C : gC G p s m args meth c cX7_readAuthority 5 RX7) (hr : meth.sig.returnType = (some .int))  (x0 : Option Nat) (x2 : Int32) (x3 : Int32) : gJ G p l e 7 161 mc ms s m args below meth c gri y 5 124 [(0, va_rf x0), (2, .int x2), (3, .int x3)] [] (f_X7_readAuthority_124  x0 x2 x3) := by
  have hx := C.1
  have hb := C.2.1
  intro σ H locs cells slots ls hf I hl
  unfold f_X7_readAuthority_124 at hf
  refine gw_aload_n hx hb dX7_readAuthority_124 rfl (lv_at hl 0 rfl) ?_
  refine lv_iload_n hx hb dX7_readAuthority_125 rfl (lv_at hl 1 rfl) ?_
  refine gw_puti (k := 2) C I gcls_6 (by decide) rfl kw_29 (Or.inl rfl) (by decide +kernel) dX7_readAuthority_126 hf (fun σ H locs I hf => ?_)
  refine gw_aload_n hx hb dX7_readAuthority_129 rfl (lv_at hl 0 rfl) ?_
  refine gw_aload_n hx hb dX7_readAuthority_130 rfl (lv_at hl 0 rfl) ?_
  refine lv_iload_n hx hb dX7_readAuthority_131 rfl (lv_at hl 1 rfl) ?_
  refine lv_iload_n hx hb dX7_readAuthority_132 rfl (lv_at hl 2 rfl) ?_
  refine gw_callV (rest := [va_rf x0]) C I hl.1 gcls_6 (m_X7_hostEndFrom G l x0 x2 x3) gl_RX7_156 gn_X7_hostEndFrom ⟨Nat.le_of_ble_eq_true rfl, Nat.le_of_ble_eq_true rfl⟩ rfl (gc4 (Nat.le_of_ble_eq_true rfl)) rfl dX7_readAuthority_133 hf (fun v1 σ H locs cells slots I hf => ?_)
  refine W.eq (g2 := F0 m 136 ls [.int v1, va_rf x0]) rfl ?_
  refine gw_puti (k := 3) C I gcls_6 (by decide) rfl kw_30 (Or.inl rfl) (by decide +kernel) dX7_readAuthority_136 hf (fun σ H locs I hf => ?_)
  refine gw_aload_n hx hb dX7_readAuthority_139 rfl (lv_at hl 0 rfl) ?_
  refine gw_geti (k := 3) C I gcls_6 (by decide) rfl kw_30 dX7_readAuthority_140 hf (fun v2 hf => ?_)
  refine gw_aload_n hx hb dX7_readAuthority_143 rfl (lv_at hl 0 rfl) ?_
  refine gw_geti (k := 2) C I gcls_6 (by decide) rfl kw_29 dX7_readAuthority_144 hf (fun v3 hf => ?_)
  refine lv_icmp_ne (tgt := 155) hx hb dX7_readAuthority_147 (by decide) (fun hq => ?_) (fun hq => ?_)
  · have hf := giff hq hf
    refine lv_iconst (v := 3) hx hb dX7_readAuthority_155 kc_i_3 ?_
    exact gw_iret C I hr dX7_readAuthority_156 hf
  · have hf := gift hq hf
    refine lv_bipush (v := (-13)) hx hb dX7_readAuthority_150 kc_b_m13 ?_
    refine lv_goto (tgt := 156) hx hb dX7_readAuthority_152 (by decide) ?_
    exact gw_iret C I hr dX7_readAuthority_156 hf
set_option maxHeartbeats 4000000 in
set_option maxRecDepth 100000 in
theorem w_X7_readAuthority_105 (C : gC G p s m args meth c cX7_readAuthority 5 RX7) (hr : meth.sig.returnType = (some .int))  (x0 : Option Nat) (x1 : Option Nat) (x2 : Int32) (x3 : Int32) (x4 : Int32) : gJ G p l e 7 161 mc ms s m args below meth c gri y 5 105 [(0, va_rf x0), (1, va_rf x1), (2, .int x2), (3, .int x3), (4, .int x4)] [] (f_X7_readAuthority_105  x0 x1 x2 x3 x4) := by
  have hx := C.1
  have hb := C.2.1
  intro σ H locs cells slots ls hf I hl
  unfold f_X7_readAuthority_105 at hf
  refine lv_iload hx hb dX7_readAuthority_105 (lv_at hl 4 rfl) ?_
  refine lv_iload_n hx hb dX7_readAuthority_107 rfl (lv_at hl 2 rfl) ?_
  refine lv_icmp_lt (tgt := 124) hx hb dX7_readAuthority_108 (by decide) (fun hq => ?_) (fun hq => ?_)
  · have hf := gift hq hf
    exact w_X7_readAuthority_124 C hr  x0 x2 x3 _ _ _ _ _ _ hf I (lv_sub hl [0, 2, 3] rfl)
  · have hf := giff hq hf
    refine gw_aload_n hx hb dX7_readAuthority_111 rfl (lv_at hl 0 rfl) ?_
    refine lv_iload_n hx hb dX7_readAuthority_112 rfl (lv_at hl 2 rfl) ?_
    refine lv_iload hx hb dX7_readAuthority_113 (lv_at hl 4 rfl) ?_
    refine gw_aload_n hx hb dX7_readAuthority_115 rfl (lv_at hl 1 rfl) ?_
    refine gw_callV (rest := []) C I hl.1 gcls_6 (m_X7_readUser G l x0 x2 x4 x1) gl_RX7_152 gn_X7_readUser ⟨Nat.le_of_ble_eq_true rfl, Nat.le_of_ble_eq_true rfl⟩ rfl (gc4 (Nat.le_of_ble_eq_true rfl)) rfl dX7_readAuthority_116 hf (fun _ σ H locs cells slots I hf => ?_)
    refine W.eq (g2 := F0 m 119 ls []) rfl ?_
    refine lv_iload hx hb dX7_readAuthority_119 (lv_at hl 4 rfl) ?_
    refine lv_iconst (v := 1) hx hb dX7_readAuthority_121 kc_i_1 ?_
    refine lv_iadd hx hb dX7_readAuthority_122 ?_
    refine lv_istore_n (lv' := [(2, .int (x4 + 1)), (0, va_rf x0), (1, va_rf x1), (3, .int x3), (4, .int x4)]) hx hb dX7_readAuthority_123 rfl hl (by decide) (by cases x1 <;> rfl) (fun ls hl => ?_)
    exact w_X7_readAuthority_124 C hr  x0 (x4 + 1) x3 _ _ _ _ _ _ hf I (lv_sub hl [1, 0, 3] rfl)
set_option maxHeartbeats 4000000 in
set_option maxRecDepth 100000 in
theorem w_X7_readAuthority_79 (C : gC G p s m args meth c cX7_readAuthority 5 RX7) (hr : meth.sig.returnType = (some .int)) {rec79 : Option Nat → Option Nat → Int32 → Int32 → Int32 → gM Int32} (hrec79 : ∀ (x0 : Option Nat) (x1 : Option Nat) (x2 : Int32) (x3 : Int32) (x4 : Int32), gJ G p l e 7 161 mc ms s m args below meth c gri y 5 79 [(0, va_rf x0), (1, va_rf x1), (2, .int x2), (3, .int x3), (4, .int x4)] [] (rec79 x0 x1 x2 x3 x4)) (x0 : Option Nat) (x1 : Option Nat) (x2 : Int32) (x3 : Int32) (x4 : Int32) : gJ G p l e 7 161 mc ms s m args below meth c gri y 5 79 [(0, va_rf x0), (1, va_rf x1), (2, .int x2), (3, .int x3), (4, .int x4)] [] (f_X7_readAuthority_79 rec79 x0 x1 x2 x3 x4) := by
  have hx := C.1
  have hb := C.2.1
  intro σ H locs cells slots ls hf I hl
  unfold f_X7_readAuthority_79 at hf
  refine lv_iload hx hb dX7_readAuthority_79 (lv_at hl 4 rfl) ?_
  refine lv_iload_n hx hb dX7_readAuthority_81 rfl (lv_at hl 2 rfl) ?_
  refine lv_icmp_lt (tgt := 105) hx hb dX7_readAuthority_82 (by decide) (fun hq => ?_) (fun hq => ?_)
  · have hf := gift hq hf
    exact w_X7_readAuthority_105 C hr  x0 x1 x2 x3 x4 _ _ _ _ _ _ hf I (lv_sub hl [0, 1, 2, 3, 4] rfl)
  · have hf := giff hq hf
    refine gw_aload_n hx hb dX7_readAuthority_85 rfl (lv_at hl 0 rfl) ?_
    refine gw_getr (k := 0) C I gcls_6 (by decide) rfl kw_27 dX7_readAuthority_86 hf (fun v1 hf => ?_)
    refine lv_iload hx hb dX7_readAuthority_89 (lv_at hl 4 rfl) ?_
    refine gw_callV (rest := []) C I hl.1 gcls_4 (m_X5_byteAt G l v1 x4) gl_RX7_61 gn_X5_byteAt ⟨Nat.le_of_ble_eq_true rfl, Nat.le_of_ble_eq_true rfl⟩ rfl (gc4 (Nat.le_of_ble_eq_true rfl)) rfl dX7_readAuthority_91 hf (fun v2 σ H locs cells slots I hf => ?_)
    refine W.eq (g2 := F0 m 94 ls [.int v2]) rfl ?_
    refine lv_bipush (v := 64) hx hb dX7_readAuthority_94 kc_b_64 ?_
    refine lv_icmp_eq (tgt := 105) hx hb dX7_readAuthority_96 (by decide) (fun hq => ?_) (fun hq => ?_)
    · have hf := gift hq hf
      exact w_X7_readAuthority_105 C hr  x0 x1 x2 x3 x4 _ _ _ _ _ _ hf I (lv_sub hl [0, 1, 2, 3, 4] rfl)
    · have hf := giff hq hf
      refine lv_iinc (v := x4 + (-1)) (lv' := [(4, .int (x4 + (-1))), (0, va_rf x0), (1, va_rf x1), (2, .int x2), (3, .int x3)]) hx hb dX7_readAuthority_99 hl (k := 4) rfl rfl (by decide) rfl (fun ls hl => ?_)
      refine lv_goto (tgt := 79) hx hb dX7_readAuthority_102 (by decide) ?_
      exact hrec79 x0 x1 x2 x3 (x4 + (-1)) _ _ _ _ _ _ hf I (lv_sub hl [1, 2, 3, 4, 0] rfl)
theorem w_X7_readAuthority_L79 (C : gC G p s m args meth c cX7_readAuthority 5 RX7) (hr : meth.sig.returnType = (some .int))  : ∀ (n : Nat) (x0 : Option Nat) (x1 : Option Nat) (x2 : Int32) (x3 : Int32) (x4 : Int32), gJ G p l e 7 161 mc ms s m args below meth c gri y 5 79 [(0, va_rf x0), (1, va_rf x1), (2, .int x2), (3, .int x3), (4, .int x4)] [] (f_X7_readAuthority_L79  n x0 x1 x2 x3 x4) := by
  intro n
  induction n with
  | zero => intro x0 x1 x2 x3 x4 σ H locs cells slots ls hf; exact (gno_some hf).elim
  | succ n ih => intro x0 x1 x2 x3 x4; exact w_X7_readAuthority_79 C hr  ih x0 x1 x2 x3 x4
set_option maxHeartbeats 4000000 in
set_option maxRecDepth 100000 in
theorem w_X7_readAuthority_69 (C : gC G p s m args meth c cX7_readAuthority 5 RX7) (hr : meth.sig.returnType = (some .int))  (x0 : Option Nat) (x1 : Option Nat) (x2 : Int32) (x3 : Int32) : gJ G p l e 7 161 mc ms s m args below meth c gri y 5 69 [(0, va_rf x0), (1, va_rf x1), (2, .int x2), (3, .int x3)] [] (f_X7_readAuthority_69  x0 x1 x2 x3) := by
  have hx := C.1
  have hb := C.2.1
  intro σ H locs cells slots ls hf I hl
  unfold f_X7_readAuthority_69 at hf
  refine gw_aload_n hx hb dX7_readAuthority_69 rfl (lv_at hl 0 rfl) ?_
  refine lv_iload_n hx hb dX7_readAuthority_70 rfl (lv_at hl 3 rfl) ?_
  refine gw_puti (k := 1) C I gcls_6 (by decide) rfl kw_28 (Or.inl rfl) (by decide +kernel) dX7_readAuthority_71 hf (fun σ H locs I hf => ?_)
  refine lv_iload_n hx hb dX7_readAuthority_74 rfl (lv_at hl 3 rfl) ?_
  refine lv_iconst (v := 1) hx hb dX7_readAuthority_75 kc_i_1 ?_
  refine lv_isub hx hb dX7_readAuthority_76 ?_
  refine lv_istore (lv' := [(4, .int (x3 - 1)), (0, va_rf x0), (1, va_rf x1), (2, .int x2), (3, .int x3)]) hx hb dX7_readAuthority_77 hl (by decide) rfl (fun ls hl => ?_)
  exact w_X7_readAuthority_L79 C hr  _ x0 x1 x2 x3 (x3 - 1) _ _ _ _ _ _ hf I (lv_sub hl [1, 2, 3, 4, 0] rfl)
set_option maxHeartbeats 4000000 in
set_option maxRecDepth 100000 in
theorem w_X7_readAuthority_38 (C : gC G p s m args meth c cX7_readAuthority 5 RX7) (hr : meth.sig.returnType = (some .int)) {rec38 : Option Nat → Option Nat → Int32 → Int32 → gM Int32} (hrec38 : ∀ (x0 : Option Nat) (x1 : Option Nat) (x2 : Int32) (x3 : Int32), gJ G p l e 7 161 mc ms s m args below meth c gri y 5 38 [(0, va_rf x0), (1, va_rf x1), (2, .int x2), (3, .int x3)] [] (rec38 x0 x1 x2 x3)) (x0 : Option Nat) (x1 : Option Nat) (x2 : Int32) (x3 : Int32) : gJ G p l e 7 161 mc ms s m args below meth c gri y 5 38 [(0, va_rf x0), (1, va_rf x1), (2, .int x2), (3, .int x3)] [] (f_X7_readAuthority_38 rec38 x0 x1 x2 x3) := by
  have hx := C.1
  have hb := C.2.1
  intro σ H locs cells slots ls hf I hl
  unfold f_X7_readAuthority_38 at hf
  refine lv_iload_n hx hb dX7_readAuthority_38 rfl (lv_at hl 3 rfl) ?_
  refine gw_aload_n hx hb dX7_readAuthority_39 rfl (lv_at hl 0 rfl) ?_
  refine gw_getr (k := 0) C I gcls_6 (by decide) rfl kw_27 dX7_readAuthority_40 hf (fun v1 hf => ?_)
  refine gw_geti (k := 1) C I gcls_4 (by decide) rfl kw_100 dX7_readAuthority_43 hf (fun v2 hf => ?_)
  refine lv_icmp_ge (tgt := 69) hx hb dX7_readAuthority_46 (by decide) (fun hq => ?_) (fun hq => ?_)
  · have hf := gift hq hf
    exact w_X7_readAuthority_69 C hr  x0 x1 x2 x3 _ _ _ _ _ _ hf I (lv_sub hl [0, 1, 2, 3] rfl)
  · have hf := giff hq hf
    refine gw_aload_n hx hb dX7_readAuthority_49 rfl (lv_at hl 0 rfl) ?_
    refine gw_getr (k := 0) C I gcls_6 (by decide) rfl kw_27 dX7_readAuthority_50 hf (fun v3 hf => ?_)
    refine lv_iload_n hx hb dX7_readAuthority_53 rfl (lv_at hl 3 rfl) ?_
    refine gw_callV (rest := []) C I hl.1 gcls_4 (m_X5_byteAt G l v3 x3) gl_RX7_61 gn_X5_byteAt ⟨Nat.le_of_ble_eq_true rfl, Nat.le_of_ble_eq_true rfl⟩ rfl (gc4 (Nat.le_of_ble_eq_true rfl)) rfl dX7_readAuthority_54 hf (fun v4 σ H locs cells slots I hf => ?_)
    refine W.eq (g2 := F0 m 57 ls [.int v4]) rfl ?_
    refine gw_callS (rest := []) C I hl.1 (m_X1_isDivider G l v4) gl_RX7_149 kw_126 ⟨Nat.le_of_ble_eq_true rfl, Nat.le_of_ble_eq_true rfl⟩ rfl (gc4 (Nat.le_of_ble_eq_true rfl)) rfl dX7_readAuthority_57 hf (fun v5 σ H locs cells slots I hf => ?_)
    refine W.eq (g2 := F0 m 60 ls [.int v5]) rfl ?_
    refine lv_if_ne (tgt := 69) hx hb dX7_readAuthority_60 (by decide) (fun hq => ?_) (fun hq => ?_)
    · have hf := giff hq hf
      exact w_X7_readAuthority_69 C hr  x0 x1 x2 x3 _ _ _ _ _ _ hf I (lv_sub hl [0, 1, 2, 3] rfl)
    · have hf := gift hq hf
      refine lv_iinc (v := x3 + 1) (lv' := [(3, .int (x3 + 1)), (0, va_rf x0), (1, va_rf x1), (2, .int x2)]) hx hb dX7_readAuthority_63 hl (k := 3) rfl rfl (by decide) rfl (fun ls hl => ?_)
      refine lv_goto (tgt := 38) hx hb dX7_readAuthority_66 (by decide) ?_
      exact hrec38 x0 x1 x2 (x3 + 1) _ _ _ _ _ _ hf I (lv_sub hl [1, 2, 3, 0] rfl)
theorem w_X7_readAuthority_L38 (C : gC G p s m args meth c cX7_readAuthority 5 RX7) (hr : meth.sig.returnType = (some .int))  : ∀ (n : Nat) (x0 : Option Nat) (x1 : Option Nat) (x2 : Int32) (x3 : Int32), gJ G p l e 7 161 mc ms s m args below meth c gri y 5 38 [(0, va_rf x0), (1, va_rf x1), (2, .int x2), (3, .int x3)] [] (f_X7_readAuthority_L38  n x0 x1 x2 x3) := by
  intro n
  induction n with
  | zero => intro x0 x1 x2 x3 σ H locs cells slots ls hf; exact (gno_some hf).elim
  | succ n ih => intro x0 x1 x2 x3; exact w_X7_readAuthority_38 C hr  ih x0 x1 x2 x3
set_option maxHeartbeats 4000000 in
set_option maxRecDepth 100000 in
theorem w_X7_readAuthority_5 (C : gC G p s m args meth c cX7_readAuthority 5 RX7) (hr : meth.sig.returnType = (some .int)) {rec5 : Option Nat → Option Nat → Int32 → gM Int32} (hrec5 : ∀ (x0 : Option Nat) (x1 : Option Nat) (x2 : Int32), gJ G p l e 7 161 mc ms s m args below meth c gri y 5 5 [(0, va_rf x0), (1, va_rf x1), (2, .int x2)] [] (rec5 x0 x1 x2)) (x0 : Option Nat) (x1 : Option Nat) (x2 : Int32) : gJ G p l e 7 161 mc ms s m args below meth c gri y 5 5 [(0, va_rf x0), (1, va_rf x1), (2, .int x2)] [] (f_X7_readAuthority_5 rec5 x0 x1 x2) := by
  have hx := C.1
  have hb := C.2.1
  intro σ H locs cells slots ls hf I hl
  unfold f_X7_readAuthority_5 at hf
  refine lv_iload_n hx hb dX7_readAuthority_5 rfl (lv_at hl 2 rfl) ?_
  refine gw_aload_n hx hb dX7_readAuthority_6 rfl (lv_at hl 0 rfl) ?_
  refine gw_getr (k := 0) C I gcls_6 (by decide) rfl kw_27 dX7_readAuthority_7 hf (fun v1 hf => ?_)
  refine gw_geti (k := 1) C I gcls_4 (by decide) rfl kw_100 dX7_readAuthority_10 hf (fun v2 hf => ?_)
  refine lv_icmp_ge (tgt := 36) hx hb dX7_readAuthority_13 (by decide) (fun hq => ?_) (fun hq => ?_)
  · have hf := gift hq hf
    refine lv_iload_n hx hb dX7_readAuthority_36 rfl (lv_at hl 2 rfl) ?_
    refine lv_istore_n (lv' := [(3, .int x2), (0, va_rf x0), (1, va_rf x1), (2, .int x2)]) hx hb dX7_readAuthority_37 rfl hl (by decide) rfl (fun ls hl => ?_)
    exact w_X7_readAuthority_L38 C hr  _ x0 x1 x2 x2 _ _ _ _ _ _ hf I (lv_sub hl [1, 2, 3, 0] rfl)
  · have hf := giff hq hf
    refine gw_aload_n hx hb dX7_readAuthority_16 rfl (lv_at hl 0 rfl) ?_
    refine gw_getr (k := 0) C I gcls_6 (by decide) rfl kw_27 dX7_readAuthority_17 hf (fun v3 hf => ?_)
    refine lv_iload_n hx hb dX7_readAuthority_20 rfl (lv_at hl 2 rfl) ?_
    refine gw_callV (rest := []) C I hl.1 gcls_4 (m_X5_byteAt G l v3 x2) gl_RX7_61 gn_X5_byteAt ⟨Nat.le_of_ble_eq_true rfl, Nat.le_of_ble_eq_true rfl⟩ rfl (gc4 (Nat.le_of_ble_eq_true rfl)) rfl dX7_readAuthority_21 hf (fun v4 σ H locs cells slots I hf => ?_)
    refine W.eq (g2 := F0 m 24 ls [.int v4]) rfl ?_
    refine gw_callS (rest := []) C I hl.1 (m_X1_isSlash G l v4) gl_RX7_65 kw_115 ⟨Nat.le_of_ble_eq_true rfl, Nat.le_of_ble_eq_true rfl⟩ rfl (gc4 (Nat.le_of_ble_eq_true rfl)) rfl dX7_readAuthority_24 hf (fun v5 σ H locs cells slots I hf => ?_)
    refine W.eq (g2 := F0 m 27 ls [.int v5]) rfl ?_
    refine lv_if_eq (tgt := 36) hx hb dX7_readAuthority_27 (by decide) (fun hq => ?_) (fun hq => ?_)
    · have hf := gift hq hf
      refine lv_iload_n hx hb dX7_readAuthority_36 rfl (lv_at hl 2 rfl) ?_
      refine lv_istore_n (lv' := [(3, .int x2), (0, va_rf x0), (1, va_rf x1), (2, .int x2)]) hx hb dX7_readAuthority_37 rfl hl (by decide) rfl (fun ls hl => ?_)
      exact w_X7_readAuthority_L38 C hr  _ x0 x1 x2 x2 _ _ _ _ _ _ hf I (lv_sub hl [1, 2, 3, 0] rfl)
    · have hf := giff hq hf
      refine lv_iinc (v := x2 + 1) (lv' := [(2, .int (x2 + 1)), (0, va_rf x0), (1, va_rf x1)]) hx hb dX7_readAuthority_30 hl (k := 2) rfl rfl (by decide) (by cases x1 <;> rfl) (fun ls hl => ?_)
      refine lv_goto (tgt := 5) hx hb dX7_readAuthority_33 (by decide) ?_
      exact hrec5 x0 x1 (x2 + 1) _ _ _ _ _ _ hf I (lv_sub hl [1, 2, 0] rfl)
theorem w_X7_readAuthority_L5 (C : gC G p s m args meth c cX7_readAuthority 5 RX7) (hr : meth.sig.returnType = (some .int))  : ∀ (n : Nat) (x0 : Option Nat) (x1 : Option Nat) (x2 : Int32), gJ G p l e 7 161 mc ms s m args below meth c gri y 5 5 [(0, va_rf x0), (1, va_rf x1), (2, .int x2)] [] (f_X7_readAuthority_L5  n x0 x1 x2) := by
  intro n
  induction n with
  | zero => intro x0 x1 x2 σ H locs cells slots ls hf; exact (gno_some hf).elim
  | succ n ih => intro x0 x1 x2; exact w_X7_readAuthority_5 C hr  ih x0 x1 x2
set_option maxHeartbeats 4000000 in
set_option maxRecDepth 100000 in
theorem w_X7_readAuthority_0 (C : gC G p s m args meth c cX7_readAuthority 5 RX7) (hr : meth.sig.returnType = (some .int))  (a0 : Option Nat) (a1 : Option Nat) : gJ G p l e 7 161 mc ms s m args below meth c gri y 5 0 [(0, va_rf a0), (1, va_rf a1)] [] (f_X7_readAuthority  a0 a1) := by
  have hx := C.1
  have hb := C.2.1
  intro σ H locs cells slots ls hf I hl
  unfold f_X7_readAuthority at hf
  refine gw_aload_n hx hb dX7_readAuthority_0 rfl (lv_at hl 0 rfl) ?_
  refine gw_geti (k := 1) C I gcls_6 (by decide) rfl kw_28 dX7_readAuthority_1 hf (fun v1 hf => ?_)
  refine lv_istore_n (lv' := [(2, .int v1), (0, va_rf a0), (1, va_rf a1)]) hx hb dX7_readAuthority_4 rfl hl (by decide) (by cases a1 <;> rfl) (fun ls hl => ?_)
  exact w_X7_readAuthority_L5 C hr  _ a0 a1 v1 _ _ _ _ _ _ hf I (lv_sub hl [1, 2, 0] rfl)
end S_X7_readAuthority
theorem m_X7_readAuthority (G : gX) (l : Launch) (a0 : Option Nat) (a1 : Option Nat) : gMet G l yX7_readAuthority cX7_readAuthority 5 (some .int) 7 161 [va_rf a0, va_rf a1] gri (f_X7_readAuthority a0 a1) := by
  refine gMet_of (by decide) ?_
  intro σ y p e s m below meth c mc ms hf C hr hnm I
  obtain ⟨ls, e1, hl⟩ := gentry m [va_rf a0, va_rf a1] 5 [(0, va_rf a0), (1, va_rf a1)] (by simp [lg_sl, grc, gcat_i, gcat_l]) (by simp [lv_args, grc, gcat_i, gcat_l])
  rw [e1]
  exact w_X7_readAuthority_0 C hr a0 a1 _ _ _ _ _ _ hf I hl
def f_X4_findGap_3 (rec3 : Option Nat → Int32 → Int32 → gM Int32) (x1 : Option Nat) (x3 : Int32) (x4 : Int32) : gM Int32 := if x3 ≤ (x4 + 1) then (gp x3) else (gb (nn 4 x1) fun _ => gb (f_X5_byteAt x1 x4) fun v1 => if v1 = 58 then (gb (nn 4 x1) fun _ => gb (f_X5_byteAt x1 (x4 + 1)) fun v2 => if v2 = 58 then (gp x4) else (rec3 x1 x3 (x4 + 1))) else (rec3 x1 x3 (x4 + 1)))
def f_X4_findGap_L3  : Nat → Option Nat → Int32 → Int32 → gM Int32
  | 0, _, _, _ => gno
  | n + 1, x1, x3, x4 => f_X4_findGap_3  (f_X4_findGap_L3  n) x1 x3 x4
def f_X4_findGap  (a0 : Option Nat) (a1 : Option Nat) (a2 : Int32) (a3 : Int32) : gM Int32 := f_X4_findGap_L3  gF a1 a3 a2
section S_X4_findGap
variable {G : gX} {p : Program} {l : Launch} {e : Env} {s : State} {m : MethodId} {args : Array Value} {below : List Frame} {meth : Method} {c : Code} {mc ms : Nat} {y : Int32 × gS}
set_option maxHeartbeats 4000000 in
set_option maxRecDepth 100000 in
theorem w_X4_findGap_3 (C : gC G p s m args meth c cX4_findGap 5 RX4) (hr : meth.sig.returnType = (some .int)) {rec3 : Option Nat → Int32 → Int32 → gM Int32} (hrec3 : ∀ (x1 : Option Nat) (x3 : Int32) (x4 : Int32), gJ G p l e 1 21 mc ms s m args below meth c gri y 5 3 [(1, va_rf x1), (3, .int x3), (4, .int x4)] [] (rec3 x1 x3 x4)) (x1 : Option Nat) (x3 : Int32) (x4 : Int32) : gJ G p l e 1 21 mc ms s m args below meth c gri y 5 3 [(1, va_rf x1), (3, .int x3), (4, .int x4)] [] (f_X4_findGap_3 rec3 x1 x3 x4) := by
  have hx := C.1
  have hb := C.2.1
  intro σ H locs cells slots ls hf I hl
  unfold f_X4_findGap_3 at hf
  refine lv_iload hx hb dX4_findGap_3 (lv_at hl 2 rfl) ?_
  refine lv_iconst (v := 1) hx hb dX4_findGap_5 kc_i_1 ?_
  refine lv_iadd hx hb dX4_findGap_6 ?_
  refine lv_iload_n hx hb dX4_findGap_7 rfl (lv_at hl 1 rfl) ?_
  refine lv_icmp_ge (tgt := 44) hx hb dX4_findGap_8 (by decide) (fun hq => ?_) (fun hq => ?_)
  · have hf := gift hq hf
    refine lv_iload_n hx hb dX4_findGap_44 rfl (lv_at hl 1 rfl) ?_
    exact gw_iret C I hr dX4_findGap_45 hf
  · have hf := giff hq hf
    refine gw_aload_n hx hb dX4_findGap_11 rfl (lv_at hl 0 rfl) ?_
    refine lv_iload hx hb dX4_findGap_12 (lv_at hl 2 rfl) ?_
    refine gw_callV (rest := []) C I hl.1 gcls_4 (m_X5_byteAt G l x1 x4) gl_RX4_26 gn_X5_byteAt ⟨Nat.le_of_ble_eq_true rfl, Nat.le_of_ble_eq_true rfl⟩ rfl (gc4 (Nat.le_of_ble_eq_true rfl)) rfl dX4_findGap_14 hf (fun v1 σ H locs cells slots I hf => ?_)
    refine W.eq (g2 := F0 m 17 ls [.int v1]) rfl ?_
    refine lv_bipush (v := 58) hx hb dX4_findGap_17 kc_b_58 ?_
    refine lv_icmp_ne (tgt := 38) hx hb dX4_findGap_19 (by decide) (fun hq => ?_) (fun hq => ?_)
    · have hf := giff hq hf
      refine lv_iinc (v := x4 + 1) (lv' := [(4, .int (x4 + 1)), (1, va_rf x1), (3, .int x3)]) hx hb dX4_findGap_38 hl (k := 2) rfl rfl (by decide) rfl (fun ls hl => ?_)
      refine lv_goto (tgt := 3) hx hb dX4_findGap_41 (by decide) ?_
      exact hrec3 x1 x3 (x4 + 1) _ _ _ _ _ _ hf I (lv_sub hl [1, 2, 0] rfl)
    · have hf := gift hq hf
      refine gw_aload_n hx hb dX4_findGap_22 rfl (lv_at hl 0 rfl) ?_
      refine lv_iload hx hb dX4_findGap_23 (lv_at hl 2 rfl) ?_
      refine lv_iconst (v := 1) hx hb dX4_findGap_25 kc_i_1 ?_
      refine lv_iadd hx hb dX4_findGap_26 ?_
      refine gw_callV (rest := []) C I hl.1 gcls_4 (m_X5_byteAt G l x1 (x4 + 1)) gl_RX4_26 gn_X5_byteAt ⟨Nat.le_of_ble_eq_true rfl, Nat.le_of_ble_eq_true rfl⟩ rfl (gc4 (Nat.le_of_ble_eq_true rfl)) rfl dX4_findGap_27 hf (fun v2 σ H locs cells slots I hf => ?_)
      refine W.eq (g2 := F0 m 30 ls [.int v2]) rfl ?_
      refine lv_bipush (v := 58) hx hb dX4_findGap_30 kc_b_58 ?_
      refine lv_icmp_ne (tgt := 38) hx hb dX4_findGap_32 (by decide) (fun hq => ?_) (fun hq => ?_)
      · have hf := giff hq hf
        refine lv_iinc (v := x4 + 1) (lv' := [(4, .int (x4 + 1)), (1, va_rf x1), (3, .int x3)]) hx hb dX4_findGap_38 hl (k := 2) rfl rfl (by decide) rfl (fun ls hl => ?_)
        refine lv_goto (tgt := 3) hx hb dX4_findGap_41 (by decide) ?_
        exact hrec3 x1 x3 (x4 + 1) _ _ _ _ _ _ hf I (lv_sub hl [1, 2, 0] rfl)
      · have hf := gift hq hf
        refine lv_iload hx hb dX4_findGap_35 (lv_at hl 2 rfl) ?_
        exact gw_iret C I hr dX4_findGap_37 hf
theorem w_X4_findGap_L3 (C : gC G p s m args meth c cX4_findGap 5 RX4) (hr : meth.sig.returnType = (some .int))  : ∀ (n : Nat) (x1 : Option Nat) (x3 : Int32) (x4 : Int32), gJ G p l e 1 21 mc ms s m args below meth c gri y 5 3 [(1, va_rf x1), (3, .int x3), (4, .int x4)] [] (f_X4_findGap_L3  n x1 x3 x4) := by
  intro n
  induction n with
  | zero => intro x1 x3 x4 σ H locs cells slots ls hf; exact (gno_some hf).elim
  | succ n ih => intro x1 x3 x4; exact w_X4_findGap_3 C hr  ih x1 x3 x4
set_option maxHeartbeats 4000000 in
set_option maxRecDepth 100000 in
theorem w_X4_findGap_0 (C : gC G p s m args meth c cX4_findGap 5 RX4) (hr : meth.sig.returnType = (some .int))  (a0 : Option Nat) (a1 : Option Nat) (a2 : Int32) (a3 : Int32) : gJ G p l e 1 21 mc ms s m args below meth c gri y 5 0 [(0, va_rf a0), (1, va_rf a1), (2, .int a2), (3, .int a3)] [] (f_X4_findGap  a0 a1 a2 a3) := by
  have hx := C.1
  have hb := C.2.1
  intro σ H locs cells slots ls hf I hl
  unfold f_X4_findGap at hf
  refine lv_iload_n hx hb dX4_findGap_0 rfl (lv_at hl 2 rfl) ?_
  refine lv_istore (lv' := [(4, .int a2), (0, va_rf a0), (1, va_rf a1), (2, .int a2), (3, .int a3)]) hx hb dX4_findGap_1 hl (by decide) rfl (fun ls hl => ?_)
  exact w_X4_findGap_L3 C hr  _ a1 a3 a2 _ _ _ _ _ _ hf I (lv_sub hl [2, 4, 0] rfl)
end S_X4_findGap
theorem m_X4_findGap (G : gX) (l : Launch) (a0 : Option Nat) (a1 : Option Nat) (a2 : Int32) (a3 : Int32) : gMet G l yX4_findGap cX4_findGap 5 (some .int) 1 21 [va_rf a0, va_rf a1, .int a2, .int a3] gri (f_X4_findGap a0 a1 a2 a3) := by
  refine gMet_of (by decide) ?_
  intro σ y p e s m below meth c mc ms hf C hr hnm I
  obtain ⟨ls, e1, hl⟩ := gentry m [va_rf a0, va_rf a1, .int a2, .int a3] 5 [(0, va_rf a0), (1, va_rf a1), (2, .int a2), (3, .int a3)] (by simp [lg_sl, grc, gcat_i, gcat_l]) (by simp [lv_args, grc, gcat_i, gcat_l])
  rw [e1]
  exact w_X4_findGap_0 C hr a0 a1 a2 a3 _ _ _ _ _ _ hf I hl
def f_X4_addPiece  (a0 : Option Nat) (a1 : Int32) : gM Int32 := gb (rI 3 2 a0) fun v1 => gb (rR 3 1 a0) fun v2 => gb (aL 1 v2) fun v3 => if v1 < v3 then (gb (rR 3 1 a0) fun v4 => gb (rI 3 2 a0) fun v5 => gb (sI 1 v4 v5 a1) fun _ => gb (rI 3 2 a0) fun v6 => gb (wI 3 2 a0 (v6 + 1)) fun _ => gz 1) else (gz 0)
section S_X4_addPiece
variable {G : gX} {p : Program} {l : Launch} {e : Env} {s : State} {m : MethodId} {args : Array Value} {below : List Frame} {meth : Method} {c : Code} {mc ms : Nat} {y : Int32 × gS}
set_option maxHeartbeats 4000000 in
set_option maxRecDepth 100000 in
theorem w_X4_addPiece_0 (C : gC G p s m args meth c cX4_addPiece 2 RX4) (hr : meth.sig.returnType = (some .boolean))  (a0 : Option Nat) (a1 : Int32) : gJ G p l e 0 0 mc ms s m args below meth c gri y 2 0 [(0, va_rf a0), (1, .int a1)] [] (f_X4_addPiece  a0 a1) := by
  have hx := C.1
  have hb := C.2.1
  intro σ H locs cells slots ls hf I hl
  unfold f_X4_addPiece at hf
  refine gw_aload_n hx hb dX4_addPiece_0 rfl (lv_at hl 0 rfl) ?_
  refine gw_geti (k := 2) C I gcls_3 (by decide) rfl kw_24 dX4_addPiece_1 hf (fun v1 hf => ?_)
  refine gw_aload_n hx hb dX4_addPiece_4 rfl (lv_at hl 0 rfl) ?_
  refine gw_getr (k := 1) C I gcls_3 (by decide) rfl kw_23 dX4_addPiece_5 hf (fun v2 hf => ?_)
  refine gw_aL (t := 1) C I rfl dX4_addPiece_8 hf (fun v3 hf => ?_)
  refine lv_icmp_lt (tgt := 14) hx hb dX4_addPiece_9 (by decide) (fun hq => ?_) (fun hq => ?_)
  · have hf := gift hq hf
    refine gw_aload_n hx hb dX4_addPiece_14 rfl (lv_at hl 0 rfl) ?_
    refine gw_getr (k := 1) C I gcls_3 (by decide) rfl kw_23 dX4_addPiece_15 hf (fun v4 hf => ?_)
    refine gw_aload_n hx hb dX4_addPiece_18 rfl (lv_at hl 0 rfl) ?_
    refine gw_geti (k := 2) C I gcls_3 (by decide) rfl kw_24 dX4_addPiece_19 hf (fun v5 hf => ?_)
    refine lv_iload_n hx hb dX4_addPiece_22 rfl (lv_at hl 1 rfl) ?_
    refine gw_iast C I dX4_addPiece_23 hf (fun σ H locs I hf => ?_)
    refine gw_aload_n hx hb dX4_addPiece_24 rfl (lv_at hl 0 rfl) ?_
    refine lv_dup hx hb dX4_addPiece_25 (grc _) ?_
    refine gw_geti (k := 2) C I gcls_3 (by decide) rfl kw_24 dX4_addPiece_26 hf (fun v6 hf => ?_)
    refine lv_iconst (v := 1) hx hb dX4_addPiece_29 kc_i_1 ?_
    refine lv_iadd hx hb dX4_addPiece_30 ?_
    refine gw_puti (k := 2) C I gcls_3 (by decide) rfl kw_24 (Or.inl rfl) (by decide +kernel) dX4_addPiece_31 hf (fun σ H locs I hf => ?_)
    refine lv_iconst (v := 1) hx hb dX4_addPiece_34 kc_i_1 ?_
    exact gw_zret C I hr dX4_addPiece_35 hf
  · have hf := giff hq hf
    refine lv_iconst (v := 0) hx hb dX4_addPiece_12 kc_i_0 ?_
    exact gw_zret C I hr dX4_addPiece_13 hf
end S_X4_addPiece
theorem m_X4_addPiece (G : gX) (l : Launch) (a0 : Option Nat) (a1 : Int32) : gMet G l yX4_addPiece cX4_addPiece 2 (some .boolean) 0 0 [va_rf a0, .int a1] gri (f_X4_addPiece a0 a1) := by
  refine gMet_of (by decide) ?_
  intro σ y p e s m below meth c mc ms hf C hr hnm I
  obtain ⟨ls, e1, hl⟩ := gentry m [va_rf a0, .int a1] 2 [(0, va_rf a0), (1, .int a1)] (by simp [lg_sl, grc, gcat_i, gcat_l]) (by simp [lv_args, grc, gcat_i, gcat_l])
  rw [e1]
  exact w_X4_addPiece_0 C hr a0 a1 _ _ _ _ _ _ hf I hl
def f_X4_readPoints_102 (rec12 : Option Nat → Option Nat → Int32 → Int32 → Int32 → Int32 → Int32 → gM Int32) (x0 : Option Nat) (x1 : Option Nat) (x3 : Int32) (x4 : Int32) (x5 : Int32) (x6 : Int32) (x7 : Int32) : gM Int32 := if 255 < x5 then (gz 0) else (if x6 ≤ 3 then (rec12 x0 x1 x3 x4 x5 x6 (x7 + 1)) else (gz 0))
def f_X4_readPoints_100 (rec12 : Option Nat → Option Nat → Int32 → Int32 → Int32 → Int32 → Int32 → gM Int32) (x0 : Option Nat) (x1 : Option Nat) (x3 : Int32) (x4 : Int32) (x6 : Int32) (x7 : Int32) (s0 : Int32) : gM Int32 := f_X4_readPoints_102 rec12 x0 x1 x3 x4 s0 x6 x7
def f_X4_readPoints_12 (rec12 : Option Nat → Option Nat → Int32 → Int32 → Int32 → Int32 → Int32 → gM Int32) (x0 : Option Nat) (x1 : Option Nat) (x3 : Int32) (x4 : Int32) (x5 : Int32) (x6 : Int32) (x7 : Int32) : gM Int32 := if x3 ≤ x7 then (if x5 = (-1) then (gz 0) else (if x6 = 3 then (gb (nn 3 x0) fun _ => gb (f_X4_addPiece x0 ((((x4 <<< (8 &&& 31)) ||| x5).toUInt32 >>> ((16 : Int32).toUInt32 &&& Int32.toUInt32 31)).toInt32)) fun v1 => if v1 = 0 then (gz 0) else (gb (nn 3 x0) fun _ => gb (f_X4_addPiece x0 (((x4 <<< (8 &&& 31)) ||| x5) &&& 65535)) fun v2 => if v2 = 0 then (gz 0) else (gz 1))) else (gz 0))) else (gb (nn 4 x1) fun _ => gb (f_X5_byteAt x1 x7) fun v3 => if v3 = 46 then (if x5 = (-1) then (gz 0) else (f_X4_readPoints_102 rec12 x0 x1 x3 ((x4 <<< (8 &&& 31)) ||| x5) (-1) (x6 + 1) x7)) else (gb (f_X1_isDigit v3) fun v4 => if v4 = 0 then (gz 0) else (if x5 = 0 then (gz 0) else (if x5 = (-1) then (f_X4_readPoints_100 rec12 x0 x1 x3 x4 x6 x7 (v3 - 48)) else (f_X4_readPoints_100 rec12 x0 x1 x3 x4 x6 x7 (((10 * x5) + v3) - 48))))))
def f_X4_readPoints_L12  : Nat → Option Nat → Option Nat → Int32 → Int32 → Int32 → Int32 → Int32 → gM Int32
  | 0, _, _, _, _, _, _, _ => gno
  | n + 1, x0, x1, x3, x4, x5, x6, x7 => f_X4_readPoints_12  (f_X4_readPoints_L12  n) x0 x1 x3 x4 x5 x6 x7
def f_X4_readPoints  (a0 : Option Nat) (a1 : Option Nat) (a2 : Int32) (a3 : Int32) : gM Int32 := f_X4_readPoints_L12  gF a0 a1 a3 0 (-1) 0 a2
section S_X4_readPoints
variable {G : gX} {p : Program} {l : Launch} {e : Env} {s : State} {m : MethodId} {args : Array Value} {below : List Frame} {meth : Method} {c : Code} {mc ms : Nat} {y : Int32 × gS}
set_option maxHeartbeats 4000000 in
set_option maxRecDepth 100000 in
theorem w_X4_readPoints_102 (C : gC G p s m args meth c cX4_readPoints 9 RX4) (hr : meth.sig.returnType = (some .boolean)) {rec12 : Option Nat → Option Nat → Int32 → Int32 → Int32 → Int32 → Int32 → gM Int32} (hrec12 : ∀ (x0 : Option Nat) (x1 : Option Nat) (x3 : Int32) (x4 : Int32) (x5 : Int32) (x6 : Int32) (x7 : Int32), gJ G p l e 1 21 mc ms s m args below meth c gri y 9 12 [(0, va_rf x0), (1, va_rf x1), (3, .int x3), (4, .int x4), (5, .int x5), (6, .int x6), (7, .int x7)] [] (rec12 x0 x1 x3 x4 x5 x6 x7)) (x0 : Option Nat) (x1 : Option Nat) (x3 : Int32) (x4 : Int32) (x5 : Int32) (x6 : Int32) (x7 : Int32) : gJ G p l e 1 21 mc ms s m args below meth c gri y 9 102 [(0, va_rf x0), (1, va_rf x1), (3, .int x3), (4, .int x4), (5, .int x5), (6, .int x6), (7, .int x7)] [] (f_X4_readPoints_102 rec12 x0 x1 x3 x4 x5 x6 x7) := by
  have hx := C.1
  have hb := C.2.1
  intro σ H locs cells slots ls hf I hl
  unfold f_X4_readPoints_102 at hf
  refine lv_iload hx hb dX4_readPoints_102 (lv_at hl 4 rfl) ?_
  refine lv_sipush (v := 255) hx hb dX4_readPoints_104 kc_s_255 ?_
  refine lv_icmp_gt (tgt := 116) hx hb dX4_readPoints_107 (by decide) (fun hq => ?_) (fun hq => ?_)
  · have hf := gift hq hf
    refine lv_iconst (v := 0) hx hb dX4_readPoints_116 kc_i_0 ?_
    exact gw_zret C I hr dX4_readPoints_117 hf
  · have hf := giff hq hf
    refine lv_iload hx hb dX4_readPoints_110 (lv_at hl 5 rfl) ?_
    refine lv_iconst (v := 3) hx hb dX4_readPoints_112 kc_i_3 ?_
    refine lv_icmp_le (tgt := 118) hx hb dX4_readPoints_113 (by decide) (fun hq => ?_) (fun hq => ?_)
    · have hf := gift hq hf
      refine lv_iinc (v := x7 + 1) (lv' := [(7, .int (x7 + 1)), (0, va_rf x0), (1, va_rf x1), (3, .int x3), (4, .int x4), (5, .int x5), (6, .int x6)]) hx hb dX4_readPoints_118 hl (k := 6) rfl rfl (by decide) rfl (fun ls hl => ?_)
      refine lv_goto (tgt := 12) hx hb dX4_readPoints_121 (by decide) ?_
      exact hrec12 x0 x1 x3 x4 x5 x6 (x7 + 1) _ _ _ _ _ _ hf I (lv_sub hl [1, 2, 3, 4, 5, 6, 0] rfl)
    · have hf := giff hq hf
      refine lv_iconst (v := 0) hx hb dX4_readPoints_116 kc_i_0 ?_
      exact gw_zret C I hr dX4_readPoints_117 hf
set_option maxHeartbeats 4000000 in
set_option maxRecDepth 100000 in
theorem w_X4_readPoints_100 (C : gC G p s m args meth c cX4_readPoints 9 RX4) (hr : meth.sig.returnType = (some .boolean)) {rec12 : Option Nat → Option Nat → Int32 → Int32 → Int32 → Int32 → Int32 → gM Int32} (hrec12 : ∀ (x0 : Option Nat) (x1 : Option Nat) (x3 : Int32) (x4 : Int32) (x5 : Int32) (x6 : Int32) (x7 : Int32), gJ G p l e 1 21 mc ms s m args below meth c gri y 9 12 [(0, va_rf x0), (1, va_rf x1), (3, .int x3), (4, .int x4), (5, .int x5), (6, .int x6), (7, .int x7)] [] (rec12 x0 x1 x3 x4 x5 x6 x7)) (x0 : Option Nat) (x1 : Option Nat) (x3 : Int32) (x4 : Int32) (x6 : Int32) (x7 : Int32) (s0 : Int32) : gJ G p l e 1 21 mc ms s m args below meth c gri y 9 100 [(0, va_rf x0), (1, va_rf x1), (3, .int x3), (4, .int x4), (6, .int x6), (7, .int x7)] [.int s0] (f_X4_readPoints_100 rec12 x0 x1 x3 x4 x6 x7 s0) := by
  have hx := C.1
  have hb := C.2.1
  intro σ H locs cells slots ls hf I hl
  unfold f_X4_readPoints_100 at hf
  refine lv_istore (lv' := [(5, .int s0), (0, va_rf x0), (1, va_rf x1), (3, .int x3), (4, .int x4), (6, .int x6), (7, .int x7)]) hx hb dX4_readPoints_100 hl (by decide) rfl (fun ls hl => ?_)
  exact w_X4_readPoints_102 C hr hrec12 x0 x1 x3 x4 s0 x6 x7 _ _ _ _ _ _ hf I (lv_sub hl [1, 2, 3, 4, 0, 5, 6] rfl)
set_option maxHeartbeats 4000000 in
set_option maxRecDepth 100000 in
theorem w_X4_readPoints_12 (C : gC G p s m args meth c cX4_readPoints 9 RX4) (hr : meth.sig.returnType = (some .boolean)) {rec12 : Option Nat → Option Nat → Int32 → Int32 → Int32 → Int32 → Int32 → gM Int32} (hrec12 : ∀ (x0 : Option Nat) (x1 : Option Nat) (x3 : Int32) (x4 : Int32) (x5 : Int32) (x6 : Int32) (x7 : Int32), gJ G p l e 1 21 mc ms s m args below meth c gri y 9 12 [(0, va_rf x0), (1, va_rf x1), (3, .int x3), (4, .int x4), (5, .int x5), (6, .int x6), (7, .int x7)] [] (rec12 x0 x1 x3 x4 x5 x6 x7)) (x0 : Option Nat) (x1 : Option Nat) (x3 : Int32) (x4 : Int32) (x5 : Int32) (x6 : Int32) (x7 : Int32) : gJ G p l e 1 21 mc ms s m args below meth c gri y 9 12 [(0, va_rf x0), (1, va_rf x1), (3, .int x3), (4, .int x4), (5, .int x5), (6, .int x6), (7, .int x7)] [] (f_X4_readPoints_12 rec12 x0 x1 x3 x4 x5 x6 x7) := by
  have hx := C.1
  have hb := C.2.1
  intro σ H locs cells slots ls hf I hl
  unfold f_X4_readPoints_12 at hf
  refine lv_iload hx hb dX4_readPoints_12 (lv_at hl 6 rfl) ?_
  refine lv_iload_n hx hb dX4_readPoints_14 rfl (lv_at hl 2 rfl) ?_
  refine lv_icmp_ge (tgt := 124) hx hb dX4_readPoints_15 (by decide) (fun hq => ?_) (fun hq => ?_)
  · have hf := gift hq hf
    refine lv_iload hx hb dX4_readPoints_124 (lv_at hl 4 rfl) ?_
    refine lv_iconst (v := (-1)) hx hb dX4_readPoints_126 kc_i_m1 ?_
    refine lv_icmp_eq (tgt := 136) hx hb dX4_readPoints_127 (by decide) (fun hq => ?_) (fun hq => ?_)
    · have hf := gift hq hf
      refine lv_iconst (v := 0) hx hb dX4_readPoints_136 kc_i_0 ?_
      exact gw_zret C I hr dX4_readPoints_137 hf
    · have hf := giff hq hf
      refine lv_iload hx hb dX4_readPoints_130 (lv_at hl 5 rfl) ?_
      refine lv_iconst (v := 3) hx hb dX4_readPoints_132 kc_i_3 ?_
      refine lv_icmp_eq (tgt := 138) hx hb dX4_readPoints_133 (by decide) (fun hq => ?_) (fun hq => ?_)
      · have hf := gift hq hf
        refine lv_iload hx hb dX4_readPoints_138 (lv_at hl 3 rfl) ?_
        refine lv_bipush (v := 8) hx hb dX4_readPoints_140 kc_b_8 ?_
        refine lv_ishl hx hb dX4_readPoints_142 ?_
        refine lv_iload hx hb dX4_readPoints_143 (lv_at hl 4 rfl) ?_
        refine lv_ior hx hb dX4_readPoints_145 ?_
        refine lv_istore (lv' := [(4, .int ((x4 <<< (8 &&& 31)) ||| x5)), (0, va_rf x0), (1, va_rf x1), (3, .int x3), (5, .int x5), (6, .int x6), (7, .int x7)]) hx hb dX4_readPoints_146 hl (by decide) rfl (fun ls hl => ?_)
        refine gw_aload_n hx hb dX4_readPoints_148 rfl (lv_at hl 1 rfl) ?_
        refine lv_iload hx hb dX4_readPoints_149 (lv_at hl 0 rfl) ?_
        refine lv_bipush (v := 16) hx hb dX4_readPoints_151 kc_b_16 ?_
        refine lv_iushr hx hb dX4_readPoints_153 rfl ?_
        refine gw_callV (rest := []) C I hl.1 gcls_3 (m_X4_addPiece G l x0 ((((x4 <<< (8 &&& 31)) ||| x5).toUInt32 >>> ((16 : Int32).toUInt32 &&& Int32.toUInt32 31)).toInt32)) gl_RX4_146 gn_X4_addPiece ⟨Nat.le_of_ble_eq_true rfl, Nat.le_of_ble_eq_true rfl⟩ rfl (gc4 (Nat.le_of_ble_eq_true rfl)) rfl dX4_readPoints_154 hf (fun v1 σ H locs cells slots I hf => ?_)
        refine W.eq (g2 := F0 m 157 ls [.int v1]) rfl ?_
        refine lv_if_eq (tgt := 176) hx hb dX4_readPoints_157 (by decide) (fun hq => ?_) (fun hq => ?_)
        · have hf := gift hq hf
          refine lv_iconst (v := 0) hx hb dX4_readPoints_176 kc_i_0 ?_
          exact gw_zret C I hr dX4_readPoints_177 hf
        · have hf := giff hq hf
          refine gw_aload_n hx hb dX4_readPoints_160 rfl (lv_at hl 1 rfl) ?_
          refine lv_iload hx hb dX4_readPoints_161 (lv_at hl 0 rfl) ?_
          refine gw_ldc C (v := 65535) kw_127 dX4_readPoints_163 ?_
          refine lv_iand hx hb dX4_readPoints_165 ?_
          refine gw_callV (rest := []) C I hl.1 gcls_3 (m_X4_addPiece G l x0 (((x4 <<< (8 &&& 31)) ||| x5) &&& 65535)) gl_RX4_146 gn_X4_addPiece ⟨Nat.le_of_ble_eq_true rfl, Nat.le_of_ble_eq_true rfl⟩ rfl (gc4 (Nat.le_of_ble_eq_true rfl)) rfl dX4_readPoints_166 hf (fun v2 σ H locs cells slots I hf => ?_)
          refine W.eq (g2 := F0 m 169 ls [.int v2]) rfl ?_
          refine lv_if_eq (tgt := 176) hx hb dX4_readPoints_169 (by decide) (fun hq => ?_) (fun hq => ?_)
          · have hf := gift hq hf
            refine lv_iconst (v := 0) hx hb dX4_readPoints_176 kc_i_0 ?_
            exact gw_zret C I hr dX4_readPoints_177 hf
          · have hf := giff hq hf
            refine lv_iconst (v := 1) hx hb dX4_readPoints_172 kc_i_1 ?_
            refine lv_goto (tgt := 177) hx hb dX4_readPoints_173 (by decide) ?_
            exact gw_zret C I hr dX4_readPoints_177 hf
      · have hf := giff hq hf
        refine lv_iconst (v := 0) hx hb dX4_readPoints_136 kc_i_0 ?_
        exact gw_zret C I hr dX4_readPoints_137 hf
  · have hf := giff hq hf
    refine gw_aload_n hx hb dX4_readPoints_18 rfl (lv_at hl 1 rfl) ?_
    refine lv_iload hx hb dX4_readPoints_19 (lv_at hl 6 rfl) ?_
    refine gw_callV (rest := []) C I hl.1 gcls_4 (m_X5_byteAt G l x1 x7) gl_RX4_26 gn_X5_byteAt ⟨Nat.le_of_ble_eq_true rfl, Nat.le_of_ble_eq_true rfl⟩ rfl (gc4 (Nat.le_of_ble_eq_true rfl)) rfl dX4_readPoints_21 hf (fun v3 σ H locs cells slots I hf => ?_)
    refine W.eq (g2 := F0 m 24 ls [.int v3]) rfl ?_
    refine lv_istore (lv' := [(8, .int v3), (0, va_rf x0), (1, va_rf x1), (3, .int x3), (4, .int x4), (5, .int x5), (6, .int x6), (7, .int x7)]) hx hb dX4_readPoints_24 hl (by decide) rfl (fun ls hl => ?_)
    refine lv_iload hx hb dX4_readPoints_26 (lv_at hl 0 rfl) ?_
    refine lv_bipush (v := 46) hx hb dX4_readPoints_28 kc_b_46 ?_
    refine lv_icmp_ne (tgt := 60) hx hb dX4_readPoints_30 (by decide) (fun hq => ?_) (fun hq => ?_)
    · have hf := giff hq hf
      refine lv_iload hx hb dX4_readPoints_60 (lv_at hl 0 rfl) ?_
      refine gw_callS (rest := []) C I hl.1 (m_X1_isDigit G l v3) gl_RX4_93 kw_102 ⟨Nat.le_of_ble_eq_true rfl, Nat.le_of_ble_eq_true rfl⟩ rfl (gc4 (Nat.le_of_ble_eq_true rfl)) rfl dX4_readPoints_62 hf (fun v4 σ H locs cells slots I hf => ?_)
      refine W.eq (g2 := F0 m 65 ls [.int v4]) rfl ?_
      refine lv_if_eq (tgt := 73) hx hb dX4_readPoints_65 (by decide) (fun hq => ?_) (fun hq => ?_)
      · have hf := gift hq hf
        refine lv_iconst (v := 0) hx hb dX4_readPoints_73 kc_i_0 ?_
        exact gw_zret C I hr dX4_readPoints_74 hf
      · have hf := giff hq hf
        refine lv_iload hx hb dX4_readPoints_68 (lv_at hl 5 rfl) ?_
        refine lv_if_ne (tgt := 75) hx hb dX4_readPoints_70 (by decide) (fun hq => ?_) (fun hq => ?_)
        · have hf := giff hq hf
          refine lv_iload hx hb dX4_readPoints_75 (lv_at hl 5 rfl) ?_
          refine lv_iconst (v := (-1)) hx hb dX4_readPoints_77 kc_i_m1 ?_
          refine lv_icmp_ne (tgt := 89) hx hb dX4_readPoints_78 (by decide) (fun hq => ?_) (fun hq => ?_)
          · have hf := giff hq hf
            refine lv_bipush (v := 10) hx hb dX4_readPoints_89 kc_b_10 ?_
            refine lv_iload hx hb dX4_readPoints_91 (lv_at hl 5 rfl) ?_
            refine lv_imul hx hb dX4_readPoints_93 ?_
            refine lv_iload hx hb dX4_readPoints_94 (lv_at hl 0 rfl) ?_
            refine lv_iadd hx hb dX4_readPoints_96 ?_
            refine lv_bipush (v := 48) hx hb dX4_readPoints_97 kc_b_48 ?_
            refine lv_isub hx hb dX4_readPoints_99 ?_
            exact w_X4_readPoints_100 C hr hrec12 x0 x1 x3 x4 x6 x7 (((10 * x5) + v3) - 48) _ _ _ _ _ _ hf I (lv_sub hl [1, 2, 3, 4, 6, 7] rfl)
          · have hf := gift hq hf
            refine lv_iload hx hb dX4_readPoints_81 (lv_at hl 0 rfl) ?_
            refine lv_bipush (v := 48) hx hb dX4_readPoints_83 kc_b_48 ?_
            refine lv_isub hx hb dX4_readPoints_85 ?_
            refine lv_goto (tgt := 100) hx hb dX4_readPoints_86 (by decide) ?_
            exact w_X4_readPoints_100 C hr hrec12 x0 x1 x3 x4 x6 x7 (v3 - 48) _ _ _ _ _ _ hf I (lv_sub hl [1, 2, 3, 4, 6, 7] rfl)
        · have hf := gift hq hf
          refine lv_iconst (v := 0) hx hb dX4_readPoints_73 kc_i_0 ?_
          exact gw_zret C I hr dX4_readPoints_74 hf
    · have hf := gift hq hf
      refine lv_iload hx hb dX4_readPoints_33 (lv_at hl 5 rfl) ?_
      refine lv_iconst (v := (-1)) hx hb dX4_readPoints_35 kc_i_m1 ?_
      refine lv_icmp_ne (tgt := 41) hx hb dX4_readPoints_36 (by decide) (fun hq => ?_) (fun hq => ?_)
      · have hf := giff hq hf
        refine lv_iload hx hb dX4_readPoints_41 (lv_at hl 4 rfl) ?_
        refine lv_bipush (v := 8) hx hb dX4_readPoints_43 kc_b_8 ?_
        refine lv_ishl hx hb dX4_readPoints_45 ?_
        refine lv_iload hx hb dX4_readPoints_46 (lv_at hl 5 rfl) ?_
        refine lv_ior hx hb dX4_readPoints_48 ?_
        refine lv_istore (lv' := [(4, .int ((x4 <<< (8 &&& 31)) ||| x5)), (8, .int v3), (0, va_rf x0), (1, va_rf x1), (3, .int x3), (5, .int x5), (6, .int x6), (7, .int x7)]) hx hb dX4_readPoints_49 hl (by decide) rfl (fun ls hl => ?_)
        refine lv_iconst (v := (-1)) hx hb dX4_readPoints_51 kc_i_m1 ?_
        refine lv_istore (lv' := [(5, .int (-1)), (4, .int ((x4 <<< (8 &&& 31)) ||| x5)), (8, .int v3), (0, va_rf x0), (1, va_rf x1), (3, .int x3), (6, .int x6), (7, .int x7)]) hx hb dX4_readPoints_52 hl (by decide) rfl (fun ls hl => ?_)
        refine lv_iinc (v := x6 + 1) (lv' := [(6, .int (x6 + 1)), (5, .int (-1)), (4, .int ((x4 <<< (8 &&& 31)) ||| x5)), (8, .int v3), (0, va_rf x0), (1, va_rf x1), (3, .int x3), (7, .int x7)]) hx hb dX4_readPoints_54 hl (k := 6) rfl rfl (by decide) rfl (fun ls hl => ?_)
        refine lv_goto (tgt := 102) hx hb dX4_readPoints_57 (by decide) ?_
        exact w_X4_readPoints_102 C hr hrec12 x0 x1 x3 ((x4 <<< (8 &&& 31)) ||| x5) (-1) (x6 + 1) x7 _ _ _ _ _ _ hf I (lv_sub hl [4, 5, 6, 2, 1, 0, 7] rfl)
      · have hf := gift hq hf
        refine lv_iconst (v := 0) hx hb dX4_readPoints_39 kc_i_0 ?_
        exact gw_zret C I hr dX4_readPoints_40 hf
theorem w_X4_readPoints_L12 (C : gC G p s m args meth c cX4_readPoints 9 RX4) (hr : meth.sig.returnType = (some .boolean))  : ∀ (n : Nat) (x0 : Option Nat) (x1 : Option Nat) (x3 : Int32) (x4 : Int32) (x5 : Int32) (x6 : Int32) (x7 : Int32), gJ G p l e 1 21 mc ms s m args below meth c gri y 9 12 [(0, va_rf x0), (1, va_rf x1), (3, .int x3), (4, .int x4), (5, .int x5), (6, .int x6), (7, .int x7)] [] (f_X4_readPoints_L12  n x0 x1 x3 x4 x5 x6 x7) := by
  intro n
  induction n with
  | zero => intro x0 x1 x3 x4 x5 x6 x7 σ H locs cells slots ls hf; exact (gno_some hf).elim
  | succ n ih => intro x0 x1 x3 x4 x5 x6 x7; exact w_X4_readPoints_12 C hr  ih x0 x1 x3 x4 x5 x6 x7
set_option maxHeartbeats 4000000 in
set_option maxRecDepth 100000 in
theorem w_X4_readPoints_0 (C : gC G p s m args meth c cX4_readPoints 9 RX4) (hr : meth.sig.returnType = (some .boolean))  (a0 : Option Nat) (a1 : Option Nat) (a2 : Int32) (a3 : Int32) : gJ G p l e 1 21 mc ms s m args below meth c gri y 9 0 [(0, va_rf a0), (1, va_rf a1), (2, .int a2), (3, .int a3)] [] (f_X4_readPoints  a0 a1 a2 a3) := by
  have hx := C.1
  have hb := C.2.1
  intro σ H locs cells slots ls hf I hl
  unfold f_X4_readPoints at hf
  refine lv_iconst (v := 0) hx hb dX4_readPoints_0 kc_i_0 ?_
  refine lv_istore (lv' := [(4, .int 0), (0, va_rf a0), (1, va_rf a1), (2, .int a2), (3, .int a3)]) hx hb dX4_readPoints_1 hl (by decide) rfl (fun ls hl => ?_)
  refine lv_iconst (v := (-1)) hx hb dX4_readPoints_3 kc_i_m1 ?_
  refine lv_istore (lv' := [(5, .int (-1)), (4, .int 0), (0, va_rf a0), (1, va_rf a1), (2, .int a2), (3, .int a3)]) hx hb dX4_readPoints_4 hl (by decide) rfl (fun ls hl => ?_)
  refine lv_iconst (v := 0) hx hb dX4_readPoints_6 kc_i_0 ?_
  refine lv_istore (lv' := [(6, .int 0), (5, .int (-1)), (4, .int 0), (0, va_rf a0), (1, va_rf a1), (2, .int a2), (3, .int a3)]) hx hb dX4_readPoints_7 hl (by decide) rfl (fun ls hl => ?_)
  refine lv_iload_n hx hb dX4_readPoints_9 rfl (lv_at hl 5 rfl) ?_
  refine lv_istore (lv' := [(7, .int a2), (6, .int 0), (5, .int (-1)), (4, .int 0), (0, va_rf a0), (1, va_rf a1), (2, .int a2), (3, .int a3)]) hx hb dX4_readPoints_10 hl (by decide) rfl (fun ls hl => ?_)
  exact w_X4_readPoints_L12 C hr  _ a0 a1 a3 0 (-1) 0 a2 _ _ _ _ _ _ hf I (lv_sub hl [4, 5, 7, 3, 2, 1, 0] rfl)
end S_X4_readPoints
theorem m_X4_readPoints (G : gX) (l : Launch) (a0 : Option Nat) (a1 : Option Nat) (a2 : Int32) (a3 : Int32) : gMet G l yX4_readPoints cX4_readPoints 9 (some .boolean) 1 21 [va_rf a0, va_rf a1, .int a2, .int a3] gri (f_X4_readPoints a0 a1 a2 a3) := by
  refine gMet_of (by decide) ?_
  intro σ y p e s m below meth c mc ms hf C hr hnm I
  obtain ⟨ls, e1, hl⟩ := gentry m [va_rf a0, va_rf a1, .int a2, .int a3] 9 [(0, va_rf a0), (1, va_rf a1), (2, .int a2), (3, .int a3)] (by simp [lg_sl, grc, gcat_i, gcat_l]) (by simp [lv_args, grc, gcat_i, gcat_l])
  rw [e1]
  exact w_X4_readPoints_0 C hr a0 a1 a2 a3 _ _ _ _ _ _ hf I hl
